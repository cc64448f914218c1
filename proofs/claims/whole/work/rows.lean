section
-- ===== PART A: goes FIRST, ahead of the names: the tables' words, and 'selects' of the private methods out of them =====
/-- a private method of a class that the tables say can be made, by its rows of tables_1 -/
def lw_okq (q : MethodName × Nat) : Prop := (q.1.cls ≠ "java/lang/invoke/MethodHandle" ∧ q.1.cls ≠ "java/lang/invoke/VarHandle") ∧ Cond.instantiable q.1.cls q.2 ∈ tables_1 ∧ Cond.privateMethod q.1 ∈ tables_1 ∧ Cond.instanceMethod q.1 ∈ tables_1
theorem lw_p0 : lw_okq (⟨"RoundDance$Market", "open", "(I)V"⟩, 11) := ⟨⟨by decide +kernel, by decide +kernel⟩, List.mem_of_getElem? (i := 39) (by decide +kernel), List.mem_of_getElem? (i := 66) (by decide +kernel), List.mem_of_getElem? (i := 67) (by decide +kernel)⟩
theorem lw_p1 : lw_okq (⟨"RoundDance$Pad", "write", "(I)V"⟩, 2) := ⟨⟨by decide +kernel, by decide +kernel⟩, List.mem_of_getElem? (i := 24) (by decide +kernel), List.mem_of_getElem? (i := 334) (by decide +kernel), List.mem_of_getElem? (i := 335) (by decide +kernel)⟩
theorem lw_p2 : lw_okq (⟨"RoundDance$Pad", "clear", "()V"⟩, 2) := ⟨⟨by decide +kernel, by decide +kernel⟩, List.mem_of_getElem? (i := 24) (by decide +kernel), List.mem_of_getElem? (i := 345) (by decide +kernel), List.mem_of_getElem? (i := 346) (by decide +kernel)⟩
theorem lw_p3 : lw_okq (⟨"RoundDance", "figureFault", "()I"⟩, 10) := ⟨⟨by decide +kernel, by decide +kernel⟩, List.mem_of_getElem? (i := 16) (by decide +kernel), List.mem_of_getElem? (i := 353) (by decide +kernel), List.mem_of_getElem? (i := 354) (by decide +kernel)⟩
theorem lw_p4 : lw_okq (⟨"RoundDance$Pad", "faultEachOnce", "(II)I"⟩, 2) := ⟨⟨by decide +kernel, by decide +kernel⟩, List.mem_of_getElem? (i := 24) (by decide +kernel), List.mem_of_getElem? (i := 357) (by decide +kernel), List.mem_of_getElem? (i := 358) (by decide +kernel)⟩
theorem lw_p5 : lw_okq (⟨"RoundDance$Pad", "signAt", "(I)I"⟩, 2) := ⟨⟨by decide +kernel, by decide +kernel⟩, List.mem_of_getElem? (i := 24) (by decide +kernel), List.mem_of_getElem? (i := 361) (by decide +kernel), List.mem_of_getElem? (i := 362) (by decide +kernel)⟩
theorem lw_p6 : lw_okq (⟨"RoundDance", "rowFault", "()I"⟩, 10) := ⟨⟨by decide +kernel, by decide +kernel⟩, List.mem_of_getElem? (i := 16) (by decide +kernel), List.mem_of_getElem? (i := 371) (by decide +kernel), List.mem_of_getElem? (i := 372) (by decide +kernel)⟩
theorem lw_p7 : lw_okq (⟨"RoundDance$Pad", "faultRow", "(II)I"⟩, 2) := ⟨⟨by decide +kernel, by decide +kernel⟩, List.mem_of_getElem? (i := 24) (by decide +kernel), List.mem_of_getElem? (i := 375) (by decide +kernel), List.mem_of_getElem? (i := 376) (by decide +kernel)⟩
theorem lw_p8 : lw_okq (⟨"RoundDance", "standingFault", "()I"⟩, 10) := ⟨⟨by decide +kernel, by decide +kernel⟩, List.mem_of_getElem? (i := 16) (by decide +kernel), List.mem_of_getElem? (i := 379) (by decide +kernel), List.mem_of_getElem? (i := 380) (by decide +kernel)⟩
theorem lw_p9 : lw_okq (⟨"RoundDance$Market", "has", "(I)Z"⟩, 11) := ⟨⟨by decide +kernel, by decide +kernel⟩, List.mem_of_getElem? (i := 39) (by decide +kernel), List.mem_of_getElem? (i := 400) (by decide +kernel), List.mem_of_getElem? (i := 401) (by decide +kernel)⟩
theorem lw_p10 : lw_okq (⟨"RoundDance$Market", "danced", "(I)I"⟩, 11) := ⟨⟨by decide +kernel, by decide +kernel⟩, List.mem_of_getElem? (i := 39) (by decide +kernel), List.mem_of_getElem? (i := 407) (by decide +kernel), List.mem_of_getElem? (i := 408) (by decide +kernel)⟩
theorem lw_p11 : lw_okq (⟨"RoundDance", "setLame", "(I)I"⟩, 10) := ⟨⟨by decide +kernel, by decide +kernel⟩, List.mem_of_getElem? (i := 16) (by decide +kernel), List.mem_of_getElem? (i := 430) (by decide +kernel), List.mem_of_getElem? (i := 431) (by decide +kernel)⟩
theorem lw_p12 : lw_okq (⟨"RoundDance", "setPlayed", "(I)I"⟩, 10) := ⟨⟨by decide +kernel, by decide +kernel⟩, List.mem_of_getElem? (i := 16) (by decide +kernel), List.mem_of_getElem? (i := 434) (by decide +kernel), List.mem_of_getElem? (i := 435) (by decide +kernel)⟩
theorem lw_p13 : lw_okq (⟨"RoundDance", "setLent", "(I)I"⟩, 10) := ⟨⟨by decide +kernel, by decide +kernel⟩, List.mem_of_getElem? (i := 16) (by decide +kernel), List.mem_of_getElem? (i := 438) (by decide +kernel), List.mem_of_getElem? (i := 439) (by decide +kernel)⟩
theorem lw_p14 : lw_okq (⟨"RoundDance", "firstForbidden", "()I"⟩, 10) := ⟨⟨by decide +kernel, by decide +kernel⟩, List.mem_of_getElem? (i := 16) (by decide +kernel), List.mem_of_getElem? (i := 450) (by decide +kernel), List.mem_of_getElem? (i := 451) (by decide +kernel)⟩
theorem lw_p15 : lw_okq (⟨"RoundDance$Market", "may", "(I)Z"⟩, 11) := ⟨⟨by decide +kernel, by decide +kernel⟩, List.mem_of_getElem? (i := 39) (by decide +kernel), List.mem_of_getElem? (i := 454) (by decide +kernel), List.mem_of_getElem? (i := 455) (by decide +kernel)⟩
def lw_privs_1 : List (MethodName × Nat) := [(⟨"RoundDance$Market", "open", "(I)V"⟩, 11), (⟨"RoundDance$Pad", "write", "(I)V"⟩, 2), (⟨"RoundDance$Pad", "clear", "()V"⟩, 2), (⟨"RoundDance", "figureFault", "()I"⟩, 10), (⟨"RoundDance$Pad", "faultEachOnce", "(II)I"⟩, 2), (⟨"RoundDance$Pad", "signAt", "(I)I"⟩, 2), (⟨"RoundDance", "rowFault", "()I"⟩, 10), (⟨"RoundDance$Pad", "faultRow", "(II)I"⟩, 2), (⟨"RoundDance", "standingFault", "()I"⟩, 10), (⟨"RoundDance$Market", "has", "(I)Z"⟩, 11), (⟨"RoundDance$Market", "danced", "(I)I"⟩, 11), (⟨"RoundDance", "setLame", "(I)I"⟩, 10), (⟨"RoundDance", "setPlayed", "(I)I"⟩, 10), (⟨"RoundDance", "setLent", "(I)I"⟩, 10), (⟨"RoundDance", "firstForbidden", "()I"⟩, 10), (⟨"RoundDance$Market", "may", "(I)Z"⟩, 11)]
theorem lw_r1 : ∀ q ∈ lw_privs_1, lw_okq q := List.forall_mem_cons.mpr ⟨lw_p0, List.forall_mem_cons.mpr ⟨lw_p1, List.forall_mem_cons.mpr ⟨lw_p2, List.forall_mem_cons.mpr ⟨lw_p3, List.forall_mem_cons.mpr ⟨lw_p4, List.forall_mem_cons.mpr ⟨lw_p5, List.forall_mem_cons.mpr ⟨lw_p6, List.forall_mem_cons.mpr ⟨lw_p7, List.forall_mem_cons.mpr ⟨lw_p8, List.forall_mem_cons.mpr ⟨lw_p9, List.forall_mem_cons.mpr ⟨lw_p10, List.forall_mem_cons.mpr ⟨lw_p11, List.forall_mem_cons.mpr ⟨lw_p12, List.forall_mem_cons.mpr ⟨lw_p13, List.forall_mem_cons.mpr ⟨lw_p14, List.forall_mem_cons.mpr ⟨lw_p15, fun _ h => absurd h List.not_mem_nil⟩⟩⟩⟩⟩⟩⟩⟩⟩⟩⟩⟩⟩⟩⟩⟩
theorem lw_p16 : lw_okq (⟨"RoundDance", "rowMap", "()I"⟩, 10) := ⟨⟨by decide +kernel, by decide +kernel⟩, List.mem_of_getElem? (i := 16) (by decide +kernel), List.mem_of_getElem? (i := 463) (by decide +kernel), List.mem_of_getElem? (i := 464) (by decide +kernel)⟩
theorem lw_p17 : lw_okq (⟨"RoundDance$Market", "placeOf", "(I)I"⟩, 11) := ⟨⟨by decide +kernel, by decide +kernel⟩, List.mem_of_getElem? (i := 39) (by decide +kernel), List.mem_of_getElem? (i := 477) (by decide +kernel), List.mem_of_getElem? (i := 478) (by decide +kernel)⟩
theorem lw_p18 : lw_okq (⟨"RoundDance$Market", "isWantedByOther", "(II)Z"⟩, 11) := ⟨⟨by decide +kernel, by decide +kernel⟩, List.mem_of_getElem? (i := 39) (by decide +kernel), List.mem_of_getElem? (i := 509) (by decide +kernel), List.mem_of_getElem? (i := 510) (by decide +kernel)⟩
theorem lw_p19 : lw_okq (⟨"RoundDance$Market", "fillMoves", "([I)V"⟩, 11) := ⟨⟨by decide +kernel, by decide +kernel⟩, List.mem_of_getElem? (i := 39) (by decide +kernel), List.mem_of_getElem? (i := 517) (by decide +kernel), List.mem_of_getElem? (i := 518) (by decide +kernel)⟩
theorem lw_p20 : lw_okq (⟨"RoundDance$Shortest", "find", "(LRoundDance$Market;[I)V"⟩, 4) := ⟨⟨by decide +kernel, by decide +kernel⟩, List.mem_of_getElem? (i := 138) (by decide +kernel), List.mem_of_getElem? (i := 524) (by decide +kernel), List.mem_of_getElem? (i := 525) (by decide +kernel)⟩
theorem lw_p21 : lw_okq (⟨"RoundDance$Memo", "begin", "()V"⟩, 3) := ⟨⟨by decide +kernel, by decide +kernel⟩, List.mem_of_getElem? (i := 177) (by decide +kernel), List.mem_of_getElem? (i := 531) (by decide +kernel), List.mem_of_getElem? (i := 532) (by decide +kernel)⟩
theorem lw_p22 : lw_okq (⟨"RoundDance$Memo", "partsOfRow", "([I)V"⟩, 3) := ⟨⟨by decide +kernel, by decide +kernel⟩, List.mem_of_getElem? (i := 177) (by decide +kernel), List.mem_of_getElem? (i := 535) (by decide +kernel), List.mem_of_getElem? (i := 536) (by decide +kernel)⟩
theorem lw_p23 : lw_okq (⟨"RoundDance$Memo", "part", "(I)V"⟩, 3) := ⟨⟨by decide +kernel, by decide +kernel⟩, List.mem_of_getElem? (i := 177) (by decide +kernel), List.mem_of_getElem? (i := 539) (by decide +kernel), List.mem_of_getElem? (i := 540) (by decide +kernel)⟩
theorem lw_p24 : lw_okq (⟨"RoundDance$Memo", "endsStale", "()Z"⟩, 3) := ⟨⟨by decide +kernel, by decide +kernel⟩, List.mem_of_getElem? (i := 177) (by decide +kernel), List.mem_of_getElem? (i := 546) (by decide +kernel), List.mem_of_getElem? (i := 547) (by decide +kernel)⟩
theorem lw_p25 : lw_okq (⟨"RoundDance$Orbit", "explore", "(IIII[I)I"⟩, 8) := ⟨⟨by decide +kernel, by decide +kernel⟩, List.mem_of_getElem? (i := 144) (by decide +kernel), List.mem_of_getElem? (i := 550) (by decide +kernel), List.mem_of_getElem? (i := 551) (by decide +kernel)⟩
theorem lw_p26 : lw_okq (⟨"RoundDance$Orbit", "clear", "(II)V"⟩, 8) := ⟨⟨by decide +kernel, by decide +kernel⟩, List.mem_of_getElem? (i := 144) (by decide +kernel), List.mem_of_getElem? (i := 554) (by decide +kernel), List.mem_of_getElem? (i := 555) (by decide +kernel)⟩
theorem lw_p27 : lw_okq (⟨"RoundDance$Orbit", "meet", "(II)I"⟩, 8) := ⟨⟨by decide +kernel, by decide +kernel⟩, List.mem_of_getElem? (i := 144) (by decide +kernel), List.mem_of_getElem? (i := 562) (by decide +kernel), List.mem_of_getElem? (i := 563) (by decide +kernel)⟩
theorem lw_p28 : lw_okq (⟨"RoundDance$Orbit", "rank", "(I)I"⟩, 8) := ⟨⟨by decide +kernel, by decide +kernel⟩, List.mem_of_getElem? (i := 144) (by decide +kernel), List.mem_of_getElem? (i := 566) (by decide +kernel), List.mem_of_getElem? (i := 567) (by decide +kernel)⟩
theorem lw_p29 : lw_okq (⟨"RoundDance$Orbit", "numberOf", "(I)I"⟩, 8) := ⟨⟨by decide +kernel, by decide +kernel⟩, List.mem_of_getElem? (i := 144) (by decide +kernel), List.mem_of_getElem? (i := 579) (by decide +kernel), List.mem_of_getElem? (i := 580) (by decide +kernel)⟩
theorem lw_p30 : lw_okq (⟨"RoundDance$Orbit", "stepBy", "(III)I"⟩, 8) := ⟨⟨by decide +kernel, by decide +kernel⟩, List.mem_of_getElem? (i := 144) (by decide +kernel), List.mem_of_getElem? (i := 583) (by decide +kernel), List.mem_of_getElem? (i := 584) (by decide +kernel)⟩
theorem lw_p31 : lw_okq (⟨"RoundDance$Orbit", "lying", "(I)I"⟩, 8) := ⟨⟨by decide +kernel, by decide +kernel⟩, List.mem_of_getElem? (i := 144) (by decide +kernel), List.mem_of_getElem? (i := 587) (by decide +kernel), List.mem_of_getElem? (i := 588) (by decide +kernel)⟩
def lw_privs_2 : List (MethodName × Nat) := [(⟨"RoundDance", "rowMap", "()I"⟩, 10), (⟨"RoundDance$Market", "placeOf", "(I)I"⟩, 11), (⟨"RoundDance$Market", "isWantedByOther", "(II)Z"⟩, 11), (⟨"RoundDance$Market", "fillMoves", "([I)V"⟩, 11), (⟨"RoundDance$Shortest", "find", "(LRoundDance$Market;[I)V"⟩, 4), (⟨"RoundDance$Memo", "begin", "()V"⟩, 3), (⟨"RoundDance$Memo", "partsOfRow", "([I)V"⟩, 3), (⟨"RoundDance$Memo", "part", "(I)V"⟩, 3), (⟨"RoundDance$Memo", "endsStale", "()Z"⟩, 3), (⟨"RoundDance$Orbit", "explore", "(IIII[I)I"⟩, 8), (⟨"RoundDance$Orbit", "clear", "(II)V"⟩, 8), (⟨"RoundDance$Orbit", "meet", "(II)I"⟩, 8), (⟨"RoundDance$Orbit", "rank", "(I)I"⟩, 8), (⟨"RoundDance$Orbit", "numberOf", "(I)I"⟩, 8), (⟨"RoundDance$Orbit", "stepBy", "(III)I"⟩, 8), (⟨"RoundDance$Orbit", "lying", "(I)I"⟩, 8)]
theorem lw_r2 : ∀ q ∈ lw_privs_2, lw_okq q := List.forall_mem_cons.mpr ⟨lw_p16, List.forall_mem_cons.mpr ⟨lw_p17, List.forall_mem_cons.mpr ⟨lw_p18, List.forall_mem_cons.mpr ⟨lw_p19, List.forall_mem_cons.mpr ⟨lw_p20, List.forall_mem_cons.mpr ⟨lw_p21, List.forall_mem_cons.mpr ⟨lw_p22, List.forall_mem_cons.mpr ⟨lw_p23, List.forall_mem_cons.mpr ⟨lw_p24, List.forall_mem_cons.mpr ⟨lw_p25, List.forall_mem_cons.mpr ⟨lw_p26, List.forall_mem_cons.mpr ⟨lw_p27, List.forall_mem_cons.mpr ⟨lw_p28, List.forall_mem_cons.mpr ⟨lw_p29, List.forall_mem_cons.mpr ⟨lw_p30, List.forall_mem_cons.mpr ⟨lw_p31, fun _ h => absurd h List.not_mem_nil⟩⟩⟩⟩⟩⟩⟩⟩⟩⟩⟩⟩⟩⟩⟩⟩
theorem lw_p32 : lw_okq (⟨"RoundDance$Shortest", "figuresTo", "(I)I"⟩, 4) := ⟨⟨by decide +kernel, by decide +kernel⟩, List.mem_of_getElem? (i := 138) (by decide +kernel), List.mem_of_getElem? (i := 592) (by decide +kernel), List.mem_of_getElem? (i := 593) (by decide +kernel)⟩
theorem lw_p33 : lw_okq (⟨"RoundDance$Orbit", "previous", "(I)I"⟩, 8) := ⟨⟨by decide +kernel, by decide +kernel⟩, List.mem_of_getElem? (i := 144) (by decide +kernel), List.mem_of_getElem? (i := 596) (by decide +kernel), List.mem_of_getElem? (i := 597) (by decide +kernel)⟩
theorem lw_p34 : lw_okq (⟨"RoundDance$Shortest", "figureAt", "(I)I"⟩, 4) := ⟨⟨by decide +kernel, by decide +kernel⟩, List.mem_of_getElem? (i := 138) (by decide +kernel), List.mem_of_getElem? (i := 600) (by decide +kernel), List.mem_of_getElem? (i := 601) (by decide +kernel)⟩
theorem lw_p35 : lw_okq (⟨"RoundDance$Orbit", "figureTo", "(I)I"⟩, 8) := ⟨⟨by decide +kernel, by decide +kernel⟩, List.mem_of_getElem? (i := 144) (by decide +kernel), List.mem_of_getElem? (i := 604) (by decide +kernel), List.mem_of_getElem? (i := 605) (by decide +kernel)⟩
theorem lw_p36 : lw_okq (⟨"RoundDance$Group", "gather", "([I)V"⟩, 3) := ⟨⟨by decide +kernel, by decide +kernel⟩, List.mem_of_getElem? (i := 122) (by decide +kernel), List.mem_of_getElem? (i := 612) (by decide +kernel), List.mem_of_getElem? (i := 613) (by decide +kernel)⟩
theorem lw_p37 : lw_okq (⟨"RoundDance$Group", "add", "(I)V"⟩, 3) := ⟨⟨by decide +kernel, by decide +kernel⟩, List.mem_of_getElem? (i := 122) (by decide +kernel), List.mem_of_getElem? (i := 617) (by decide +kernel), List.mem_of_getElem? (i := 618) (by decide +kernel)⟩
theorem lw_p38 : lw_okq (⟨"RoundDance$Group", "sift", "(I)I"⟩, 3) := ⟨⟨by decide +kernel, by decide +kernel⟩, List.mem_of_getElem? (i := 122) (by decide +kernel), List.mem_of_getElem? (i := 621) (by decide +kernel), List.mem_of_getElem? (i := 622) (by decide +kernel)⟩
theorem lw_p39 : lw_okq (⟨"RoundDance$Group", "members", "()I"⟩, 3) := ⟨⟨by decide +kernel, by decide +kernel⟩, List.mem_of_getElem? (i := 122) (by decide +kernel), List.mem_of_getElem? (i := 630) (by decide +kernel), List.mem_of_getElem? (i := 631) (by decide +kernel)⟩
theorem lw_p40 : lw_okq (⟨"RoundDance$Group", "has", "(I)Z"⟩, 3) := ⟨⟨by decide +kernel, by decide +kernel⟩, List.mem_of_getElem? (i := 122) (by decide +kernel), List.mem_of_getElem? (i := 638) (by decide +kernel), List.mem_of_getElem? (i := 639) (by decide +kernel)⟩
theorem lw_p41 : lw_okq (⟨"RoundDance", "nextPlaces", "(II)I"⟩, 10) := ⟨⟨by decide +kernel, by decide +kernel⟩, List.mem_of_getElem? (i := 16) (by decide +kernel), List.mem_of_getElem? (i := 648) (by decide +kernel), List.mem_of_getElem? (i := 649) (by decide +kernel)⟩
theorem lw_p42 : lw_okq (⟨"RoundDance", "placesWithSome", "(II)I"⟩, 10) := ⟨⟨by decide +kernel, by decide +kernel⟩, List.mem_of_getElem? (i := 16) (by decide +kernel), List.mem_of_getElem? (i := 660) (by decide +kernel), List.mem_of_getElem? (i := 661) (by decide +kernel)⟩
theorem lw_p43 : lw_okq (⟨"RoundDance", "placesWithAll", "(II)I"⟩, 10) := ⟨⟨by decide +kernel, by decide +kernel⟩, List.mem_of_getElem? (i := 16) (by decide +kernel), List.mem_of_getElem? (i := 664) (by decide +kernel), List.mem_of_getElem? (i := 665) (by decide +kernel)⟩
theorem lw_p44 : lw_okq (⟨"RoundDance$Notes", "add", "(III)V"⟩, 2) := ⟨⟨by decide +kernel, by decide +kernel⟩, List.mem_of_getElem? (i := 45) (by decide +kernel), List.mem_of_getElem? (i := 675) (by decide +kernel), List.mem_of_getElem? (i := 676) (by decide +kernel)⟩
theorem lw_p45 : lw_okq (⟨"RoundDance$Past", "look", "(LRoundDance$Market;[II)V"⟩, 12) := ⟨⟨by decide +kernel, by decide +kernel⟩, List.mem_of_getElem? (i := 207) (by decide +kernel), List.mem_of_getElem? (i := 692) (by decide +kernel), List.mem_of_getElem? (i := 693) (by decide +kernel)⟩
theorem lw_p46 : lw_okq (⟨"RoundDance$Past", "takeSights", "(LRoundDance$Notes;I)V"⟩, 12) := ⟨⟨by decide +kernel, by decide +kernel⟩, List.mem_of_getElem? (i := 207) (by decide +kernel), List.mem_of_getElem? (i := 696) (by decide +kernel), List.mem_of_getElem? (i := 697) (by decide +kernel)⟩
theorem lw_p47 : lw_okq (⟨"RoundDance$Notes", "amount", "(I)I"⟩, 2) := ⟨⟨by decide +kernel, by decide +kernel⟩, List.mem_of_getElem? (i := 45) (by decide +kernel), List.mem_of_getElem? (i := 700) (by decide +kernel), List.mem_of_getElem? (i := 701) (by decide +kernel)⟩
def lw_privs_3 : List (MethodName × Nat) := [(⟨"RoundDance$Shortest", "figuresTo", "(I)I"⟩, 4), (⟨"RoundDance$Orbit", "previous", "(I)I"⟩, 8), (⟨"RoundDance$Shortest", "figureAt", "(I)I"⟩, 4), (⟨"RoundDance$Orbit", "figureTo", "(I)I"⟩, 8), (⟨"RoundDance$Group", "gather", "([I)V"⟩, 3), (⟨"RoundDance$Group", "add", "(I)V"⟩, 3), (⟨"RoundDance$Group", "sift", "(I)I"⟩, 3), (⟨"RoundDance$Group", "members", "()I"⟩, 3), (⟨"RoundDance$Group", "has", "(I)Z"⟩, 3), (⟨"RoundDance", "nextPlaces", "(II)I"⟩, 10), (⟨"RoundDance", "placesWithSome", "(II)I"⟩, 10), (⟨"RoundDance", "placesWithAll", "(II)I"⟩, 10), (⟨"RoundDance$Notes", "add", "(III)V"⟩, 2), (⟨"RoundDance$Past", "look", "(LRoundDance$Market;[II)V"⟩, 12), (⟨"RoundDance$Past", "takeSights", "(LRoundDance$Notes;I)V"⟩, 12), (⟨"RoundDance$Notes", "amount", "(I)I"⟩, 2)]
theorem lw_r3 : ∀ q ∈ lw_privs_3, lw_okq q := List.forall_mem_cons.mpr ⟨lw_p32, List.forall_mem_cons.mpr ⟨lw_p33, List.forall_mem_cons.mpr ⟨lw_p34, List.forall_mem_cons.mpr ⟨lw_p35, List.forall_mem_cons.mpr ⟨lw_p36, List.forall_mem_cons.mpr ⟨lw_p37, List.forall_mem_cons.mpr ⟨lw_p38, List.forall_mem_cons.mpr ⟨lw_p39, List.forall_mem_cons.mpr ⟨lw_p40, List.forall_mem_cons.mpr ⟨lw_p41, List.forall_mem_cons.mpr ⟨lw_p42, List.forall_mem_cons.mpr ⟨lw_p43, List.forall_mem_cons.mpr ⟨lw_p44, List.forall_mem_cons.mpr ⟨lw_p45, List.forall_mem_cons.mpr ⟨lw_p46, List.forall_mem_cons.mpr ⟨lw_p47, fun _ h => absurd h List.not_mem_nil⟩⟩⟩⟩⟩⟩⟩⟩⟩⟩⟩⟩⟩⟩⟩⟩
theorem lw_p48 : lw_okq (⟨"RoundDance$Notes", "mark", "(I)I"⟩, 2) := ⟨⟨by decide +kernel, by decide +kernel⟩, List.mem_of_getElem? (i := 45) (by decide +kernel), List.mem_of_getElem? (i := 704) (by decide +kernel), List.mem_of_getElem? (i := 705) (by decide +kernel)⟩
theorem lw_p49 : lw_okq (⟨"RoundDance$Notes", "good", "(I)I"⟩, 2) := ⟨⟨by decide +kernel, by decide +kernel⟩, List.mem_of_getElem? (i := 45) (by decide +kernel), List.mem_of_getElem? (i := 709) (by decide +kernel), List.mem_of_getElem? (i := 710) (by decide +kernel)⟩
theorem lw_p50 : lw_okq (⟨"RoundDance$Notes", "place", "(I)I"⟩, 2) := ⟨⟨by decide +kernel, by decide +kernel⟩, List.mem_of_getElem? (i := 45) (by decide +kernel), List.mem_of_getElem? (i := 713) (by decide +kernel), List.mem_of_getElem? (i := 714) (by decide +kernel)⟩
theorem lw_p51 : lw_okq (⟨"RoundDance$Memo", "partsOfNotes", "(LRoundDance$Notes;)V"⟩, 3) := ⟨⟨by decide +kernel, by decide +kernel⟩, List.mem_of_getElem? (i := 177) (by decide +kernel), List.mem_of_getElem? (i := 721) (by decide +kernel), List.mem_of_getElem? (i := 722) (by decide +kernel)⟩
theorem lw_p52 : lw_okq (⟨"RoundDance$Past", "explore", "(I[I)V"⟩, 12) := ⟨⟨by decide +kernel, by decide +kernel⟩, List.mem_of_getElem? (i := 207) (by decide +kernel), List.mem_of_getElem? (i := 727) (by decide +kernel), List.mem_of_getElem? (i := 728) (by decide +kernel)⟩
theorem lw_p53 : lw_okq (⟨"RoundDance$Past", "slotOf", "(I)I"⟩, 12) := ⟨⟨by decide +kernel, by decide +kernel⟩, List.mem_of_getElem? (i := 207) (by decide +kernel), List.mem_of_getElem? (i := 732) (by decide +kernel), List.mem_of_getElem? (i := 733) (by decide +kernel)⟩
theorem lw_p54 : lw_okq (⟨"RoundDance$Past", "countRows", "(I)V"⟩, 12) := ⟨⟨by decide +kernel, by decide +kernel⟩, List.mem_of_getElem? (i := 207) (by decide +kernel), List.mem_of_getElem? (i := 744) (by decide +kernel), List.mem_of_getElem? (i := 745) (by decide +kernel)⟩
theorem lw_p55 : lw_okq (⟨"RoundDance$Past", "fits", "(II)Z"⟩, 12) := ⟨⟨by decide +kernel, by decide +kernel⟩, List.mem_of_getElem? (i := 207) (by decide +kernel), List.mem_of_getElem? (i := 749) (by decide +kernel), List.mem_of_getElem? (i := 750) (by decide +kernel)⟩
theorem lw_p56 : lw_okq (⟨"RoundDance$Past", "sumAfter", "(I)J"⟩, 12) := ⟨⟨by decide +kernel, by decide +kernel⟩, List.mem_of_getElem? (i := 207) (by decide +kernel), List.mem_of_getElem? (i := 754) (by decide +kernel), List.mem_of_getElem? (i := 755) (by decide +kernel)⟩
theorem lw_p57 : lw_okq (⟨"RoundDance$Orbit", "step", "(II)I"⟩, 8) := ⟨⟨by decide +kernel, by decide +kernel⟩, List.mem_of_getElem? (i := 144) (by decide +kernel), List.mem_of_getElem? (i := 758) (by decide +kernel), List.mem_of_getElem? (i := 759) (by decide +kernel)⟩
theorem lw_p58 : lw_okq (⟨"RoundDance$Past", "gatherCandidates", "(I)V"⟩, 12) := ⟨⟨by decide +kernel, by decide +kernel⟩, List.mem_of_getElem? (i := 207) (by decide +kernel), List.mem_of_getElem? (i := 770) (by decide +kernel), List.mem_of_getElem? (i := 771) (by decide +kernel)⟩
theorem lw_p59 : lw_okq (⟨"RoundDance$Past", "isFitting", "(II)Z"⟩, 12) := ⟨⟨by decide +kernel, by decide +kernel⟩, List.mem_of_getElem? (i := 207) (by decide +kernel), List.mem_of_getElem? (i := 774) (by decide +kernel), List.mem_of_getElem? (i := 775) (by decide +kernel)⟩
theorem lw_p60 : lw_okq (⟨"RoundDance$Past", "figuresOn", "(II)I"⟩, 12) := ⟨⟨by decide +kernel, by decide +kernel⟩, List.mem_of_getElem? (i := 207) (by decide +kernel), List.mem_of_getElem? (i := 778) (by decide +kernel), List.mem_of_getElem? (i := 779) (by decide +kernel)⟩
theorem lw_p61 : lw_okq (⟨"RoundDance$Past", "findFirstRow", "(I)V"⟩, 12) := ⟨⟨by decide +kernel, by decide +kernel⟩, List.mem_of_getElem? (i := 207) (by decide +kernel), List.mem_of_getElem? (i := 782) (by decide +kernel), List.mem_of_getElem? (i := 783) (by decide +kernel)⟩
theorem lw_p62 : lw_okq (⟨"RoundDance$Past", "firstFigureOn", "(II)I"⟩, 12) := ⟨⟨by decide +kernel, by decide +kernel⟩, List.mem_of_getElem? (i := 207) (by decide +kernel), List.mem_of_getElem? (i := 786) (by decide +kernel), List.mem_of_getElem? (i := 787) (by decide +kernel)⟩
theorem lw_p63 : lw_okq (⟨"RoundDance$Evening", "serve", "(LRoundDance$Market;[II)V"⟩, 7) := ⟨⟨by decide +kernel, by decide +kernel⟩, List.mem_of_getElem? (i := 260) (by decide +kernel), List.mem_of_getElem? (i := 806) (by decide +kernel), List.mem_of_getElem? (i := 807) (by decide +kernel)⟩
def lw_privs_4 : List (MethodName × Nat) := [(⟨"RoundDance$Notes", "mark", "(I)I"⟩, 2), (⟨"RoundDance$Notes", "good", "(I)I"⟩, 2), (⟨"RoundDance$Notes", "place", "(I)I"⟩, 2), (⟨"RoundDance$Memo", "partsOfNotes", "(LRoundDance$Notes;)V"⟩, 3), (⟨"RoundDance$Past", "explore", "(I[I)V"⟩, 12), (⟨"RoundDance$Past", "slotOf", "(I)I"⟩, 12), (⟨"RoundDance$Past", "countRows", "(I)V"⟩, 12), (⟨"RoundDance$Past", "fits", "(II)Z"⟩, 12), (⟨"RoundDance$Past", "sumAfter", "(I)J"⟩, 12), (⟨"RoundDance$Orbit", "step", "(II)I"⟩, 8), (⟨"RoundDance$Past", "gatherCandidates", "(I)V"⟩, 12), (⟨"RoundDance$Past", "isFitting", "(II)Z"⟩, 12), (⟨"RoundDance$Past", "figuresOn", "(II)I"⟩, 12), (⟨"RoundDance$Past", "findFirstRow", "(I)V"⟩, 12), (⟨"RoundDance$Past", "firstFigureOn", "(II)I"⟩, 12), (⟨"RoundDance$Evening", "serve", "(LRoundDance$Market;[II)V"⟩, 7)]
theorem lw_r4 : ∀ q ∈ lw_privs_4, lw_okq q := List.forall_mem_cons.mpr ⟨lw_p48, List.forall_mem_cons.mpr ⟨lw_p49, List.forall_mem_cons.mpr ⟨lw_p50, List.forall_mem_cons.mpr ⟨lw_p51, List.forall_mem_cons.mpr ⟨lw_p52, List.forall_mem_cons.mpr ⟨lw_p53, List.forall_mem_cons.mpr ⟨lw_p54, List.forall_mem_cons.mpr ⟨lw_p55, List.forall_mem_cons.mpr ⟨lw_p56, List.forall_mem_cons.mpr ⟨lw_p57, List.forall_mem_cons.mpr ⟨lw_p58, List.forall_mem_cons.mpr ⟨lw_p59, List.forall_mem_cons.mpr ⟨lw_p60, List.forall_mem_cons.mpr ⟨lw_p61, List.forall_mem_cons.mpr ⟨lw_p62, List.forall_mem_cons.mpr ⟨lw_p63, fun _ h => absurd h List.not_mem_nil⟩⟩⟩⟩⟩⟩⟩⟩⟩⟩⟩⟩⟩⟩⟩⟩
theorem lw_p64 : lw_okq (⟨"RoundDance$Evening", "takeMoves", "([I)V"⟩, 7) := ⟨⟨by decide +kernel, by decide +kernel⟩, List.mem_of_getElem? (i := 260) (by decide +kernel), List.mem_of_getElem? (i := 815) (by decide +kernel), List.mem_of_getElem? (i := 816) (by decide +kernel)⟩
theorem lw_p65 : lw_okq (⟨"RoundDance$Notes", "take", "(LRoundDance$Notes;)V"⟩, 2) := ⟨⟨by decide +kernel, by decide +kernel⟩, List.mem_of_getElem? (i := 45) (by decide +kernel), List.mem_of_getElem? (i := 821) (by decide +kernel), List.mem_of_getElem? (i := 822) (by decide +kernel)⟩
theorem lw_p66 : lw_okq (⟨"RoundDance$Evening", "worth", "(I)I"⟩, 7) := ⟨⟨by decide +kernel, by decide +kernel⟩, List.mem_of_getElem? (i := 260) (by decide +kernel), List.mem_of_getElem? (i := 828) (by decide +kernel), List.mem_of_getElem? (i := 829) (by decide +kernel)⟩
theorem lw_p67 : lw_okq (⟨"RoundDance$Evening", "holding", "(I)I"⟩, 7) := ⟨⟨by decide +kernel, by decide +kernel⟩, List.mem_of_getElem? (i := 260) (by decide +kernel), List.mem_of_getElem? (i := 837) (by decide +kernel), List.mem_of_getElem? (i := 838) (by decide +kernel)⟩
theorem lw_p68 : lw_okq (⟨"RoundDance$Evening", "compare", "(II)V"⟩, 7) := ⟨⟨by decide +kernel, by decide +kernel⟩, List.mem_of_getElem? (i := 260) (by decide +kernel), List.mem_of_getElem? (i := 844) (by decide +kernel), List.mem_of_getElem? (i := 845) (by decide +kernel)⟩
theorem lw_p69 : lw_okq (⟨"RoundDance", "allowedMoves", "()I"⟩, 10) := ⟨⟨by decide +kernel, by decide +kernel⟩, List.mem_of_getElem? (i := 16) (by decide +kernel), List.mem_of_getElem? (i := 854) (by decide +kernel), List.mem_of_getElem? (i := 855) (by decide +kernel)⟩
theorem lw_p70 : lw_okq (⟨"RoundDance", "allowedMove", "(I)I"⟩, 10) := ⟨⟨by decide +kernel, by decide +kernel⟩, List.mem_of_getElem? (i := 16) (by decide +kernel), List.mem_of_getElem? (i := 859) (by decide +kernel), List.mem_of_getElem? (i := 860) (by decide +kernel)⟩
theorem lw_p71 : lw_okq (⟨"RoundDance", "imageNumbered", "(I)LRoundDance$Market;"⟩, 10) := ⟨⟨by decide +kernel, by decide +kernel⟩, List.mem_of_getElem? (i := 16) (by decide +kernel), List.mem_of_getElem? (i := 867) (by decide +kernel), List.mem_of_getElem? (i := 868) (by decide +kernel)⟩
theorem lw_p72 : lw_okq (⟨"RoundDance$Market", "take", "(LRoundDance$Market;)V"⟩, 11) := ⟨⟨by decide +kernel, by decide +kernel⟩, List.mem_of_getElem? (i := 39) (by decide +kernel), List.mem_of_getElem? (i := 871) (by decide +kernel), List.mem_of_getElem? (i := 872) (by decide +kernel)⟩
theorem lw_p73 : lw_okq (⟨"RoundDance", "toldOfAll", "(I)I"⟩, 10) := ⟨⟨by decide +kernel, by decide +kernel⟩, List.mem_of_getElem? (i := 16) (by decide +kernel), List.mem_of_getElem? (i := 885) (by decide +kernel), List.mem_of_getElem? (i := 886) (by decide +kernel)⟩
theorem lw_p74 : lw_okq (⟨"RoundDanceModel", "begin", "(I)V"⟩, 41) := ⟨⟨by decide +kernel, by decide +kernel⟩, List.mem_of_getElem? (i := 889) (by decide +kernel), List.mem_of_getElem? (i := 898) (by decide +kernel), List.mem_of_getElem? (i := 899) (by decide +kernel)⟩
theorem lw_p75 : lw_okq (⟨"RoundDanceModel", "faultOfOrder", "(I)I"⟩, 41) := ⟨⟨by decide +kernel, by decide +kernel⟩, List.mem_of_getElem? (i := 889) (by decide +kernel), List.mem_of_getElem? (i := 1050) (by decide +kernel), List.mem_of_getElem? (i := 1051) (by decide +kernel)⟩
theorem lw_p76 : lw_okq (⟨"RoundDanceModel", "isPlace", "(I)Z"⟩, 41) := ⟨⟨by decide +kernel, by decide +kernel⟩, List.mem_of_getElem? (i := 889) (by decide +kernel), List.mem_of_getElem? (i := 1054) (by decide +kernel), List.mem_of_getElem? (i := 1055) (by decide +kernel)⟩
theorem lw_p77 : lw_okq (⟨"RoundDanceModel", "faultOfRow", "()I"⟩, 41) := ⟨⟨by decide +kernel, by decide +kernel⟩, List.mem_of_getElem? (i := 889) (by decide +kernel), List.mem_of_getElem? (i := 1058) (by decide +kernel), List.mem_of_getElem? (i := 1059) (by decide +kernel)⟩
theorem lw_p78 : lw_okq (⟨"RoundDanceModel", "findGoes", "()V"⟩, 41) := ⟨⟨by decide +kernel, by decide +kernel⟩, List.mem_of_getElem? (i := 889) (by decide +kernel), List.mem_of_getElem? (i := 1074) (by decide +kernel), List.mem_of_getElem? (i := 1075) (by decide +kernel)⟩
theorem lw_p79 : lw_okq (⟨"RoundDanceModel", "isLame", "(I)Z"⟩, 41) := ⟨⟨by decide +kernel, by decide +kernel⟩, List.mem_of_getElem? (i := 889) (by decide +kernel), List.mem_of_getElem? (i := 1078) (by decide +kernel), List.mem_of_getElem? (i := 1079) (by decide +kernel)⟩
def lw_privs_5 : List (MethodName × Nat) := [(⟨"RoundDance$Evening", "takeMoves", "([I)V"⟩, 7), (⟨"RoundDance$Notes", "take", "(LRoundDance$Notes;)V"⟩, 2), (⟨"RoundDance$Evening", "worth", "(I)I"⟩, 7), (⟨"RoundDance$Evening", "holding", "(I)I"⟩, 7), (⟨"RoundDance$Evening", "compare", "(II)V"⟩, 7), (⟨"RoundDance", "allowedMoves", "()I"⟩, 10), (⟨"RoundDance", "allowedMove", "(I)I"⟩, 10), (⟨"RoundDance", "imageNumbered", "(I)LRoundDance$Market;"⟩, 10), (⟨"RoundDance$Market", "take", "(LRoundDance$Market;)V"⟩, 11), (⟨"RoundDance", "toldOfAll", "(I)I"⟩, 10), (⟨"RoundDanceModel", "begin", "(I)V"⟩, 41), (⟨"RoundDanceModel", "faultOfOrder", "(I)I"⟩, 41), (⟨"RoundDanceModel", "isPlace", "(I)Z"⟩, 41), (⟨"RoundDanceModel", "faultOfRow", "()I"⟩, 41), (⟨"RoundDanceModel", "findGoes", "()V"⟩, 41), (⟨"RoundDanceModel", "isLame", "(I)Z"⟩, 41)]
theorem lw_r5 : ∀ q ∈ lw_privs_5, lw_okq q := List.forall_mem_cons.mpr ⟨lw_p64, List.forall_mem_cons.mpr ⟨lw_p65, List.forall_mem_cons.mpr ⟨lw_p66, List.forall_mem_cons.mpr ⟨lw_p67, List.forall_mem_cons.mpr ⟨lw_p68, List.forall_mem_cons.mpr ⟨lw_p69, List.forall_mem_cons.mpr ⟨lw_p70, List.forall_mem_cons.mpr ⟨lw_p71, List.forall_mem_cons.mpr ⟨lw_p72, List.forall_mem_cons.mpr ⟨lw_p73, List.forall_mem_cons.mpr ⟨lw_p74, List.forall_mem_cons.mpr ⟨lw_p75, List.forall_mem_cons.mpr ⟨lw_p76, List.forall_mem_cons.mpr ⟨lw_p77, List.forall_mem_cons.mpr ⟨lw_p78, List.forall_mem_cons.mpr ⟨lw_p79, fun _ h => absurd h List.not_mem_nil⟩⟩⟩⟩⟩⟩⟩⟩⟩⟩⟩⟩⟩⟩⟩⟩
theorem lw_p80 : lw_okq (⟨"RoundDanceModel", "badFigure", "()I"⟩, 41) := ⟨⟨by decide +kernel, by decide +kernel⟩, List.mem_of_getElem? (i := 889) (by decide +kernel), List.mem_of_getElem? (i := 1096) (by decide +kernel), List.mem_of_getElem? (i := 1097) (by decide +kernel)⟩
theorem lw_p81 : lw_okq (⟨"RoundDanceModel", "may", "(I)Z"⟩, 41) := ⟨⟨by decide +kernel, by decide +kernel⟩, List.mem_of_getElem? (i := 889) (by decide +kernel), List.mem_of_getElem? (i := 1100) (by decide +kernel), List.mem_of_getElem? (i := 1101) (by decide +kernel)⟩
theorem lw_p82 : lw_okq (⟨"RoundDanceModel", "placeOf", "(I)I"⟩, 41) := ⟨⟨by decide +kernel, by decide +kernel⟩, List.mem_of_getElem? (i := 889) (by decide +kernel), List.mem_of_getElem? (i := 1116) (by decide +kernel), List.mem_of_getElem? (i := 1117) (by decide +kernel)⟩
theorem lw_p83 : lw_okq (⟨"RoundDanceModel", "lengthOfMoved", "()I"⟩, 41) := ⟨⟨by decide +kernel, by decide +kernel⟩, List.mem_of_getElem? (i := 889) (by decide +kernel), List.mem_of_getElem? (i := 1124) (by decide +kernel), List.mem_of_getElem? (i := 1125) (by decide +kernel)⟩
theorem lw_p84 : lw_okq (⟨"RoundDanceModel", "goAll", "()V"⟩, 41) := ⟨⟨by decide +kernel, by decide +kernel⟩, List.mem_of_getElem? (i := 889) (by decide +kernel), List.mem_of_getElem? (i := 1143) (by decide +kernel), List.mem_of_getElem? (i := 1144) (by decide +kernel)⟩
theorem lw_p85 : lw_okq (⟨"RoundDanceModel", "findNext", "()V"⟩, 41) := ⟨⟨by decide +kernel, by decide +kernel⟩, List.mem_of_getElem? (i := 889) (by decide +kernel), List.mem_of_getElem? (i := 1147) (by decide +kernel), List.mem_of_getElem? (i := 1148) (by decide +kernel)⟩
theorem lw_p86 : lw_okq (⟨"RoundDanceModel", "codeBy", "(I)I"⟩, 41) := ⟨⟨by decide +kernel, by decide +kernel⟩, List.mem_of_getElem? (i := 889) (by decide +kernel), List.mem_of_getElem? (i := 1151) (by decide +kernel), List.mem_of_getElem? (i := 1152) (by decide +kernel)⟩
theorem lw_p87 : lw_okq (⟨"RoundDanceModel", "danced", "(II)I"⟩, 41) := ⟨⟨by decide +kernel, by decide +kernel⟩, List.mem_of_getElem? (i := 889) (by decide +kernel), List.mem_of_getElem? (i := 1155) (by decide +kernel), List.mem_of_getElem? (i := 1156) (by decide +kernel)⟩
theorem lw_p88 : lw_okq (⟨"RoundDanceModel", "numberOf", "(I)I"⟩, 41) := ⟨⟨by decide +kernel, by decide +kernel⟩, List.mem_of_getElem? (i := 889) (by decide +kernel), List.mem_of_getElem? (i := 1159) (by decide +kernel), List.mem_of_getElem? (i := 1160) (by decide +kernel)⟩
theorem lw_p89 : lw_okq (⟨"RoundDanceModel", "codeNow", "()I"⟩, 41) := ⟨⟨by decide +kernel, by decide +kernel⟩, List.mem_of_getElem? (i := 889) (by decide +kernel), List.mem_of_getElem? (i := 1166) (by decide +kernel), List.mem_of_getElem? (i := 1167) (by decide +kernel)⟩
theorem lw_p90 : lw_okq (⟨"RoundDanceModel", "isWanted", "(I)Z"⟩, 41) := ⟨⟨by decide +kernel, by decide +kernel⟩, List.mem_of_getElem? (i := 889) (by decide +kernel), List.mem_of_getElem? (i := 1170) (by decide +kernel), List.mem_of_getElem? (i := 1171) (by decide +kernel)⟩
theorem lw_p91 : lw_okq (⟨"RoundDanceModel", "needsOf", "(II)I"⟩, 41) := ⟨⟨by decide +kernel, by decide +kernel⟩, List.mem_of_getElem? (i := 889) (by decide +kernel), List.mem_of_getElem? (i := 1194) (by decide +kernel), List.mem_of_getElem? (i := 1195) (by decide +kernel)⟩
theorem lw_p92 : lw_okq (⟨"RoundDanceModel", "findRows", "(I)V"⟩, 41) := ⟨⟨by decide +kernel, by decide +kernel⟩, List.mem_of_getElem? (i := 889) (by decide +kernel), List.mem_of_getElem? (i := 1212) (by decide +kernel), List.mem_of_getElem? (i := 1213) (by decide +kernel)⟩
theorem lw_p93 : lw_okq (⟨"RoundDanceModel", "onFrom", "(II)J"⟩, 41) := ⟨⟨by decide +kernel, by decide +kernel⟩, List.mem_of_getElem? (i := 889) (by decide +kernel), List.mem_of_getElem? (i := 1216) (by decide +kernel), List.mem_of_getElem? (i := 1217) (by decide +kernel)⟩
theorem lw_p94 : lw_okq (⟨"RoundDanceModel", "fits", "(II)Z"⟩, 41) := ⟨⟨by decide +kernel, by decide +kernel⟩, List.mem_of_getElem? (i := 889) (by decide +kernel), List.mem_of_getElem? (i := 1220) (by decide +kernel), List.mem_of_getElem? (i := 1221) (by decide +kernel)⟩
theorem lw_p95 : lw_okq (⟨"RoundDanceModel", "firstAt", "(I)I"⟩, 41) := ⟨⟨by decide +kernel, by decide +kernel⟩, List.mem_of_getElem? (i := 889) (by decide +kernel), List.mem_of_getElem? (i := 1228) (by decide +kernel), List.mem_of_getElem? (i := 1229) (by decide +kernel)⟩
def lw_privs_6 : List (MethodName × Nat) := [(⟨"RoundDanceModel", "badFigure", "()I"⟩, 41), (⟨"RoundDanceModel", "may", "(I)Z"⟩, 41), (⟨"RoundDanceModel", "placeOf", "(I)I"⟩, 41), (⟨"RoundDanceModel", "lengthOfMoved", "()I"⟩, 41), (⟨"RoundDanceModel", "goAll", "()V"⟩, 41), (⟨"RoundDanceModel", "findNext", "()V"⟩, 41), (⟨"RoundDanceModel", "codeBy", "(I)I"⟩, 41), (⟨"RoundDanceModel", "danced", "(II)I"⟩, 41), (⟨"RoundDanceModel", "numberOf", "(I)I"⟩, 41), (⟨"RoundDanceModel", "codeNow", "()I"⟩, 41), (⟨"RoundDanceModel", "isWanted", "(I)Z"⟩, 41), (⟨"RoundDanceModel", "needsOf", "(II)I"⟩, 41), (⟨"RoundDanceModel", "findRows", "(I)V"⟩, 41), (⟨"RoundDanceModel", "onFrom", "(II)J"⟩, 41), (⟨"RoundDanceModel", "fits", "(II)Z"⟩, 41), (⟨"RoundDanceModel", "firstAt", "(I)I"⟩, 41)]
theorem lw_r6 : ∀ q ∈ lw_privs_6, lw_okq q := List.forall_mem_cons.mpr ⟨lw_p80, List.forall_mem_cons.mpr ⟨lw_p81, List.forall_mem_cons.mpr ⟨lw_p82, List.forall_mem_cons.mpr ⟨lw_p83, List.forall_mem_cons.mpr ⟨lw_p84, List.forall_mem_cons.mpr ⟨lw_p85, List.forall_mem_cons.mpr ⟨lw_p86, List.forall_mem_cons.mpr ⟨lw_p87, List.forall_mem_cons.mpr ⟨lw_p88, List.forall_mem_cons.mpr ⟨lw_p89, List.forall_mem_cons.mpr ⟨lw_p90, List.forall_mem_cons.mpr ⟨lw_p91, List.forall_mem_cons.mpr ⟨lw_p92, List.forall_mem_cons.mpr ⟨lw_p93, List.forall_mem_cons.mpr ⟨lw_p94, List.forall_mem_cons.mpr ⟨lw_p95, fun _ h => absurd h List.not_mem_nil⟩⟩⟩⟩⟩⟩⟩⟩⟩⟩⟩⟩⟩⟩⟩⟩
theorem lw_p96 : lw_okq (⟨"RoundDanceModel", "firstFrom", "(II)I"⟩, 41) := ⟨⟨by decide +kernel, by decide +kernel⟩, List.mem_of_getElem? (i := 889) (by decide +kernel), List.mem_of_getElem? (i := 1232) (by decide +kernel), List.mem_of_getElem? (i := 1233) (by decide +kernel)⟩
theorem lw_p97 : lw_okq (⟨"RoundDanceModel", "bitsAt", "(I)I"⟩, 41) := ⟨⟨by decide +kernel, by decide +kernel⟩, List.mem_of_getElem? (i := 889) (by decide +kernel), List.mem_of_getElem? (i := 1236) (by decide +kernel), List.mem_of_getElem? (i := 1237) (by decide +kernel)⟩
theorem lw_p98 : lw_okq (⟨"RoundDanceModel", "findMay", "()V"⟩, 41) := ⟨⟨by decide +kernel, by decide +kernel⟩, List.mem_of_getElem? (i := 889) (by decide +kernel), List.mem_of_getElem? (i := 1254) (by decide +kernel), List.mem_of_getElem? (i := 1255) (by decide +kernel)⟩
theorem lw_p99 : lw_okq (⟨"RoundDanceModel", "worthOf", "(III)I"⟩, 41) := ⟨⟨by decide +kernel, by decide +kernel⟩, List.mem_of_getElem? (i := 889) (by decide +kernel), List.mem_of_getElem? (i := 1258) (by decide +kernel), List.mem_of_getElem? (i := 1259) (by decide +kernel)⟩
theorem lw_p100 : lw_okq (⟨"RoundDanceModel", "holding", "(I)I"⟩, 41) := ⟨⟨by decide +kernel, by decide +kernel⟩, List.mem_of_getElem? (i := 889) (by decide +kernel), List.mem_of_getElem? (i := 1262) (by decide +kernel), List.mem_of_getElem? (i := 1263) (by decide +kernel)⟩
theorem lw_p101 : lw_okq (⟨"RoundDanceModel", "passAll", "()V"⟩, 41) := ⟨⟨by decide +kernel, by decide +kernel⟩, List.mem_of_getElem? (i := 889) (by decide +kernel), List.mem_of_getElem? (i := 1278) (by decide +kernel), List.mem_of_getElem? (i := 1279) (by decide +kernel)⟩
theorem lw_p102 : lw_okq (⟨"RoundDanceModel", "pass", "(I)I"⟩, 41) := ⟨⟨by decide +kernel, by decide +kernel⟩, List.mem_of_getElem? (i := 889) (by decide +kernel), List.mem_of_getElem? (i := 1282) (by decide +kernel), List.mem_of_getElem? (i := 1283) (by decide +kernel)⟩
def lw_privs_7 : List (MethodName × Nat) := [(⟨"RoundDanceModel", "firstFrom", "(II)I"⟩, 41), (⟨"RoundDanceModel", "bitsAt", "(I)I"⟩, 41), (⟨"RoundDanceModel", "findMay", "()V"⟩, 41), (⟨"RoundDanceModel", "worthOf", "(III)I"⟩, 41), (⟨"RoundDanceModel", "holding", "(I)I"⟩, 41), (⟨"RoundDanceModel", "passAll", "()V"⟩, 41), (⟨"RoundDanceModel", "pass", "(I)I"⟩, 41)]
theorem lw_r7 : ∀ q ∈ lw_privs_7, lw_okq q := List.forall_mem_cons.mpr ⟨lw_p96, List.forall_mem_cons.mpr ⟨lw_p97, List.forall_mem_cons.mpr ⟨lw_p98, List.forall_mem_cons.mpr ⟨lw_p99, List.forall_mem_cons.mpr ⟨lw_p100, List.forall_mem_cons.mpr ⟨lw_p101, List.forall_mem_cons.mpr ⟨lw_p102, fun _ h => absurd h List.not_mem_nil⟩⟩⟩⟩⟩⟩⟩
def lw_privs : List (MethodName × Nat) := lw_privs_1 ++ (lw_privs_2 ++ (lw_privs_3 ++ (lw_privs_4 ++ (lw_privs_5 ++ (lw_privs_6 ++ (lw_privs_7))))))
def lw_tbl : List Cond := k2_sels lw_privs ++ tables_1
theorem lw_privs_ok : ∀ q ∈ lw_privs, lw_okq q := by
  show ∀ q ∈ lw_privs_1 ++ (lw_privs_2 ++ (lw_privs_3 ++ (lw_privs_4 ++ (lw_privs_5 ++ (lw_privs_6 ++ (lw_privs_7)))))), lw_okq q
  exact List.forall_mem_append.mpr ⟨lw_r1, List.forall_mem_append.mpr ⟨lw_r2, List.forall_mem_append.mpr ⟨lw_r3, List.forall_mem_append.mpr ⟨lw_r4, List.forall_mem_append.mpr ⟨lw_r5, List.forall_mem_append.mpr ⟨lw_r6, lw_r7⟩⟩⟩⟩⟩⟩
-- ===== end of PART A; then your names; then what follows =====
end
section
-- ===== THE PURE MACHINE: a heap of numbered cells, an evaluator of decoded instructions over it =====
/-- next cell, slots made, kinds, lengths, int rows, long rows, reference rows (0: null) -/
abbrev Hp_ : Type := Nat × Nat × (Nat → Nat) × (Nat → Nat) × (Nat → Nat → Int32) × (Nat → Nat → Int64) × (Nat → Nat → Nat)
def hp_nx (h : Hp_) : Nat := h.1
def hp_sl (h : Hp_) : Nat := h.2.1
def hp_kd (h : Hp_) : Nat → Nat := h.2.2.1
def hp_ln (h : Hp_) : Nat → Nat := h.2.2.2.1
def hp_I (h : Hp_) : Nat → Nat → Int32 := h.2.2.2.2.1
def hp_J (h : Hp_) : Nat → Nat → Int64 := h.2.2.2.2.2.1
def hp_R (h : Hp_) : Nat → Nat → Nat := h.2.2.2.2.2.2
/-- an int row put whole -/
def hp_rI (h : Hp_) (c : Nat) (f : Nat → Int32) : Hp_ := (h.1, h.2.1, h.2.2.1, h.2.2.2.1, va_up h.2.2.2.2.1 c f, h.2.2.2.2.2.1, h.2.2.2.2.2.2)
def hp_rJ (h : Hp_) (c : Nat) (f : Nat → Int64) : Hp_ := (h.1, h.2.1, h.2.2.1, h.2.2.2.1, h.2.2.2.2.1, va_up h.2.2.2.2.2.1 c f, h.2.2.2.2.2.2)
def hp_rR (h : Hp_) (c : Nat) (f : Nat → Nat) : Hp_ := (h.1, h.2.1, h.2.2.1, h.2.2.2.1, h.2.2.2.2.1, h.2.2.2.2.2.1, va_up h.2.2.2.2.2.2 c f)
/-- a new cell of kind t, length n, that costs z slots -/
def hp_al (h : Hp_) (t n z : Nat) : Hp_ := (h.1 + 1, h.2.1 + z, va_up h.2.2.1 (h.1 + 1) t, va_up h.2.2.2.1 (h.1 + 1) n, va_up h.2.2.2.2.1 (h.1 + 1) (fun _ => 0), va_up h.2.2.2.2.2.1 (h.1 + 1) (fun _ => 0), va_up h.2.2.2.2.2.2 (h.1 + 1) (fun _ => 0))
/-- instruction, next pc, operands resolved, constants -/
abbrev Ent_ : Type := Instr × Nat × Nat × Nat × Nat × Nat × Int32 × Int64
abbrev Tab_ : Type := List (Nat × Ent_)
abbrev Lc_ : Type := List (Option Value)
/-- a step's outcome: on, or the end, or a call -/
abbrev Out_ : Type := (Nat × Lc_ × List Value × Hp_) ⊕ ((Option Value × Hp_) ⊕ (Nat × List Value × Nat × Lc_ × List Value))
abbrev Sc_ : Type := Option (Nat × (Nat → Int32))
def pm_lk (t : Tab_) (pc : Nat) : Option Ent_ := match t with
  | [] => none
  | (k, e) :: r => if k = pc then some e else pm_lk r pc
def pm_kill (L : Lc_) (i : Nat) : Lc_ := match i with
  | 0 => L
  | j + 1 => match L[j]? with
    | some (some v) => if v.category = 2 then L.set j none else L
    | _ => L
def pm_st (L : Lc_) (i : Nat) (v : Value) : Lc_ := (pm_kill L i).set i (some v)
def pm_stJ (L : Lc_) (i : Nat) (v : Value) : Lc_ := ((pm_kill L i).set i (some v)).set (i + 1) none
def pm_ldI (k n : Nat) (L : Lc_) (st : List Value) (h : Hp_) : Option Out_ := match L[k]? with
  | some (some (.int x)) => some (.inl (n, L, .int x :: st, h))
  | _ => none
def pm_ldJ (k n : Nat) (L : Lc_) (st : List Value) (h : Hp_) : Option Out_ := match L[k]? with
  | some (some (.long x)) => some (.inl (n, L, .long x :: st, h))
  | _ => none
def pm_ldA (k n : Nat) (L : Lc_) (st : List Value) (h : Hp_) : Option Out_ := match L[k]? with
  | some (some (.ref x)) => some (.inl (n, L, .ref x :: st, h))
  | _ => none
def pm_stI (k n : Nat) (L : Lc_) (st : List Value) (h : Hp_) : Option Out_ := match st with
  | .int x :: r => if k < L.length then some (.inl (n, pm_st L k (.int x), r, h)) else none
  | _ => none
def pm_stA (k n : Nat) (L : Lc_) (st : List Value) (h : Hp_) : Option Out_ := match st with
  | .ref x :: r => if k < L.length then some (.inl (n, pm_st L k (.ref x), r, h)) else none
  | _ => none
def pm_stL (k n : Nat) (L : Lc_) (st : List Value) (h : Hp_) : Option Out_ := match st with
  | .long x :: r => if k + 1 < L.length then some (.inl (n, pm_stJ L k (.long x), r, h)) else none
  | _ => none
def pm_inc (k : Nat) (v : Int32) (n : Nat) (L : Lc_) (st : List Value) (h : Hp_) : Option Out_ := match L[k]? with
  | some (some (.int x)) => some (.inl (n, pm_st L k (.int (x + v)), st, h))
  | _ => none
def pm_bin (f : Int32 → Int32 → Int32) (n : Nat) (L : Lc_) (st : List Value) (h : Hp_) : Option Out_ := match st with
  | .int y :: .int x :: r => some (.inl (n, L, .int (f x y) :: r, h))
  | _ => none
def pm_div (f : Int32 → Int32 → Int32) (n : Nat) (L : Lc_) (st : List Value) (h : Hp_) : Option Out_ := match st with
  | .int y :: .int x :: r => if y = 0 then none else some (.inl (n, L, .int (f x y) :: r, h))
  | _ => none
def pm_binL (f : Int64 → Int64 → Int64) (n : Nat) (L : Lc_) (st : List Value) (h : Hp_) : Option Out_ := match st with
  | .long y :: .long x :: r => some (.inl (n, L, .long (f x y) :: r, h))
  | _ => none
def pm_divL (f : Int64 → Int64 → Int64) (n : Nat) (L : Lc_) (st : List Value) (h : Hp_) : Option Out_ := match st with
  | .long y :: .long x :: r => if y = 0 then none else some (.inl (n, L, .long (f x y) :: r, h))
  | _ => none
def pm_cmpL (n : Nat) (L : Lc_) (st : List Value) (h : Hp_) : Option Out_ := match st with
  | .long y :: .long x :: r => some (.inl (n, L, .int (lg_cmp x y) :: r, h))
  | _ => none
def pm_i2l (n : Nat) (L : Lc_) (st : List Value) (h : Hp_) : Option Out_ := match st with
  | .int x :: r => some (.inl (n, L, .long x.toInt64 :: r, h))
  | _ => none
def pm_l2i (n : Nat) (L : Lc_) (st : List Value) (h : Hp_) : Option Out_ := match st with
  | .long x :: r => some (.inl (n, L, .int x.toInt32 :: r, h))
  | _ => none
def pm_dup (n : Nat) (L : Lc_) (st : List Value) (h : Hp_) : Option Out_ := match st with
  | .int x :: r => some (.inl (n, L, .int x :: .int x :: r, h))
  | .ref x :: r => some (.inl (n, L, .ref x :: .ref x :: r, h))
  | _ => none
def pm_pop (n : Nat) (L : Lc_) (st : List Value) (h : Hp_) : Option Out_ := match st with
  | .int _ :: r => some (.inl (n, L, r, h))
  | .ref _ :: r => some (.inl (n, L, r, h))
  | _ => none
def pm_rel (c : ClassFile.Cond) (x y : Int32) : Bool := match c with
  | .eq => decide (x = y)
  | .ne => decide (x ≠ y)
  | .lt => decide (x < y)
  | .ge => decide (y ≤ x)
  | .gt => decide (y < x)
  | .le => decide (x ≤ y)
def pm_if (c : ClassFile.Cond) (a n : Nat) (L : Lc_) (st : List Value) (h : Hp_) : Option Out_ := match st with
  | .int x :: r => some (.inl (if pm_rel c x 0 = true then a else n, L, r, h))
  | _ => none
def pm_icmp (c : ClassFile.Cond) (a n : Nat) (L : Lc_) (st : List Value) (h : Hp_) : Option Out_ := match st with
  | .int y :: .int x :: r => some (.inl (if pm_rel c x y = true then a else n, L, r, h))
  | _ => none
/-- c: 0 int, 1 boolean, 2 long, 3 reference -/
def pm_getf (a b c n : Nat) (L : Lc_) (st : List Value) (h : Hp_) : Option Out_ := match st with
  | .ref o :: r =>
    if hp_kd h o = a + 10 then
      (match c with
        | 0 => some (.inl (n, L, .int (hp_I h o b) :: r, h))
        | 1 => some (.inl (n, L, .int (hp_I h o b) :: r, h))
        | 2 => some (.inl (n, L, .long (hp_J h o b) :: r, h))
        | _ => if hp_R h o b = 0 then none else some (.inl (n, L, .ref (hp_R h o b) :: r, h)))
    else none
  | _ => none
def pm_putf (a b c n : Nat) (L : Lc_) (st : List Value) (h : Hp_) : Option Out_ := match st with
  | .int x :: .ref o :: r =>
    if hp_kd h o = a + 10 then
      (match c with
        | 0 => some (.inl (n, L, r, hp_rI h o (va_up (hp_I h o) b x)))
        | 1 => if x = 0 ∨ x = 1 then some (.inl (n, L, r, hp_rI h o (va_up (hp_I h o) b x))) else none
        | _ => none)
    else none
  | .long x :: .ref o :: r => if hp_kd h o = a + 10 ∧ c = 2 then some (.inl (n, L, r, hp_rJ h o (va_up (hp_J h o) b x))) else none
  | .ref q :: .ref o :: r => if hp_kd h o = a + 10 ∧ c = 3 ∧ q ≠ 0 then some (.inl (n, L, r, hp_rR h o (va_up (hp_R h o) b q))) else none
  | _ => none
def pm_new (a b n : Nat) (L : Lc_) (st : List Value) (h : Hp_) : Option Out_ := some (.inl (n, L, .ref (hp_nx h + 1) :: st, hp_al h (a + 10) 0 b))
def pm_newa (a n : Nat) (L : Lc_) (st : List Value) (h : Hp_) : Option Out_ := match st with
  | .int x :: r => if ¬ x < 0 ∧ x.toNatClampNeg ≤ 1000000 then some (.inl (n, L, .ref (hp_nx h + 1) :: r, hp_al h a x.toNatClampNeg x.toNatClampNeg)) else none
  | _ => none
def pm_alen (sc : Sc_) (n : Nat) (L : Lc_) (st : List Value) (h : Hp_) : Option Out_ := match st with
  | .ref o :: r =>
    if o = 0 then (match sc with | some (z, _) => some (.inl (n, L, .int (nI z) :: r, h)) | none => none)
    else if hp_kd h o = 1 ∨ hp_kd h o = 2 ∨ hp_kd h o = 3 then some (.inl (n, L, .int (nI (hp_ln h o)) :: r, h)) else none
  | _ => none
def pm_iald (sc : Sc_) (n : Nat) (L : Lc_) (st : List Value) (h : Hp_) : Option Out_ := match st with
  | .int i :: .ref o :: r =>
    if o = 0 then (match sc with | some (z, f) => if i < 0 ∨ z ≤ i.toNatClampNeg then none else some (.inl (n, L, .int (f i.toNatClampNeg) :: r, h)) | none => none)
    else if hp_kd h o = 1 then (if i < 0 ∨ hp_ln h o ≤ i.toNatClampNeg then none else some (.inl (n, L, .int (hp_I h o i.toNatClampNeg) :: r, h))) else none
  | _ => none
def pm_zald (n : Nat) (L : Lc_) (st : List Value) (h : Hp_) : Option Out_ := match st with
  | .int i :: .ref o :: r => if hp_kd h o = 3 then (if i < 0 ∨ hp_ln h o ≤ i.toNatClampNeg then none else some (.inl (n, L, .int (hp_I h o i.toNatClampNeg) :: r, h))) else none
  | _ => none
def pm_lald (n : Nat) (L : Lc_) (st : List Value) (h : Hp_) : Option Out_ := match st with
  | .int i :: .ref o :: r => if hp_kd h o = 2 then (if i < 0 ∨ hp_ln h o ≤ i.toNatClampNeg then none else some (.inl (n, L, .long (hp_J h o i.toNatClampNeg) :: r, h))) else none
  | _ => none
def pm_iast (n : Nat) (L : Lc_) (st : List Value) (h : Hp_) : Option Out_ := match st with
  | .int x :: .int i :: .ref o :: r => if hp_kd h o = 1 then (if i < 0 ∨ hp_ln h o ≤ i.toNatClampNeg then none else some (.inl (n, L, r, hp_rI h o (va_up (hp_I h o) i.toNatClampNeg x)))) else none
  | _ => none
def pm_zast (n : Nat) (L : Lc_) (st : List Value) (h : Hp_) : Option Out_ := match st with
  | .int x :: .int i :: .ref o :: r => if hp_kd h o = 3 ∧ (x = 0 ∨ x = 1) then (if i < 0 ∨ hp_ln h o ≤ i.toNatClampNeg then none else some (.inl (n, L, r, hp_rI h o (va_up (hp_I h o) i.toNatClampNeg x)))) else none
  | _ => none
def pm_last (n : Nat) (L : Lc_) (st : List Value) (h : Hp_) : Option Out_ := match st with
  | .long x :: .int i :: .ref o :: r => if hp_kd h o = 2 then (if i < 0 ∨ hp_ln h o ≤ i.toNatClampNeg then none else some (.inl (n, L, r, hp_rJ h o (va_up (hp_J h o) i.toNatClampNeg x)))) else none
  | _ => none
def pm_sw (lo hi : Int) (offs : Array Int) (pc a n : Nat) (L : Lc_) (st : List Value) (h : Hp_) : Option Out_ := match st with
  | .int x :: r =>
    if x.toInt < lo ∨ hi < x.toInt then some (.inl (a, L, r, h))
    else (match offs[(x.toInt - lo).toNat]? with
      | some off => if 0 ≤ (pc : Int) + off then some (.inl (((pc : Int) + off).toNat, L, r, h)) else none
      | none => none)
  | _ => none
/-- a: the method, b: how many arguments beside the receiver; c: the receiver's class -/
def pm_callV (a b c n : Nat) (L : Lc_) (st : List Value) (h : Hp_) : Option Out_ :=
  if b < st.length then (match st[b]? with
    | some (.ref o) => if hp_kd h o = c + 10 ∧ (st.drop (b + 1)).length ≤ 3 then some (.inr (.inr (a, .ref o :: (st.take b).reverse, n, L, st.drop (b + 1)))) else none
    | _ => none) else none
def pm_callS (a b n : Nat) (L : Lc_) (st : List Value) (_ : Hp_) : Option Out_ :=
  if b ≤ st.length ∧ (st.drop b).length ≤ 4 then some (.inr (.inr (a, (st.take b).reverse, n, L, st.drop b))) else none
/-- d = 2: java.lang.Object's own -/
def pm_callI (a b c d n : Nat) (L : Lc_) (st : List Value) (h : Hp_) : Option Out_ :=
  if d = 2 then (match st with | .ref o :: r => if hp_kd h o ≠ 0 ∧ r.length ≤ 3 then some (.inl (n, L, r, h)) else none | _ => none)
  else pm_callV a b c n L st h
/-- a: 0 int, 1 boolean -/
def pm_iret (a : Nat) (st : List Value) (h : Hp_) : Option Out_ := match st with
  | [.int x] => if a = 0 then some (.inr (.inl (some (.int x), h))) else if x = 0 ∨ x = 1 then some (.inr (.inl (some (.int x), h))) else none
  | _ => none
def pm_lret (st : List Value) (h : Hp_) : Option Out_ := match st with
  | [.long x] => some (.inr (.inl (some (.long x), h)))
  | _ => none
def pm_aret (st : List Value) (h : Hp_) : Option Out_ := match st with
  | [.ref x] => some (.inr (.inl (some (.ref x), h)))
  | _ => none
def pm_vret (st : List Value) (h : Hp_) : Option Out_ := match st with
  | [] => some (.inr (.inl (none, h)))
  | _ => none
def pm_sem (sc : Sc_) (pc : Nat) (e : Ent_) (L : Lc_) (st : List Value) (h : Hp_) : Option Out_ := match e with
  | (i, n, a, b, c, d, v, w) => match i with
    | .aload_n k => pm_ldA k n L st h
    | .aload k => pm_ldA k n L st h
    | .iload_n k => pm_ldI k n L st h
    | .iload k => pm_ldI k n L st h
    | .lload_n k => pm_ldJ k n L st h
    | .lload k => pm_ldJ k n L st h
    | .istore_n k => pm_stI k n L st h
    | .istore k => pm_stI k n L st h
    | .astore_n k => pm_stA k n L st h
    | .astore k => pm_stA k n L st h
    | .lstore_n k => pm_stL k n L st h
    | .lstore k => pm_stL k n L st h
    | .iconst _ => some (.inl (n, L, .int v :: st, h))
    | .bipush _ => some (.inl (n, L, .int v :: st, h))
    | .sipush _ => some (.inl (n, L, .int v :: st, h))
    | .ldc _ => some (.inl (n, L, .int v :: st, h))
    | .ldc_w _ => some (.inl (n, L, .int v :: st, h))
    | .lconst _ => some (.inl (n, L, .long w :: st, h))
    | .ldc2_w _ => some (.inl (n, L, .long w :: st, h))
    | .iinc k _ => pm_inc k v n L st h
    | .iadd => pm_bin (fun x y => x + y) n L st h
    | .isub => pm_bin (fun x y => x - y) n L st h
    | .imul => pm_bin (fun x y => x * y) n L st h
    | .iand => pm_bin (fun x y => x &&& y) n L st h
    | .ior => pm_bin (fun x y => x ||| y) n L st h
    | .ixor => pm_bin (fun x y => x ^^^ y) n L st h
    | .ishl => pm_bin (fun x y => x <<< (y &&& 31)) n L st h
    | .ishr => pm_bin (fun x y => x >>> (y &&& 31)) n L st h
    | .iushr => pm_bin (fun x y => (x.toUInt32 >>> (y.toUInt32 &&& Int32.toUInt32 31)).toInt32) n L st h
    | .idiv => pm_div (fun x y => x / y) n L st h
    | .irem => pm_div (fun x y => x - x / y * y) n L st h
    | .ladd => pm_binL (fun x y => x + y) n L st h
    | .lmul => pm_binL (fun x y => x * y) n L st h
    | .lrem => pm_divL (fun x y => x - x / y * y) n L st h
    | .lcmp => pm_cmpL n L st h
    | .i2l => pm_i2l n L st h
    | .l2i => pm_l2i n L st h
    | .dup => pm_dup n L st h
    | .pop => pm_pop n L st h
    | .goto _ => some (.inl (a, L, st, h))
    | .ifCond k _ => pm_if k a n L st h
    | .if_icmp k _ => pm_icmp k a n L st h
    | .tableswitch _ lo hi offs => pm_sw lo hi offs pc a n L st h
    | .getfield _ => pm_getf a b c n L st h
    | .putfield _ => pm_putf a b c n L st h
    | .new _ => pm_new a b n L st h
    | .newarray _ => pm_newa a n L st h
    | .arraylength => pm_alen sc n L st h
    | .iaload => pm_iald sc n L st h
    | .baload => pm_zald n L st h
    | .laload => pm_lald n L st h
    | .iastore => pm_iast n L st h
    | .bastore => pm_zast n L st h
    | .lastore => pm_last n L st h
    | .invokevirtual _ => pm_callV a b c n L st h
    | .invokestatic _ => pm_callS a b n L st h
    | .invokespecial _ => pm_callI a b c d n L st h
    | .ireturn => pm_iret a st h
    | .lreturn => pm_lret st h
    | .areturn => pm_aret st h
    | .return_ => pm_vret st h
    | _ => none
def pm_ex (call : Nat → List Value → Hp_ → Option (Option Value × Hp_)) (tab : Tab_) (sc : Sc_) : Nat → Nat → Lc_ → List Value → Hp_ → Option (Option Value × Hp_)
  | 0, _, _, _, _ => none
  | N + 1, pc, L, st, h => match pm_lk tab pc with
    | none => none
    | some e => match pm_sem sc pc e L st h with
      | none => none
      | some (.inl (pc', L', st', h')) => pm_ex call tab sc N pc' L' st' h'
      | some (.inr (.inl r)) => some r
      | some (.inr (.inr (y, as, pc', L', st'))) => match call y as h with
        | none => none
        | some (r, h') => pm_ex call tab sc N pc' L' (r.toList ++ st') h'
/-- a method: its name, bytes, locals, answer, table -/
abbrev Mi_ : Type := MethodName × ByteArray × Nat × Option FieldType × Tab_
def pm_lay : List Value → Nat → Lc_
  | [], n => List.replicate n none
  | v :: r, n => if v.category = 2 then some v :: none :: pm_lay r (n - 2) else some v :: pm_lay r (n - 1)
def pm_call (ms : Nat → Option Mi_) : Nat → Nat → Nat → List Value → Hp_ → Option (Option Value × Hp_)
  | 0, _, _, _, _ => none
  | d + 1, N, y, as, h => match ms y with
    | none => none
    | some (_, _, nL, _, tab) => if (as.map (fun v => v.category)).sum ≤ nL then pm_ex (pm_call ms d N) tab none N 0 (pm_lay as nL) [] h else none
end
section
-- ===== TABLES: printed by wip/gen/tab.py from the claim: classes, what is resolved, the methods =====
def tt_F0 : u_T := fun k => match k with
  | 0 => ("RoundDance", "pad", "LRoundDance$Pad;", true)
  | 1 => ("RoundDance", "market", "LRoundDance$Market;", true)
  | 2 => ("RoundDance", "imageA", "LRoundDance$Market;", true)
  | 3 => ("RoundDance", "imageB", "LRoundDance$Market;", true)
  | 4 => ("RoundDance", "keptImages", "I", false)
  | 5 => ("RoundDance", "moves", "[I", true)
  | 6 => ("RoundDance", "group", "LRoundDance$Group;", true)
  | 7 => ("RoundDance", "shortest", "LRoundDance$Shortest;", true)
  | 8 => ("RoundDance", "past", "LRoundDance$Past;", true)
  | _ => ("RoundDance", "evening", "LRoundDance$Evening;", true)
def tt_ty0 : Nat → FieldType := fun k => match k with
  | 0 => .object "RoundDance$Pad"
  | 1 => .object "RoundDance$Market"
  | 2 => .object "RoundDance$Market"
  | 3 => .object "RoundDance$Market"
  | 4 => .int
  | 5 => .array .int
  | 6 => .object "RoundDance$Group"
  | 7 => .object "RoundDance$Shortest"
  | 8 => .object "RoundDance$Past"
  | _ => .object "RoundDance$Evening"
def tt_F1 : u_T := fun k => match k with
  | 0 => ("RoundDance$Pad", "signs", "[I", true)
  | _ => ("RoundDance$Pad", "count", "I", false)
def tt_ty1 : Nat → FieldType := fun k => match k with
  | 0 => .array .int
  | _ => .int
def tt_F2 : u_T := fun k => match k with
  | 0 => ("RoundDance$Market", "size", "I", false)
  | 1 => ("RoundDance$Market", "standing", "I", false)
  | 2 => ("RoundDance$Market", "lame", "I", false)
  | 3 => ("RoundDance$Market", "played", "I", false)
  | 4 => ("RoundDance$Market", "lent", "I", false)
  | 5 => ("RoundDance$Market", "figures", "[I", true)
  | 6 => ("RoundDance$Market", "musics", "[I", true)
  | 7 => ("RoundDance$Market", "wants", "[I", true)
  | 8 => ("RoundDance$Market", "callers", "[I", true)
  | 9 => ("RoundDance$Market", "sights", "LRoundDance$Notes;", true)
  | _ => ("RoundDance$Market", "wishes", "LRoundDance$Notes;", true)
def tt_ty2 : Nat → FieldType := fun k => match k with
  | 0 => .int
  | 1 => .int
  | 2 => .int
  | 3 => .int
  | 4 => .int
  | 5 => .array .int
  | 6 => .array .int
  | 7 => .array .int
  | 8 => .array .int
  | 9 => .object "RoundDance$Notes"
  | _ => .object "RoundDance$Notes"
def tt_F3 : u_T := fun k => match k with
  | 0 => ("RoundDance$Notes", "marks", "[I", true)
  | _ => ("RoundDance$Notes", "count", "I", false)
def tt_ty3 : Nat → FieldType := fun k => match k with
  | 0 => .array .int
  | _ => .int
def tt_F4 : u_T := fun k => match k with
  | 0 => ("RoundDance$Group", "table", "[I", true)
  | 1 => ("RoundDance$Group", "made", "[I", true)
  | _ => ("RoundDance$Group", "count", "I", false)
def tt_ty4 : Nat → FieldType := fun k => match k with
  | 0 => .array .int
  | 1 => .array .int
  | _ => .int
def tt_F5 : u_T := fun k => match k with
  | 0 => ("RoundDance$Shortest", "orbit", "LRoundDance$Orbit;", true)
  | 1 => ("RoundDance$Shortest", "memo", "LRoundDance$Memo;", true)
  | 2 => ("RoundDance$Shortest", "end", "I", false)
  | _ => ("RoundDance$Shortest", "figures", "I", false)
def tt_ty5 : Nat → FieldType := fun k => match k with
  | 0 => .object "RoundDance$Orbit"
  | 1 => .object "RoundDance$Memo"
  | 2 => .int
  | _ => .int
def tt_F6 : u_T := fun k => match k with
  | 0 => ("RoundDance$Orbit", "keepsSteps", "Z", true)
  | 1 => ("RoundDance$Orbit", "size", "I", false)
  | 2 => ("RoundDance$Orbit", "goods", "I", false)
  | 3 => ("RoundDance$Orbit", "count", "I", false)
  | 4 => ("RoundDance$Orbit", "lyings", "[I", false)
  | 5 => ("RoundDance$Orbit", "origins", "[I", false)
  | 6 => ("RoundDance$Orbit", "numbers", "[I", false)
  | _ => ("RoundDance$Orbit", "steps", "[I", false)
def tt_ty6 : Nat → FieldType := fun k => match k with
  | 0 => .boolean
  | 1 => .int
  | 2 => .int
  | 3 => .int
  | 4 => .array .int
  | 5 => .array .int
  | 6 => .array .int
  | _ => .array .int
def tt_F7 : u_T := fun k => match k with
  | 0 => ("RoundDance$Memo", "parts", "[I", true)
  | 1 => ("RoundDance$Memo", "count", "I", false)
  | _ => ("RoundDance$Memo", "stands", "Z", false)
def tt_ty7 : Nat → FieldType := fun k => match k with
  | 0 => .array .int
  | 1 => .int
  | _ => .boolean
def tt_F8 : u_T := fun k => match k with
  | 0 => ("RoundDance$Past", "orbit", "LRoundDance$Orbit;", true)
  | 1 => ("RoundDance$Past", "memo", "LRoundDance$Memo;", true)
  | 2 => ("RoundDance$Past", "sights", "LRoundDance$Notes;", true)
  | 3 => ("RoundDance$Past", "firstRow", "[I", true)
  | 4 => ("RoundDance$Past", "candidates", "[I", true)
  | 5 => ("RoundDance$Past", "fittingRows", "J", false)
  | 6 => ("RoundDance$Past", "seenGoods", "I", false)
  | 7 => ("RoundDance$Past", "seenTimes", "I", false)
  | 8 => ("RoundDance$Past", "waysFrom", "[J", false)
  | 9 => ("RoundDance$Past", "waysAfter", "[J", false)
  | 10 => ("RoundDance$Past", "fitting", "[I", false)
  | _ => ("RoundDance$Past", "reached", "[I", false)
def tt_ty8 : Nat → FieldType := fun k => match k with
  | 0 => .object "RoundDance$Orbit"
  | 1 => .object "RoundDance$Memo"
  | 2 => .object "RoundDance$Notes"
  | 3 => .array .int
  | 4 => .array .int
  | 5 => .long
  | 6 => .int
  | 7 => .int
  | 8 => .array .long
  | 9 => .array .long
  | 10 => .array .int
  | _ => .array .int
def tt_F9 : u_T := fun k => match k with
  | 0 => ("RoundDance$Evening", "memo", "LRoundDance$Memo;", true)
  | 1 => ("RoundDance$Evening", "moves", "[I", true)
  | 2 => ("RoundDance$Evening", "wishes", "LRoundDance$Notes;", true)
  | 3 => ("RoundDance$Evening", "figures", "I", false)
  | 4 => ("RoundDance$Evening", "allWorth", "I", false)
  | 5 => ("RoundDance$Evening", "best", "I", false)
  | _ => ("RoundDance$Evening", "bestRow", "I", false)
def tt_ty9 : Nat → FieldType := fun k => match k with
  | 0 => .object "RoundDance$Memo"
  | 1 => .array .int
  | 2 => .object "RoundDance$Notes"
  | 3 => .int
  | 4 => .int
  | 5 => .int
  | _ => .int
def tt_F10 : u_T := fun k => match k with
  | 0 => ("RoundDanceModel", "places", "I", false)
  | 1 => ("RoundDanceModel", "told", "[I", true)
  | 2 => ("RoundDanceModel", "goodAt", "[I", true)
  | 3 => ("RoundDanceModel", "wanted", "[I", true)
  | 4 => ("RoundDanceModel", "lame", "I", false)
  | 5 => ("RoundDanceModel", "played", "I", false)
  | 6 => ("RoundDanceModel", "lent", "I", false)
  | 7 => ("RoundDanceModel", "music", "[I", true)
  | 8 => ("RoundDanceModel", "callers", "[I", true)
  | 9 => ("RoundDanceModel", "sightBehind", "[I", true)
  | 10 => ("RoundDanceModel", "sightGood", "[I", true)
  | 11 => ("RoundDanceModel", "sightPlace", "[I", true)
  | 12 => ("RoundDanceModel", "sights", "I", false)
  | 13 => ("RoundDanceModel", "wishGood", "[I", true)
  | 14 => ("RoundDanceModel", "wishPlace", "[I", true)
  | 15 => ("RoundDanceModel", "wishWorth", "[I", true)
  | 16 => ("RoundDanceModel", "wishes", "I", false)
  | 17 => ("RoundDanceModel", "pad", "[I", true)
  | 18 => ("RoundDanceModel", "padMany", "I", false)
  | 19 => ("RoundDanceModel", "goesTo", "[I", true)
  | 20 => ("RoundDanceModel", "moved", "[I", true)
  | 21 => ("RoundDanceModel", "rounds", "I", false)
  | 22 => ("RoundDanceModel", "codeOf", "[I", true)
  | 23 => ("RoundDanceModel", "next", "[I", true)
  | 24 => ("RoundDanceModel", "standing", "[I", true)
  | 25 => ("RoundDanceModel", "many", "I", false)
  | 26 => ("RoundDanceModel", "queue", "[I", true)
  | 27 => ("RoundDanceModel", "by", "[I", true)
  | 28 => ("RoundDanceModel", "from", "[I", true)
  | 29 => ("RoundDanceModel", "depth", "[I", true)
  | 30 => ("RoundDanceModel", "come", "I", false)
  | 31 => ("RoundDanceModel", "needs", "[I", true)
  | 32 => ("RoundDanceModel", "rowsOn", "[J", true)
  | 33 => ("RoundDanceModel", "isCome", "[Z", true)
  | 34 => ("RoundDanceModel", "comesNext", "[Z", true)
  | 35 => ("RoundDanceModel", "mayRow", "[I", true)
  | 36 => ("RoundDanceModel", "mayMany", "I", false)
  | 37 => ("RoundDanceModel", "kept", "[I", true)
  | 38 => ("RoundDanceModel", "isKept", "[Z", true)
  | 39 => ("RoundDanceModel", "keptAt", "I", false)
  | _ => ("RoundDanceModel", "isWriting", "Z", false)
def tt_ty10 : Nat → FieldType := fun k => match k with
  | 0 => .int
  | 1 => .array .int
  | 2 => .array .int
  | 3 => .array .int
  | 4 => .int
  | 5 => .int
  | 6 => .int
  | 7 => .array .int
  | 8 => .array .int
  | 9 => .array .int
  | 10 => .array .int
  | 11 => .array .int
  | 12 => .int
  | 13 => .array .int
  | 14 => .array .int
  | 15 => .array .int
  | 16 => .int
  | 17 => .array .int
  | 18 => .int
  | 19 => .array .int
  | 20 => .array .int
  | 21 => .int
  | 22 => .array .int
  | 23 => .array .int
  | 24 => .array .int
  | 25 => .int
  | 26 => .array .int
  | 27 => .array .int
  | 28 => .array .int
  | 29 => .array .int
  | 30 => .int
  | 31 => .array .int
  | 32 => .array .long
  | 33 => .array .boolean
  | 34 => .array .boolean
  | 35 => .array .int
  | 36 => .int
  | 37 => .array .int
  | 38 => .array .boolean
  | 39 => .int
  | _ => .boolean
def tt_cls : List vw_C := [("RoundDance", tt_F0, 10), ("RoundDance$Pad", tt_F1, 2), ("RoundDance$Market", tt_F2, 11), ("RoundDance$Notes", tt_F3, 2), ("RoundDance$Group", tt_F4, 3), ("RoundDance$Shortest", tt_F5, 4), ("RoundDance$Orbit", tt_F6, 8), ("RoundDance$Memo", tt_F7, 3), ("RoundDance$Past", tt_F8, 12), ("RoundDance$Evening", tt_F9, 7), ("RoundDanceModel", tt_F10, 41)]
def tt_tys : List (Nat → FieldType) := [tt_ty0, tt_ty1, tt_ty2, tt_ty3, tt_ty4, tt_ty5, tt_ty6, tt_ty7, tt_ty8, tt_ty9, tt_ty10]
/-- 0 int or boolean, 1 long, 2 reference -/
def tt_tg : List (List Nat) := [[2, 2, 2, 2, 0, 2, 2, 2, 2, 2], [2, 0], [0, 0, 0, 0, 0, 2, 2, 2, 2, 2, 2], [2, 0], [2, 2, 0], [2, 2, 0, 0], [0, 0, 0, 0, 2, 2, 2, 2], [2, 0, 0], [2, 2, 2, 2, 2, 1, 0, 0, 2, 2, 2, 2], [2, 2, 2, 0, 0, 0, 0], [0, 2, 2, 2, 0, 0, 0, 2, 2, 2, 2, 2, 0, 2, 2, 2, 0, 2, 0, 2, 2, 0, 2, 2, 2, 0, 2, 2, 2, 2, 0, 2, 2, 2, 2, 2, 0, 2, 2, 0, 0]]
def tt_own : List String := ["RoundDance", "RoundDance$Pad", "RoundDance$Market", "RoundDance$Notes", "RoundDance$Group", "RoundDance$Shortest", "RoundDance$Orbit", "RoundDance$Memo", "RoundDance$Past", "RoundDance$Evening", "RoundDanceModel", "RoundDance$Cells", "RoundDance$Maps", "java/lang/Integer", "RoundDanceLaw"]
/-- own, index, class, field, nest mate, place of the word -/
def tt_rF : List (Nat × Nat × Nat × Nat × Nat × Nat) := [(0, 10, 0, 0, 0, 396), (0, 19, 0, 1, 0, 397), (0, 23, 0, 2, 0, 398), (0, 26, 0, 3, 0, 399), (0, 29, 0, 4, 0, 400), (0, 33, 0, 5, 0, 401), (0, 40, 0, 6, 0, 402), (0, 47, 0, 7, 0, 403), (0, 54, 0, 8, 0, 404), (0, 61, 0, 9, 0, 405), (0, 67, 2, 0, 1, 175), (0, 74, 1, 1, 1, 134), (0, 106, 2, 5, 1, 187), (0, 274, 2, 2, 1, 181), (0, 277, 2, 3, 1, 183), (0, 280, 2, 4, 1, 185), (0, 141, 2, 6, 1, 189), (0, 147, 2, 1, 1, 179), (0, 172, 2, 7, 1, 192), (0, 183, 5, 3, 1, 299), (0, 201, 2, 8, 1, 194), (0, 210, 2, 9, 1, 197), (0, 286, 3, 1, 1, 159), (0, 228, 8, 5, 1, 329), (0, 232, 8, 3, 1, 325), (0, 235, 8, 4, 1, 327), (0, 238, 2, 10, 1, 200), (0, 244, 9, 5, 1, 378), (0, 247, 9, 6, 1, 380), (1, 11, 1, 0, 0, 132), (1, 15, 1, 1, 0, 133), (2, 9, 2, 3, 0, 182), (2, 15, 2, 4, 0, 184), (2, 18, 2, 5, 0, 186), (2, 22, 2, 6, 0, 188), (2, 27, 2, 7, 0, 190), (2, 30, 2, 8, 0, 193), (2, 36, 2, 9, 0, 195), (2, 40, 2, 10, 0, 198), (2, 53, 2, 0, 0, 173), (2, 57, 2, 1, 0, 177), (2, 60, 2, 2, 0, 180), (2, 63, 3, 1, 1, 155), (3, 9, 3, 0, 0, 153), (3, 13, 3, 1, 0, 154), (4, 9, 4, 0, 0, 230), (4, 15, 4, 1, 0, 231), (4, 18, 4, 2, 0, 232), (5, 12, 5, 0, 0, 295), (5, 21, 5, 1, 0, 296), (5, 25, 5, 2, 0, 297), (5, 29, 5, 3, 0, 298), (5, 32, 2, 0, 1, 174), (5, 37, 2, 7, 1, 191), (5, 79, 6, 3, 1, 256), (6, 9, 6, 1, 0, 253), (6, 15, 6, 2, 0, 254), (6, 18, 6, 3, 0, 255), (6, 21, 6, 4, 0, 258), (6, 25, 6, 5, 0, 259), (6, 28, 6, 6, 0, 260), (6, 31, 6, 7, 0, 261), (6, 34, 6, 0, 0, 252), (7, 9, 7, 0, 0, 285), (7, 13, 7, 1, 0, 286), (7, 17, 7, 2, 0, 287), (7, 37, 3, 1, 1, 157), (8, 14, 8, 0, 0, 321), (8, 23, 8, 1, 0, 322), (8, 30, 8, 2, 0, 323), (8, 34, 8, 3, 0, 324), (8, 38, 8, 4, 0, 326), (8, 41, 8, 5, 0, 328), (8, 45, 8, 6, 0, 330), (8, 49, 8, 7, 0, 331), (8, 52, 8, 8, 0, 332), (8, 56, 8, 9, 0, 333), (8, 59, 8, 10, 0, 334), (8, 62, 8, 11, 0, 335), (8, 65, 2, 9, 1, 196), (8, 79, 2, 0, 1, 176), (8, 107, 3, 1, 1, 156), (8, 147, 6, 3, 1, 257), (9, 12, 9, 0, 0, 372), (9, 18, 9, 1, 0, 373), (9, 25, 9, 2, 0, 374), (9, 29, 9, 3, 0, 375), (9, 33, 9, 4, 0, 376), (9, 36, 9, 5, 0, 377), (9, 39, 9, 6, 0, 379), (9, 53, 2, 1, 1, 178), (9, 58, 2, 10, 1, 199), (9, 108, 3, 1, 1, 158), (10, 7, 10, 1, 0, 1005), (10, 13, 10, 2, 0, 1006), (10, 16, 10, 3, 0, 1007), (10, 19, 10, 7, 0, 1011), (10, 22, 10, 8, 0, 1012), (10, 25, 10, 9, 0, 1013), (10, 28, 10, 10, 0, 1014), (10, 31, 10, 11, 0, 1015), (10, 34, 10, 13, 0, 1017), (10, 37, 10, 14, 0, 1018), (10, 40, 10, 15, 0, 1019), (10, 43, 10, 17, 0, 1021), (10, 46, 10, 19, 0, 1023), (10, 49, 10, 20, 0, 1024), (10, 53, 10, 22, 0, 1026), (10, 57, 10, 23, 0, 1027), (10, 60, 10, 24, 0, 1028), (10, 63, 10, 26, 0, 1030), (10, 66, 10, 27, 0, 1031), (10, 69, 10, 28, 0, 1032), (10, 72, 10, 29, 0, 1033), (10, 75, 10, 31, 0, 1035), (10, 79, 10, 32, 0, 1036), (10, 83, 10, 33, 0, 1037), (10, 87, 10, 34, 0, 1038), (10, 90, 10, 35, 0, 1039), (10, 93, 10, 37, 0, 1041), (10, 96, 10, 38, 0, 1042), (10, 99, 10, 5, 0, 1009), (10, 107, 10, 0, 0, 1004), (10, 110, 10, 4, 0, 1008), (10, 113, 10, 12, 0, 1016), (10, 116, 10, 16, 0, 1020), (10, 133, 10, 18, 0, 1022), (10, 154, 10, 6, 0, 1010), (10, 173, 10, 21, 0, 1025), (10, 204, 10, 30, 0, 1034), (10, 186, 10, 25, 0, 1029), (10, 242, 10, 36, 0, 1040), (10, 269, 10, 39, 0, 1043), (10, 265, 10, 40, 0, 1044)]
/-- own, index, method, nest mate (2: Object()), place of the word -/
def tt_rM : List (Nat × Nat × Nat × Nat × Nat) := [(0, 1, 0, 2, 123), (0, 9, 52, 1, 128), (0, 18, 58, 1, 143), (0, 39, 74, 1, 226), (0, 46, 80, 1, 242), (0, 53, 101, 1, 311), (0, 60, 114, 1, 364), (0, 70, 59, 1, 431), (0, 77, 53, 1, 436), (0, 80, 54, 1, 447), (0, 83, 5, 0, 455), (0, 87, 6, 0, 473), (0, 90, 7, 0, 481), (0, 268, 55, 1, 459), (0, 271, 57, 1, 477), (0, 93, 9, 0, 489), (0, 98, 56, 1, 493), (0, 102, 196, 1, 494), (0, 109, 188, 1, 497), (0, 115, 60, 1, 502), (0, 118, 11, 0, 506), (0, 121, 61, 1, 509), (0, 124, 189, 1, 526), (0, 128, 198, 1, 527), (0, 132, 13, 0, 532), (0, 135, 14, 0, 536), (0, 138, 15, 0, 540), (0, 144, 18, 0, 552), (0, 283, 62, 1, 556), (0, 150, 20, 0, 565), (0, 153, 200, 1, 569), (0, 156, 63, 1, 579), (0, 159, 202, 1, 588), (0, 162, 203, 1, 595), (0, 165, 204, 1, 604), (0, 168, 64, 1, 611), (0, 175, 65, 1, 619), (0, 179, 81, 1, 626), (0, 185, 83, 1, 702), (0, 188, 75, 1, 714), (0, 191, 78, 1, 732), (0, 194, 79, 1, 740), (0, 195, 190, 1, 749), (0, 198, 30, 0, 750), (0, 204, 33, 0, 762), (0, 207, 34, 0, 766), (0, 214, 36, 0, 774), (0, 289, 68, 1, 777), (0, 218, 38, 0, 786), (0, 224, 102, 1, 794), (0, 241, 115, 1, 908), (0, 250, 45, 0, 956), (0, 254, 46, 0, 961), (0, 257, 48, 0, 969), (0, 261, 66, 1, 973), (0, 265, 51, 0, 987), (1, 3, 0, 2, 131), (1, 19, 188, 1, 440), (1, 29, 56, 0, 463), (1, 33, 190, 1, 470), (1, 25, 189, 1, 467), (2, 3, 0, 2, 146), (2, 35, 67, 1, 149), (2, 43, 187, 1, 165), (2, 49, 59, 0, 168), (2, 70, 189, 1, 513), (2, 78, 197, 1, 514), (2, 74, 190, 1, 560), (2, 66, 198, 1, 583), (2, 81, 62, 0, 623), (2, 85, 61, 0, 624), (2, 89, 188, 1, 625), (2, 93, 195, 1, 977), (2, 97, 73, 1, 978), (3, 1, 0, 2, 152), (3, 17, 188, 1, 781), (3, 27, 70, 0, 806), (3, 23, 189, 1, 810), (3, 31, 195, 1, 927), (4, 1, 0, 2, 229), (4, 22, 187, 1, 718), (4, 30, 76, 0, 719), (4, 34, 189, 1, 728), (4, 38, 200, 1, 730), (4, 42, 77, 0, 723), (4, 46, 198, 1, 727), (4, 49, 188, 1, 731), (4, 53, 202, 1, 729), (5, 1, 0, 2, 245), (5, 9, 84, 1, 248), (5, 20, 95, 1, 281), (5, 41, 189, 1, 630), (5, 47, 63, 1, 631), (5, 51, 196, 1, 632), (5, 57, 96, 1, 633), (5, 60, 97, 1, 637), (5, 64, 98, 1, 647), (5, 68, 99, 1, 648), (5, 72, 85, 1, 652), (5, 76, 82, 0, 694), (5, 82, 92, 1, 698), (5, 85, 93, 1, 706), (6, 3, 0, 2, 251), (6, 38, 86, 0, 656), (6, 42, 87, 0, 664), (6, 46, 89, 0, 681), (6, 50, 189, 1, 679), (6, 56, 90, 0, 685), (6, 60, 188, 1, 680), (6, 74, 191, 1, 660), (6, 78, 187, 1, 663), (6, 82, 88, 0, 668), (6, 85, 198, 1, 672), (6, 88, 205, 0, 673), (6, 66, 91, 0, 689), (6, 69, 201, 1, 693), (7, 1, 0, 2, 284), (7, 31, 98, 0, 641), (7, 21, 189, 1, 645), (7, 27, 188, 1, 646), (7, 38, 70, 1, 827), (8, 3, 0, 2, 314), (8, 11, 84, 1, 316), (8, 22, 95, 1, 318), (8, 29, 67, 1, 320), (8, 68, 103, 0, 798), (8, 72, 96, 1, 820), (8, 75, 97, 1, 821), (8, 82, 98, 1, 822), (8, 86, 100, 1, 823), (8, 90, 99, 1, 828), (8, 94, 104, 0, 829), (8, 98, 106, 0, 846), (8, 101, 109, 0, 872), (8, 104, 112, 0, 884), (8, 110, 69, 1, 802), (8, 114, 71, 1, 811), (8, 117, 72, 1, 815), (8, 120, 68, 1, 819), (8, 124, 190, 1, 833), (8, 130, 105, 0, 834), (8, 133, 196, 1, 839), (8, 139, 205, 0, 838), (8, 144, 85, 1, 840), (8, 148, 192, 1, 841), (8, 152, 191, 1, 844), (8, 156, 187, 1, 845), (8, 164, 91, 1, 850), (8, 167, 107, 0, 851), (8, 170, 108, 0, 856), (8, 174, 194, 1, 867), (8, 178, 189, 1, 870), (8, 182, 188, 1, 871), (8, 186, 193, 1, 864), (8, 160, 198, 1, 855), (8, 190, 94, 1, 860), (8, 193, 110, 0, 876), (8, 196, 111, 0, 880), (8, 199, 113, 0, 888), (9, 3, 0, 2, 367), (9, 11, 95, 1, 369), (9, 24, 67, 1, 371), (9, 42, 96, 1, 912), (9, 45, 97, 1, 913), (9, 49, 98, 1, 914), (9, 59, 100, 1, 915), (9, 63, 99, 1, 916), (9, 67, 116, 0, 917), (9, 70, 73, 1, 923), (9, 73, 117, 0, 930), (9, 77, 118, 0, 936), (9, 81, 189, 1, 921), (9, 87, 188, 1, 922), (9, 120, 190, 1, 934), (9, 124, 69, 1, 935), (9, 91, 119, 0, 939), (9, 94, 120, 0, 946), (9, 98, 200, 1, 950), (9, 104, 196, 1, 951), (9, 111, 71, 1, 943), (9, 114, 198, 1, 944), (9, 117, 72, 1, 945), (10, 1, 0, 2, 996), (10, 103, 122, 0, 1000), (10, 123, 124, 0, 1135), (10, 143, 128, 0, 1152), (10, 147, 130, 0, 1160), (10, 136, 129, 0, 1156), (10, 140, 131, 0, 1164), (10, 157, 134, 0, 1176), (10, 151, 135, 0, 1180), (10, 167, 139, 0, 1198), (10, 164, 140, 0, 1202), (10, 170, 144, 0, 1218), (10, 180, 146, 0, 1226), (10, 176, 147, 0, 1230), (10, 207, 151, 0, 1245), (10, 210, 158, 0, 1272), (10, 198, 152, 0, 1249), (10, 201, 157, 0, 1268), (10, 195, 155, 0, 1261), (10, 189, 153, 0, 1253), (10, 192, 154, 0, 1257), (10, 183, 156, 0, 1265), (10, 213, 164, 0, 1296), (10, 228, 168, 0, 1314), (10, 218, 169, 0, 1318), (10, 222, 170, 0, 1322), (10, 234, 172, 0, 1330), (10, 237, 174, 0, 1338), (10, 231, 173, 0, 1334), (10, 250, 178, 0, 1356), (10, 253, 179, 0, 1360), (10, 245, 180, 0, 1364), (10, 275, 183, 0, 1380), (10, 272, 184, 0, 1384), (12, 18, 190, 1, 518), (12, 13, 198, 0, 519), (12, 24, 199, 0, 522), (12, 27, 196, 0, 525), (12, 9, 201, 0, 572), (12, 31, 200, 0, 599), (14, 9, 0, 0, 120), (14, 12, 121, 0, 993), (14, 13, 1, 0, 427), (14, 17, 123, 0, 1129), (14, 18, 2, 0, 432), (14, 21, 125, 0, 1138), (14, 22, 3, 0, 443), (14, 26, 126, 0, 1144), (14, 27, 4, 0, 451), (14, 30, 127, 0, 1148), (14, 31, 8, 0, 485), (14, 34, 132, 0, 1168), (14, 35, 10, 0, 498), (14, 39, 133, 0, 1172), (14, 40, 12, 0, 528), (14, 44, 136, 0, 1184), (14, 45, 16, 0, 544), (14, 48, 137, 0, 1190), (14, 49, 17, 0, 548), (14, 52, 138, 0, 1194), (14, 53, 19, 0, 561), (14, 56, 141, 0, 1206), (14, 57, 21, 0, 575), (14, 60, 142, 0, 1210), (14, 61, 22, 0, 584), (14, 64, 143, 0, 1214), (14, 65, 23, 0, 591), (14, 68, 145, 0, 1222), (14, 69, 24, 0, 600), (14, 72, 148, 0, 1233), (14, 73, 25, 0, 607), (14, 76, 149, 0, 1237), (14, 77, 26, 0, 615), (14, 80, 150, 0, 1241), (14, 81, 27, 0, 710), (14, 84, 159, 0, 1276), (14, 85, 28, 0, 736), (14, 88, 160, 0, 1280), (14, 89, 29, 0, 745), (14, 92, 161, 0, 1284), (14, 93, 31, 0, 754), (14, 96, 162, 0, 1288), (14, 97, 32, 0, 758), (14, 100, 163, 0, 1292), (14, 101, 35, 0, 770), (14, 104, 165, 0, 1300), (14, 105, 37, 0, 782), (14, 108, 166, 0, 1305), (14, 109, 39, 0, 789), (14, 113, 167, 0, 1309), (14, 114, 40, 0, 892), (14, 117, 171, 0, 1326), (14, 118, 41, 0, 896), (14, 121, 175, 0, 1342), (14, 122, 42, 0, 900), (14, 125, 176, 0, 1347), (14, 126, 43, 0, 904), (14, 129, 177, 0, 1351), (14, 130, 44, 0, 952), (14, 134, 181, 0, 1368), (14, 135, 47, 0, 965), (14, 138, 182, 0, 1376), (14, 139, 49, 0, 979), (14, 142, 185, 0, 1388), (14, 143, 50, 0, 983), (14, 146, 186, 0, 1392)]
def tt_rC : List (Nat × Nat × Nat × Nat) := [(0, 7, 1, 126), (0, 16, 2, 141), (0, 37, 4, 224), (0, 44, 5, 240), (0, 51, 8, 309), (0, 58, 9, 362), (2, 33, 3, 147), (5, 7, 6, 246), (5, 18, 7, 279), (8, 9, 6, 315), (8, 20, 7, 317), (8, 27, 3, 319), (9, 9, 7, 368), (9, 22, 3, 370), (14, 7, 0, 118), (14, 10, 10, 991)]
def tt_rK : List (Nat × Nat × Int32 × Nat) := [(0, 97, nI 16434824, 492), (0, 253, nI 65537, 960), (2, 56, nI 16434824, 172), (4, 56, nI 16434824, 744), (10, 52, nI 40320, 997), (10, 56, nI 241920, 998), (10, 78, nI 524160, 999), (12, 17, nI 16434824, 517), (12, 30, nI 1000000, 598), (13, 265, nI 1431655765, 676), (13, 266, nI 858993459, 677), (13, 267, nI 252645135, 678)]
def tt_rL : List (Nat × Nat × Int64 × Nat) := [(0, 222, (-2), 793), (10, 119, lN 3, 1133), (10, 121, lN 8, 1134), (10, 129, lN 33, 1142), (10, 131, lN 126, 1143), (10, 127, lN 5, 1167), (10, 160, lN 2, 1188), (10, 162, lN 63, 1189), (10, 216, lN 12, 1304), (10, 226, (-2), 1313), (10, 240, lN 99, 1346), (10, 248, lN 6, 1355), (10, 257, lN 9999, 1372), (10, 259, lN 75, 1373), (10, 261, lN 74, 1374), (10, 263, lN 65537, 1375), (10, 278, lN 10, 1396), (10, 280, lN 15, 1397), (10, 282, lN 30, 1398), (10, 284, lN 40, 1399)]
def tb_RoundDance_init : Tab_ := [(0, .aload_n 0, 1, 0, 0, 0, 0, 0, 0), (1, .invokespecial 1, 4, 0, 0, 0, 2, 0, 0), (4, .aload_n 0, 5, 0, 0, 0, 0, 0, 0), (5, .new 7, 8, 1, 2, 0, 0, 0, 0), (8, .dup, 9, 0, 0, 0, 0, 0, 0), (9, .invokespecial 9, 12, 52, 0, 1, 1, 0, 0), (12, .putfield 10, 15, 0, 0, 3, 0, 0, 0), (15, .aload_n 0, 16, 0, 0, 0, 0, 0, 0), (16, .new 16, 19, 2, 11, 0, 0, 0, 0), (19, .dup, 20, 0, 0, 0, 0, 0, 0), (20, .invokespecial 18, 23, 58, 0, 2, 1, 0, 0), (23, .putfield 19, 26, 0, 1, 3, 0, 0, 0), (26, .aload_n 0, 27, 0, 0, 0, 0, 0, 0), (27, .new 16, 30, 2, 11, 0, 0, 0, 0), (30, .dup, 31, 0, 0, 0, 0, 0, 0), (31, .invokespecial 18, 34, 58, 0, 2, 1, 0, 0), (34, .putfield 23, 37, 0, 2, 3, 0, 0, 0), (37, .aload_n 0, 38, 0, 0, 0, 0, 0, 0), (38, .new 16, 41, 2, 11, 0, 0, 0, 0), (41, .dup, 42, 0, 0, 0, 0, 0, 0), (42, .invokespecial 18, 45, 58, 0, 2, 1, 0, 0), (45, .putfield 26, 48, 0, 3, 3, 0, 0, 0), (48, .aload_n 0, 49, 0, 0, 0, 0, 0, 0), (49, .iconst 0, 50, 0, 0, 0, 0, nI 0, 0), (50, .putfield 29, 53, 0, 4, 0, 0, 0, 0), (53, .aload_n 0, 54, 0, 0, 0, 0, 0, 0), (54, .bipush 6, 56, 0, 0, 0, 0, nI 6, 0), (56, .newarray .int, 58, 1, 0, 0, 0, 0, 0), (58, .putfield 33, 61, 0, 5, 3, 0, 0, 0), (61, .aload_n 0, 62, 0, 0, 0, 0, 0, 0), (62, .new 37, 65, 4, 3, 0, 0, 0, 0), (65, .dup, 66, 0, 0, 0, 0, 0, 0), (66, .invokespecial 39, 69, 74, 0, 4, 1, 0, 0), (69, .putfield 40, 72, 0, 6, 3, 0, 0, 0), (72, .aload_n 0, 73, 0, 0, 0, 0, 0, 0), (73, .new 44, 76, 5, 4, 0, 0, 0, 0), (76, .dup, 77, 0, 0, 0, 0, 0, 0), (77, .invokespecial 46, 80, 80, 0, 5, 1, 0, 0), (80, .putfield 47, 83, 0, 7, 3, 0, 0, 0), (83, .aload_n 0, 84, 0, 0, 0, 0, 0, 0), (84, .new 51, 87, 8, 12, 0, 0, 0, 0), (87, .dup, 88, 0, 0, 0, 0, 0, 0), (88, .invokespecial 53, 91, 101, 0, 8, 1, 0, 0), (91, .putfield 54, 94, 0, 8, 3, 0, 0, 0), (94, .aload_n 0, 95, 0, 0, 0, 0, 0, 0), (95, .new 58, 98, 9, 7, 0, 0, 0, 0), (98, .dup, 99, 0, 0, 0, 0, 0, 0), (99, .invokespecial 60, 102, 114, 0, 9, 1, 0, 0), (102, .putfield 61, 105, 0, 9, 3, 0, 0, 0), (105, .return_, 106, 0, 0, 0, 0, 0, 0)]
def tx_RoundDance_init : List Nat := [0, 0, 0, 0, 0, 1, 0, 0, 1, 0, 2, 1, 0, 1, 0, 2, 2, 0, 1, 0, 2, 3, 0, 0, 4, 0, 0, 0, 5, 0, 2, 0, 3, 6, 0, 3, 0, 4, 7, 0, 4, 0, 5, 8, 0, 5, 0, 6, 9, 0]
def tb_RoundDance_places : Tab_ := [(0, .iload_n 1, 1, 0, 0, 0, 0, 0, 0), (1, .iconst 3, 2, 0, 0, 0, 0, nI 3, 0), (2, .if_icmp .lt 9, 5, 11, 0, 0, 0, 0, 0), (5, .iload_n 1, 6, 0, 0, 0, 0, 0, 0), (6, .bipush 8, 8, 0, 0, 0, 0, nI 8, 0), (8, .if_icmp .le 6, 11, 14, 0, 0, 0, 0, 0), (11, .bipush (-2), 13, 0, 0, 0, 0, (-2), 0), (13, .ireturn, 14, 0, 0, 0, 0, 0, 0), (14, .aload_n 0, 15, 0, 0, 0, 0, 0, 0), (15, .getfield 19, 18, 0, 1, 3, 0, 0, 0), (18, .getfield 67, 21, 2, 0, 0, 1, 0, 0), (21, .istore_n 2, 22, 0, 0, 0, 0, 0, 0), (22, .aload_n 0, 23, 0, 0, 0, 0, 0, 0), (23, .getfield 19, 26, 0, 1, 3, 0, 0, 0), (26, .iload_n 1, 27, 0, 0, 0, 0, 0, 0), (27, .invokevirtual 70, 30, 59, 1, 2, 1, 0, 0), (30, .iload_n 2, 31, 0, 0, 0, 0, 0, 0), (31, .ireturn, 32, 0, 0, 0, 0, 0, 0)]
def tx_RoundDance_places : List Nat := [0, 0, 0, 0, 0, 0, 0, 0, 0, 1, 10, 0, 0, 1, 0, 7, 0, 0]
def tb_RoundDance_say : Tab_ := [(0, .iload_n 1, 1, 0, 0, 0, 0, 0, 0), (1, .bipush 33, 3, 0, 0, 0, 0, nI 33, 0), (3, .if_icmp .lt 9, 6, 12, 0, 0, 0, 0, 0), (6, .iload_n 1, 7, 0, 0, 0, 0, 0, 0), (7, .bipush 126, 9, 0, 0, 0, 0, nI 126, 0), (9, .if_icmp .le 6, 12, 15, 0, 0, 0, 0, 0), (12, .bipush (-2), 14, 0, 0, 0, 0, (-2), 0), (14, .ireturn, 15, 0, 0, 0, 0, 0, 0), (15, .aload_n 0, 16, 0, 0, 0, 0, 0, 0), (16, .getfield 10, 19, 0, 0, 3, 0, 0, 0), (19, .getfield 74, 22, 1, 1, 0, 1, 0, 0), (22, .bipush 30, 24, 0, 0, 0, 0, nI 30, 0), (24, .if_icmp .lt 6, 27, 30, 0, 0, 0, 0, 0), (27, .bipush (-4), 29, 0, 0, 0, 0, (-4), 0), (29, .ireturn, 30, 0, 0, 0, 0, 0, 0), (30, .aload_n 0, 31, 0, 0, 0, 0, 0, 0), (31, .getfield 10, 34, 0, 0, 3, 0, 0, 0), (34, .iload_n 1, 35, 0, 0, 0, 0, 0, 0), (35, .invokevirtual 77, 38, 53, 1, 1, 1, 0, 0), (38, .aload_n 0, 39, 0, 0, 0, 0, 0, 0), (39, .getfield 10, 42, 0, 0, 3, 0, 0, 0), (42, .getfield 74, 45, 1, 1, 0, 1, 0, 0), (45, .ireturn, 46, 0, 0, 0, 0, 0, 0)]
def tx_RoundDance_say : List Nat := [0, 0, 0, 0, 0, 0, 0, 0, 0, 0, 11, 0, 0, 0, 0, 0, 0, 0, 8, 0, 0, 11, 0]
def tb_RoundDance_wipe : Tab_ := [(0, .aload_n 0, 1, 0, 0, 0, 0, 0, 0), (1, .getfield 10, 4, 0, 0, 3, 0, 0, 0), (4, .getfield 74, 7, 1, 1, 0, 1, 0, 0), (7, .istore_n 1, 8, 0, 0, 0, 0, 0, 0), (8, .aload_n 0, 9, 0, 0, 0, 0, 0, 0), (9, .getfield 10, 12, 0, 0, 3, 0, 0, 0), (12, .invokevirtual 80, 15, 54, 0, 1, 1, 0, 0), (15, .iload_n 1, 16, 0, 0, 0, 0, 0, 0), (16, .ireturn, 17, 0, 0, 0, 0, 0, 0)]
def tx_RoundDance_wipe : List Nat := [0, 0, 11, 0, 0, 0, 9, 0, 0]
def tb_RoundDance_fault : Tab_ := [(0, .iload_n 1, 1, 0, 0, 0, 0, 0, 0), (1, .ifCond .ne 8, 4, 9, 0, 0, 0, 0, 0), (4, .aload_n 0, 5, 0, 0, 0, 0, 0, 0), (5, .invokevirtual 83, 8, 5, 0, 0, 0, 0, 0), (8, .ireturn, 9, 0, 0, 0, 0, 0, 0), (9, .iload_n 1, 10, 0, 0, 0, 0, 0, 0), (10, .iconst 1, 11, 0, 0, 0, 0, nI 1, 0), (11, .if_icmp .ne 8, 14, 19, 0, 0, 0, 0, 0), (14, .aload_n 0, 15, 0, 0, 0, 0, 0, 0), (15, .invokevirtual 87, 18, 6, 0, 0, 0, 0, 0), (18, .ireturn, 19, 0, 0, 0, 0, 0, 0), (19, .iload_n 1, 20, 0, 0, 0, 0, 0, 0), (20, .iconst 2, 21, 0, 0, 0, 0, nI 2, 0), (21, .if_icmp .ne 8, 24, 29, 0, 0, 0, 0, 0), (24, .aload_n 0, 25, 0, 0, 0, 0, 0, 0), (25, .invokevirtual 90, 28, 7, 0, 0, 0, 0, 0), (28, .ireturn, 29, 0, 0, 0, 0, 0, 0), (29, .bipush (-2), 31, 0, 0, 0, 0, (-2), 0), (31, .ireturn, 32, 0, 0, 0, 0, 0, 0)]
def tx_RoundDance_fault : List Nat := [0, 0, 0, 10, 0, 0, 0, 0, 0, 11, 0, 0, 0, 0, 0, 12, 0, 0, 0]
def tb_RoundDance_figureFault : Tab_ := [(0, .aload_n 0, 1, 0, 0, 0, 0, 0, 0), (1, .getfield 10, 4, 0, 0, 3, 0, 0, 0), (4, .bipush 48, 6, 0, 0, 0, 0, nI 48, 0), (6, .aload_n 0, 7, 0, 0, 0, 0, 0, 0), (7, .getfield 19, 10, 0, 1, 3, 0, 0, 0), (10, .getfield 67, 13, 2, 0, 0, 1, 0, 0), (13, .invokevirtual 268, 16, 55, 2, 1, 1, 0, 0), (16, .ireturn, 17, 0, 0, 0, 0, 0, 0)]
def tx_RoundDance_figureFault : List Nat := [0, 0, 0, 0, 1, 10, 13, 0]
def tb_RoundDance_rowFault : Tab_ := [(0, .aload_n 0, 1, 0, 0, 0, 0, 0, 0), (1, .getfield 10, 4, 0, 0, 3, 0, 0, 0), (4, .bipush 65, 6, 0, 0, 0, 0, nI 65, 0), (6, .bipush 6, 8, 0, 0, 0, 0, nI 6, 0), (8, .invokevirtual 271, 11, 57, 2, 1, 1, 0, 0), (11, .ireturn, 12, 0, 0, 0, 0, 0, 0)]
def tx_RoundDance_rowFault : List Nat := [0, 0, 0, 0, 14, 0]
def tb_RoundDance_standingFault : Tab_ := [(0, .aload_n 0, 1, 0, 0, 0, 0, 0, 0), (1, .getfield 10, 4, 0, 0, 3, 0, 0, 0), (4, .bipush 97, 6, 0, 0, 0, 0, nI 97, 0), (6, .aload_n 0, 7, 0, 0, 0, 0, 0, 0), (7, .getfield 19, 10, 0, 1, 3, 0, 0, 0), (10, .getfield 67, 13, 2, 0, 0, 1, 0, 0), (13, .invokevirtual 268, 16, 55, 2, 1, 1, 0, 0), (16, .ireturn, 17, 0, 0, 0, 0, 0, 0)]
def tx_RoundDance_standingFault : List Nat := [0, 0, 0, 0, 1, 10, 13, 0]
def tb_RoundDance_figure : Tab_ := [(0, .iload_n 1, 1, 0, 0, 0, 0, 0, 0), (1, .invokestatic 93, 4, 9, 1, 0, 0, 0, 0), (4, .ifCond .ne 5, 7, 9, 0, 0, 0, 0, 0), (7, .iconst (-1), 8, 0, 0, 0, 0, (-1), 0), (8, .ireturn, 9, 0, 0, 0, 0, 0, 0), (9, .aload_n 0, 10, 0, 0, 0, 0, 0, 0), (10, .invokevirtual 83, 13, 5, 0, 0, 0, 0, 0), (13, .bipush (-6), 15, 0, 0, 0, 0, (-6), 0), (15, .if_icmp .eq 6, 18, 21, 0, 0, 0, 0, 0), (18, .bipush (-5), 20, 0, 0, 0, 0, (-5), 0), (20, .ireturn, 21, 0, 0, 0, 0, 0, 0), (21, .ldc 97, 23, 0, 0, 0, 0, nI 16434824, 0), (23, .istore_n 2, 24, 0, 0, 0, 0, 0, 0), (24, .iconst 0, 25, 0, 0, 0, 0, nI 0, 0), (25, .istore_n 3, 26, 0, 0, 0, 0, 0, 0), (26, .iload_n 3, 27, 0, 0, 0, 0, 0, 0), (27, .aload_n 0, 28, 0, 0, 0, 0, 0, 0), (28, .getfield 19, 31, 0, 1, 3, 0, 0, 0), (31, .getfield 67, 34, 2, 0, 0, 1, 0, 0), (34, .if_icmp .ge 26, 37, 60, 0, 0, 0, 0, 0), (37, .iload_n 2, 38, 0, 0, 0, 0, 0, 0), (38, .iload_n 3, 39, 0, 0, 0, 0, 0, 0), (39, .aload_n 0, 40, 0, 0, 0, 0, 0, 0), (40, .getfield 10, 43, 0, 0, 3, 0, 0, 0), (43, .iload_n 3, 44, 0, 0, 0, 0, 0, 0), (44, .invokevirtual 98, 47, 56, 1, 1, 1, 0, 0), (47, .bipush 48, 49, 0, 0, 0, 0, nI 48, 0), (49, .isub, 50, 0, 0, 0, 0, 0, 0), (50, .invokestatic 102, 53, 196, 3, 0, 1, 0, 0), (53, .istore_n 2, 54, 0, 0, 0, 0, 0, 0), (54, .iinc 3 1, 57, 0, 0, 0, 0, nI 1, 0), (57, .goto (-31), 60, 26, 0, 0, 0, 0, 0), (60, .aload_n 0, 61, 0, 0, 0, 0, 0, 0), (61, .getfield 19, 64, 0, 1, 3, 0, 0, 0), (64, .getfield 106, 67, 2, 5, 3, 1, 0, 0), (67, .iload_n 1, 68, 0, 0, 0, 0, 0, 0), (68, .iload_n 2, 69, 0, 0, 0, 0, 0, 0), (69, .invokestatic 109, 72, 188, 3, 0, 1, 0, 0), (72, .aload_n 0, 73, 0, 0, 0, 0, 0, 0), (73, .getfield 10, 76, 0, 0, 3, 0, 0, 0), (76, .invokevirtual 80, 79, 54, 0, 1, 1, 0, 0), (79, .iconst 1, 80, 0, 0, 0, 0, nI 1, 0), (80, .ireturn, 81, 0, 0, 0, 0, 0, 0)]
def tx_RoundDance_figure : List Nat := [0, 15, 0, 0, 0, 0, 10, 0, 0, 0, 0, 0, 0, 0, 0, 0, 0, 1, 10, 0, 0, 0, 0, 0, 0, 16, 0, 0, 17, 0, 0, 0, 0, 1, 12, 0, 0, 18, 0, 0, 9, 0, 0]
def tb_RoundDance_isFigure : Tab_ := [(0, .iload_n 0, 1, 0, 0, 0, 0, 0, 0), (1, .ifCond .lt 13, 4, 14, 0, 0, 0, 0, 0), (4, .iload_n 0, 5, 0, 0, 0, 0, 0, 0), (5, .bipush 6, 7, 0, 0, 0, 0, nI 6, 0), (7, .if_icmp .ge 7, 10, 14, 0, 0, 0, 0, 0), (10, .iconst 1, 11, 0, 0, 0, 0, nI 1, 0), (11, .goto 4, 14, 15, 0, 0, 0, 0, 0), (14, .iconst 0, 15, 0, 0, 0, 0, nI 0, 0), (15, .ireturn, 16, 1, 0, 0, 0, 0, 0)]
def tx_RoundDance_isFigure : List Nat := [0, 0, 0, 0, 0, 0, 0, 0, 0]
def tb_RoundDance_goes : Tab_ := [(0, .iload_n 1, 1, 0, 0, 0, 0, 0, 0), (1, .invokestatic 93, 4, 9, 1, 0, 0, 0, 0), (4, .ifCond .eq 14, 7, 18, 0, 0, 0, 0, 0), (7, .aload_n 0, 8, 0, 0, 0, 0, 0, 0), (8, .getfield 19, 11, 0, 1, 3, 0, 0, 0), (11, .iload_n 2, 12, 0, 0, 0, 0, 0, 0), (12, .invokevirtual 115, 15, 60, 1, 2, 1, 0, 0), (15, .ifCond .ne 5, 18, 20, 0, 0, 0, 0, 0), (18, .iconst (-1), 19, 0, 0, 0, 0, (-1), 0), (19, .ireturn, 20, 0, 0, 0, 0, 0, 0), (20, .iload_n 3, 21, 0, 0, 0, 0, 0, 0), (21, .invokestatic 118, 24, 11, 1, 0, 0, 0, 0), (24, .ifCond .ne 6, 27, 30, 0, 0, 0, 0, 0), (27, .bipush (-2), 29, 0, 0, 0, 0, (-2), 0), (29, .ireturn, 30, 0, 0, 0, 0, 0, 0), (30, .iload_n 3, 31, 0, 0, 0, 0, 0, 0), (31, .iconst 1, 32, 0, 0, 0, 0, nI 1, 0), (32, .if_icmp .ne 14, 35, 46, 0, 0, 0, 0, 0), (35, .aload_n 0, 36, 0, 0, 0, 0, 0, 0), (36, .getfield 19, 39, 0, 1, 3, 0, 0, 0), (39, .iload_n 1, 40, 0, 0, 0, 0, 0, 0), (40, .invokevirtual 121, 43, 61, 1, 2, 1, 0, 0), (43, .goto 14, 46, 57, 0, 0, 0, 0, 0), (46, .aload_n 0, 47, 0, 0, 0, 0, 0, 0), (47, .getfield 19, 50, 0, 1, 3, 0, 0, 0), (50, .getfield 106, 53, 2, 5, 3, 1, 0, 0), (53, .iload_n 1, 54, 0, 0, 0, 0, 0, 0), (54, .invokestatic 124, 57, 189, 2, 0, 1, 0, 0), (57, .istore 4, 59, 0, 0, 0, 0, 0, 0), (59, .iload 4, 61, 0, 0, 0, 0, 0, 0), (61, .iload_n 2, 62, 0, 0, 0, 0, 0, 0), (62, .invokestatic 128, 65, 198, 2, 0, 1, 0, 0), (65, .ireturn, 66, 0, 0, 0, 0, 0, 0)]
def tx_RoundDance_goes : List Nat := [0, 15, 0, 0, 1, 0, 19, 0, 0, 0, 0, 20, 0, 0, 0, 0, 0, 0, 0, 1, 0, 21, 0, 0, 1, 12, 0, 22, 0, 0, 0, 23, 0]
def tb_RoundDance_isYesOrNo : Tab_ := [(0, .iload_n 0, 1, 0, 0, 0, 0, 0, 0), (1, .ifCond .eq 8, 4, 9, 0, 0, 0, 0, 0), (4, .iload_n 0, 5, 0, 0, 0, 0, 0, 0), (5, .iconst 1, 6, 0, 0, 0, 0, nI 1, 0), (6, .if_icmp .ne 7, 9, 13, 0, 0, 0, 0, 0), (9, .iconst 1, 10, 0, 0, 0, 0, nI 1, 0), (10, .goto 4, 13, 14, 0, 0, 0, 0, 0), (13, .iconst 0, 14, 0, 0, 0, 0, nI 0, 0), (14, .ireturn, 15, 1, 0, 0, 0, 0, 0)]
def tx_RoundDance_isYesOrNo : List Nat := [0, 0, 0, 0, 0, 0, 0, 0, 0]
def tb_RoundDance_set : Tab_ := [(0, .iload_n 1, 1, 0, 0, 0, 0, 0, 0), (1, .ifCond .ne 9, 4, 10, 0, 0, 0, 0, 0), (4, .aload_n 0, 5, 0, 0, 0, 0, 0, 0), (5, .iload_n 2, 6, 0, 0, 0, 0, 0, 0), (6, .invokevirtual 132, 9, 13, 1, 0, 0, 0, 0), (9, .ireturn, 10, 0, 0, 0, 0, 0, 0), (10, .iload_n 1, 11, 0, 0, 0, 0, 0, 0), (11, .iconst 1, 12, 0, 0, 0, 0, nI 1, 0), (12, .if_icmp .ne 9, 15, 21, 0, 0, 0, 0, 0), (15, .aload_n 0, 16, 0, 0, 0, 0, 0, 0), (16, .iload_n 2, 17, 0, 0, 0, 0, 0, 0), (17, .invokevirtual 135, 20, 14, 1, 0, 0, 0, 0), (20, .ireturn, 21, 0, 0, 0, 0, 0, 0), (21, .iload_n 1, 22, 0, 0, 0, 0, 0, 0), (22, .iconst 2, 23, 0, 0, 0, 0, nI 2, 0), (23, .if_icmp .ne 9, 26, 32, 0, 0, 0, 0, 0), (26, .aload_n 0, 27, 0, 0, 0, 0, 0, 0), (27, .iload_n 2, 28, 0, 0, 0, 0, 0, 0), (28, .invokevirtual 138, 31, 15, 1, 0, 0, 0, 0), (31, .ireturn, 32, 0, 0, 0, 0, 0, 0), (32, .bipush (-2), 34, 0, 0, 0, 0, (-2), 0), (34, .ireturn, 35, 0, 0, 0, 0, 0, 0)]
def tx_RoundDance_set : List Nat := [0, 0, 0, 0, 24, 0, 0, 0, 0, 0, 0, 25, 0, 0, 0, 0, 0, 0, 26, 0, 0, 0]
def tb_RoundDance_setLame : Tab_ := [(0, .iload_n 1, 1, 0, 0, 0, 0, 0, 0), (1, .ifCond .lt 16, 4, 17, 0, 0, 0, 0, 0), (4, .iload_n 1, 5, 0, 0, 0, 0, 0, 0), (5, .iconst 1, 6, 0, 0, 0, 0, nI 1, 0), (6, .aload_n 0, 7, 0, 0, 0, 0, 0, 0), (7, .getfield 19, 10, 0, 1, 3, 0, 0, 0), (10, .getfield 67, 13, 2, 0, 0, 1, 0, 0), (13, .ishl, 14, 0, 0, 0, 0, 0, 0), (14, .if_icmp .lt 6, 17, 20, 0, 0, 0, 0, 0), (17, .bipush (-2), 19, 0, 0, 0, 0, (-2), 0), (19, .ireturn, 20, 0, 0, 0, 0, 0, 0), (20, .aload_n 0, 21, 0, 0, 0, 0, 0, 0), (21, .getfield 19, 24, 0, 1, 3, 0, 0, 0), (24, .getfield 274, 27, 2, 2, 0, 1, 0, 0), (27, .istore_n 2, 28, 0, 0, 0, 0, 0, 0), (28, .aload_n 0, 29, 0, 0, 0, 0, 0, 0), (29, .getfield 19, 32, 0, 1, 3, 0, 0, 0), (32, .iload_n 1, 33, 0, 0, 0, 0, 0, 0), (33, .putfield 274, 36, 2, 2, 0, 1, 0, 0), (36, .iload_n 2, 37, 0, 0, 0, 0, 0, 0), (37, .ireturn, 38, 0, 0, 0, 0, 0, 0)]
def tx_RoundDance_setLame : List Nat := [0, 0, 0, 0, 0, 1, 10, 0, 0, 0, 0, 0, 1, 13, 0, 0, 1, 0, 13, 0, 0]
def tb_RoundDance_setPlayed : Tab_ := [(0, .iload_n 1, 1, 0, 0, 0, 0, 0, 0), (1, .iconst 1, 2, 0, 0, 0, 0, nI 1, 0), (2, .if_icmp .lt 8, 5, 10, 0, 0, 0, 0, 0), (5, .iload_n 1, 6, 0, 0, 0, 0, 0, 0), (6, .iconst 2, 7, 0, 0, 0, 0, nI 2, 0), (7, .if_icmp .le 6, 10, 13, 0, 0, 0, 0, 0), (10, .bipush (-2), 12, 0, 0, 0, 0, (-2), 0), (12, .ireturn, 13, 0, 0, 0, 0, 0, 0), (13, .aload_n 0, 14, 0, 0, 0, 0, 0, 0), (14, .getfield 19, 17, 0, 1, 3, 0, 0, 0), (17, .getfield 277, 20, 2, 3, 0, 1, 0, 0), (20, .istore_n 2, 21, 0, 0, 0, 0, 0, 0), (21, .aload_n 0, 22, 0, 0, 0, 0, 0, 0), (22, .getfield 19, 25, 0, 1, 3, 0, 0, 0), (25, .iload_n 1, 26, 0, 0, 0, 0, 0, 0), (26, .putfield 277, 29, 2, 3, 0, 1, 0, 0), (29, .iload_n 2, 30, 0, 0, 0, 0, 0, 0), (30, .ireturn, 31, 0, 0, 0, 0, 0, 0)]
def tx_RoundDance_setPlayed : List Nat := [0, 0, 0, 0, 0, 0, 0, 0, 0, 1, 14, 0, 0, 1, 0, 14, 0, 0]
def tb_RoundDance_setLent : Tab_ := [(0, .iload_n 1, 1, 0, 0, 0, 0, 0, 0), (1, .ifCond .lt 9, 4, 10, 0, 0, 0, 0, 0), (4, .iload_n 1, 5, 0, 0, 0, 0, 0, 0), (5, .bipush 63, 7, 0, 0, 0, 0, nI 63, 0), (7, .if_icmp .le 6, 10, 13, 0, 0, 0, 0, 0), (10, .bipush (-2), 12, 0, 0, 0, 0, (-2), 0), (12, .ireturn, 13, 0, 0, 0, 0, 0, 0), (13, .aload_n 0, 14, 0, 0, 0, 0, 0, 0), (14, .getfield 19, 17, 0, 1, 3, 0, 0, 0), (17, .getfield 280, 20, 2, 4, 0, 1, 0, 0), (20, .istore_n 2, 21, 0, 0, 0, 0, 0, 0), (21, .aload_n 0, 22, 0, 0, 0, 0, 0, 0), (22, .getfield 19, 25, 0, 1, 3, 0, 0, 0), (25, .iload_n 1, 26, 0, 0, 0, 0, 0, 0), (26, .putfield 280, 29, 2, 4, 0, 1, 0, 0), (29, .iload_n 2, 30, 0, 0, 0, 0, 0, 0), (30, .ireturn, 31, 0, 0, 0, 0, 0, 0)]
def tx_RoundDance_setLent : List Nat := [0, 0, 0, 0, 0, 0, 0, 0, 1, 15, 0, 0, 1, 0, 15, 0, 0]
def tb_RoundDance_music : Tab_ := [(0, .iload_n 1, 1, 0, 0, 0, 0, 0, 0), (1, .invokestatic 93, 4, 9, 1, 0, 0, 0, 0), (4, .ifCond .ne 5, 7, 9, 0, 0, 0, 0, 0), (7, .iconst (-1), 8, 0, 0, 0, 0, (-1), 0), (8, .ireturn, 9, 0, 0, 0, 0, 0, 0), (9, .iload_n 2, 10, 0, 0, 0, 0, 0, 0), (10, .iconst 1, 11, 0, 0, 0, 0, nI 1, 0), (11, .if_icmp .lt 8, 14, 19, 0, 0, 0, 0, 0), (14, .iload_n 2, 15, 0, 0, 0, 0, 0, 0), (15, .iconst 3, 16, 0, 0, 0, 0, nI 3, 0), (16, .if_icmp .le 6, 19, 22, 0, 0, 0, 0, 0), (19, .bipush (-2), 21, 0, 0, 0, 0, (-2), 0), (21, .ireturn, 22, 0, 0, 0, 0, 0, 0), (22, .aload_n 0, 23, 0, 0, 0, 0, 0, 0), (23, .getfield 19, 26, 0, 1, 3, 0, 0, 0), (26, .getfield 141, 29, 2, 6, 3, 1, 0, 0), (29, .iload_n 1, 30, 0, 0, 0, 0, 0, 0), (30, .invokestatic 124, 33, 189, 2, 0, 1, 0, 0), (33, .istore_n 3, 34, 0, 0, 0, 0, 0, 0), (34, .aload_n 0, 35, 0, 0, 0, 0, 0, 0), (35, .getfield 19, 38, 0, 1, 3, 0, 0, 0), (38, .getfield 141, 41, 2, 6, 3, 1, 0, 0), (41, .iload_n 1, 42, 0, 0, 0, 0, 0, 0), (42, .iload_n 2, 43, 0, 0, 0, 0, 0, 0), (43, .invokestatic 109, 46, 188, 3, 0, 1, 0, 0), (46, .iload_n 3, 47, 0, 0, 0, 0, 0, 0), (47, .ireturn, 48, 0, 0, 0, 0, 0, 0)]
def tx_RoundDance_music : List Nat := [0, 15, 0, 0, 0, 0, 0, 0, 0, 0, 0, 0, 0, 0, 1, 16, 0, 22, 0, 0, 1, 16, 0, 0, 18, 0, 0]
def tb_RoundDance_judge : Tab_ := [(0, .aload_n 0, 1, 0, 0, 0, 0, 0, 0), (1, .invokevirtual 87, 4, 6, 0, 0, 0, 0, 0), (4, .bipush (-6), 6, 0, 0, 0, 0, (-6), 0), (6, .if_icmp .eq 6, 9, 12, 0, 0, 0, 0, 0), (9, .bipush (-5), 11, 0, 0, 0, 0, (-5), 0), (11, .ireturn, 12, 0, 0, 0, 0, 0, 0), (12, .aload_n 0, 13, 0, 0, 0, 0, 0, 0), (13, .invokevirtual 144, 16, 18, 0, 0, 0, 0, 0), (16, .ireturn, 17, 0, 0, 0, 0, 0, 0)]
def tx_RoundDance_judge : List Nat := [0, 11, 0, 0, 0, 0, 0, 27, 0]
def tb_RoundDance_firstForbidden : Tab_ := [(0, .iconst 0, 1, 0, 0, 0, 0, nI 0, 0), (1, .istore_n 1, 2, 0, 0, 0, 0, 0, 0), (2, .iload_n 1, 3, 0, 0, 0, 0, 0, 0), (3, .aload_n 0, 4, 0, 0, 0, 0, 0, 0), (4, .getfield 10, 7, 0, 0, 3, 0, 0, 0), (7, .getfield 74, 10, 1, 1, 0, 1, 0, 0), (10, .if_icmp .ge 32, 13, 42, 0, 0, 0, 0, 0), (13, .aload_n 0, 14, 0, 0, 0, 0, 0, 0), (14, .getfield 19, 17, 0, 1, 3, 0, 0, 0), (17, .aload_n 0, 18, 0, 0, 0, 0, 0, 0), (18, .getfield 10, 21, 0, 0, 3, 0, 0, 0), (21, .iload_n 1, 22, 0, 0, 0, 0, 0, 0), (22, .invokevirtual 98, 25, 56, 1, 1, 1, 0, 0), (25, .bipush 65, 27, 0, 0, 0, 0, nI 65, 0), (27, .isub, 28, 0, 0, 0, 0, 0, 0), (28, .invokevirtual 283, 31, 62, 1, 2, 1, 0, 0), (31, .ifCond .ne 5, 34, 36, 0, 0, 0, 0, 0), (34, .iload_n 1, 35, 0, 0, 0, 0, 0, 0), (35, .ireturn, 36, 0, 0, 0, 0, 0, 0), (36, .iinc 1 1, 39, 0, 0, 0, 0, nI 1, 0), (39, .goto (-37), 42, 2, 0, 0, 0, 0, 0), (42, .bipush (-6), 44, 0, 0, 0, 0, (-6), 0), (44, .ireturn, 45, 0, 0, 0, 0, 0, 0)]
def tx_RoundDance_firstForbidden : List Nat := [0, 0, 0, 0, 0, 11, 0, 0, 1, 0, 0, 0, 16, 0, 0, 28, 0, 0, 0, 0, 0, 0, 0]
def tb_RoundDance_dance : Tab_ := [(0, .aload_n 0, 1, 0, 0, 0, 0, 0, 0), (1, .invokevirtual 87, 4, 6, 0, 0, 0, 0, 0), (4, .bipush (-6), 6, 0, 0, 0, 0, (-6), 0), (6, .if_icmp .ne 12, 9, 18, 0, 0, 0, 0, 0), (9, .aload_n 0, 10, 0, 0, 0, 0, 0, 0), (10, .invokevirtual 144, 13, 18, 0, 0, 0, 0, 0), (13, .bipush (-6), 15, 0, 0, 0, 0, (-6), 0), (15, .if_icmp .eq 6, 18, 21, 0, 0, 0, 0, 0), (18, .bipush (-5), 20, 0, 0, 0, 0, (-5), 0), (20, .ireturn, 21, 0, 0, 0, 0, 0, 0), (21, .aload_n 0, 22, 0, 0, 0, 0, 0, 0), (22, .getfield 10, 25, 0, 0, 3, 0, 0, 0), (25, .getfield 74, 28, 1, 1, 0, 1, 0, 0), (28, .istore_n 1, 29, 0, 0, 0, 0, 0, 0), (29, .aload_n 0, 30, 0, 0, 0, 0, 0, 0), (30, .getfield 19, 33, 0, 1, 3, 0, 0, 0), (33, .aload_n 0, 34, 0, 0, 0, 0, 0, 0), (34, .getfield 19, 37, 0, 1, 3, 0, 0, 0), (37, .getfield 147, 40, 2, 1, 0, 1, 0, 0), (40, .aload_n 0, 41, 0, 0, 0, 0, 0, 0), (41, .invokevirtual 150, 44, 20, 0, 0, 0, 0, 0), (44, .invokestatic 153, 47, 200, 2, 0, 1, 0, 0), (47, .putfield 147, 50, 2, 1, 0, 1, 0, 0), (50, .aload_n 0, 51, 0, 0, 0, 0, 0, 0), (51, .getfield 10, 54, 0, 0, 3, 0, 0, 0), (54, .invokevirtual 80, 57, 54, 0, 1, 1, 0, 0), (57, .iload_n 1, 58, 0, 0, 0, 0, 0, 0), (58, .ireturn, 59, 0, 0, 0, 0, 0, 0)]
def tx_RoundDance_dance : List Nat := [0, 11, 0, 0, 0, 27, 0, 0, 0, 0, 0, 0, 11, 0, 0, 1, 0, 1, 17, 0, 29, 30, 17, 0, 0, 9, 0, 0]
def tb_RoundDance_rowMap : Tab_ := [(0, .ldc 97, 2, 0, 0, 0, 0, nI 16434824, 0), (2, .istore_n 1, 3, 0, 0, 0, 0, 0, 0), (3, .iconst 0, 4, 0, 0, 0, 0, nI 0, 0), (4, .istore_n 2, 5, 0, 0, 0, 0, 0, 0), (5, .iload_n 2, 6, 0, 0, 0, 0, 0, 0), (6, .aload_n 0, 7, 0, 0, 0, 0, 0, 0), (7, .getfield 10, 10, 0, 0, 3, 0, 0, 0), (10, .getfield 74, 13, 1, 1, 0, 1, 0, 0), (13, .if_icmp .ge 32, 16, 45, 0, 0, 0, 0, 0), (16, .iload_n 1, 17, 0, 0, 0, 0, 0, 0), (17, .aload_n 0, 18, 0, 0, 0, 0, 0, 0), (18, .getfield 19, 21, 0, 1, 3, 0, 0, 0), (21, .aload_n 0, 22, 0, 0, 0, 0, 0, 0), (22, .getfield 10, 25, 0, 0, 3, 0, 0, 0), (25, .iload_n 2, 26, 0, 0, 0, 0, 0, 0), (26, .invokevirtual 98, 29, 56, 1, 1, 1, 0, 0), (29, .bipush 65, 31, 0, 0, 0, 0, nI 65, 0), (31, .isub, 32, 0, 0, 0, 0, 0, 0), (32, .invokevirtual 121, 35, 61, 1, 2, 1, 0, 0), (35, .invokestatic 153, 38, 200, 2, 0, 1, 0, 0), (38, .istore_n 1, 39, 0, 0, 0, 0, 0, 0), (39, .iinc 2 1, 42, 0, 0, 0, 0, nI 1, 0), (42, .goto (-37), 45, 5, 0, 0, 0, 0, 0), (45, .iload_n 1, 46, 0, 0, 0, 0, 0, 0), (46, .ireturn, 47, 0, 0, 0, 0, 0, 0)]
def tx_RoundDance_rowMap : List Nat := [0, 0, 0, 0, 0, 0, 0, 11, 0, 0, 0, 1, 0, 0, 0, 16, 0, 0, 21, 30, 0, 0, 0, 0, 0]
def tb_RoundDance_home : Tab_ := [(0, .iconst 0, 1, 0, 0, 0, 0, nI 0, 0), (1, .istore_n 1, 2, 0, 0, 0, 0, 0, 0), (2, .iconst 0, 3, 0, 0, 0, 0, nI 0, 0), (3, .istore_n 2, 4, 0, 0, 0, 0, 0, 0), (4, .iload_n 2, 5, 0, 0, 0, 0, 0, 0), (5, .aload_n 0, 6, 0, 0, 0, 0, 0, 0), (6, .getfield 19, 9, 0, 1, 3, 0, 0, 0), (9, .getfield 67, 12, 2, 0, 0, 1, 0, 0), (12, .if_icmp .ge 24, 15, 36, 0, 0, 0, 0, 0), (15, .aload_n 0, 16, 0, 0, 0, 0, 0, 0), (16, .getfield 19, 19, 0, 1, 3, 0, 0, 0), (19, .iload_n 2, 20, 0, 0, 0, 0, 0, 0), (20, .invokevirtual 156, 23, 63, 1, 2, 1, 0, 0), (23, .iload_n 2, 24, 0, 0, 0, 0, 0, 0), (24, .if_icmp .eq 6, 27, 30, 0, 0, 0, 0, 0), (27, .iinc 1 1, 30, 0, 0, 0, 0, nI 1, 0), (30, .iinc 2 1, 33, 0, 0, 0, 0, nI 1, 0), (33, .goto (-29), 36, 4, 0, 0, 0, 0, 0), (36, .aload_n 0, 37, 0, 0, 0, 0, 0, 0), (37, .getfield 19, 40, 0, 1, 3, 0, 0, 0), (40, .ldc 97, 42, 0, 0, 0, 0, nI 16434824, 0), (42, .putfield 147, 45, 2, 1, 0, 1, 0, 0), (45, .iload_n 1, 46, 0, 0, 0, 0, 0, 0), (46, .ireturn, 47, 0, 0, 0, 0, 0, 0)]
def tx_RoundDance_home : List Nat := [0, 0, 0, 0, 0, 0, 1, 10, 0, 0, 1, 0, 31, 0, 0, 0, 0, 0, 0, 1, 0, 17, 0, 0]
def tb_RoundDance_where : Tab_ := [(0, .aload_n 0, 1, 0, 0, 0, 0, 0, 0), (1, .getfield 19, 4, 0, 1, 3, 0, 0, 0), (4, .iload_n 1, 5, 0, 0, 0, 0, 0, 0), (5, .invokevirtual 115, 8, 60, 1, 2, 1, 0, 0), (8, .ifCond .ne 5, 11, 13, 0, 0, 0, 0, 0), (11, .iconst (-1), 12, 0, 0, 0, 0, (-1), 0), (12, .ireturn, 13, 0, 0, 0, 0, 0, 0), (13, .iload_n 2, 14, 0, 0, 0, 0, 0, 0), (14, .invokestatic 118, 17, 11, 1, 0, 0, 0, 0), (17, .ifCond .ne 6, 20, 23, 0, 0, 0, 0, 0), (20, .bipush (-2), 22, 0, 0, 0, 0, (-2), 0), (22, .ireturn, 23, 0, 0, 0, 0, 0, 0), (23, .iload_n 2, 24, 0, 0, 0, 0, 0, 0), (24, .ifCond .ne 14, 27, 38, 0, 0, 0, 0, 0), (27, .aload_n 0, 28, 0, 0, 0, 0, 0, 0), (28, .getfield 19, 31, 0, 1, 3, 0, 0, 0), (31, .iload_n 1, 32, 0, 0, 0, 0, 0, 0), (32, .invokevirtual 156, 35, 63, 1, 2, 1, 0, 0), (35, .goto 17, 38, 52, 0, 0, 0, 0, 0), (38, .aload_n 0, 39, 0, 0, 0, 0, 0, 0), (39, .getfield 19, 42, 0, 1, 3, 0, 0, 0), (42, .getfield 147, 45, 2, 1, 0, 1, 0, 0), (45, .invokestatic 159, 48, 202, 1, 0, 1, 0, 0), (48, .iload_n 1, 49, 0, 0, 0, 0, 0, 0), (49, .invokestatic 128, 52, 198, 2, 0, 1, 0, 0), (52, .ireturn, 53, 0, 0, 0, 0, 0, 0)]
def tx_RoundDance_where : List Nat := [0, 1, 0, 19, 0, 0, 0, 0, 20, 0, 0, 0, 0, 0, 0, 1, 0, 31, 0, 0, 1, 17, 32, 0, 23, 0]
def tb_RoundDance_length : Tab_ := [(0, .aload_n 0, 1, 0, 0, 0, 0, 0, 0), (1, .invokevirtual 87, 4, 6, 0, 0, 0, 0, 0), (4, .bipush (-6), 6, 0, 0, 0, 0, (-6), 0), (6, .if_icmp .eq 6, 9, 12, 0, 0, 0, 0, 0), (9, .bipush (-5), 11, 0, 0, 0, 0, (-5), 0), (11, .ireturn, 12, 0, 0, 0, 0, 0, 0), (12, .aload_n 0, 13, 0, 0, 0, 0, 0, 0), (13, .invokevirtual 150, 16, 20, 0, 0, 0, 0, 0), (16, .invokestatic 162, 19, 203, 1, 0, 1, 0, 0), (19, .ireturn, 20, 0, 0, 0, 0, 0, 0)]
def tx_RoundDance_length : List Nat := [0, 11, 0, 0, 0, 0, 0, 29, 33, 0]
def tb_RoundDance_sign : Tab_ := [(0, .iload_n 1, 1, 0, 0, 0, 0, 0, 0), (1, .invokestatic 93, 4, 9, 1, 0, 0, 0, 0), (4, .ifCond .ne 5, 7, 9, 0, 0, 0, 0, 0), (7, .iconst (-1), 8, 0, 0, 0, 0, (-1), 0), (8, .ireturn, 9, 0, 0, 0, 0, 0, 0), (9, .aload_n 0, 10, 0, 0, 0, 0, 0, 0), (10, .getfield 19, 13, 0, 1, 3, 0, 0, 0), (13, .iload_n 1, 14, 0, 0, 0, 0, 0, 0), (14, .invokevirtual 121, 17, 61, 1, 2, 1, 0, 0), (17, .invokestatic 165, 20, 204, 1, 0, 1, 0, 0), (20, .ifCond .eq 7, 23, 27, 0, 0, 0, 0, 0), (23, .iconst 1, 24, 0, 0, 0, 0, nI 1, 0), (24, .goto 4, 27, 28, 0, 0, 0, 0, 0), (27, .iconst 0, 28, 0, 0, 0, 0, nI 0, 0), (28, .ireturn, 29, 0, 0, 0, 0, 0, 0)]
def tx_RoundDance_sign : List Nat := [0, 15, 0, 0, 0, 0, 1, 0, 21, 34, 0, 0, 0, 0, 0]
def tb_RoundDance_want : Tab_ := [(0, .aload_n 0, 1, 0, 0, 0, 0, 0, 0), (1, .getfield 19, 4, 0, 1, 3, 0, 0, 0), (4, .iload_n 1, 5, 0, 0, 0, 0, 0, 0), (5, .invokevirtual 115, 8, 60, 1, 2, 1, 0, 0), (8, .ifCond .eq 19, 11, 27, 0, 0, 0, 0, 0), (11, .iload_n 2, 12, 0, 0, 0, 0, 0, 0), (12, .iconst (-1), 13, 0, 0, 0, 0, (-1), 0), (13, .if_icmp .eq 16, 16, 29, 0, 0, 0, 0, 0), (16, .aload_n 0, 17, 0, 0, 0, 0, 0, 0), (17, .getfield 19, 20, 0, 1, 3, 0, 0, 0), (20, .iload_n 2, 21, 0, 0, 0, 0, 0, 0), (21, .invokevirtual 115, 24, 60, 1, 2, 1, 0, 0), (24, .ifCond .ne 5, 27, 29, 0, 0, 0, 0, 0), (27, .iconst (-1), 28, 0, 0, 0, 0, (-1), 0), (28, .ireturn, 29, 0, 0, 0, 0, 0, 0), (29, .iload_n 2, 30, 0, 0, 0, 0, 0, 0), (30, .iconst (-1), 31, 0, 0, 0, 0, (-1), 0), (31, .if_icmp .eq 18, 34, 49, 0, 0, 0, 0, 0), (34, .aload_n 0, 35, 0, 0, 0, 0, 0, 0), (35, .getfield 19, 38, 0, 1, 3, 0, 0, 0), (38, .iload_n 1, 39, 0, 0, 0, 0, 0, 0), (39, .iload_n 2, 40, 0, 0, 0, 0, 0, 0), (40, .invokevirtual 168, 43, 64, 2, 2, 1, 0, 0), (43, .ifCond .eq 6, 46, 49, 0, 0, 0, 0, 0), (46, .bipush (-3), 48, 0, 0, 0, 0, (-3), 0), (48, .ireturn, 49, 0, 0, 0, 0, 0, 0), (49, .aload_n 0, 50, 0, 0, 0, 0, 0, 0), (50, .getfield 19, 53, 0, 1, 3, 0, 0, 0), (53, .getfield 172, 56, 2, 7, 3, 1, 0, 0), (56, .iload_n 1, 57, 0, 0, 0, 0, 0, 0), (57, .invokestatic 124, 60, 189, 2, 0, 1, 0, 0), (60, .istore_n 3, 61, 0, 0, 0, 0, 0, 0), (61, .aload_n 0, 62, 0, 0, 0, 0, 0, 0), (62, .getfield 19, 65, 0, 1, 3, 0, 0, 0), (65, .getfield 172, 68, 2, 7, 3, 1, 0, 0), (68, .iload_n 1, 69, 0, 0, 0, 0, 0, 0), (69, .iload_n 2, 70, 0, 0, 0, 0, 0, 0), (70, .invokestatic 109, 73, 188, 3, 0, 1, 0, 0), (73, .iload_n 3, 74, 0, 0, 0, 0, 0, 0), (74, .iconst (-1), 75, 0, 0, 0, 0, (-1), 0), (75, .if_icmp .ne 8, 78, 83, 0, 0, 0, 0, 0), (78, .bipush (-6), 80, 0, 0, 0, 0, (-6), 0), (80, .goto 4, 83, 84, 0, 0, 0, 0, 0), (83, .iload_n 3, 84, 0, 0, 0, 0, 0, 0), (84, .ireturn, 85, 0, 0, 0, 0, 0, 0)]
def tx_RoundDance_want : List Nat := [0, 1, 0, 19, 0, 0, 0, 0, 0, 1, 0, 19, 0, 0, 0, 0, 0, 0, 0, 1, 0, 0, 35, 0, 0, 0, 0, 1, 18, 0, 22, 0, 0, 1, 18, 0, 0, 18, 0, 0, 0, 0, 0, 0, 0]
def tb_RoundDance_fewest : Tab_ := [(0, .aload_n 0, 1, 0, 0, 0, 0, 0, 0), (1, .getfield 19, 4, 0, 1, 3, 0, 0, 0), (4, .aload_n 0, 5, 0, 0, 0, 0, 0, 0), (5, .getfield 33, 8, 0, 5, 3, 0, 0, 0), (8, .invokevirtual 175, 11, 65, 1, 2, 1, 0, 0), (11, .aload_n 0, 12, 0, 0, 0, 0, 0, 0), (12, .getfield 47, 15, 0, 7, 3, 0, 0, 0), (15, .aload_n 0, 16, 0, 0, 0, 0, 0, 0), (16, .getfield 19, 19, 0, 1, 3, 0, 0, 0), (19, .aload_n 0, 20, 0, 0, 0, 0, 0, 0), (20, .getfield 33, 23, 0, 5, 3, 0, 0, 0), (23, .invokevirtual 179, 26, 81, 2, 5, 1, 0, 0), (26, .aload_n 0, 27, 0, 0, 0, 0, 0, 0), (27, .getfield 47, 30, 0, 7, 3, 0, 0, 0), (30, .getfield 183, 33, 5, 3, 0, 1, 0, 0), (33, .istore_n 2, 34, 0, 0, 0, 0, 0, 0), (34, .iload_n 2, 35, 0, 0, 0, 0, 0, 0), (35, .iconst (-1), 36, 0, 0, 0, 0, (-1), 0), (36, .if_icmp .eq 13, 39, 49, 0, 0, 0, 0, 0), (39, .iload_n 1, 40, 0, 0, 0, 0, 0, 0), (40, .iconst (-1), 41, 0, 0, 0, 0, (-1), 0), (41, .if_icmp .lt 8, 44, 49, 0, 0, 0, 0, 0), (44, .iload_n 1, 45, 0, 0, 0, 0, 0, 0), (45, .iload_n 2, 46, 0, 0, 0, 0, 0, 0), (46, .if_icmp .lt 6, 49, 52, 0, 0, 0, 0, 0), (49, .bipush (-6), 51, 0, 0, 0, 0, (-6), 0), (51, .ireturn, 52, 0, 0, 0, 0, 0, 0), (52, .iload_n 1, 53, 0, 0, 0, 0, 0, 0), (53, .iconst (-1), 54, 0, 0, 0, 0, (-1), 0), (54, .if_icmp .ne 7, 57, 61, 0, 0, 0, 0, 0), (57, .iload_n 2, 58, 0, 0, 0, 0, 0, 0), (58, .goto 14, 61, 72, 0, 0, 0, 0, 0), (61, .bipush 65, 63, 0, 0, 0, 0, nI 65, 0), (63, .aload_n 0, 64, 0, 0, 0, 0, 0, 0), (64, .getfield 47, 67, 0, 7, 3, 0, 0, 0), (67, .iload_n 1, 68, 0, 0, 0, 0, 0, 0), (68, .invokevirtual 185, 71, 83, 1, 5, 1, 0, 0), (71, .iadd, 72, 0, 0, 0, 0, 0, 0), (72, .ireturn, 73, 0, 0, 0, 0, 0, 0)]
def tx_RoundDance_fewest : List Nat := [0, 1, 0, 5, 36, 0, 7, 0, 1, 0, 5, 37, 0, 7, 19, 0, 0, 0, 0, 0, 0, 0, 0, 0, 0, 0, 0, 0, 0, 0, 0, 0, 0, 0, 7, 0, 38, 0, 0]
def tb_RoundDance_standings : Tab_ := [(0, .aload_n 0, 1, 0, 0, 0, 0, 0, 0), (1, .getfield 19, 4, 0, 1, 3, 0, 0, 0), (4, .aload_n 0, 5, 0, 0, 0, 0, 0, 0), (5, .getfield 33, 8, 0, 5, 3, 0, 0, 0), (8, .invokevirtual 175, 11, 65, 1, 2, 1, 0, 0), (11, .aload_n 0, 12, 0, 0, 0, 0, 0, 0), (12, .getfield 40, 15, 0, 6, 3, 0, 0, 0), (15, .aload_n 0, 16, 0, 0, 0, 0, 0, 0), (16, .getfield 33, 19, 0, 5, 3, 0, 0, 0), (19, .invokevirtual 188, 22, 75, 1, 4, 1, 0, 0), (22, .aload_n 0, 23, 0, 0, 0, 0, 0, 0), (23, .getfield 40, 26, 0, 6, 3, 0, 0, 0), (26, .invokevirtual 191, 29, 78, 0, 4, 1, 0, 0), (29, .ireturn, 30, 0, 0, 0, 0, 0, 0)]
def tx_RoundDance_standings : List Nat := [0, 1, 0, 5, 36, 0, 6, 0, 5, 39, 0, 6, 40, 0]
def tb_RoundDance_canBe : Tab_ := [(0, .aload_n 0, 1, 0, 0, 0, 0, 0, 0), (1, .invokevirtual 90, 4, 7, 0, 0, 0, 0, 0), (4, .bipush (-6), 6, 0, 0, 0, 0, (-6), 0), (6, .if_icmp .eq 6, 9, 12, 0, 0, 0, 0, 0), (9, .bipush (-5), 11, 0, 0, 0, 0, (-5), 0), (11, .ireturn, 12, 0, 0, 0, 0, 0, 0), (12, .ldc 97, 14, 0, 0, 0, 0, nI 16434824, 0), (14, .istore_n 1, 15, 0, 0, 0, 0, 0, 0), (15, .iconst 0, 16, 0, 0, 0, 0, nI 0, 0), (16, .istore_n 2, 17, 0, 0, 0, 0, 0, 0), (17, .iload_n 2, 18, 0, 0, 0, 0, 0, 0), (18, .aload_n 0, 19, 0, 0, 0, 0, 0, 0), (19, .getfield 19, 22, 0, 1, 3, 0, 0, 0), (22, .getfield 67, 25, 2, 0, 0, 1, 0, 0), (25, .if_icmp .ge 26, 28, 51, 0, 0, 0, 0, 0), (28, .iload_n 1, 29, 0, 0, 0, 0, 0, 0), (29, .aload_n 0, 30, 0, 0, 0, 0, 0, 0), (30, .getfield 10, 33, 0, 0, 3, 0, 0, 0), (33, .iload_n 2, 34, 0, 0, 0, 0, 0, 0), (34, .invokevirtual 98, 37, 56, 1, 1, 1, 0, 0), (37, .bipush 97, 39, 0, 0, 0, 0, nI 97, 0), (39, .isub, 40, 0, 0, 0, 0, 0, 0), (40, .iload_n 2, 41, 0, 0, 0, 0, 0, 0), (41, .invokestatic 102, 44, 196, 3, 0, 1, 0, 0), (44, .istore_n 1, 45, 0, 0, 0, 0, 0, 0), (45, .iinc 2 1, 48, 0, 0, 0, 0, nI 1, 0), (48, .goto (-31), 51, 17, 0, 0, 0, 0, 0), (51, .aload_n 0, 52, 0, 0, 0, 0, 0, 0), (52, .getfield 19, 55, 0, 1, 3, 0, 0, 0), (55, .aload_n 0, 56, 0, 0, 0, 0, 0, 0), (56, .getfield 33, 59, 0, 5, 3, 0, 0, 0), (59, .invokevirtual 175, 62, 65, 1, 2, 1, 0, 0), (62, .aload_n 0, 63, 0, 0, 0, 0, 0, 0), (63, .getfield 40, 66, 0, 6, 3, 0, 0, 0), (66, .aload_n 0, 67, 0, 0, 0, 0, 0, 0), (67, .getfield 33, 70, 0, 5, 3, 0, 0, 0), (70, .invokevirtual 188, 73, 75, 1, 4, 1, 0, 0), (73, .aload_n 0, 74, 0, 0, 0, 0, 0, 0), (74, .getfield 40, 77, 0, 6, 3, 0, 0, 0), (77, .aload_n 0, 78, 0, 0, 0, 0, 0, 0), (78, .getfield 19, 81, 0, 1, 3, 0, 0, 0), (81, .getfield 147, 84, 2, 1, 0, 1, 0, 0), (84, .invokestatic 159, 87, 202, 1, 0, 1, 0, 0), (87, .iload_n 1, 88, 0, 0, 0, 0, 0, 0), (88, .invokestatic 153, 91, 200, 2, 0, 1, 0, 0), (91, .invokevirtual 194, 94, 79, 1, 4, 1, 0, 0), (94, .ifCond .eq 7, 97, 101, 0, 0, 0, 0, 0), (97, .iconst 1, 98, 0, 0, 0, 0, nI 1, 0), (98, .goto 4, 101, 102, 0, 0, 0, 0, 0), (101, .iconst 0, 102, 0, 0, 0, 0, nI 0, 0), (102, .ireturn, 103, 0, 0, 0, 0, 0, 0)]
def tx_RoundDance_canBe : List Nat := [0, 12, 0, 0, 0, 0, 0, 0, 0, 0, 0, 0, 1, 10, 0, 0, 0, 0, 0, 16, 0, 0, 0, 17, 0, 0, 0, 0, 1, 0, 5, 36, 0, 6, 0, 5, 39, 0, 6, 0, 1, 17, 32, 0, 30, 41, 0, 0, 0, 0, 0]
def tb_RoundDance_sure : Tab_ := [(0, .aload_n 0, 1, 0, 0, 0, 0, 0, 0), (1, .getfield 19, 4, 0, 1, 3, 0, 0, 0), (4, .iload_n 1, 5, 0, 0, 0, 0, 0, 0), (5, .invokevirtual 115, 8, 60, 1, 2, 1, 0, 0), (8, .ifCond .ne 5, 11, 13, 0, 0, 0, 0, 0), (11, .iconst (-1), 12, 0, 0, 0, 0, (-1), 0), (12, .ireturn, 13, 0, 0, 0, 0, 0, 0), (13, .aload_n 0, 14, 0, 0, 0, 0, 0, 0), (14, .getfield 19, 17, 0, 1, 3, 0, 0, 0), (17, .aload_n 0, 18, 0, 0, 0, 0, 0, 0), (18, .getfield 33, 21, 0, 5, 3, 0, 0, 0), (21, .invokevirtual 175, 24, 65, 1, 2, 1, 0, 0), (24, .iconst 1, 25, 0, 0, 0, 0, nI 1, 0), (25, .aload_n 0, 26, 0, 0, 0, 0, 0, 0), (26, .getfield 19, 29, 0, 1, 3, 0, 0, 0), (29, .iload_n 1, 30, 0, 0, 0, 0, 0, 0), (30, .invokevirtual 156, 33, 63, 1, 2, 1, 0, 0), (33, .ishl, 34, 0, 0, 0, 0, 0, 0), (34, .istore_n 2, 35, 0, 0, 0, 0, 0, 0), (35, .iconst 0, 36, 0, 0, 0, 0, nI 0, 0), (36, .istore_n 3, 37, 0, 0, 0, 0, 0, 0), (37, .iload_n 3, 38, 0, 0, 0, 0, 0, 0), (38, .bipush 8, 40, 0, 0, 0, 0, nI 8, 0), (40, .if_icmp .ge 45, 43, 85, 0, 0, 0, 0, 0), (43, .iconst 0, 44, 0, 0, 0, 0, nI 0, 0), (44, .istore 4, 46, 0, 0, 0, 0, 0, 0), (46, .iload 4, 48, 0, 0, 0, 0, 0, 0), (48, .bipush 8, 50, 0, 0, 0, 0, nI 8, 0), (50, .if_icmp .ge 29, 53, 79, 0, 0, 0, 0, 0), (53, .iload_n 2, 54, 0, 0, 0, 0, 0, 0), (54, .iload 4, 56, 0, 0, 0, 0, 0, 0), (56, .invokestatic 195, 59, 190, 2, 0, 1, 0, 0), (59, .ifCond .eq 14, 62, 73, 0, 0, 0, 0, 0), (62, .iload_n 2, 63, 0, 0, 0, 0, 0, 0), (63, .aload_n 0, 64, 0, 0, 0, 0, 0, 0), (64, .iload 4, 66, 0, 0, 0, 0, 0, 0), (66, .bipush 63, 68, 0, 0, 0, 0, nI 63, 0), (68, .invokevirtual 198, 71, 30, 2, 0, 0, 0, 0), (71, .ior, 72, 0, 0, 0, 0, 0, 0), (72, .istore_n 2, 73, 0, 0, 0, 0, 0, 0), (73, .iinc 4 1, 76, 0, 0, 0, 0, nI 1, 0), (76, .goto (-30), 79, 46, 0, 0, 0, 0, 0), (79, .iinc 3 1, 82, 0, 0, 0, 0, nI 1, 0), (82, .goto (-45), 85, 37, 0, 0, 0, 0, 0), (85, .iload_n 2, 86, 0, 0, 0, 0, 0, 0), (86, .ireturn, 87, 0, 0, 0, 0, 0, 0)]
def tx_RoundDance_sure : List Nat := [0, 1, 0, 19, 0, 0, 0, 0, 1, 0, 5, 36, 0, 0, 1, 0, 31, 0, 0, 0, 0, 0, 0, 0, 0, 0, 0, 0, 0, 0, 0, 42, 0, 0, 0, 0, 0, 43, 0, 0, 0, 0, 0, 0, 0, 0]
def tb_RoundDance_nextPlaces : Tab_ := [(0, .iconst 0, 1, 0, 0, 0, 0, nI 0, 0), (1, .istore_n 3, 2, 0, 0, 0, 0, 0, 0), (2, .iconst 0, 3, 0, 0, 0, 0, nI 0, 0), (3, .istore 4, 5, 0, 0, 0, 0, 0, 0), (5, .iload 4, 7, 0, 0, 0, 0, 0, 0), (7, .bipush 6, 9, 0, 0, 0, 0, nI 6, 0), (9, .if_icmp .ge 46, 12, 55, 0, 0, 0, 0, 0), (12, .aload_n 0, 13, 0, 0, 0, 0, 0, 0), (13, .getfield 33, 16, 0, 5, 3, 0, 0, 0), (16, .iload 4, 18, 0, 0, 0, 0, 0, 0), (18, .invokestatic 124, 21, 189, 2, 0, 1, 0, 0), (21, .istore 5, 23, 0, 0, 0, 0, 0, 0), (23, .iload 5, 25, 0, 0, 0, 0, 0, 0), (25, .iconst (-1), 26, 0, 0, 0, 0, (-1), 0), (26, .if_icmp .eq 23, 29, 49, 0, 0, 0, 0, 0), (29, .iload_n 2, 30, 0, 0, 0, 0, 0, 0), (30, .iload 4, 32, 0, 0, 0, 0, 0, 0), (32, .invokestatic 195, 35, 190, 2, 0, 1, 0, 0), (35, .ifCond .eq 14, 38, 49, 0, 0, 0, 0, 0), (38, .iload_n 3, 39, 0, 0, 0, 0, 0, 0), (39, .iconst 1, 40, 0, 0, 0, 0, nI 1, 0), (40, .iload 5, 42, 0, 0, 0, 0, 0, 0), (42, .iload_n 1, 43, 0, 0, 0, 0, 0, 0), (43, .invokestatic 128, 46, 198, 2, 0, 1, 0, 0), (46, .ishl, 47, 0, 0, 0, 0, 0, 0), (47, .ior, 48, 0, 0, 0, 0, 0, 0), (48, .istore_n 3, 49, 0, 0, 0, 0, 0, 0), (49, .iinc 4 1, 52, 0, 0, 0, 0, nI 1, 0), (52, .goto (-47), 55, 5, 0, 0, 0, 0, 0), (55, .iload_n 3, 56, 0, 0, 0, 0, 0, 0), (56, .ifCond .ne 9, 59, 65, 0, 0, 0, 0, 0), (59, .iconst 1, 60, 0, 0, 0, 0, nI 1, 0), (60, .iload_n 1, 61, 0, 0, 0, 0, 0, 0), (61, .ishl, 62, 0, 0, 0, 0, 0, 0), (62, .goto 4, 65, 66, 0, 0, 0, 0, 0), (65, .iload_n 3, 66, 0, 0, 0, 0, 0, 0), (66, .ireturn, 67, 0, 0, 0, 0, 0, 0)]
def tx_RoundDance_nextPlaces : List Nat := [0, 0, 0, 0, 0, 0, 0, 0, 5, 0, 22, 0, 0, 0, 0, 0, 0, 42, 0, 0, 0, 0, 0, 23, 0, 0, 0, 0, 0, 0, 0, 0, 0, 0, 0, 0, 0]
def tb_RoundDance_caller : Tab_ := [(0, .iload_n 1, 1, 0, 0, 0, 0, 0, 0), (1, .ifCond .lt 8, 4, 9, 0, 0, 0, 0, 0), (4, .iload_n 1, 5, 0, 0, 0, 0, 0, 0), (5, .iconst 2, 6, 0, 0, 0, 0, nI 2, 0), (6, .if_icmp .lt 5, 9, 11, 0, 0, 0, 0, 0), (9, .iconst (-1), 10, 0, 0, 0, 0, (-1), 0), (10, .ireturn, 11, 0, 0, 0, 0, 0, 0), (11, .iload_n 2, 12, 0, 0, 0, 0, 0, 0), (12, .ifCond .lt 9, 15, 21, 0, 0, 0, 0, 0), (15, .iload_n 2, 16, 0, 0, 0, 0, 0, 0), (16, .bipush 63, 18, 0, 0, 0, 0, nI 63, 0), (18, .if_icmp .le 6, 21, 24, 0, 0, 0, 0, 0), (21, .bipush (-2), 23, 0, 0, 0, 0, (-2), 0), (23, .ireturn, 24, 0, 0, 0, 0, 0, 0), (24, .aload_n 0, 25, 0, 0, 0, 0, 0, 0), (25, .getfield 19, 28, 0, 1, 3, 0, 0, 0), (28, .getfield 201, 31, 2, 8, 3, 1, 0, 0), (31, .iload_n 1, 32, 0, 0, 0, 0, 0, 0), (32, .invokestatic 124, 35, 189, 2, 0, 1, 0, 0), (35, .istore_n 3, 36, 0, 0, 0, 0, 0, 0), (36, .aload_n 0, 37, 0, 0, 0, 0, 0, 0), (37, .getfield 19, 40, 0, 1, 3, 0, 0, 0), (40, .getfield 201, 43, 2, 8, 3, 1, 0, 0), (43, .iload_n 1, 44, 0, 0, 0, 0, 0, 0), (44, .iload_n 2, 45, 0, 0, 0, 0, 0, 0), (45, .invokestatic 109, 48, 188, 3, 0, 1, 0, 0), (48, .iload_n 3, 49, 0, 0, 0, 0, 0, 0), (49, .ireturn, 50, 0, 0, 0, 0, 0, 0)]
def tx_RoundDance_caller : List Nat := [0, 0, 0, 0, 0, 0, 0, 0, 0, 0, 0, 0, 0, 0, 0, 1, 20, 0, 22, 0, 0, 1, 20, 0, 0, 18, 0, 0]
def tb_RoundDance_forced : Tab_ := [(0, .aload_n 0, 1, 0, 0, 0, 0, 0, 0), (1, .getfield 19, 4, 0, 1, 3, 0, 0, 0), (4, .iload_n 1, 5, 0, 0, 0, 0, 0, 0), (5, .invokevirtual 115, 8, 60, 1, 2, 1, 0, 0), (8, .ifCond .eq 14, 11, 22, 0, 0, 0, 0, 0), (11, .aload_n 0, 12, 0, 0, 0, 0, 0, 0), (12, .getfield 19, 15, 0, 1, 3, 0, 0, 0), (15, .iload_n 2, 16, 0, 0, 0, 0, 0, 0), (16, .invokevirtual 115, 19, 60, 1, 2, 1, 0, 0), (19, .ifCond .ne 5, 22, 24, 0, 0, 0, 0, 0), (22, .iconst (-1), 23, 0, 0, 0, 0, (-1), 0), (23, .ireturn, 24, 0, 0, 0, 0, 0, 0), (24, .aload_n 0, 25, 0, 0, 0, 0, 0, 0), (25, .getfield 19, 28, 0, 1, 3, 0, 0, 0), (28, .aload_n 0, 29, 0, 0, 0, 0, 0, 0), (29, .getfield 33, 32, 0, 5, 3, 0, 0, 0), (32, .invokevirtual 175, 35, 65, 1, 2, 1, 0, 0), (35, .iconst 1, 36, 0, 0, 0, 0, nI 1, 0), (36, .iload_n 2, 37, 0, 0, 0, 0, 0, 0), (37, .ishl, 38, 0, 0, 0, 0, 0, 0), (38, .istore_n 3, 39, 0, 0, 0, 0, 0, 0), (39, .iload_n 3, 40, 0, 0, 0, 0, 0, 0), (40, .istore 4, 42, 0, 0, 0, 0, 0, 0), (42, .iload_n 3, 43, 0, 0, 0, 0, 0, 0), (43, .istore 5, 45, 0, 0, 0, 0, 0, 0), (45, .iconst 0, 46, 0, 0, 0, 0, nI 0, 0), (46, .istore 6, 48, 0, 0, 0, 0, 0, 0), (48, .iload 6, 50, 0, 0, 0, 0, 0, 0), (50, .bipush 16, 52, 0, 0, 0, 0, nI 16, 0), (52, .if_icmp .gt 74, 55, 126, 0, 0, 0, 0, 0), (55, .iload 4, 57, 0, 0, 0, 0, 0, 0), (57, .aload_n 0, 58, 0, 0, 0, 0, 0, 0), (58, .getfield 19, 61, 0, 1, 3, 0, 0, 0), (61, .iload_n 1, 62, 0, 0, 0, 0, 0, 0), (62, .invokevirtual 156, 65, 63, 1, 2, 1, 0, 0), (65, .invokestatic 195, 68, 190, 2, 0, 1, 0, 0), (68, .ifCond .eq 6, 71, 74, 0, 0, 0, 0, 0), (71, .iload 6, 73, 0, 0, 0, 0, 0, 0), (73, .ireturn, 74, 0, 0, 0, 0, 0, 0), (74, .iload_n 3, 75, 0, 0, 0, 0, 0, 0), (75, .aload_n 0, 76, 0, 0, 0, 0, 0, 0), (76, .aload_n 0, 77, 0, 0, 0, 0, 0, 0), (77, .getfield 19, 80, 0, 1, 3, 0, 0, 0), (80, .getfield 201, 83, 2, 8, 3, 1, 0, 0), (83, .iconst 0, 84, 0, 0, 0, 0, nI 0, 0), (84, .invokestatic 124, 87, 189, 2, 0, 1, 0, 0), (87, .iload 5, 89, 0, 0, 0, 0, 0, 0), (89, .invokevirtual 204, 92, 33, 2, 0, 0, 0, 0), (92, .ior, 93, 0, 0, 0, 0, 0, 0), (93, .istore 7, 95, 0, 0, 0, 0, 0, 0), (95, .iload_n 3, 96, 0, 0, 0, 0, 0, 0), (96, .aload_n 0, 97, 0, 0, 0, 0, 0, 0), (97, .aload_n 0, 98, 0, 0, 0, 0, 0, 0), (98, .getfield 19, 101, 0, 1, 3, 0, 0, 0), (101, .getfield 201, 104, 2, 8, 3, 1, 0, 0), (104, .iconst 1, 105, 0, 0, 0, 0, nI 1, 0), (105, .invokestatic 124, 108, 189, 2, 0, 1, 0, 0), (108, .iload 4, 110, 0, 0, 0, 0, 0, 0), (110, .invokevirtual 207, 113, 34, 2, 0, 0, 0, 0), (113, .ior, 114, 0, 0, 0, 0, 0, 0), (114, .istore 5, 116, 0, 0, 0, 0, 0, 0), (116, .iload 7, 118, 0, 0, 0, 0, 0, 0), (118, .istore 4, 120, 0, 0, 0, 0, 0, 0), (120, .iinc 6 1, 123, 0, 0, 0, 0, nI 1, 0), (123, .goto (-75), 126, 48, 0, 0, 0, 0, 0), (126, .bipush (-6), 128, 0, 0, 0, 0, (-6), 0), (128, .ireturn, 129, 0, 0, 0, 0, 0, 0)]
def tx_RoundDance_forced : List Nat := [0, 1, 0, 19, 0, 0, 1, 0, 19, 0, 0, 0, 0, 1, 0, 5, 36, 0, 0, 0, 0, 0, 0, 0, 0, 0, 0, 0, 0, 0, 0, 0, 1, 0, 31, 42, 0, 0, 0, 0, 0, 0, 1, 20, 0, 22, 0, 44, 0, 0, 0, 0, 0, 1, 20, 0, 22, 0, 45, 0, 0, 0, 0, 0, 0, 0, 0]
def tb_RoundDance_placesWithSome : Tab_ := [(0, .iconst 0, 1, 0, 0, 0, 0, nI 0, 0), (1, .istore_n 3, 2, 0, 0, 0, 0, 0, 0), (2, .iconst 0, 3, 0, 0, 0, 0, nI 0, 0), (3, .istore 4, 5, 0, 0, 0, 0, 0, 0), (5, .iload 4, 7, 0, 0, 0, 0, 0, 0), (7, .aload_n 0, 8, 0, 0, 0, 0, 0, 0), (8, .getfield 19, 11, 0, 1, 3, 0, 0, 0), (11, .getfield 67, 14, 2, 0, 0, 1, 0, 0), (14, .if_icmp .ge 28, 17, 42, 0, 0, 0, 0, 0), (17, .aload_n 0, 18, 0, 0, 0, 0, 0, 0), (18, .iload 4, 20, 0, 0, 0, 0, 0, 0), (20, .iload_n 1, 21, 0, 0, 0, 0, 0, 0), (21, .invokevirtual 198, 24, 30, 2, 0, 0, 0, 0), (24, .iload_n 2, 25, 0, 0, 0, 0, 0, 0), (25, .iand, 26, 0, 0, 0, 0, 0, 0), (26, .ifCond .eq 10, 29, 36, 0, 0, 0, 0, 0), (29, .iload_n 3, 30, 0, 0, 0, 0, 0, 0), (30, .iconst 1, 31, 0, 0, 0, 0, nI 1, 0), (31, .iload 4, 33, 0, 0, 0, 0, 0, 0), (33, .ishl, 34, 0, 0, 0, 0, 0, 0), (34, .ior, 35, 0, 0, 0, 0, 0, 0), (35, .istore_n 3, 36, 0, 0, 0, 0, 0, 0), (36, .iinc 4 1, 39, 0, 0, 0, 0, nI 1, 0), (39, .goto (-34), 42, 5, 0, 0, 0, 0, 0), (42, .iload_n 3, 43, 0, 0, 0, 0, 0, 0), (43, .ireturn, 44, 0, 0, 0, 0, 0, 0)]
def tx_RoundDance_placesWithSome : List Nat := [0, 0, 0, 0, 0, 0, 1, 10, 0, 0, 0, 0, 43, 0, 0, 0, 0, 0, 0, 0, 0, 0, 0, 0, 0, 0]
def tb_RoundDance_placesWithAll : Tab_ := [(0, .iconst 0, 1, 0, 0, 0, 0, nI 0, 0), (1, .istore_n 3, 2, 0, 0, 0, 0, 0, 0), (2, .iconst 0, 3, 0, 0, 0, 0, nI 0, 0), (3, .istore 4, 5, 0, 0, 0, 0, 0, 0), (5, .iload 4, 7, 0, 0, 0, 0, 0, 0), (7, .aload_n 0, 8, 0, 0, 0, 0, 0, 0), (8, .getfield 19, 11, 0, 1, 3, 0, 0, 0), (11, .getfield 67, 14, 2, 0, 0, 1, 0, 0), (14, .if_icmp .ge 30, 17, 44, 0, 0, 0, 0, 0), (17, .aload_n 0, 18, 0, 0, 0, 0, 0, 0), (18, .iload 4, 20, 0, 0, 0, 0, 0, 0), (20, .iload_n 1, 21, 0, 0, 0, 0, 0, 0), (21, .invokevirtual 198, 24, 30, 2, 0, 0, 0, 0), (24, .iload_n 2, 25, 0, 0, 0, 0, 0, 0), (25, .iconst (-1), 26, 0, 0, 0, 0, (-1), 0), (26, .ixor, 27, 0, 0, 0, 0, 0, 0), (27, .iand, 28, 0, 0, 0, 0, 0, 0), (28, .ifCond .ne 10, 31, 38, 0, 0, 0, 0, 0), (31, .iload_n 3, 32, 0, 0, 0, 0, 0, 0), (32, .iconst 1, 33, 0, 0, 0, 0, nI 1, 0), (33, .iload 4, 35, 0, 0, 0, 0, 0, 0), (35, .ishl, 36, 0, 0, 0, 0, 0, 0), (36, .ior, 37, 0, 0, 0, 0, 0, 0), (37, .istore_n 3, 38, 0, 0, 0, 0, 0, 0), (38, .iinc 4 1, 41, 0, 0, 0, 0, nI 1, 0), (41, .goto (-36), 44, 5, 0, 0, 0, 0, 0), (44, .iload_n 3, 45, 0, 0, 0, 0, 0, 0), (45, .ireturn, 46, 0, 0, 0, 0, 0, 0)]
def tx_RoundDance_placesWithAll : List Nat := [0, 0, 0, 0, 0, 0, 1, 10, 0, 0, 0, 0, 43, 0, 0, 0, 0, 0, 0, 0, 0, 0, 0, 0, 0, 0, 0, 0]
def tb_RoundDance_seen : Tab_ := [(0, .aload_n 0, 1, 0, 0, 0, 0, 0, 0), (1, .getfield 19, 4, 0, 1, 3, 0, 0, 0), (4, .iload_n 2, 5, 0, 0, 0, 0, 0, 0), (5, .invokevirtual 115, 8, 60, 1, 2, 1, 0, 0), (8, .ifCond .eq 14, 11, 22, 0, 0, 0, 0, 0), (11, .aload_n 0, 12, 0, 0, 0, 0, 0, 0), (12, .getfield 19, 15, 0, 1, 3, 0, 0, 0), (15, .iload_n 3, 16, 0, 0, 0, 0, 0, 0), (16, .invokevirtual 115, 19, 60, 1, 2, 1, 0, 0), (19, .ifCond .ne 5, 22, 24, 0, 0, 0, 0, 0), (22, .iconst (-1), 23, 0, 0, 0, 0, (-1), 0), (23, .ireturn, 24, 0, 0, 0, 0, 0, 0), (24, .iload_n 1, 25, 0, 0, 0, 0, 0, 0), (25, .ifCond .lt 9, 28, 34, 0, 0, 0, 0, 0), (28, .iload_n 1, 29, 0, 0, 0, 0, 0, 0), (29, .bipush 12, 31, 0, 0, 0, 0, nI 12, 0), (31, .if_icmp .le 6, 34, 37, 0, 0, 0, 0, 0), (34, .bipush (-2), 36, 0, 0, 0, 0, (-2), 0), (36, .ireturn, 37, 0, 0, 0, 0, 0, 0), (37, .aload_n 0, 38, 0, 0, 0, 0, 0, 0), (38, .getfield 19, 41, 0, 1, 3, 0, 0, 0), (41, .getfield 210, 44, 2, 9, 3, 1, 0, 0), (44, .iload_n 1, 45, 0, 0, 0, 0, 0, 0), (45, .iload_n 2, 46, 0, 0, 0, 0, 0, 0), (46, .iload_n 3, 47, 0, 0, 0, 0, 0, 0), (47, .invokestatic 214, 50, 36, 4, 0, 0, 0, 0), (50, .ireturn, 51, 0, 0, 0, 0, 0, 0)]
def tx_RoundDance_seen : List Nat := [0, 1, 0, 19, 0, 0, 1, 0, 19, 0, 0, 0, 0, 0, 0, 0, 0, 0, 0, 0, 1, 21, 0, 0, 0, 46, 0]
def tb_RoundDance_noteMore : Tab_ := [(0, .aload_n 0, 1, 0, 0, 0, 0, 0, 0), (1, .getfield 286, 4, 3, 1, 0, 1, 0, 0), (4, .bipush 6, 6, 0, 0, 0, 0, nI 6, 0), (6, .if_icmp .lt 6, 9, 12, 0, 0, 0, 0, 0), (9, .bipush (-4), 11, 0, 0, 0, 0, (-4), 0), (11, .ireturn, 12, 0, 0, 0, 0, 0, 0), (12, .aload_n 0, 13, 0, 0, 0, 0, 0, 0), (13, .iload_n 1, 14, 0, 0, 0, 0, 0, 0), (14, .iload_n 2, 15, 0, 0, 0, 0, 0, 0), (15, .iload_n 3, 16, 0, 0, 0, 0, 0, 0), (16, .invokevirtual 289, 19, 68, 3, 3, 1, 0, 0), (19, .aload_n 0, 20, 0, 0, 0, 0, 0, 0), (20, .getfield 286, 23, 3, 1, 0, 1, 0, 0), (23, .ireturn, 24, 0, 0, 0, 0, 0, 0)]
def tx_RoundDance_noteMore : List Nat := [0, 22, 0, 0, 0, 0, 0, 0, 0, 0, 47, 0, 22, 0]
def tb_RoundDance_forget : Tab_ := [(0, .aload_n 0, 1, 0, 0, 0, 0, 0, 0), (1, .getfield 19, 4, 0, 1, 3, 0, 0, 0), (4, .getfield 210, 7, 2, 9, 3, 1, 0, 0), (7, .invokestatic 218, 10, 38, 1, 0, 0, 0, 0), (10, .ireturn, 11, 0, 0, 0, 0, 0, 0)]
def tx_RoundDance_forget : List Nat := [0, 1, 21, 48, 0]
def tb_RoundDance_noteNone : Tab_ := [(0, .aload_n 0, 1, 0, 0, 0, 0, 0, 0), (1, .getfield 286, 4, 3, 1, 0, 1, 0, 0), (4, .istore_n 1, 5, 0, 0, 0, 0, 0, 0), (5, .aload_n 0, 6, 0, 0, 0, 0, 0, 0), (6, .iconst 0, 7, 0, 0, 0, 0, nI 0, 0), (7, .putfield 286, 10, 3, 1, 0, 1, 0, 0), (10, .iload_n 1, 11, 0, 0, 0, 0, 0, 0), (11, .ireturn, 12, 0, 0, 0, 0, 0, 0)]
def tx_RoundDance_noteNone : List Nat := [0, 22, 0, 0, 0, 22, 0, 0]
def tb_RoundDance_rows : Tab_ := [(0, .iload_n 1, 1, 0, 0, 0, 0, 0, 0), (1, .ifCond .lt 9, 4, 10, 0, 0, 0, 0, 0), (4, .iload_n 1, 5, 0, 0, 0, 0, 0, 0), (5, .bipush 12, 7, 0, 0, 0, 0, nI 12, 0), (7, .if_icmp .le 7, 10, 14, 0, 0, 0, 0, 0), (10, .ldc2_w 222, 13, 0, 0, 0, 0, 0, (-2)), (13, .lreturn, 14, 0, 0, 0, 0, 0, 0), (14, .aload_n 0, 15, 0, 0, 0, 0, 0, 0), (15, .getfield 19, 18, 0, 1, 3, 0, 0, 0), (18, .aload_n 0, 19, 0, 0, 0, 0, 0, 0), (19, .getfield 33, 22, 0, 5, 3, 0, 0, 0), (22, .invokevirtual 175, 25, 65, 1, 2, 1, 0, 0), (25, .aload_n 0, 26, 0, 0, 0, 0, 0, 0), (26, .getfield 54, 29, 0, 8, 3, 0, 0, 0), (29, .aload_n 0, 30, 0, 0, 0, 0, 0, 0), (30, .getfield 19, 33, 0, 1, 3, 0, 0, 0), (33, .aload_n 0, 34, 0, 0, 0, 0, 0, 0), (34, .getfield 33, 37, 0, 5, 3, 0, 0, 0), (37, .iload_n 1, 38, 0, 0, 0, 0, 0, 0), (38, .invokevirtual 224, 41, 102, 3, 8, 1, 0, 0), (41, .aload_n 0, 42, 0, 0, 0, 0, 0, 0), (42, .getfield 54, 45, 0, 8, 3, 0, 0, 0), (45, .getfield 228, 48, 8, 5, 2, 1, 0, 0), (48, .lreturn, 49, 0, 0, 0, 0, 0, 0)]
def tx_RoundDance_rows : List Nat := [0, 0, 0, 0, 0, 0, 0, 0, 1, 0, 5, 36, 0, 8, 0, 1, 0, 5, 0, 49, 0, 8, 23, 0]
def tb_RoundDance_came : Tab_ := [(0, .iload_n 1, 1, 0, 0, 0, 0, 0, 0), (1, .ifCond .lt 25, 4, 26, 0, 0, 0, 0, 0), (4, .iload_n 1, 5, 0, 0, 0, 0, 0, 0), (5, .bipush 12, 7, 0, 0, 0, 0, nI 12, 0), (7, .if_icmp .gt 19, 10, 26, 0, 0, 0, 0, 0), (10, .iload_n 2, 11, 0, 0, 0, 0, 0, 0), (11, .ifCond .lt 15, 14, 26, 0, 0, 0, 0, 0), (14, .iload_n 2, 15, 0, 0, 0, 0, 0, 0), (15, .iload_n 1, 16, 0, 0, 0, 0, 0, 0), (16, .if_icmp .ge 10, 19, 26, 0, 0, 0, 0, 0), (19, .iload_n 3, 20, 0, 0, 0, 0, 0, 0), (20, .invokestatic 118, 23, 11, 1, 0, 0, 0, 0), (23, .ifCond .ne 6, 26, 29, 0, 0, 0, 0, 0), (26, .bipush (-2), 28, 0, 0, 0, 0, (-2), 0), (28, .ireturn, 29, 0, 0, 0, 0, 0, 0), (29, .aload_n 0, 30, 0, 0, 0, 0, 0, 0), (30, .getfield 19, 33, 0, 1, 3, 0, 0, 0), (33, .aload_n 0, 34, 0, 0, 0, 0, 0, 0), (34, .getfield 33, 37, 0, 5, 3, 0, 0, 0), (37, .invokevirtual 175, 40, 65, 1, 2, 1, 0, 0), (40, .aload_n 0, 41, 0, 0, 0, 0, 0, 0), (41, .getfield 54, 44, 0, 8, 3, 0, 0, 0), (44, .aload_n 0, 45, 0, 0, 0, 0, 0, 0), (45, .getfield 19, 48, 0, 1, 3, 0, 0, 0), (48, .aload_n 0, 49, 0, 0, 0, 0, 0, 0), (49, .getfield 33, 52, 0, 5, 3, 0, 0, 0), (52, .iload_n 1, 53, 0, 0, 0, 0, 0, 0), (53, .invokevirtual 224, 56, 102, 3, 8, 1, 0, 0), (56, .aload_n 0, 57, 0, 0, 0, 0, 0, 0), (57, .getfield 54, 60, 0, 8, 3, 0, 0, 0), (60, .getfield 228, 63, 8, 5, 2, 1, 0, 0), (63, .lconst 0, 64, 0, 0, 0, 0, 0, lN 0), (64, .lcmp, 65, 0, 0, 0, 0, 0, 0), (65, .ifCond .ne 6, 68, 71, 0, 0, 0, 0, 0), (68, .bipush (-6), 70, 0, 0, 0, 0, (-6), 0), (70, .ireturn, 71, 0, 0, 0, 0, 0, 0), (71, .iload_n 3, 72, 0, 0, 0, 0, 0, 0), (72, .ifCond .ne 20, 75, 92, 0, 0, 0, 0, 0), (75, .bipush 65, 77, 0, 0, 0, 0, nI 65, 0), (77, .aload_n 0, 78, 0, 0, 0, 0, 0, 0), (78, .getfield 54, 81, 0, 8, 3, 0, 0, 0), (81, .getfield 232, 84, 8, 3, 3, 1, 0, 0), (84, .iload_n 2, 85, 0, 0, 0, 0, 0, 0), (85, .invokestatic 124, 88, 189, 2, 0, 1, 0, 0), (88, .iadd, 89, 0, 0, 0, 0, 0, 0), (89, .goto 14, 92, 103, 0, 0, 0, 0, 0), (92, .aload_n 0, 93, 0, 0, 0, 0, 0, 0), (93, .getfield 54, 96, 0, 8, 3, 0, 0, 0), (96, .getfield 235, 99, 8, 4, 3, 1, 0, 0), (99, .iload_n 2, 100, 0, 0, 0, 0, 0, 0), (100, .invokestatic 124, 103, 189, 2, 0, 1, 0, 0), (103, .ireturn, 104, 0, 0, 0, 0, 0, 0)]
def tx_RoundDance_came : List Nat := [0, 0, 0, 0, 0, 0, 0, 0, 0, 0, 0, 20, 0, 0, 0, 0, 1, 0, 5, 36, 0, 8, 0, 1, 0, 5, 0, 49, 0, 8, 23, 0, 0, 0, 0, 0, 0, 0, 0, 0, 8, 24, 0, 22, 0, 0, 0, 8, 25, 0, 22, 0]
def tb_RoundDance_wish : Tab_ := [(0, .aload_n 0, 1, 0, 0, 0, 0, 0, 0), (1, .getfield 19, 4, 0, 1, 3, 0, 0, 0), (4, .iload_n 1, 5, 0, 0, 0, 0, 0, 0), (5, .invokevirtual 115, 8, 60, 1, 2, 1, 0, 0), (8, .ifCond .eq 14, 11, 22, 0, 0, 0, 0, 0), (11, .aload_n 0, 12, 0, 0, 0, 0, 0, 0), (12, .getfield 19, 15, 0, 1, 3, 0, 0, 0), (15, .iload_n 2, 16, 0, 0, 0, 0, 0, 0), (16, .invokevirtual 115, 19, 60, 1, 2, 1, 0, 0), (19, .ifCond .ne 5, 22, 24, 0, 0, 0, 0, 0), (22, .iconst (-1), 23, 0, 0, 0, 0, (-1), 0), (23, .ireturn, 24, 0, 0, 0, 0, 0, 0), (24, .iload_n 3, 25, 0, 0, 0, 0, 0, 0), (25, .iconst 1, 26, 0, 0, 0, 0, nI 1, 0), (26, .if_icmp .lt 9, 29, 35, 0, 0, 0, 0, 0), (29, .iload_n 3, 30, 0, 0, 0, 0, 0, 0), (30, .bipush 99, 32, 0, 0, 0, 0, nI 99, 0), (32, .if_icmp .le 6, 35, 38, 0, 0, 0, 0, 0), (35, .bipush (-2), 37, 0, 0, 0, 0, (-2), 0), (37, .ireturn, 38, 0, 0, 0, 0, 0, 0), (38, .aload_n 0, 39, 0, 0, 0, 0, 0, 0), (39, .getfield 19, 42, 0, 1, 3, 0, 0, 0), (42, .getfield 238, 45, 2, 10, 3, 1, 0, 0), (45, .iload_n 3, 46, 0, 0, 0, 0, 0, 0), (46, .iload_n 1, 47, 0, 0, 0, 0, 0, 0), (47, .iload_n 2, 48, 0, 0, 0, 0, 0, 0), (48, .invokestatic 214, 51, 36, 4, 0, 0, 0, 0), (51, .ireturn, 52, 0, 0, 0, 0, 0, 0)]
def tx_RoundDance_wish : List Nat := [0, 1, 0, 19, 0, 0, 1, 0, 19, 0, 0, 0, 0, 0, 0, 0, 0, 0, 0, 0, 0, 1, 26, 0, 0, 0, 46, 0]
def tb_RoundDance_drop : Tab_ := [(0, .aload_n 0, 1, 0, 0, 0, 0, 0, 0), (1, .getfield 19, 4, 0, 1, 3, 0, 0, 0), (4, .getfield 238, 7, 2, 10, 3, 1, 0, 0), (7, .invokestatic 218, 10, 38, 1, 0, 0, 0, 0), (10, .ireturn, 11, 0, 0, 0, 0, 0, 0)]
def tx_RoundDance_drop : List Nat := [0, 1, 26, 48, 0]
def tb_RoundDance_served : Tab_ := [(0, .iload_n 1, 1, 0, 0, 0, 0, 0, 0), (1, .ifCond .lt 9, 4, 10, 0, 0, 0, 0, 0), (4, .iload_n 1, 5, 0, 0, 0, 0, 0, 0), (5, .bipush 6, 7, 0, 0, 0, 0, nI 6, 0), (7, .if_icmp .le 6, 10, 13, 0, 0, 0, 0, 0), (10, .bipush (-2), 12, 0, 0, 0, 0, (-2), 0), (12, .ireturn, 13, 0, 0, 0, 0, 0, 0), (13, .aload_n 0, 14, 0, 0, 0, 0, 0, 0), (14, .getfield 19, 17, 0, 1, 3, 0, 0, 0), (17, .aload_n 0, 18, 0, 0, 0, 0, 0, 0), (18, .getfield 33, 21, 0, 5, 3, 0, 0, 0), (21, .invokevirtual 175, 24, 65, 1, 2, 1, 0, 0), (24, .aload_n 0, 25, 0, 0, 0, 0, 0, 0), (25, .getfield 61, 28, 0, 9, 3, 0, 0, 0), (28, .aload_n 0, 29, 0, 0, 0, 0, 0, 0), (29, .getfield 19, 32, 0, 1, 3, 0, 0, 0), (32, .aload_n 0, 33, 0, 0, 0, 0, 0, 0), (33, .getfield 33, 36, 0, 5, 3, 0, 0, 0), (36, .iload_n 1, 37, 0, 0, 0, 0, 0, 0), (37, .invokevirtual 241, 40, 115, 3, 9, 1, 0, 0), (40, .aload_n 0, 41, 0, 0, 0, 0, 0, 0), (41, .getfield 61, 44, 0, 9, 3, 0, 0, 0), (44, .getfield 244, 47, 9, 5, 0, 1, 0, 0), (47, .iconst (-1), 48, 0, 0, 0, 0, (-1), 0), (48, .if_icmp .eq 13, 51, 61, 0, 0, 0, 0, 0), (51, .iload_n 2, 52, 0, 0, 0, 0, 0, 0), (52, .iconst (-1), 53, 0, 0, 0, 0, (-1), 0), (53, .if_icmp .lt 8, 56, 61, 0, 0, 0, 0, 0), (56, .iload_n 2, 57, 0, 0, 0, 0, 0, 0), (57, .iload_n 1, 58, 0, 0, 0, 0, 0, 0), (58, .if_icmp .lt 6, 61, 64, 0, 0, 0, 0, 0), (61, .bipush (-6), 63, 0, 0, 0, 0, (-6), 0), (63, .ireturn, 64, 0, 0, 0, 0, 0, 0), (64, .iload_n 2, 65, 0, 0, 0, 0, 0, 0), (65, .iconst (-1), 66, 0, 0, 0, 0, (-1), 0), (66, .if_icmp .ne 13, 69, 79, 0, 0, 0, 0, 0), (69, .aload_n 0, 70, 0, 0, 0, 0, 0, 0), (70, .getfield 61, 73, 0, 9, 3, 0, 0, 0), (73, .getfield 244, 76, 9, 5, 0, 1, 0, 0), (76, .goto 17, 79, 93, 0, 0, 0, 0, 0), (79, .bipush 65, 81, 0, 0, 0, 0, nI 65, 0), (81, .aload_n 0, 82, 0, 0, 0, 0, 0, 0), (82, .getfield 61, 85, 0, 9, 3, 0, 0, 0), (85, .getfield 247, 88, 9, 6, 0, 1, 0, 0), (88, .iload_n 2, 89, 0, 0, 0, 0, 0, 0), (89, .invokestatic 128, 92, 198, 2, 0, 1, 0, 0), (92, .iadd, 93, 0, 0, 0, 0, 0, 0), (93, .ireturn, 94, 0, 0, 0, 0, 0, 0)]
def tx_RoundDance_served : List Nat := [0, 0, 0, 0, 0, 0, 0, 0, 1, 0, 5, 36, 0, 9, 0, 1, 0, 5, 0, 50, 0, 9, 27, 0, 0, 0, 0, 0, 0, 0, 0, 0, 0, 0, 0, 0, 0, 9, 27, 0, 0, 0, 9, 28, 0, 23, 0, 0]
def tb_RoundDance_night : Tab_ := [(0, .aload_n 0, 1, 0, 0, 0, 0, 0, 0), (1, .getfield 19, 4, 0, 1, 3, 0, 0, 0), (4, .iload_n 3, 5, 0, 0, 0, 0, 0, 0), (5, .invokevirtual 115, 8, 60, 1, 2, 1, 0, 0), (8, .ifCond .ne 5, 11, 13, 0, 0, 0, 0, 0), (11, .iconst (-1), 12, 0, 0, 0, 0, (-1), 0), (12, .ireturn, 13, 0, 0, 0, 0, 0, 0), (13, .iload_n 1, 14, 0, 0, 0, 0, 0, 0), (14, .ifCond .lt 28, 17, 42, 0, 0, 0, 0, 0), (17, .iload_n 1, 18, 0, 0, 0, 0, 0, 0), (18, .sipush 9999, 21, 0, 0, 0, 0, nI 9999, 0), (21, .if_icmp .gt 21, 24, 42, 0, 0, 0, 0, 0), (24, .iload_n 2, 25, 0, 0, 0, 0, 0, 0), (25, .ifCond .lt 17, 28, 42, 0, 0, 0, 0, 0), (28, .iload_n 2, 29, 0, 0, 0, 0, 0, 0), (29, .bipush 99, 31, 0, 0, 0, 0, nI 99, 0), (31, .if_icmp .gt 11, 34, 42, 0, 0, 0, 0, 0), (34, .iload 4, 36, 0, 0, 0, 0, 0, 0), (36, .invokestatic 118, 39, 11, 1, 0, 0, 0, 0), (39, .ifCond .ne 6, 42, 45, 0, 0, 0, 0, 0), (42, .bipush (-2), 44, 0, 0, 0, 0, (-2), 0), (44, .ireturn, 45, 0, 0, 0, 0, 0, 0), (45, .aload_n 0, 46, 0, 0, 0, 0, 0, 0), (46, .getfield 19, 49, 0, 1, 3, 0, 0, 0), (49, .aload_n 0, 50, 0, 0, 0, 0, 0, 0), (50, .getfield 33, 53, 0, 5, 3, 0, 0, 0), (53, .invokevirtual 175, 56, 65, 1, 2, 1, 0, 0), (56, .aload_n 0, 57, 0, 0, 0, 0, 0, 0), (57, .invokevirtual 250, 60, 45, 0, 0, 0, 0, 0), (60, .istore 5, 62, 0, 0, 0, 0, 0, 0), (62, .aload_n 0, 63, 0, 0, 0, 0, 0, 0), (63, .getfield 19, 66, 0, 1, 3, 0, 0, 0), (66, .iload_n 3, 67, 0, 0, 0, 0, 0, 0), (67, .invokevirtual 156, 70, 63, 1, 2, 1, 0, 0), (70, .istore 6, 72, 0, 0, 0, 0, 0, 0), (72, .iconst 1, 73, 0, 0, 0, 0, nI 1, 0), (73, .iload 6, 75, 0, 0, 0, 0, 0, 0), (75, .ishl, 76, 0, 0, 0, 0, 0, 0), (76, .istore 7, 78, 0, 0, 0, 0, 0, 0), (78, .iload_n 1, 79, 0, 0, 0, 0, 0, 0), (79, .istore 8, 81, 0, 0, 0, 0, 0, 0), (81, .iconst 0, 82, 0, 0, 0, 0, nI 0, 0), (82, .istore 9, 84, 0, 0, 0, 0, 0, 0), (84, .iload 9, 86, 0, 0, 0, 0, 0, 0), (86, .iload_n 2, 87, 0, 0, 0, 0, 0, 0), (87, .if_icmp .ge 52, 90, 139, 0, 0, 0, 0, 0), (90, .iload 5, 92, 0, 0, 0, 0, 0, 0), (92, .ifCond .le 47, 95, 139, 0, 0, 0, 0, 0), (95, .bipush 75, 97, 0, 0, 0, 0, nI 75, 0), (97, .iload 8, 99, 0, 0, 0, 0, 0, 0), (99, .imul, 100, 0, 0, 0, 0, 0, 0), (100, .bipush 74, 102, 0, 0, 0, 0, nI 74, 0), (102, .iadd, 103, 0, 0, 0, 0, 0, 0), (103, .ldc 253, 105, 0, 0, 0, 0, nI 65537, 0), (105, .irem, 106, 0, 0, 0, 0, 0, 0), (106, .istore 8, 108, 0, 0, 0, 0, 0, 0), (108, .aload_n 0, 109, 0, 0, 0, 0, 0, 0), (109, .iload 8, 111, 0, 0, 0, 0, 0, 0), (111, .iload 5, 113, 0, 0, 0, 0, 0, 0), (113, .irem, 114, 0, 0, 0, 0, 0, 0), (114, .invokevirtual 254, 117, 46, 1, 0, 0, 0, 0), (117, .iload 6, 119, 0, 0, 0, 0, 0, 0), (119, .invokestatic 128, 122, 198, 2, 0, 1, 0, 0), (122, .istore 6, 124, 0, 0, 0, 0, 0, 0), (124, .iload 7, 126, 0, 0, 0, 0, 0, 0), (126, .iconst 1, 127, 0, 0, 0, 0, nI 1, 0), (127, .iload 6, 129, 0, 0, 0, 0, 0, 0), (129, .ishl, 130, 0, 0, 0, 0, 0, 0), (130, .ior, 131, 0, 0, 0, 0, 0, 0), (131, .istore 7, 133, 0, 0, 0, 0, 0, 0), (133, .iinc 9 1, 136, 0, 0, 0, 0, nI 1, 0), (136, .goto (-52), 139, 84, 0, 0, 0, 0, 0), (139, .iload 4, 141, 0, 0, 0, 0, 0, 0), (141, .ifCond .ne 8, 144, 149, 0, 0, 0, 0, 0), (144, .iload 7, 146, 0, 0, 0, 0, 0, 0), (146, .goto 5, 149, 151, 0, 0, 0, 0, 0), (149, .iload 6, 151, 0, 0, 0, 0, 0, 0), (151, .ireturn, 152, 0, 0, 0, 0, 0, 0)]
def tx_RoundDance_night : List Nat := [0, 1, 0, 19, 0, 0, 0, 0, 0, 0, 0, 0, 0, 0, 0, 0, 0, 0, 20, 0, 0, 0, 0, 1, 0, 5, 36, 0, 51, 0, 0, 1, 0, 31, 0, 0, 0, 0, 0, 0, 0, 0, 0, 0, 0, 0, 0, 0, 0, 0, 0, 0, 0, 1, 0, 0, 0, 0, 0, 0, 52, 0, 23, 0, 0, 0, 0, 0, 0, 0, 0, 0, 0, 0, 0, 0, 0, 0]
def tb_RoundDance_allowedMoves : Tab_ := [(0, .iconst 0, 1, 0, 0, 0, 0, nI 0, 0), (1, .istore_n 1, 2, 0, 0, 0, 0, 0, 0), (2, .iconst 0, 3, 0, 0, 0, 0, nI 0, 0), (3, .istore_n 2, 4, 0, 0, 0, 0, 0, 0), (4, .iload_n 2, 5, 0, 0, 0, 0, 0, 0), (5, .bipush 6, 7, 0, 0, 0, 0, nI 6, 0), (7, .if_icmp .ge 24, 10, 31, 0, 0, 0, 0, 0), (10, .aload_n 0, 11, 0, 0, 0, 0, 0, 0), (11, .getfield 33, 14, 0, 5, 3, 0, 0, 0), (14, .iload_n 2, 15, 0, 0, 0, 0, 0, 0), (15, .invokestatic 124, 18, 189, 2, 0, 1, 0, 0), (18, .iconst (-1), 19, 0, 0, 0, 0, (-1), 0), (19, .if_icmp .eq 6, 22, 25, 0, 0, 0, 0, 0), (22, .iinc 1 1, 25, 0, 0, 0, 0, nI 1, 0), (25, .iinc 2 1, 28, 0, 0, 0, 0, nI 1, 0), (28, .goto (-24), 31, 4, 0, 0, 0, 0, 0), (31, .iload_n 1, 32, 0, 0, 0, 0, 0, 0), (32, .ireturn, 33, 0, 0, 0, 0, 0, 0)]
def tx_RoundDance_allowedMoves : List Nat := [0, 0, 0, 0, 0, 0, 0, 0, 5, 0, 22, 0, 0, 0, 0, 0, 0, 0]
def tb_RoundDance_allowedMove : Tab_ := [(0, .iload_n 1, 1, 0, 0, 0, 0, 0, 0), (1, .istore_n 2, 2, 0, 0, 0, 0, 0, 0), (2, .iconst 0, 3, 0, 0, 0, 0, nI 0, 0), (3, .istore_n 3, 4, 0, 0, 0, 0, 0, 0), (4, .iload_n 3, 5, 0, 0, 0, 0, 0, 0), (5, .bipush 6, 7, 0, 0, 0, 0, nI 6, 0), (7, .if_icmp .ge 35, 10, 42, 0, 0, 0, 0, 0), (10, .aload_n 0, 11, 0, 0, 0, 0, 0, 0), (11, .getfield 33, 14, 0, 5, 3, 0, 0, 0), (14, .iload_n 3, 15, 0, 0, 0, 0, 0, 0), (15, .invokestatic 124, 18, 189, 2, 0, 1, 0, 0), (18, .istore 4, 20, 0, 0, 0, 0, 0, 0), (20, .iload 4, 22, 0, 0, 0, 0, 0, 0), (22, .iconst (-1), 23, 0, 0, 0, 0, (-1), 0), (23, .if_icmp .eq 13, 26, 36, 0, 0, 0, 0, 0), (26, .iload_n 2, 27, 0, 0, 0, 0, 0, 0), (27, .ifCond .ne 6, 30, 33, 0, 0, 0, 0, 0), (30, .iload 4, 32, 0, 0, 0, 0, 0, 0), (32, .ireturn, 33, 0, 0, 0, 0, 0, 0), (33, .iinc 2 (-1), 36, 0, 0, 0, 0, (-1), 0), (36, .iinc 3 1, 39, 0, 0, 0, 0, nI 1, 0), (39, .goto (-35), 42, 4, 0, 0, 0, 0, 0), (42, .ldc 97, 44, 0, 0, 0, 0, nI 16434824, 0), (44, .ireturn, 45, 0, 0, 0, 0, 0, 0)]
def tx_RoundDance_allowedMove : List Nat := [0, 0, 0, 0, 0, 0, 0, 0, 5, 0, 22, 0, 0, 0, 0, 0, 0, 0, 0, 0, 0, 0, 0, 0]
def tb_RoundDance_image : Tab_ := [(0, .iload_n 1, 1, 0, 0, 0, 0, 0, 0), (1, .invokestatic 118, 4, 11, 1, 0, 0, 0, 0), (4, .ifCond .ne 6, 7, 10, 0, 0, 0, 0, 0), (7, .bipush (-2), 9, 0, 0, 0, 0, (-2), 0), (9, .ireturn, 10, 0, 0, 0, 0, 0, 0), (10, .aload_n 0, 11, 0, 0, 0, 0, 0, 0), (11, .iload_n 1, 12, 0, 0, 0, 0, 0, 0), (12, .invokevirtual 257, 15, 48, 1, 0, 0, 0, 0), (15, .aload_n 0, 16, 0, 0, 0, 0, 0, 0), (16, .getfield 19, 19, 0, 1, 3, 0, 0, 0), (19, .invokevirtual 261, 22, 66, 1, 2, 1, 0, 0), (22, .aload_n 0, 23, 0, 0, 0, 0, 0, 0), (23, .dup, 24, 0, 0, 0, 0, 0, 0), (24, .getfield 29, 27, 0, 4, 0, 0, 0, 0), (27, .iconst 1, 28, 0, 0, 0, 0, nI 1, 0), (28, .iload_n 1, 29, 0, 0, 0, 0, 0, 0), (29, .ishl, 30, 0, 0, 0, 0, 0, 0), (30, .ior, 31, 0, 0, 0, 0, 0, 0), (31, .putfield 29, 34, 0, 4, 0, 0, 0, 0), (34, .iconst 1, 35, 0, 0, 0, 0, nI 1, 0), (35, .ireturn, 36, 0, 0, 0, 0, 0, 0)]
def tx_RoundDance_image : List Nat := [0, 20, 0, 0, 0, 0, 0, 53, 0, 1, 54, 0, 0, 4, 0, 0, 0, 0, 4, 0, 0]
def tb_RoundDance_imageNumbered : Tab_ := [(0, .iload_n 1, 1, 0, 0, 0, 0, 0, 0), (1, .ifCond .ne 10, 4, 11, 0, 0, 0, 0, 0), (4, .aload_n 0, 5, 0, 0, 0, 0, 0, 0), (5, .getfield 23, 8, 0, 2, 3, 0, 0, 0), (8, .goto 7, 11, 15, 0, 0, 0, 0, 0), (11, .aload_n 0, 12, 0, 0, 0, 0, 0, 0), (12, .getfield 26, 15, 0, 3, 3, 0, 0, 0), (15, .areturn, 16, 0, 0, 0, 0, 0, 0)]
def tx_RoundDance_imageNumbered : List Nat := [0, 0, 0, 2, 0, 0, 3, 0]
def tb_RoundDance_restore : Tab_ := [(0, .iload_n 1, 1, 0, 0, 0, 0, 0, 0), (1, .invokestatic 118, 4, 11, 1, 0, 0, 0, 0), (4, .ifCond .ne 6, 7, 10, 0, 0, 0, 0, 0), (7, .bipush (-2), 9, 0, 0, 0, 0, (-2), 0), (9, .ireturn, 10, 0, 0, 0, 0, 0, 0), (10, .aload_n 0, 11, 0, 0, 0, 0, 0, 0), (11, .getfield 29, 14, 0, 4, 0, 0, 0, 0), (14, .iload_n 1, 15, 0, 0, 0, 0, 0, 0), (15, .invokestatic 195, 18, 190, 2, 0, 1, 0, 0), (18, .ifCond .ne 6, 21, 24, 0, 0, 0, 0, 0), (21, .bipush (-3), 23, 0, 0, 0, 0, (-3), 0), (23, .ireturn, 24, 0, 0, 0, 0, 0, 0), (24, .aload_n 0, 25, 0, 0, 0, 0, 0, 0), (25, .getfield 19, 28, 0, 1, 3, 0, 0, 0), (28, .aload_n 0, 29, 0, 0, 0, 0, 0, 0), (29, .iload_n 1, 30, 0, 0, 0, 0, 0, 0), (30, .invokevirtual 257, 33, 48, 1, 0, 0, 0, 0), (33, .invokevirtual 261, 36, 66, 1, 2, 1, 0, 0), (36, .iconst 1, 37, 0, 0, 0, 0, nI 1, 0), (37, .ireturn, 38, 0, 0, 0, 0, 0, 0)]
def tx_RoundDance_restore : List Nat := [0, 20, 0, 0, 0, 0, 4, 0, 42, 0, 0, 0, 0, 1, 0, 0, 53, 54, 0, 0]
def tb_RoundDance_told : Tab_ := [(0, .iload_n 1, 1, 0, 0, 0, 0, 0, 0), (1, .ifCond .lt 15, 4, 16, 0, 0, 0, 0, 0), (4, .iload_n 1, 5, 0, 0, 0, 0, 0, 0), (5, .bipush 6, 7, 0, 0, 0, 0, nI 6, 0), (7, .if_icmp .gt 9, 10, 16, 0, 0, 0, 0, 0), (10, .aload_n 0, 11, 0, 0, 0, 0, 0, 0), (11, .iload_n 1, 12, 0, 0, 0, 0, 0, 0), (12, .invokevirtual 265, 15, 51, 1, 0, 0, 0, 0), (15, .ireturn, 16, 0, 0, 0, 0, 0, 0), (16, .iload_n 1, 17, 0, 0, 0, 0, 0, 0), (17, .bipush 10, 19, 0, 0, 0, 0, nI 10, 0), (19, .if_icmp .lt 24, 22, 43, 0, 0, 0, 0, 0), (22, .iload_n 1, 23, 0, 0, 0, 0, 0, 0), (23, .bipush 16, 25, 0, 0, 0, 0, nI 16, 0), (25, .if_icmp .ge 18, 28, 43, 0, 0, 0, 0, 0), (28, .aload_n 0, 29, 0, 0, 0, 0, 0, 0), (29, .getfield 19, 32, 0, 1, 3, 0, 0, 0), (32, .getfield 141, 35, 2, 6, 3, 1, 0, 0), (35, .iload_n 1, 36, 0, 0, 0, 0, 0, 0), (36, .bipush 10, 38, 0, 0, 0, 0, nI 10, 0), (38, .isub, 39, 0, 0, 0, 0, 0, 0), (39, .invokestatic 124, 42, 189, 2, 0, 1, 0, 0), (42, .ireturn, 43, 0, 0, 0, 0, 0, 0), (43, .iload_n 1, 44, 0, 0, 0, 0, 0, 0), (44, .bipush 20, 46, 0, 0, 0, 0, nI 20, 0), (46, .if_icmp .lt 24, 49, 70, 0, 0, 0, 0, 0), (49, .iload_n 1, 50, 0, 0, 0, 0, 0, 0), (50, .bipush 22, 52, 0, 0, 0, 0, nI 22, 0), (52, .if_icmp .ge 18, 55, 70, 0, 0, 0, 0, 0), (55, .aload_n 0, 56, 0, 0, 0, 0, 0, 0), (56, .getfield 19, 59, 0, 1, 3, 0, 0, 0), (59, .getfield 201, 62, 2, 8, 3, 1, 0, 0), (62, .iload_n 1, 63, 0, 0, 0, 0, 0, 0), (63, .bipush 20, 65, 0, 0, 0, 0, nI 20, 0), (65, .isub, 66, 0, 0, 0, 0, 0, 0), (66, .invokestatic 124, 69, 189, 2, 0, 1, 0, 0), (69, .ireturn, 70, 0, 0, 0, 0, 0, 0), (70, .iload_n 1, 71, 0, 0, 0, 0, 0, 0), (71, .bipush 30, 73, 0, 0, 0, 0, nI 30, 0), (73, .if_icmp .lt 29, 76, 102, 0, 0, 0, 0, 0), (76, .iload_n 1, 77, 0, 0, 0, 0, 0, 0), (77, .bipush 30, 79, 0, 0, 0, 0, nI 30, 0), (79, .aload_n 0, 80, 0, 0, 0, 0, 0, 0), (80, .getfield 19, 83, 0, 1, 3, 0, 0, 0), (83, .getfield 67, 86, 2, 0, 0, 1, 0, 0), (86, .iadd, 87, 0, 0, 0, 0, 0, 0), (87, .if_icmp .ge 15, 90, 102, 0, 0, 0, 0, 0), (90, .aload_n 0, 91, 0, 0, 0, 0, 0, 0), (91, .getfield 19, 94, 0, 1, 3, 0, 0, 0), (94, .iload_n 1, 95, 0, 0, 0, 0, 0, 0), (95, .bipush 30, 97, 0, 0, 0, 0, nI 30, 0), (97, .isub, 98, 0, 0, 0, 0, 0, 0), (98, .invokevirtual 156, 101, 63, 1, 2, 1, 0, 0), (101, .ireturn, 102, 0, 0, 0, 0, 0, 0), (102, .iload_n 1, 103, 0, 0, 0, 0, 0, 0), (103, .bipush 40, 105, 0, 0, 0, 0, nI 40, 0), (105, .if_icmp .lt 44, 108, 149, 0, 0, 0, 0, 0), (108, .iload_n 1, 109, 0, 0, 0, 0, 0, 0), (109, .bipush 40, 111, 0, 0, 0, 0, nI 40, 0), (111, .aload_n 0, 112, 0, 0, 0, 0, 0, 0), (112, .getfield 19, 115, 0, 1, 3, 0, 0, 0), (115, .getfield 67, 118, 2, 0, 0, 1, 0, 0), (118, .iadd, 119, 0, 0, 0, 0, 0, 0), (119, .if_icmp .ge 30, 122, 149, 0, 0, 0, 0, 0), (122, .aload_n 0, 123, 0, 0, 0, 0, 0, 0), (123, .getfield 19, 126, 0, 1, 3, 0, 0, 0), (126, .getfield 172, 129, 2, 7, 3, 1, 0, 0), (129, .iload_n 1, 130, 0, 0, 0, 0, 0, 0), (130, .bipush 40, 132, 0, 0, 0, 0, nI 40, 0), (132, .isub, 133, 0, 0, 0, 0, 0, 0), (133, .invokestatic 124, 136, 189, 2, 0, 1, 0, 0), (136, .istore_n 2, 137, 0, 0, 0, 0, 0, 0), (137, .iload_n 2, 138, 0, 0, 0, 0, 0, 0), (138, .iconst (-1), 139, 0, 0, 0, 0, (-1), 0), (139, .if_icmp .ne 8, 142, 147, 0, 0, 0, 0, 0), (142, .bipush (-6), 144, 0, 0, 0, 0, (-6), 0), (144, .goto 4, 147, 148, 0, 0, 0, 0, 0), (147, .iload_n 2, 148, 0, 0, 0, 0, 0, 0), (148, .ireturn, 149, 0, 0, 0, 0, 0, 0), (149, .bipush (-2), 151, 0, 0, 0, 0, (-2), 0), (151, .ireturn, 152, 0, 0, 0, 0, 0, 0)]
def tx_RoundDance_told : List Nat := [0, 0, 0, 0, 0, 0, 0, 55, 0, 0, 0, 0, 0, 0, 0, 0, 1, 16, 0, 0, 0, 22, 0, 0, 0, 0, 0, 0, 0, 0, 1, 20, 0, 0, 0, 22, 0, 0, 0, 0, 0, 0, 0, 1, 10, 0, 0, 0, 1, 0, 0, 0, 31, 0, 0, 0, 0, 0, 0, 0, 1, 10, 0, 0, 0, 1, 18, 0, 0, 0, 22, 0, 0, 0, 0, 0, 0, 0, 0, 0, 0]
def tb_RoundDance_toldOfAll : Tab_ := [(0, .iload_n 1, 1, 0, 0, 0, 0, 0, 0), (1, .tableswitch 90 0 5 #[39, 47, 55, 63, 71, 79], 40, 91, 0, 0, 0, 0, 0), (40, .aload_n 0, 41, 0, 0, 0, 0, 0, 0), (41, .getfield 10, 44, 0, 0, 3, 0, 0, 0), (44, .getfield 74, 47, 1, 1, 0, 1, 0, 0), (47, .ireturn, 48, 0, 0, 0, 0, 0, 0), (48, .aload_n 0, 49, 0, 0, 0, 0, 0, 0), (49, .getfield 19, 52, 0, 1, 3, 0, 0, 0), (52, .getfield 67, 55, 2, 0, 0, 1, 0, 0), (55, .ireturn, 56, 0, 0, 0, 0, 0, 0), (56, .aload_n 0, 57, 0, 0, 0, 0, 0, 0), (57, .getfield 19, 60, 0, 1, 3, 0, 0, 0), (60, .getfield 274, 63, 2, 2, 0, 1, 0, 0), (63, .ireturn, 64, 0, 0, 0, 0, 0, 0), (64, .aload_n 0, 65, 0, 0, 0, 0, 0, 0), (65, .getfield 19, 68, 0, 1, 3, 0, 0, 0), (68, .getfield 277, 71, 2, 3, 0, 1, 0, 0), (71, .ireturn, 72, 0, 0, 0, 0, 0, 0), (72, .aload_n 0, 73, 0, 0, 0, 0, 0, 0), (73, .getfield 19, 76, 0, 1, 3, 0, 0, 0), (76, .getfield 280, 79, 2, 4, 0, 1, 0, 0), (79, .ireturn, 80, 0, 0, 0, 0, 0, 0), (80, .aload_n 0, 81, 0, 0, 0, 0, 0, 0), (81, .getfield 19, 84, 0, 1, 3, 0, 0, 0), (84, .getfield 210, 87, 2, 9, 3, 1, 0, 0), (87, .getfield 286, 90, 3, 1, 0, 1, 0, 0), (90, .ireturn, 91, 0, 0, 0, 0, 0, 0), (91, .aload_n 0, 92, 0, 0, 0, 0, 0, 0), (92, .getfield 19, 95, 0, 1, 3, 0, 0, 0), (95, .getfield 238, 98, 2, 10, 3, 1, 0, 0), (98, .getfield 286, 101, 3, 1, 0, 1, 0, 0), (101, .ireturn, 102, 0, 0, 0, 0, 0, 0)]
def tx_RoundDance_toldOfAll : List Nat := [0, 0, 0, 0, 11, 0, 0, 1, 10, 0, 0, 1, 13, 0, 0, 1, 14, 0, 0, 1, 15, 0, 0, 1, 21, 22, 0, 0, 1, 26, 22, 0]
def tb_Pad_init : Tab_ := [(0, .aload_n 0, 1, 0, 0, 0, 0, 0, 0), (1, .invokespecial 3, 4, 0, 0, 0, 2, 0, 0), (4, .aload_n 0, 5, 0, 0, 0, 0, 0, 0), (5, .bipush 30, 7, 0, 0, 0, 0, nI 30, 0), (7, .newarray .int, 9, 1, 0, 0, 0, 0, 0), (9, .putfield 11, 12, 1, 0, 3, 0, 0, 0), (12, .aload_n 0, 13, 0, 0, 0, 0, 0, 0), (13, .iconst 0, 14, 0, 0, 0, 0, nI 0, 0), (14, .putfield 15, 17, 1, 1, 0, 0, 0, 0), (17, .return_, 18, 0, 0, 0, 0, 0, 0)]
def tx_Pad_init : List Nat := [0, 56, 0, 0, 0, 29, 0, 0, 30, 0]
def tb_Pad_write : Tab_ := [(0, .aload_n 0, 1, 0, 0, 0, 0, 0, 0), (1, .getfield 15, 4, 1, 1, 0, 0, 0, 0), (4, .bipush 30, 6, 0, 0, 0, 0, nI 30, 0), (6, .if_icmp .ge 25, 9, 31, 0, 0, 0, 0, 0), (9, .aload_n 0, 10, 0, 0, 0, 0, 0, 0), (10, .getfield 11, 13, 1, 0, 3, 0, 0, 0), (13, .aload_n 0, 14, 0, 0, 0, 0, 0, 0), (14, .getfield 15, 17, 1, 1, 0, 0, 0, 0), (17, .iload_n 1, 18, 0, 0, 0, 0, 0, 0), (18, .invokestatic 19, 21, 188, 3, 0, 1, 0, 0), (21, .aload_n 0, 22, 0, 0, 0, 0, 0, 0), (22, .dup, 23, 0, 0, 0, 0, 0, 0), (23, .getfield 15, 26, 1, 1, 0, 0, 0, 0), (26, .iconst 1, 27, 0, 0, 0, 0, nI 1, 0), (27, .iadd, 28, 0, 0, 0, 0, 0, 0), (28, .putfield 15, 31, 1, 1, 0, 0, 0, 0), (31, .return_, 32, 0, 0, 0, 0, 0, 0)]
def tx_Pad_write : List Nat := [0, 30, 0, 0, 0, 29, 0, 30, 0, 57, 0, 0, 30, 0, 0, 30, 0]
def tb_Pad_clear : Tab_ := [(0, .aload_n 0, 1, 0, 0, 0, 0, 0, 0), (1, .iconst 0, 2, 0, 0, 0, 0, nI 0, 0), (2, .putfield 15, 5, 1, 1, 0, 0, 0, 0), (5, .return_, 6, 0, 0, 0, 0, 0, 0)]
def tx_Pad_clear : List Nat := [0, 0, 30, 0]
def tb_Pad_faultEachOnce : Tab_ := [(0, .iconst 0, 1, 0, 0, 0, 0, nI 0, 0), (1, .istore_n 3, 2, 0, 0, 0, 0, 0, 0), (2, .iconst 0, 3, 0, 0, 0, 0, nI 0, 0), (3, .istore 4, 5, 0, 0, 0, 0, 0, 0), (5, .iload 4, 7, 0, 0, 0, 0, 0, 0), (7, .aload_n 0, 8, 0, 0, 0, 0, 0, 0), (8, .getfield 15, 11, 1, 1, 0, 0, 0, 0), (11, .if_icmp .ge 49, 14, 60, 0, 0, 0, 0, 0), (14, .aload_n 0, 15, 0, 0, 0, 0, 0, 0), (15, .iload 4, 17, 0, 0, 0, 0, 0, 0), (17, .invokevirtual 29, 20, 56, 1, 1, 0, 0, 0), (20, .iload_n 1, 21, 0, 0, 0, 0, 0, 0), (21, .isub, 22, 0, 0, 0, 0, 0, 0), (22, .istore 5, 24, 0, 0, 0, 0, 0, 0), (24, .iload 5, 26, 0, 0, 0, 0, 0, 0), (26, .ifCond .lt 18, 29, 44, 0, 0, 0, 0, 0), (29, .iload 5, 31, 0, 0, 0, 0, 0, 0), (31, .iload_n 2, 32, 0, 0, 0, 0, 0, 0), (32, .if_icmp .ge 12, 35, 44, 0, 0, 0, 0, 0), (35, .iload_n 3, 36, 0, 0, 0, 0, 0, 0), (36, .iload 5, 38, 0, 0, 0, 0, 0, 0), (38, .invokestatic 33, 41, 190, 2, 0, 1, 0, 0), (41, .ifCond .eq 6, 44, 47, 0, 0, 0, 0, 0), (44, .iload 4, 46, 0, 0, 0, 0, 0, 0), (46, .ireturn, 47, 0, 0, 0, 0, 0, 0), (47, .iload_n 3, 48, 0, 0, 0, 0, 0, 0), (48, .iconst 1, 49, 0, 0, 0, 0, nI 1, 0), (49, .iload 5, 51, 0, 0, 0, 0, 0, 0), (51, .ishl, 52, 0, 0, 0, 0, 0, 0), (52, .ior, 53, 0, 0, 0, 0, 0, 0), (53, .istore_n 3, 54, 0, 0, 0, 0, 0, 0), (54, .iinc 4 1, 57, 0, 0, 0, 0, nI 1, 0), (57, .goto (-52), 60, 5, 0, 0, 0, 0, 0), (60, .aload_n 0, 61, 0, 0, 0, 0, 0, 0), (61, .getfield 15, 64, 1, 1, 0, 0, 0, 0), (64, .iload_n 2, 65, 0, 0, 0, 0, 0, 0), (65, .if_icmp .ge 10, 68, 75, 0, 0, 0, 0, 0), (68, .aload_n 0, 69, 0, 0, 0, 0, 0, 0), (69, .getfield 15, 72, 1, 1, 0, 0, 0, 0), (72, .goto 5, 75, 77, 0, 0, 0, 0, 0), (75, .bipush (-6), 77, 0, 0, 0, 0, (-6), 0), (77, .ireturn, 78, 0, 0, 0, 0, 0, 0)]
def tx_Pad_faultEachOnce : List Nat := [0, 0, 0, 0, 0, 0, 30, 0, 0, 0, 58, 0, 0, 0, 0, 0, 0, 0, 0, 0, 0, 59, 0, 0, 0, 0, 0, 0, 0, 0, 0, 0, 0, 0, 30, 0, 0, 0, 30, 0, 0, 0]
def tb_Pad_signAt : Tab_ := [(0, .aload_n 0, 1, 0, 0, 0, 0, 0, 0), (1, .getfield 11, 4, 1, 0, 3, 0, 0, 0), (4, .iload_n 1, 5, 0, 0, 0, 0, 0, 0), (5, .invokestatic 25, 8, 189, 2, 0, 1, 0, 0), (8, .ireturn, 9, 0, 0, 0, 0, 0, 0)]
def tx_Pad_signAt : List Nat := [0, 29, 0, 60, 0]
def tb_Pad_faultRow : Tab_ := [(0, .iconst 0, 1, 0, 0, 0, 0, nI 0, 0), (1, .istore_n 3, 2, 0, 0, 0, 0, 0, 0), (2, .iload_n 3, 3, 0, 0, 0, 0, 0, 0), (3, .aload_n 0, 4, 0, 0, 0, 0, 0, 0), (4, .getfield 15, 7, 1, 1, 0, 0, 0, 0), (7, .if_icmp .ge 37, 10, 44, 0, 0, 0, 0, 0), (10, .aload_n 0, 11, 0, 0, 0, 0, 0, 0), (11, .iload_n 3, 12, 0, 0, 0, 0, 0, 0), (12, .invokevirtual 29, 15, 56, 1, 1, 0, 0, 0), (15, .iload_n 1, 16, 0, 0, 0, 0, 0, 0), (16, .isub, 17, 0, 0, 0, 0, 0, 0), (17, .istore 4, 19, 0, 0, 0, 0, 0, 0), (19, .iload_n 3, 20, 0, 0, 0, 0, 0, 0), (20, .bipush 20, 22, 0, 0, 0, 0, nI 20, 0), (22, .if_icmp .ge 14, 25, 36, 0, 0, 0, 0, 0), (25, .iload 4, 27, 0, 0, 0, 0, 0, 0), (27, .ifCond .lt 9, 30, 36, 0, 0, 0, 0, 0), (30, .iload 4, 32, 0, 0, 0, 0, 0, 0), (32, .iload_n 2, 33, 0, 0, 0, 0, 0, 0), (33, .if_icmp .lt 5, 36, 38, 0, 0, 0, 0, 0), (36, .iload_n 3, 37, 0, 0, 0, 0, 0, 0), (37, .ireturn, 38, 0, 0, 0, 0, 0, 0), (38, .iinc 3 1, 41, 0, 0, 0, 0, nI 1, 0), (41, .goto (-39), 44, 2, 0, 0, 0, 0, 0), (44, .bipush (-6), 46, 0, 0, 0, 0, (-6), 0), (46, .ireturn, 47, 0, 0, 0, 0, 0, 0)]
def tx_Pad_faultRow : List Nat := [0, 0, 0, 0, 30, 0, 0, 0, 58, 0, 0, 0, 0, 0, 0, 0, 0, 0, 0, 0, 0, 0, 0, 0, 0, 0]
def tb_Market_init : Tab_ := [(0, .aload_n 0, 1, 0, 0, 0, 0, 0, 0), (1, .invokespecial 3, 4, 0, 0, 0, 2, 0, 0), (4, .aload_n 0, 5, 0, 0, 0, 0, 0, 0), (5, .iconst 1, 6, 0, 0, 0, 0, nI 1, 0), (6, .putfield 9, 9, 2, 3, 0, 0, 0, 0), (9, .aload_n 0, 10, 0, 0, 0, 0, 0, 0), (10, .iconst 0, 11, 0, 0, 0, 0, nI 0, 0), (11, .putfield 15, 14, 2, 4, 0, 0, 0, 0), (14, .aload_n 0, 15, 0, 0, 0, 0, 0, 0), (15, .bipush 6, 17, 0, 0, 0, 0, nI 6, 0), (17, .newarray .int, 19, 1, 0, 0, 0, 0, 0), (19, .putfield 18, 22, 2, 5, 3, 0, 0, 0), (22, .aload_n 0, 23, 0, 0, 0, 0, 0, 0), (23, .bipush 6, 25, 0, 0, 0, 0, nI 6, 0), (25, .newarray .int, 27, 1, 0, 0, 0, 0, 0), (27, .putfield 22, 30, 2, 6, 3, 0, 0, 0), (30, .aload_n 0, 31, 0, 0, 0, 0, 0, 0), (31, .bipush 8, 33, 0, 0, 0, 0, nI 8, 0), (33, .newarray .int, 35, 1, 0, 0, 0, 0, 0), (35, .putfield 27, 38, 2, 7, 3, 0, 0, 0), (38, .aload_n 0, 39, 0, 0, 0, 0, 0, 0), (39, .iconst 2, 40, 0, 0, 0, 0, nI 2, 0), (40, .newarray .int, 42, 1, 0, 0, 0, 0, 0), (42, .putfield 30, 45, 2, 8, 3, 0, 0, 0), (45, .aload_n 0, 46, 0, 0, 0, 0, 0, 0), (46, .new 33, 49, 3, 2, 0, 0, 0, 0), (49, .dup, 50, 0, 0, 0, 0, 0, 0), (50, .invokespecial 35, 53, 67, 0, 3, 1, 0, 0), (53, .putfield 36, 56, 2, 9, 3, 0, 0, 0), (56, .aload_n 0, 57, 0, 0, 0, 0, 0, 0), (57, .new 33, 60, 3, 2, 0, 0, 0, 0), (60, .dup, 61, 0, 0, 0, 0, 0, 0), (61, .invokespecial 35, 64, 67, 0, 3, 1, 0, 0), (64, .putfield 40, 67, 2, 10, 3, 0, 0, 0), (67, .aload_n 0, 68, 0, 0, 0, 0, 0, 0), (68, .getfield 22, 71, 2, 6, 3, 0, 0, 0), (71, .iconst 3, 72, 0, 0, 0, 0, nI 3, 0), (72, .invokestatic 43, 75, 187, 2, 0, 1, 0, 0), (75, .aload_n 0, 76, 0, 0, 0, 0, 0, 0), (76, .getfield 30, 79, 2, 8, 3, 0, 0, 0), (79, .bipush 63, 81, 0, 0, 0, 0, nI 63, 0), (81, .invokestatic 43, 84, 187, 2, 0, 1, 0, 0), (84, .aload_n 0, 85, 0, 0, 0, 0, 0, 0), (85, .bipush 8, 87, 0, 0, 0, 0, nI 8, 0), (87, .invokevirtual 49, 90, 59, 1, 2, 0, 0, 0), (90, .return_, 91, 0, 0, 0, 0, 0, 0)]
def tx_Market_init : List Nat := [0, 61, 0, 0, 31, 0, 0, 32, 0, 0, 0, 33, 0, 0, 0, 34, 0, 0, 0, 35, 0, 0, 0, 36, 0, 6, 0, 62, 37, 0, 6, 0, 62, 38, 0, 34, 0, 63, 0, 36, 0, 63, 0, 0, 64, 0]
def tb_Market_open : Tab_ := [(0, .aload_n 0, 1, 0, 0, 0, 0, 0, 0), (1, .iload_n 1, 2, 0, 0, 0, 0, 0, 0), (2, .putfield 53, 5, 2, 0, 0, 0, 0, 0), (5, .aload_n 0, 6, 0, 0, 0, 0, 0, 0), (6, .ldc 56, 8, 0, 0, 0, 0, nI 16434824, 0), (8, .putfield 57, 11, 2, 1, 0, 0, 0, 0), (11, .aload_n 0, 12, 0, 0, 0, 0, 0, 0), (12, .iconst 0, 13, 0, 0, 0, 0, nI 0, 0), (13, .putfield 60, 16, 2, 2, 0, 0, 0, 0), (16, .aload_n 0, 17, 0, 0, 0, 0, 0, 0), (17, .getfield 18, 20, 2, 5, 3, 0, 0, 0), (20, .ldc 56, 22, 0, 0, 0, 0, nI 16434824, 0), (22, .invokestatic 43, 25, 187, 2, 0, 1, 0, 0), (25, .aload_n 0, 26, 0, 0, 0, 0, 0, 0), (26, .getfield 27, 29, 2, 7, 3, 0, 0, 0), (29, .iconst (-1), 30, 0, 0, 0, 0, (-1), 0), (30, .invokestatic 43, 33, 187, 2, 0, 1, 0, 0), (33, .aload_n 0, 34, 0, 0, 0, 0, 0, 0), (34, .getfield 36, 37, 2, 9, 3, 0, 0, 0), (37, .iconst 0, 38, 0, 0, 0, 0, nI 0, 0), (38, .putfield 63, 41, 3, 1, 0, 1, 0, 0), (41, .aload_n 0, 42, 0, 0, 0, 0, 0, 0), (42, .getfield 40, 45, 2, 10, 3, 0, 0, 0), (45, .iconst 0, 46, 0, 0, 0, 0, nI 0, 0), (46, .putfield 63, 49, 3, 1, 0, 1, 0, 0), (49, .return_, 50, 0, 0, 0, 0, 0, 0)]
def tx_Market_open : List Nat := [0, 0, 39, 0, 2, 40, 0, 0, 41, 0, 33, 2, 63, 0, 35, 0, 63, 0, 37, 0, 42, 0, 38, 0, 42, 0]
def tb_Market_has : Tab_ := [(0, .iload_n 1, 1, 0, 0, 0, 0, 0, 0), (1, .ifCond .lt 15, 4, 16, 0, 0, 0, 0, 0), (4, .iload_n 1, 5, 0, 0, 0, 0, 0, 0), (5, .aload_n 0, 6, 0, 0, 0, 0, 0, 0), (6, .getfield 53, 9, 2, 0, 0, 0, 0, 0), (9, .if_icmp .ge 7, 12, 16, 0, 0, 0, 0, 0), (12, .iconst 1, 13, 0, 0, 0, 0, nI 1, 0), (13, .goto 4, 16, 17, 0, 0, 0, 0, 0), (16, .iconst 0, 17, 0, 0, 0, 0, nI 0, 0), (17, .ireturn, 18, 1, 0, 0, 0, 0, 0)]
def tx_Market_has : List Nat := [0, 0, 0, 0, 39, 0, 0, 0, 0, 0]
def tb_Market_danced : Tab_ := [(0, .aload_n 0, 1, 0, 0, 0, 0, 0, 0), (1, .getfield 18, 4, 2, 5, 3, 0, 0, 0), (4, .iload_n 1, 5, 0, 0, 0, 0, 0, 0), (5, .invokestatic 70, 8, 189, 2, 0, 1, 0, 0), (8, .aload_n 0, 9, 0, 0, 0, 0, 0, 0), (9, .getfield 60, 12, 2, 2, 0, 0, 0, 0), (12, .invokestatic 78, 15, 197, 2, 0, 1, 0, 0), (15, .ireturn, 16, 0, 0, 0, 0, 0, 0)]
def tx_Market_danced : List Nat := [0, 33, 0, 65, 0, 41, 66, 0]
def tb_Market_may : Tab_ := [(0, .aload_n 0, 1, 0, 0, 0, 0, 0, 0), (1, .getfield 22, 4, 2, 6, 3, 0, 0, 0), (4, .iload_n 1, 5, 0, 0, 0, 0, 0, 0), (5, .invokestatic 70, 8, 189, 2, 0, 1, 0, 0), (8, .aload_n 0, 9, 0, 0, 0, 0, 0, 0), (9, .getfield 9, 12, 2, 3, 0, 0, 0, 0), (12, .iand, 13, 0, 0, 0, 0, 0, 0), (13, .ifCond .eq 18, 16, 31, 0, 0, 0, 0, 0), (16, .aload_n 0, 17, 0, 0, 0, 0, 0, 0), (17, .getfield 15, 20, 2, 4, 0, 0, 0, 0), (20, .iload_n 1, 21, 0, 0, 0, 0, 0, 0), (21, .invokestatic 74, 24, 190, 2, 0, 1, 0, 0), (24, .ifCond .ne 7, 27, 31, 0, 0, 0, 0, 0), (27, .iconst 1, 28, 0, 0, 0, 0, nI 1, 0), (28, .goto 4, 31, 32, 0, 0, 0, 0, 0), (31, .iconst 0, 32, 0, 0, 0, 0, nI 0, 0), (32, .ireturn, 33, 1, 0, 0, 0, 0, 0)]
def tx_Market_may : List Nat := [0, 34, 0, 65, 0, 31, 0, 0, 0, 32, 0, 67, 0, 0, 0, 0, 0]
def tb_Market_placeOf : Tab_ := [(0, .aload_n 0, 1, 0, 0, 0, 0, 0, 0), (1, .getfield 57, 4, 2, 1, 0, 0, 0, 0), (4, .iload_n 1, 5, 0, 0, 0, 0, 0, 0), (5, .invokestatic 66, 8, 198, 2, 0, 1, 0, 0), (8, .ireturn, 9, 0, 0, 0, 0, 0, 0)]
def tx_Market_placeOf : List Nat := [0, 40, 0, 68, 0]
def tb_Market_isWantedByOther : Tab_ := [(0, .iconst 0, 1, 0, 0, 0, 0, nI 0, 0), (1, .istore_n 3, 2, 0, 0, 0, 0, 0, 0), (2, .iload_n 3, 3, 0, 0, 0, 0, 0, 0), (3, .aload_n 0, 4, 0, 0, 0, 0, 0, 0), (4, .getfield 53, 7, 2, 0, 0, 0, 0, 0), (7, .if_icmp .ge 28, 10, 35, 0, 0, 0, 0, 0), (10, .iload_n 3, 11, 0, 0, 0, 0, 0, 0), (11, .iload_n 1, 12, 0, 0, 0, 0, 0, 0), (12, .if_icmp .eq 17, 15, 29, 0, 0, 0, 0, 0), (15, .aload_n 0, 16, 0, 0, 0, 0, 0, 0), (16, .getfield 27, 19, 2, 7, 3, 0, 0, 0), (19, .iload_n 3, 20, 0, 0, 0, 0, 0, 0), (20, .invokestatic 70, 23, 189, 2, 0, 1, 0, 0), (23, .iload_n 2, 24, 0, 0, 0, 0, 0, 0), (24, .if_icmp .ne 5, 27, 29, 0, 0, 0, 0, 0), (27, .iconst 1, 28, 0, 0, 0, 0, nI 1, 0), (28, .ireturn, 29, 1, 0, 0, 0, 0, 0), (29, .iinc 3 1, 32, 0, 0, 0, 0, nI 1, 0), (32, .goto (-30), 35, 2, 0, 0, 0, 0, 0), (35, .iconst 0, 36, 0, 0, 0, 0, nI 0, 0), (36, .ireturn, 37, 1, 0, 0, 0, 0, 0)]
def tx_Market_isWantedByOther : List Nat := [0, 0, 0, 0, 39, 0, 0, 0, 0, 0, 35, 0, 65, 0, 0, 0, 0, 0, 0, 0, 0]
def tb_Market_fillMoves : Tab_ := [(0, .iconst 0, 1, 0, 0, 0, 0, nI 0, 0), (1, .istore_n 2, 2, 0, 0, 0, 0, 0, 0), (2, .iload_n 2, 3, 0, 0, 0, 0, 0, 0), (3, .bipush 6, 5, 0, 0, 0, 0, nI 6, 0), (5, .if_icmp .ge 31, 8, 36, 0, 0, 0, 0, 0), (8, .aload_n 1, 9, 0, 0, 0, 0, 0, 0), (9, .iload_n 2, 10, 0, 0, 0, 0, 0, 0), (10, .aload_n 0, 11, 0, 0, 0, 0, 0, 0), (11, .iload_n 2, 12, 0, 0, 0, 0, 0, 0), (12, .invokevirtual 81, 15, 62, 1, 2, 0, 0, 0), (15, .ifCond .eq 11, 18, 26, 0, 0, 0, 0, 0), (18, .aload_n 0, 19, 0, 0, 0, 0, 0, 0), (19, .iload_n 2, 20, 0, 0, 0, 0, 0, 0), (20, .invokevirtual 85, 23, 61, 1, 2, 0, 0, 0), (23, .goto 4, 26, 27, 0, 0, 0, 0, 0), (26, .iconst (-1), 27, 0, 0, 0, 0, (-1), 0), (27, .invokestatic 89, 30, 188, 3, 0, 1, 0, 0), (30, .iinc 2 1, 33, 0, 0, 0, 0, nI 1, 0), (33, .goto (-31), 36, 2, 0, 0, 0, 0, 0), (36, .return_, 37, 0, 0, 0, 0, 0, 0)]
def tx_Market_fillMoves : List Nat := [0, 0, 0, 0, 0, 0, 0, 0, 0, 69, 0, 0, 0, 70, 0, 0, 71, 0, 0, 0]
def tb_Market_take : Tab_ := [(0, .aload_n 0, 1, 0, 0, 0, 0, 0, 0), (1, .aload_n 1, 2, 0, 0, 0, 0, 0, 0), (2, .getfield 53, 5, 2, 0, 0, 0, 0, 0), (5, .putfield 53, 8, 2, 0, 0, 0, 0, 0), (8, .aload_n 0, 9, 0, 0, 0, 0, 0, 0), (9, .aload_n 1, 10, 0, 0, 0, 0, 0, 0), (10, .getfield 57, 13, 2, 1, 0, 0, 0, 0), (13, .putfield 57, 16, 2, 1, 0, 0, 0, 0), (16, .aload_n 0, 17, 0, 0, 0, 0, 0, 0), (17, .aload_n 1, 18, 0, 0, 0, 0, 0, 0), (18, .getfield 60, 21, 2, 2, 0, 0, 0, 0), (21, .putfield 60, 24, 2, 2, 0, 0, 0, 0), (24, .aload_n 0, 25, 0, 0, 0, 0, 0, 0), (25, .aload_n 1, 26, 0, 0, 0, 0, 0, 0), (26, .getfield 9, 29, 2, 3, 0, 0, 0, 0), (29, .putfield 9, 32, 2, 3, 0, 0, 0, 0), (32, .aload_n 0, 33, 0, 0, 0, 0, 0, 0), (33, .aload_n 1, 34, 0, 0, 0, 0, 0, 0), (34, .getfield 15, 37, 2, 4, 0, 0, 0, 0), (37, .putfield 15, 40, 2, 4, 0, 0, 0, 0), (40, .aload_n 1, 41, 0, 0, 0, 0, 0, 0), (41, .getfield 18, 44, 2, 5, 3, 0, 0, 0), (44, .aload_n 0, 45, 0, 0, 0, 0, 0, 0), (45, .getfield 18, 48, 2, 5, 3, 0, 0, 0), (48, .invokestatic 93, 51, 195, 2, 0, 1, 0, 0), (51, .aload_n 1, 52, 0, 0, 0, 0, 0, 0), (52, .getfield 22, 55, 2, 6, 3, 0, 0, 0), (55, .aload_n 0, 56, 0, 0, 0, 0, 0, 0), (56, .getfield 22, 59, 2, 6, 3, 0, 0, 0), (59, .invokestatic 93, 62, 195, 2, 0, 1, 0, 0), (62, .aload_n 1, 63, 0, 0, 0, 0, 0, 0), (63, .getfield 27, 66, 2, 7, 3, 0, 0, 0), (66, .aload_n 0, 67, 0, 0, 0, 0, 0, 0), (67, .getfield 27, 70, 2, 7, 3, 0, 0, 0), (70, .invokestatic 93, 73, 195, 2, 0, 1, 0, 0), (73, .aload_n 1, 74, 0, 0, 0, 0, 0, 0), (74, .getfield 30, 77, 2, 8, 3, 0, 0, 0), (77, .aload_n 0, 78, 0, 0, 0, 0, 0, 0), (78, .getfield 30, 81, 2, 8, 3, 0, 0, 0), (81, .invokestatic 93, 84, 195, 2, 0, 1, 0, 0), (84, .aload_n 0, 85, 0, 0, 0, 0, 0, 0), (85, .getfield 36, 88, 2, 9, 3, 0, 0, 0), (88, .aload_n 1, 89, 0, 0, 0, 0, 0, 0), (89, .getfield 36, 92, 2, 9, 3, 0, 0, 0), (92, .invokevirtual 97, 95, 73, 1, 3, 1, 0, 0), (95, .aload_n 0, 96, 0, 0, 0, 0, 0, 0), (96, .getfield 40, 99, 2, 10, 3, 0, 0, 0), (99, .aload_n 1, 100, 0, 0, 0, 0, 0, 0), (100, .getfield 40, 103, 2, 10, 3, 0, 0, 0), (103, .invokevirtual 97, 106, 73, 1, 3, 1, 0, 0), (106, .return_, 107, 0, 0, 0, 0, 0, 0)]
def tx_Market_take : List Nat := [0, 0, 39, 39, 0, 0, 40, 40, 0, 0, 41, 41, 0, 0, 31, 31, 0, 0, 32, 32, 0, 33, 0, 33, 72, 0, 34, 0, 34, 72, 0, 35, 0, 35, 72, 0, 36, 0, 36, 72, 0, 37, 0, 37, 73, 0, 38, 0, 38, 73, 0]
def tb_Notes_init : Tab_ := [(0, .aload_n 0, 1, 0, 0, 0, 0, 0, 0), (1, .invokespecial 1, 4, 0, 0, 0, 2, 0, 0), (4, .aload_n 0, 5, 0, 0, 0, 0, 0, 0), (5, .bipush 6, 7, 0, 0, 0, 0, nI 6, 0), (7, .newarray .int, 9, 1, 0, 0, 0, 0, 0), (9, .putfield 9, 12, 3, 0, 3, 0, 0, 0), (12, .aload_n 0, 13, 0, 0, 0, 0, 0, 0), (13, .iconst 0, 14, 0, 0, 0, 0, nI 0, 0), (14, .putfield 13, 17, 3, 1, 0, 0, 0, 0), (17, .return_, 18, 0, 0, 0, 0, 0, 0)]
def tx_Notes_init : List Nat := [0, 74, 0, 0, 0, 43, 0, 0, 44, 0]
def tb_Notes_add : Tab_ := [(0, .aload_n 0, 1, 0, 0, 0, 0, 0, 0), (1, .getfield 13, 4, 3, 1, 0, 0, 0, 0), (4, .bipush 6, 6, 0, 0, 0, 0, nI 6, 0), (6, .if_icmp .ge 34, 9, 40, 0, 0, 0, 0, 0), (9, .aload_n 0, 10, 0, 0, 0, 0, 0, 0), (10, .getfield 9, 13, 3, 0, 3, 0, 0, 0), (13, .aload_n 0, 14, 0, 0, 0, 0, 0, 0), (14, .getfield 13, 17, 3, 1, 0, 0, 0, 0), (17, .iload_n 1, 18, 0, 0, 0, 0, 0, 0), (18, .bipush 6, 20, 0, 0, 0, 0, nI 6, 0), (20, .ishl, 21, 0, 0, 0, 0, 0, 0), (21, .iload_n 2, 22, 0, 0, 0, 0, 0, 0), (22, .iconst 3, 23, 0, 0, 0, 0, nI 3, 0), (23, .ishl, 24, 0, 0, 0, 0, 0, 0), (24, .ior, 25, 0, 0, 0, 0, 0, 0), (25, .iload_n 3, 26, 0, 0, 0, 0, 0, 0), (26, .ior, 27, 0, 0, 0, 0, 0, 0), (27, .invokestatic 17, 30, 188, 3, 0, 1, 0, 0), (30, .aload_n 0, 31, 0, 0, 0, 0, 0, 0), (31, .dup, 32, 0, 0, 0, 0, 0, 0), (32, .getfield 13, 35, 3, 1, 0, 0, 0, 0), (35, .iconst 1, 36, 0, 0, 0, 0, nI 1, 0), (36, .iadd, 37, 0, 0, 0, 0, 0, 0), (37, .putfield 13, 40, 3, 1, 0, 0, 0, 0), (40, .return_, 41, 0, 0, 0, 0, 0, 0)]
def tx_Notes_add : List Nat := [0, 44, 0, 0, 0, 43, 0, 44, 0, 0, 0, 0, 0, 0, 0, 0, 0, 75, 0, 0, 44, 0, 0, 44, 0]
def tb_Notes_amount : Tab_ := [(0, .aload_n 0, 1, 0, 0, 0, 0, 0, 0), (1, .iload_n 1, 2, 0, 0, 0, 0, 0, 0), (2, .invokevirtual 27, 5, 70, 1, 3, 0, 0, 0), (5, .bipush 6, 7, 0, 0, 0, 0, nI 6, 0), (7, .iushr, 8, 0, 0, 0, 0, 0, 0), (8, .ireturn, 9, 0, 0, 0, 0, 0, 0)]
def tx_Notes_amount : List Nat := [0, 0, 76, 0, 0, 0]
def tb_Notes_mark : Tab_ := [(0, .aload_n 0, 1, 0, 0, 0, 0, 0, 0), (1, .getfield 9, 4, 3, 0, 3, 0, 0, 0), (4, .iload_n 1, 5, 0, 0, 0, 0, 0, 0), (5, .invokestatic 23, 8, 189, 2, 0, 1, 0, 0), (8, .ireturn, 9, 0, 0, 0, 0, 0, 0)]
def tx_Notes_mark : List Nat := [0, 43, 0, 77, 0]
def tb_Notes_good : Tab_ := [(0, .aload_n 0, 1, 0, 0, 0, 0, 0, 0), (1, .iload_n 1, 2, 0, 0, 0, 0, 0, 0), (2, .invokevirtual 27, 5, 70, 1, 3, 0, 0, 0), (5, .iconst 3, 6, 0, 0, 0, 0, nI 3, 0), (6, .iushr, 7, 0, 0, 0, 0, 0, 0), (7, .bipush 7, 9, 0, 0, 0, 0, nI 7, 0), (9, .iand, 10, 0, 0, 0, 0, 0, 0), (10, .ireturn, 11, 0, 0, 0, 0, 0, 0)]
def tx_Notes_good : List Nat := [0, 0, 76, 0, 0, 0, 0, 0]
def tb_Notes_place : Tab_ := [(0, .aload_n 0, 1, 0, 0, 0, 0, 0, 0), (1, .iload_n 1, 2, 0, 0, 0, 0, 0, 0), (2, .invokevirtual 27, 5, 70, 1, 3, 0, 0, 0), (5, .bipush 7, 7, 0, 0, 0, 0, nI 7, 0), (7, .iand, 8, 0, 0, 0, 0, 0, 0), (8, .ireturn, 9, 0, 0, 0, 0, 0, 0)]
def tx_Notes_place : List Nat := [0, 0, 76, 0, 0, 0]
def tb_Notes_take : Tab_ := [(0, .aload_n 1, 1, 0, 0, 0, 0, 0, 0), (1, .getfield 9, 4, 3, 0, 3, 0, 0, 0), (4, .aload_n 0, 5, 0, 0, 0, 0, 0, 0), (5, .getfield 9, 8, 3, 0, 3, 0, 0, 0), (8, .invokestatic 31, 11, 195, 2, 0, 1, 0, 0), (11, .aload_n 0, 12, 0, 0, 0, 0, 0, 0), (12, .aload_n 1, 13, 0, 0, 0, 0, 0, 0), (13, .getfield 13, 16, 3, 1, 0, 0, 0, 0), (16, .putfield 13, 19, 3, 1, 0, 0, 0, 0), (19, .return_, 20, 0, 0, 0, 0, 0, 0)]
def tx_Notes_take : List Nat := [0, 43, 0, 43, 78, 0, 0, 44, 44, 0]
def tb_Group_init : Tab_ := [(0, .aload_n 0, 1, 0, 0, 0, 0, 0, 0), (1, .invokespecial 1, 4, 0, 0, 0, 2, 0, 0), (4, .aload_n 0, 5, 0, 0, 0, 0, 0, 0), (5, .bipush 64, 7, 0, 0, 0, 0, nI 64, 0), (7, .newarray .int, 9, 1, 0, 0, 0, 0, 0), (9, .putfield 9, 12, 4, 0, 3, 0, 0, 0), (12, .aload_n 0, 13, 0, 0, 0, 0, 0, 0), (13, .bipush 28, 15, 0, 0, 0, 0, nI 28, 0), (15, .newarray .int, 17, 1, 0, 0, 0, 0, 0), (17, .putfield 15, 20, 4, 1, 3, 0, 0, 0), (20, .aload_n 0, 21, 0, 0, 0, 0, 0, 0), (21, .iconst 0, 22, 0, 0, 0, 0, nI 0, 0), (22, .putfield 18, 25, 4, 2, 0, 0, 0, 0), (25, .return_, 26, 0, 0, 0, 0, 0, 0)]
def tx_Group_init : List Nat := [0, 79, 0, 0, 0, 45, 0, 0, 0, 46, 0, 0, 47, 0]
def tb_Group_gather : Tab_ := [(0, .aload_n 0, 1, 0, 0, 0, 0, 0, 0), (1, .getfield 9, 4, 4, 0, 3, 0, 0, 0), (4, .iconst (-1), 5, 0, 0, 0, 0, (-1), 0), (5, .invokestatic 22, 8, 187, 2, 0, 1, 0, 0), (8, .aload_n 0, 9, 0, 0, 0, 0, 0, 0), (9, .iconst 0, 10, 0, 0, 0, 0, nI 0, 0), (10, .putfield 18, 13, 4, 2, 0, 0, 0, 0), (13, .iconst 0, 14, 0, 0, 0, 0, nI 0, 0), (14, .istore_n 2, 15, 0, 0, 0, 0, 0, 0), (15, .iload_n 2, 16, 0, 0, 0, 0, 0, 0), (16, .aload_n 1, 17, 0, 0, 0, 0, 0, 0), (17, .arraylength, 18, 0, 0, 0, 0, 0, 0), (18, .if_icmp .ge 23, 21, 41, 0, 0, 0, 0, 0), (21, .aload_n 1, 22, 0, 0, 0, 0, 0, 0), (22, .iload_n 2, 23, 0, 0, 0, 0, 0, 0), (23, .iaload, 24, 0, 0, 0, 0, 0, 0), (24, .iconst (-1), 25, 0, 0, 0, 0, (-1), 0), (25, .if_icmp .eq 10, 28, 35, 0, 0, 0, 0, 0), (28, .aload_n 0, 29, 0, 0, 0, 0, 0, 0), (29, .aload_n 1, 30, 0, 0, 0, 0, 0, 0), (30, .iload_n 2, 31, 0, 0, 0, 0, 0, 0), (31, .iaload, 32, 0, 0, 0, 0, 0, 0), (32, .invokevirtual 30, 35, 76, 1, 4, 0, 0, 0), (35, .iinc 2 1, 38, 0, 0, 0, 0, nI 1, 0), (38, .goto (-23), 41, 15, 0, 0, 0, 0, 0), (41, .iconst 0, 42, 0, 0, 0, 0, nI 0, 0), (42, .istore_n 2, 43, 0, 0, 0, 0, 0, 0), (43, .iload_n 2, 44, 0, 0, 0, 0, 0, 0), (44, .bipush 28, 46, 0, 0, 0, 0, nI 28, 0), (46, .if_icmp .ge 72, 49, 118, 0, 0, 0, 0, 0), (49, .iload_n 2, 50, 0, 0, 0, 0, 0, 0), (50, .aload_n 0, 51, 0, 0, 0, 0, 0, 0), (51, .getfield 18, 54, 4, 2, 0, 0, 0, 0), (54, .if_icmp .ge 64, 57, 118, 0, 0, 0, 0, 0), (57, .iconst 0, 58, 0, 0, 0, 0, nI 0, 0), (58, .istore_n 3, 59, 0, 0, 0, 0, 0, 0), (59, .iload_n 3, 60, 0, 0, 0, 0, 0, 0), (60, .iload_n 2, 61, 0, 0, 0, 0, 0, 0), (61, .if_icmp .gt 51, 64, 112, 0, 0, 0, 0, 0), (64, .aload_n 0, 65, 0, 0, 0, 0, 0, 0), (65, .getfield 15, 68, 4, 1, 3, 0, 0, 0), (68, .iload_n 2, 69, 0, 0, 0, 0, 0, 0), (69, .invokestatic 34, 72, 189, 2, 0, 1, 0, 0), (72, .istore 4, 74, 0, 0, 0, 0, 0, 0), (74, .aload_n 0, 75, 0, 0, 0, 0, 0, 0), (75, .getfield 15, 78, 4, 1, 3, 0, 0, 0), (78, .iload_n 3, 79, 0, 0, 0, 0, 0, 0), (79, .invokestatic 34, 82, 189, 2, 0, 1, 0, 0), (82, .istore 5, 84, 0, 0, 0, 0, 0, 0), (84, .aload_n 0, 85, 0, 0, 0, 0, 0, 0), (85, .iload 4, 87, 0, 0, 0, 0, 0, 0), (87, .iload 5, 89, 0, 0, 0, 0, 0, 0), (89, .invokestatic 38, 92, 200, 2, 0, 1, 0, 0), (92, .invokevirtual 30, 95, 76, 1, 4, 0, 0, 0), (95, .aload_n 0, 96, 0, 0, 0, 0, 0, 0), (96, .iload 5, 98, 0, 0, 0, 0, 0, 0), (98, .iload 4, 100, 0, 0, 0, 0, 0, 0), (100, .invokestatic 38, 103, 200, 2, 0, 1, 0, 0), (103, .invokevirtual 30, 106, 76, 1, 4, 0, 0, 0), (106, .iinc 3 1, 109, 0, 0, 0, 0, nI 1, 0), (109, .goto (-50), 112, 59, 0, 0, 0, 0, 0), (112, .iinc 2 1, 115, 0, 0, 0, 0, nI 1, 0), (115, .goto (-72), 118, 43, 0, 0, 0, 0, 0), (118, .return_, 119, 0, 0, 0, 0, 0, 0)]
def tx_Group_gather : List Nat := [0, 45, 0, 80, 0, 0, 47, 0, 0, 0, 0, 0, 0, 0, 0, 0, 0, 0, 0, 0, 0, 0, 81, 0, 0, 0, 0, 0, 0, 0, 0, 0, 47, 0, 0, 0, 0, 0, 0, 0, 46, 0, 82, 0, 0, 46, 0, 82, 0, 0, 0, 0, 83, 81, 0, 0, 0, 83, 81, 0, 0, 0, 0, 0]
def tb_Group_add : Tab_ := [(0, .aload_n 0, 1, 0, 0, 0, 0, 0, 0), (1, .iload_n 1, 2, 0, 0, 0, 0, 0, 0), (2, .invokevirtual 42, 5, 77, 1, 4, 0, 0, 0), (5, .istore_n 2, 6, 0, 0, 0, 0, 0, 0), (6, .iconst 0, 7, 0, 0, 0, 0, nI 0, 0), (7, .istore_n 3, 8, 0, 0, 0, 0, 0, 0), (8, .iload_n 3, 9, 0, 0, 0, 0, 0, 0), (9, .bipush 8, 11, 0, 0, 0, 0, nI 8, 0), (11, .if_icmp .ge 68, 14, 79, 0, 0, 0, 0, 0), (14, .aload_n 0, 15, 0, 0, 0, 0, 0, 0), (15, .getfield 18, 18, 4, 2, 0, 0, 0, 0), (18, .bipush 28, 20, 0, 0, 0, 0, nI 28, 0), (20, .if_icmp .ge 59, 23, 79, 0, 0, 0, 0, 0), (23, .iload_n 2, 24, 0, 0, 0, 0, 0, 0), (24, .iload_n 3, 25, 0, 0, 0, 0, 0, 0), (25, .invokestatic 46, 28, 198, 2, 0, 1, 0, 0), (28, .iload_n 3, 29, 0, 0, 0, 0, 0, 0), (29, .if_icmp .eq 44, 32, 73, 0, 0, 0, 0, 0), (32, .aload_n 0, 33, 0, 0, 0, 0, 0, 0), (33, .getfield 9, 36, 4, 0, 3, 0, 0, 0), (36, .bipush 8, 38, 0, 0, 0, 0, nI 8, 0), (38, .iload_n 3, 39, 0, 0, 0, 0, 0, 0), (39, .imul, 40, 0, 0, 0, 0, 0, 0), (40, .iload_n 2, 41, 0, 0, 0, 0, 0, 0), (41, .iload_n 3, 42, 0, 0, 0, 0, 0, 0), (42, .invokestatic 46, 45, 198, 2, 0, 1, 0, 0), (45, .iadd, 46, 0, 0, 0, 0, 0, 0), (46, .iload_n 2, 47, 0, 0, 0, 0, 0, 0), (47, .invokestatic 49, 50, 188, 3, 0, 1, 0, 0), (50, .aload_n 0, 51, 0, 0, 0, 0, 0, 0), (51, .getfield 15, 54, 4, 1, 3, 0, 0, 0), (54, .aload_n 0, 55, 0, 0, 0, 0, 0, 0), (55, .getfield 18, 58, 4, 2, 0, 0, 0, 0), (58, .iload_n 2, 59, 0, 0, 0, 0, 0, 0), (59, .invokestatic 49, 62, 188, 3, 0, 1, 0, 0), (62, .aload_n 0, 63, 0, 0, 0, 0, 0, 0), (63, .dup, 64, 0, 0, 0, 0, 0, 0), (64, .getfield 18, 67, 4, 2, 0, 0, 0, 0), (67, .iconst 1, 68, 0, 0, 0, 0, nI 1, 0), (68, .iadd, 69, 0, 0, 0, 0, 0, 0), (69, .putfield 18, 72, 4, 2, 0, 0, 0, 0), (72, .return_, 73, 0, 0, 0, 0, 0, 0), (73, .iinc 3 1, 76, 0, 0, 0, 0, nI 1, 0), (76, .goto (-68), 79, 8, 0, 0, 0, 0, 0), (79, .return_, 80, 0, 0, 0, 0, 0, 0)]
def tx_Group_add : List Nat := [0, 0, 84, 0, 0, 0, 0, 0, 0, 0, 47, 0, 0, 0, 0, 85, 0, 0, 0, 45, 0, 0, 0, 0, 0, 85, 0, 0, 86, 0, 46, 0, 47, 0, 86, 0, 0, 47, 0, 0, 47, 0, 0, 0, 0]
def tb_Group_sift : Tab_ := [(0, .iload_n 1, 1, 0, 0, 0, 0, 0, 0), (1, .istore_n 2, 2, 0, 0, 0, 0, 0, 0), (2, .iconst 0, 3, 0, 0, 0, 0, nI 0, 0), (3, .istore_n 3, 4, 0, 0, 0, 0, 0, 0), (4, .iload_n 3, 5, 0, 0, 0, 0, 0, 0), (5, .bipush 8, 7, 0, 0, 0, 0, nI 8, 0), (7, .if_icmp .ge 56, 10, 63, 0, 0, 0, 0, 0), (10, .iload_n 2, 11, 0, 0, 0, 0, 0, 0), (11, .iload_n 3, 12, 0, 0, 0, 0, 0, 0), (12, .invokestatic 46, 15, 198, 2, 0, 1, 0, 0), (15, .istore 4, 17, 0, 0, 0, 0, 0, 0), (17, .iload 4, 19, 0, 0, 0, 0, 0, 0), (19, .iload_n 3, 20, 0, 0, 0, 0, 0, 0), (20, .if_icmp .eq 37, 23, 57, 0, 0, 0, 0, 0), (23, .aload_n 0, 24, 0, 0, 0, 0, 0, 0), (24, .getfield 9, 27, 4, 0, 3, 0, 0, 0), (27, .bipush 8, 29, 0, 0, 0, 0, nI 8, 0), (29, .iload_n 3, 30, 0, 0, 0, 0, 0, 0), (30, .imul, 31, 0, 0, 0, 0, 0, 0), (31, .iload 4, 33, 0, 0, 0, 0, 0, 0), (33, .iadd, 34, 0, 0, 0, 0, 0, 0), (34, .invokestatic 34, 37, 189, 2, 0, 1, 0, 0), (37, .istore 5, 39, 0, 0, 0, 0, 0, 0), (39, .iload 5, 41, 0, 0, 0, 0, 0, 0), (41, .iconst (-1), 42, 0, 0, 0, 0, (-1), 0), (42, .if_icmp .ne 5, 45, 47, 0, 0, 0, 0, 0), (45, .iload_n 2, 46, 0, 0, 0, 0, 0, 0), (46, .ireturn, 47, 0, 0, 0, 0, 0, 0), (47, .iload_n 2, 48, 0, 0, 0, 0, 0, 0), (48, .iload 5, 50, 0, 0, 0, 0, 0, 0), (50, .invokestatic 53, 53, 202, 1, 0, 1, 0, 0), (53, .invokestatic 38, 56, 200, 2, 0, 1, 0, 0), (56, .istore_n 2, 57, 0, 0, 0, 0, 0, 0), (57, .iinc 3 1, 60, 0, 0, 0, 0, nI 1, 0), (60, .goto (-56), 63, 4, 0, 0, 0, 0, 0), (63, .iload_n 2, 64, 0, 0, 0, 0, 0, 0), (64, .ireturn, 65, 0, 0, 0, 0, 0, 0)]
def tx_Group_sift : List Nat := [0, 0, 0, 0, 0, 0, 0, 0, 0, 85, 0, 0, 0, 0, 0, 45, 0, 0, 0, 0, 0, 82, 0, 0, 0, 0, 0, 0, 0, 0, 87, 83, 0, 0, 0, 0, 0]
def tb_Group_members : Tab_ := [(0, .iconst 1, 1, 0, 0, 0, 0, nI 1, 0), (1, .istore_n 1, 2, 0, 0, 0, 0, 0, 0), (2, .iconst 0, 3, 0, 0, 0, 0, nI 0, 0), (3, .istore_n 2, 4, 0, 0, 0, 0, 0, 0), (4, .iload_n 2, 5, 0, 0, 0, 0, 0, 0), (5, .bipush 8, 7, 0, 0, 0, 0, nI 8, 0), (7, .if_icmp .ge 54, 10, 61, 0, 0, 0, 0, 0), (10, .iconst 1, 11, 0, 0, 0, 0, nI 1, 0), (11, .istore_n 3, 12, 0, 0, 0, 0, 0, 0), (12, .iload_n 2, 13, 0, 0, 0, 0, 0, 0), (13, .iconst 1, 14, 0, 0, 0, 0, nI 1, 0), (14, .iadd, 15, 0, 0, 0, 0, 0, 0), (15, .istore 4, 17, 0, 0, 0, 0, 0, 0), (17, .iload 4, 19, 0, 0, 0, 0, 0, 0), (19, .bipush 8, 21, 0, 0, 0, 0, nI 8, 0), (21, .if_icmp .ge 30, 24, 51, 0, 0, 0, 0, 0), (24, .aload_n 0, 25, 0, 0, 0, 0, 0, 0), (25, .getfield 9, 28, 4, 0, 3, 0, 0, 0), (28, .bipush 8, 30, 0, 0, 0, 0, nI 8, 0), (30, .iload_n 2, 31, 0, 0, 0, 0, 0, 0), (31, .imul, 32, 0, 0, 0, 0, 0, 0), (32, .iload 4, 34, 0, 0, 0, 0, 0, 0), (34, .iadd, 35, 0, 0, 0, 0, 0, 0), (35, .invokestatic 34, 38, 189, 2, 0, 1, 0, 0), (38, .iconst (-1), 39, 0, 0, 0, 0, (-1), 0), (39, .if_icmp .eq 6, 42, 45, 0, 0, 0, 0, 0), (42, .iinc 3 1, 45, 0, 0, 0, 0, nI 1, 0), (45, .iinc 4 1, 48, 0, 0, 0, 0, nI 1, 0), (48, .goto (-31), 51, 17, 0, 0, 0, 0, 0), (51, .iload_n 1, 52, 0, 0, 0, 0, 0, 0), (52, .iload_n 3, 53, 0, 0, 0, 0, 0, 0), (53, .imul, 54, 0, 0, 0, 0, 0, 0), (54, .istore_n 1, 55, 0, 0, 0, 0, 0, 0), (55, .iinc 2 1, 58, 0, 0, 0, 0, nI 1, 0), (58, .goto (-54), 61, 4, 0, 0, 0, 0, 0), (61, .iload_n 1, 62, 0, 0, 0, 0, 0, 0), (62, .ireturn, 63, 0, 0, 0, 0, 0, 0)]
def tx_Group_members : List Nat := [0, 0, 0, 0, 0, 0, 0, 0, 0, 0, 0, 0, 0, 0, 0, 0, 0, 45, 0, 0, 0, 0, 0, 82, 0, 0, 0, 0, 0, 0, 0, 0, 0, 0, 0, 0, 0]
def tb_Group_has : Tab_ := [(0, .aload_n 0, 1, 0, 0, 0, 0, 0, 0), (1, .iload_n 1, 2, 0, 0, 0, 0, 0, 0), (2, .invokevirtual 42, 5, 77, 1, 4, 0, 0, 0), (5, .ldc 56, 7, 0, 0, 0, 0, nI 16434824, 0), (7, .if_icmp .ne 7, 10, 14, 0, 0, 0, 0, 0), (10, .iconst 1, 11, 0, 0, 0, 0, nI 1, 0), (11, .goto 4, 14, 15, 0, 0, 0, 0, 0), (14, .iconst 0, 15, 0, 0, 0, 0, nI 0, 0), (15, .ireturn, 16, 1, 0, 0, 0, 0, 0)]
def tx_Group_has : List Nat := [0, 0, 84, 3, 0, 0, 0, 0, 0]
def tb_Shortest_init : Tab_ := [(0, .aload_n 0, 1, 0, 0, 0, 0, 0, 0), (1, .invokespecial 1, 4, 0, 0, 0, 2, 0, 0), (4, .aload_n 0, 5, 0, 0, 0, 0, 0, 0), (5, .new 7, 8, 6, 8, 0, 0, 0, 0), (8, .dup, 9, 0, 0, 0, 0, 0, 0), (9, .iconst 0, 10, 0, 0, 0, 0, nI 0, 0), (10, .invokespecial 9, 13, 84, 1, 6, 1, 0, 0), (13, .putfield 12, 16, 5, 0, 3, 0, 0, 0), (16, .aload_n 0, 17, 0, 0, 0, 0, 0, 0), (17, .new 18, 20, 7, 3, 0, 0, 0, 0), (20, .dup, 21, 0, 0, 0, 0, 0, 0), (21, .invokespecial 20, 24, 95, 0, 7, 1, 0, 0), (24, .putfield 21, 27, 5, 1, 3, 0, 0, 0), (27, .aload_n 0, 28, 0, 0, 0, 0, 0, 0), (28, .iconst (-1), 29, 0, 0, 0, 0, (-1), 0), (29, .putfield 25, 32, 5, 2, 0, 0, 0, 0), (32, .aload_n 0, 33, 0, 0, 0, 0, 0, 0), (33, .iconst (-1), 34, 0, 0, 0, 0, (-1), 0), (34, .putfield 29, 37, 5, 3, 0, 0, 0, 0), (37, .return_, 38, 0, 0, 0, 0, 0, 0)]
def tx_Shortest_init : List Nat := [0, 88, 0, 7, 0, 0, 89, 48, 0, 8, 0, 90, 49, 0, 0, 50, 0, 0, 51, 0]
def tb_Shortest_find : Tab_ := [(0, .iconst 0, 1, 0, 0, 0, 0, nI 0, 0), (1, .istore_n 3, 2, 0, 0, 0, 0, 0, 0), (2, .iconst 0, 3, 0, 0, 0, 0, nI 0, 0), (3, .istore 4, 5, 0, 0, 0, 0, 0, 0), (5, .iconst 0, 6, 0, 0, 0, 0, nI 0, 0), (6, .istore 5, 8, 0, 0, 0, 0, 0, 0), (8, .iconst 0, 9, 0, 0, 0, 0, nI 0, 0), (9, .istore 6, 11, 0, 0, 0, 0, 0, 0), (11, .iload 6, 13, 0, 0, 0, 0, 0, 0), (13, .aload_n 1, 14, 0, 0, 0, 0, 0, 0), (14, .getfield 32, 17, 2, 0, 0, 1, 0, 0), (17, .if_icmp .ge 53, 20, 70, 0, 0, 0, 0, 0), (20, .aload_n 1, 21, 0, 0, 0, 0, 0, 0), (21, .getfield 37, 24, 2, 7, 3, 1, 0, 0), (24, .iload 6, 26, 0, 0, 0, 0, 0, 0), (26, .invokestatic 41, 29, 189, 2, 0, 1, 0, 0), (29, .istore 7, 31, 0, 0, 0, 0, 0, 0), (31, .iload 7, 33, 0, 0, 0, 0, 0, 0), (33, .iconst (-1), 34, 0, 0, 0, 0, (-1), 0), (34, .if_icmp .eq 30, 37, 64, 0, 0, 0, 0, 0), (37, .iload 4, 39, 0, 0, 0, 0, 0, 0), (39, .iload_n 3, 40, 0, 0, 0, 0, 0, 0), (40, .aload_n 1, 41, 0, 0, 0, 0, 0, 0), (41, .iload 6, 43, 0, 0, 0, 0, 0, 0), (43, .invokevirtual 47, 46, 63, 1, 2, 1, 0, 0), (46, .invokestatic 51, 49, 196, 3, 0, 1, 0, 0), (49, .istore 4, 51, 0, 0, 0, 0, 0, 0), (51, .iload 5, 53, 0, 0, 0, 0, 0, 0), (53, .iload_n 3, 54, 0, 0, 0, 0, 0, 0), (54, .iload 7, 56, 0, 0, 0, 0, 0, 0), (56, .invokestatic 51, 59, 196, 3, 0, 1, 0, 0), (59, .istore 5, 61, 0, 0, 0, 0, 0, 0), (61, .iinc 3 1, 64, 0, 0, 0, 0, nI 1, 0), (64, .iinc 6 1, 67, 0, 0, 0, 0, nI 1, 0), (67, .goto (-56), 70, 11, 0, 0, 0, 0, 0), (70, .aload_n 0, 71, 0, 0, 0, 0, 0, 0), (71, .getfield 21, 74, 5, 1, 3, 0, 0, 0), (74, .invokevirtual 57, 77, 96, 0, 7, 1, 0, 0), (77, .aload_n 0, 78, 0, 0, 0, 0, 0, 0), (78, .getfield 21, 81, 5, 1, 3, 0, 0, 0), (81, .aload_n 2, 82, 0, 0, 0, 0, 0, 0), (82, .invokevirtual 60, 85, 97, 1, 7, 1, 0, 0), (85, .aload_n 0, 86, 0, 0, 0, 0, 0, 0), (86, .getfield 21, 89, 5, 1, 3, 0, 0, 0), (89, .aload_n 1, 90, 0, 0, 0, 0, 0, 0), (90, .getfield 32, 93, 2, 0, 0, 1, 0, 0), (93, .invokevirtual 64, 96, 98, 1, 7, 1, 0, 0), (96, .aload_n 0, 97, 0, 0, 0, 0, 0, 0), (97, .getfield 21, 100, 5, 1, 3, 0, 0, 0), (100, .iload_n 3, 101, 0, 0, 0, 0, 0, 0), (101, .invokevirtual 64, 104, 98, 1, 7, 1, 0, 0), (104, .aload_n 0, 105, 0, 0, 0, 0, 0, 0), (105, .getfield 21, 108, 5, 1, 3, 0, 0, 0), (108, .iload 4, 110, 0, 0, 0, 0, 0, 0), (110, .invokevirtual 64, 113, 98, 1, 7, 1, 0, 0), (113, .aload_n 0, 114, 0, 0, 0, 0, 0, 0), (114, .getfield 21, 117, 5, 1, 3, 0, 0, 0), (117, .iload 5, 119, 0, 0, 0, 0, 0, 0), (119, .invokevirtual 64, 122, 98, 1, 7, 1, 0, 0), (122, .aload_n 0, 123, 0, 0, 0, 0, 0, 0), (123, .getfield 21, 126, 5, 1, 3, 0, 0, 0), (126, .invokevirtual 68, 129, 99, 0, 7, 1, 0, 0), (129, .ifCond .eq 48, 132, 177, 0, 0, 0, 0, 0), (132, .aload_n 0, 133, 0, 0, 0, 0, 0, 0), (133, .aload_n 0, 134, 0, 0, 0, 0, 0, 0), (134, .getfield 12, 137, 5, 0, 3, 0, 0, 0), (137, .aload_n 1, 138, 0, 0, 0, 0, 0, 0), (138, .getfield 32, 141, 2, 0, 0, 1, 0, 0), (141, .iload_n 3, 142, 0, 0, 0, 0, 0, 0), (142, .iload 4, 144, 0, 0, 0, 0, 0, 0), (144, .iload 5, 146, 0, 0, 0, 0, 0, 0), (146, .aload_n 2, 147, 0, 0, 0, 0, 0, 0), (147, .invokevirtual 72, 150, 85, 5, 6, 1, 0, 0), (150, .putfield 25, 153, 5, 2, 0, 0, 0, 0), (153, .aload_n 0, 154, 0, 0, 0, 0, 0, 0), (154, .aload_n 0, 155, 0, 0, 0, 0, 0, 0), (155, .getfield 25, 158, 5, 2, 0, 0, 0, 0), (158, .iconst (-1), 159, 0, 0, 0, 0, (-1), 0), (159, .if_icmp .ne 7, 162, 166, 0, 0, 0, 0, 0), (162, .iconst (-1), 163, 0, 0, 0, 0, (-1), 0), (163, .goto 11, 166, 174, 0, 0, 0, 0, 0), (166, .aload_n 0, 167, 0, 0, 0, 0, 0, 0), (167, .aload_n 0, 168, 0, 0, 0, 0, 0, 0), (168, .getfield 25, 171, 5, 2, 0, 0, 0, 0), (171, .invokevirtual 76, 174, 82, 1, 5, 0, 0, 0), (174, .putfield 29, 177, 5, 3, 0, 0, 0, 0), (177, .return_, 178, 0, 0, 0, 0, 0, 0)]
def tx_Shortest_find : List Nat := [0, 0, 0, 0, 0, 0, 0, 0, 0, 0, 52, 0, 0, 53, 0, 91, 0, 0, 0, 0, 0, 0, 0, 0, 92, 93, 0, 0, 0, 0, 93, 0, 0, 0, 0, 0, 49, 94, 0, 49, 0, 95, 0, 49, 0, 52, 96, 0, 49, 0, 96, 0, 49, 0, 96, 0, 49, 0, 96, 0, 49, 97, 0, 0, 0, 48, 0, 52, 0, 0, 0, 0, 98, 50, 0, 0, 50, 0, 0, 0, 0, 0, 0, 50, 99, 51, 0]
def tb_Shortest_figuresTo : Tab_ := [(0, .iconst 0, 1, 0, 0, 0, 0, nI 0, 0), (1, .istore_n 2, 2, 0, 0, 0, 0, 0, 0), (2, .iload_n 1, 3, 0, 0, 0, 0, 0, 0), (3, .istore_n 3, 4, 0, 0, 0, 0, 0, 0), (4, .iload_n 3, 5, 0, 0, 0, 0, 0, 0), (5, .ifCond .le 29, 8, 34, 0, 0, 0, 0, 0), (8, .iload_n 2, 9, 0, 0, 0, 0, 0, 0), (9, .aload_n 0, 10, 0, 0, 0, 0, 0, 0), (10, .getfield 12, 13, 5, 0, 3, 0, 0, 0), (13, .getfield 79, 16, 6, 3, 0, 1, 0, 0), (16, .if_icmp .ge 18, 19, 34, 0, 0, 0, 0, 0), (19, .aload_n 0, 20, 0, 0, 0, 0, 0, 0), (20, .getfield 12, 23, 5, 0, 3, 0, 0, 0), (23, .iload_n 3, 24, 0, 0, 0, 0, 0, 0), (24, .invokevirtual 82, 27, 92, 1, 6, 1, 0, 0), (27, .istore_n 3, 28, 0, 0, 0, 0, 0, 0), (28, .iinc 2 1, 31, 0, 0, 0, 0, nI 1, 0), (31, .goto (-27), 34, 4, 0, 0, 0, 0, 0), (34, .iload_n 2, 35, 0, 0, 0, 0, 0, 0), (35, .ireturn, 36, 0, 0, 0, 0, 0, 0)]
def tx_Shortest_figuresTo : List Nat := [0, 0, 0, 0, 0, 0, 0, 0, 48, 54, 0, 0, 48, 0, 100, 0, 0, 0, 0, 0]
def tb_Shortest_figureAt : Tab_ := [(0, .aload_n 0, 1, 0, 0, 0, 0, 0, 0), (1, .getfield 25, 4, 5, 2, 0, 0, 0, 0), (4, .istore_n 2, 5, 0, 0, 0, 0, 0, 0), (5, .aload_n 0, 6, 0, 0, 0, 0, 0, 0), (6, .getfield 29, 9, 5, 3, 0, 0, 0, 0), (9, .iconst 1, 10, 0, 0, 0, 0, nI 1, 0), (10, .isub, 11, 0, 0, 0, 0, 0, 0), (11, .istore_n 3, 12, 0, 0, 0, 0, 0, 0), (12, .iload_n 3, 13, 0, 0, 0, 0, 0, 0), (13, .iload_n 1, 14, 0, 0, 0, 0, 0, 0), (14, .if_icmp .le 18, 17, 32, 0, 0, 0, 0, 0), (17, .aload_n 0, 18, 0, 0, 0, 0, 0, 0), (18, .getfield 12, 21, 5, 0, 3, 0, 0, 0), (21, .iload_n 2, 22, 0, 0, 0, 0, 0, 0), (22, .invokevirtual 82, 25, 92, 1, 6, 1, 0, 0), (25, .istore_n 2, 26, 0, 0, 0, 0, 0, 0), (26, .iinc 3 (-1), 29, 0, 0, 0, 0, (-1), 0), (29, .goto (-17), 32, 12, 0, 0, 0, 0, 0), (32, .aload_n 0, 33, 0, 0, 0, 0, 0, 0), (33, .getfield 12, 36, 5, 0, 3, 0, 0, 0), (36, .iload_n 2, 37, 0, 0, 0, 0, 0, 0), (37, .invokevirtual 85, 40, 93, 1, 6, 1, 0, 0), (40, .ireturn, 41, 0, 0, 0, 0, 0, 0)]
def tx_Shortest_figureAt : List Nat := [0, 50, 0, 0, 51, 0, 0, 0, 0, 0, 0, 0, 48, 0, 100, 0, 0, 0, 0, 48, 0, 101, 0]
def tb_Orbit_init : Tab_ := [(0, .aload_n 0, 1, 0, 0, 0, 0, 0, 0), (1, .invokespecial 3, 4, 0, 0, 0, 2, 0, 0), (4, .aload_n 0, 5, 0, 0, 0, 0, 0, 0), (5, .iconst 0, 6, 0, 0, 0, 0, nI 0, 0), (6, .putfield 9, 9, 6, 1, 0, 0, 0, 0), (9, .aload_n 0, 10, 0, 0, 0, 0, 0, 0), (10, .iconst 0, 11, 0, 0, 0, 0, nI 0, 0), (11, .putfield 15, 14, 6, 2, 0, 0, 0, 0), (14, .aload_n 0, 15, 0, 0, 0, 0, 0, 0), (15, .iconst 0, 16, 0, 0, 0, 0, nI 0, 0), (16, .putfield 18, 19, 6, 3, 0, 0, 0, 0), (19, .aload_n 0, 20, 0, 0, 0, 0, 0, 0), (20, .iconst 0, 21, 0, 0, 0, 0, nI 0, 0), (21, .newarray .int, 23, 1, 0, 0, 0, 0, 0), (23, .putfield 21, 26, 6, 4, 3, 0, 0, 0), (26, .aload_n 0, 27, 0, 0, 0, 0, 0, 0), (27, .iconst 0, 28, 0, 0, 0, 0, nI 0, 0), (28, .newarray .int, 30, 1, 0, 0, 0, 0, 0), (30, .putfield 25, 33, 6, 5, 3, 0, 0, 0), (33, .aload_n 0, 34, 0, 0, 0, 0, 0, 0), (34, .iconst 0, 35, 0, 0, 0, 0, nI 0, 0), (35, .newarray .int, 37, 1, 0, 0, 0, 0, 0), (37, .putfield 28, 40, 6, 6, 3, 0, 0, 0), (40, .aload_n 0, 41, 0, 0, 0, 0, 0, 0), (41, .iconst 0, 42, 0, 0, 0, 0, nI 0, 0), (42, .newarray .int, 44, 1, 0, 0, 0, 0, 0), (44, .putfield 31, 47, 6, 7, 3, 0, 0, 0), (47, .aload_n 0, 48, 0, 0, 0, 0, 0, 0), (48, .iload_n 1, 49, 0, 0, 0, 0, 0, 0), (49, .putfield 34, 52, 6, 0, 1, 0, 0, 0), (52, .return_, 53, 0, 0, 0, 0, 0, 0)]
def tx_Orbit_init : List Nat := [0, 102, 0, 0, 55, 0, 0, 56, 0, 0, 57, 0, 0, 0, 58, 0, 0, 0, 59, 0, 0, 0, 60, 0, 0, 0, 61, 0, 0, 62, 0]
def tb_Orbit_explore : Tab_ := [(0, .aload_n 0, 1, 0, 0, 0, 0, 0, 0), (1, .iload_n 1, 2, 0, 0, 0, 0, 0, 0), (2, .iload_n 2, 3, 0, 0, 0, 0, 0, 0), (3, .invokevirtual 38, 6, 86, 2, 6, 0, 0, 0), (6, .aload_n 0, 7, 0, 0, 0, 0, 0, 0), (7, .iload_n 3, 8, 0, 0, 0, 0, 0, 0), (8, .iconst 0, 9, 0, 0, 0, 0, nI 0, 0), (9, .invokevirtual 42, 12, 87, 2, 6, 0, 0, 0), (12, .pop, 13, 0, 0, 0, 0, 0, 0), (13, .iconst 0, 14, 0, 0, 0, 0, nI 0, 0), (14, .istore 6, 16, 0, 0, 0, 0, 0, 0), (16, .iload 6, 18, 0, 0, 0, 0, 0, 0), (18, .aload_n 0, 19, 0, 0, 0, 0, 0, 0), (19, .getfield 21, 22, 6, 4, 3, 0, 0, 0), (22, .arraylength, 23, 0, 0, 0, 0, 0, 0), (23, .if_icmp .ge 91, 26, 114, 0, 0, 0, 0, 0), (26, .iload 6, 28, 0, 0, 0, 0, 0, 0), (28, .aload_n 0, 29, 0, 0, 0, 0, 0, 0), (29, .getfield 18, 32, 6, 3, 0, 0, 0, 0), (32, .if_icmp .ge 82, 35, 114, 0, 0, 0, 0, 0), (35, .aload_n 0, 36, 0, 0, 0, 0, 0, 0), (36, .iload 4, 38, 0, 0, 0, 0, 0, 0), (38, .invokevirtual 46, 41, 89, 1, 6, 0, 0, 0), (41, .iconst (-1), 42, 0, 0, 0, 0, (-1), 0), (42, .if_icmp .ne 72, 45, 114, 0, 0, 0, 0, 0), (45, .iconst 0, 46, 0, 0, 0, 0, nI 0, 0), (46, .istore 7, 48, 0, 0, 0, 0, 0, 0), (48, .iload 7, 50, 0, 0, 0, 0, 0, 0), (50, .bipush 6, 52, 0, 0, 0, 0, nI 6, 0), (52, .if_icmp .ge 56, 55, 108, 0, 0, 0, 0, 0), (55, .aload_n 0, 56, 0, 0, 0, 0, 0, 0), (56, .aload 5, 58, 0, 0, 0, 0, 0, 0), (58, .iload 7, 60, 0, 0, 0, 0, 0, 0), (60, .invokestatic 50, 63, 189, 2, 0, 1, 0, 0), (63, .iload 6, 65, 0, 0, 0, 0, 0, 0), (65, .bipush 6, 67, 0, 0, 0, 0, nI 6, 0), (67, .iload 6, 69, 0, 0, 0, 0, 0, 0), (69, .imul, 70, 0, 0, 0, 0, 0, 0), (70, .iload 7, 72, 0, 0, 0, 0, 0, 0), (72, .iadd, 73, 0, 0, 0, 0, 0, 0), (73, .invokevirtual 56, 76, 90, 3, 6, 0, 0, 0), (76, .istore 8, 78, 0, 0, 0, 0, 0, 0), (78, .aload_n 0, 79, 0, 0, 0, 0, 0, 0), (79, .getfield 34, 82, 6, 0, 1, 0, 0, 0), (82, .ifCond .eq 20, 85, 102, 0, 0, 0, 0, 0), (85, .aload_n 0, 86, 0, 0, 0, 0, 0, 0), (86, .getfield 31, 89, 6, 7, 3, 0, 0, 0), (89, .bipush 6, 91, 0, 0, 0, 0, nI 6, 0), (91, .iload 6, 93, 0, 0, 0, 0, 0, 0), (93, .imul, 94, 0, 0, 0, 0, 0, 0), (94, .iload 7, 96, 0, 0, 0, 0, 0, 0), (96, .iadd, 97, 0, 0, 0, 0, 0, 0), (97, .iload 8, 99, 0, 0, 0, 0, 0, 0), (99, .invokestatic 60, 102, 188, 3, 0, 1, 0, 0), (102, .iinc 7 1, 105, 0, 0, 0, 0, nI 1, 0), (105, .goto (-57), 108, 48, 0, 0, 0, 0, 0), (108, .iinc 6 1, 111, 0, 0, 0, 0, nI 1, 0), (111, .goto (-95), 114, 16, 0, 0, 0, 0, 0), (114, .aload_n 0, 115, 0, 0, 0, 0, 0, 0), (115, .iload 4, 117, 0, 0, 0, 0, 0, 0), (117, .invokevirtual 46, 120, 89, 1, 6, 0, 0, 0), (120, .ireturn, 121, 0, 0, 0, 0, 0, 0)]
def tx_Orbit_explore : List Nat := [0, 0, 0, 103, 0, 0, 0, 104, 0, 0, 0, 0, 0, 58, 0, 0, 0, 0, 57, 0, 0, 0, 105, 0, 0, 0, 0, 0, 0, 0, 0, 0, 0, 106, 0, 0, 0, 0, 0, 0, 107, 0, 0, 62, 0, 0, 61, 0, 0, 0, 0, 0, 0, 108, 0, 0, 0, 0, 0, 0, 105, 0]
def tb_Orbit_clear : Tab_ := [(0, .aload_n 0, 1, 0, 0, 0, 0, 0, 0), (1, .iload_n 1, 2, 0, 0, 0, 0, 0, 0), (2, .putfield 9, 5, 6, 1, 0, 0, 0, 0), (5, .aload_n 0, 6, 0, 0, 0, 0, 0, 0), (6, .iload_n 2, 7, 0, 0, 0, 0, 0, 0), (7, .putfield 15, 10, 6, 2, 0, 0, 0, 0), (10, .aload_n 0, 11, 0, 0, 0, 0, 0, 0), (11, .iconst 0, 12, 0, 0, 0, 0, nI 0, 0), (12, .putfield 18, 15, 6, 3, 0, 0, 0, 0), (15, .iconst 1, 16, 0, 0, 0, 0, nI 1, 0), (16, .istore_n 3, 17, 0, 0, 0, 0, 0, 0), (17, .iconst 0, 18, 0, 0, 0, 0, nI 0, 0), (18, .istore 4, 20, 0, 0, 0, 0, 0, 0), (20, .iload 4, 22, 0, 0, 0, 0, 0, 0), (22, .aload_n 0, 23, 0, 0, 0, 0, 0, 0), (23, .getfield 15, 26, 6, 2, 0, 0, 0, 0), (26, .if_icmp .ge 19, 29, 45, 0, 0, 0, 0, 0), (29, .iload_n 3, 30, 0, 0, 0, 0, 0, 0), (30, .aload_n 0, 31, 0, 0, 0, 0, 0, 0), (31, .getfield 9, 34, 6, 1, 0, 0, 0, 0), (34, .iload 4, 36, 0, 0, 0, 0, 0, 0), (36, .isub, 37, 0, 0, 0, 0, 0, 0), (37, .imul, 38, 0, 0, 0, 0, 0, 0), (38, .istore_n 3, 39, 0, 0, 0, 0, 0, 0), (39, .iinc 4 1, 42, 0, 0, 0, 0, nI 1, 0), (42, .goto (-22), 45, 20, 0, 0, 0, 0, 0), (45, .aload_n 0, 46, 0, 0, 0, 0, 0, 0), (46, .aload_n 0, 47, 0, 0, 0, 0, 0, 0), (47, .getfield 21, 50, 6, 4, 3, 0, 0, 0), (50, .iload_n 3, 51, 0, 0, 0, 0, 0, 0), (51, .invokestatic 74, 54, 191, 2, 0, 1, 0, 0), (54, .putfield 21, 57, 6, 4, 3, 0, 0, 0), (57, .aload_n 0, 58, 0, 0, 0, 0, 0, 0), (58, .aload_n 0, 59, 0, 0, 0, 0, 0, 0), (59, .getfield 25, 62, 6, 5, 3, 0, 0, 0), (62, .iload_n 3, 63, 0, 0, 0, 0, 0, 0), (63, .invokestatic 74, 66, 191, 2, 0, 1, 0, 0), (66, .putfield 25, 69, 6, 5, 3, 0, 0, 0), (69, .aload_n 0, 70, 0, 0, 0, 0, 0, 0), (70, .aload_n 0, 71, 0, 0, 0, 0, 0, 0), (71, .getfield 28, 74, 6, 6, 3, 0, 0, 0), (74, .iload_n 3, 75, 0, 0, 0, 0, 0, 0), (75, .invokestatic 74, 78, 191, 2, 0, 1, 0, 0), (78, .putfield 28, 81, 6, 6, 3, 0, 0, 0), (81, .aload_n 0, 82, 0, 0, 0, 0, 0, 0), (82, .getfield 28, 85, 6, 6, 3, 0, 0, 0), (85, .iconst (-1), 86, 0, 0, 0, 0, (-1), 0), (86, .invokestatic 78, 89, 187, 2, 0, 1, 0, 0), (89, .aload_n 0, 90, 0, 0, 0, 0, 0, 0), (90, .getfield 34, 93, 6, 0, 1, 0, 0, 0), (93, .ifCond .eq 18, 96, 111, 0, 0, 0, 0, 0), (96, .aload_n 0, 97, 0, 0, 0, 0, 0, 0), (97, .aload_n 0, 98, 0, 0, 0, 0, 0, 0), (98, .getfield 31, 101, 6, 7, 3, 0, 0, 0), (101, .bipush 6, 103, 0, 0, 0, 0, nI 6, 0), (103, .iload_n 3, 104, 0, 0, 0, 0, 0, 0), (104, .imul, 105, 0, 0, 0, 0, 0, 0), (105, .invokestatic 74, 108, 191, 2, 0, 1, 0, 0), (108, .putfield 31, 111, 6, 7, 3, 0, 0, 0), (111, .return_, 112, 0, 0, 0, 0, 0, 0)]
def tx_Orbit_clear : List Nat := [0, 0, 55, 0, 0, 56, 0, 0, 57, 0, 0, 0, 0, 0, 0, 56, 0, 0, 0, 55, 0, 0, 0, 0, 0, 0, 0, 0, 58, 0, 109, 58, 0, 0, 59, 0, 109, 59, 0, 0, 60, 0, 109, 60, 0, 60, 0, 110, 0, 62, 0, 0, 0, 61, 0, 0, 0, 109, 61, 0]
def tb_Orbit_meet : Tab_ := [(0, .aload_n 0, 1, 0, 0, 0, 0, 0, 0), (1, .iload_n 1, 2, 0, 0, 0, 0, 0, 0), (2, .invokevirtual 82, 5, 88, 1, 6, 0, 0, 0), (5, .istore_n 3, 6, 0, 0, 0, 0, 0, 0), (6, .aload_n 0, 7, 0, 0, 0, 0, 0, 0), (7, .getfield 28, 10, 6, 6, 3, 0, 0, 0), (10, .iload_n 3, 11, 0, 0, 0, 0, 0, 0), (11, .invokestatic 50, 14, 189, 2, 0, 1, 0, 0), (14, .istore 4, 16, 0, 0, 0, 0, 0, 0), (16, .iload 4, 18, 0, 0, 0, 0, 0, 0), (18, .iconst (-1), 19, 0, 0, 0, 0, (-1), 0), (19, .if_icmp .eq 6, 22, 25, 0, 0, 0, 0, 0), (22, .iload 4, 24, 0, 0, 0, 0, 0, 0), (24, .ireturn, 25, 0, 0, 0, 0, 0, 0), (25, .aload_n 0, 26, 0, 0, 0, 0, 0, 0), (26, .getfield 18, 29, 6, 3, 0, 0, 0, 0), (29, .istore 5, 31, 0, 0, 0, 0, 0, 0), (31, .aload_n 0, 32, 0, 0, 0, 0, 0, 0), (32, .getfield 28, 35, 6, 6, 3, 0, 0, 0), (35, .iload_n 3, 36, 0, 0, 0, 0, 0, 0), (36, .iload 5, 38, 0, 0, 0, 0, 0, 0), (38, .invokestatic 60, 41, 188, 3, 0, 1, 0, 0), (41, .aload_n 0, 42, 0, 0, 0, 0, 0, 0), (42, .getfield 21, 45, 6, 4, 3, 0, 0, 0), (45, .iload 5, 47, 0, 0, 0, 0, 0, 0), (47, .iload_n 1, 48, 0, 0, 0, 0, 0, 0), (48, .invokestatic 60, 51, 188, 3, 0, 1, 0, 0), (51, .aload_n 0, 52, 0, 0, 0, 0, 0, 0), (52, .getfield 25, 55, 6, 5, 3, 0, 0, 0), (55, .iload 5, 57, 0, 0, 0, 0, 0, 0), (57, .iload_n 2, 58, 0, 0, 0, 0, 0, 0), (58, .invokestatic 60, 61, 188, 3, 0, 1, 0, 0), (61, .aload_n 0, 62, 0, 0, 0, 0, 0, 0), (62, .dup, 63, 0, 0, 0, 0, 0, 0), (63, .getfield 18, 66, 6, 3, 0, 0, 0, 0), (66, .iconst 1, 67, 0, 0, 0, 0, nI 1, 0), (67, .iadd, 68, 0, 0, 0, 0, 0, 0), (68, .putfield 18, 71, 6, 3, 0, 0, 0, 0), (71, .iload 5, 73, 0, 0, 0, 0, 0, 0), (73, .ireturn, 74, 0, 0, 0, 0, 0, 0)]
def tx_Orbit_meet : List Nat := [0, 0, 111, 0, 0, 60, 0, 106, 0, 0, 0, 0, 0, 0, 0, 57, 0, 0, 60, 0, 0, 108, 0, 58, 0, 0, 108, 0, 59, 0, 0, 108, 0, 0, 57, 0, 0, 57, 0, 0]
def tb_Orbit_rank : Tab_ := [(0, .iconst 0, 1, 0, 0, 0, 0, nI 0, 0), (1, .istore_n 2, 2, 0, 0, 0, 0, 0, 0), (2, .iconst 0, 3, 0, 0, 0, 0, nI 0, 0), (3, .istore_n 3, 4, 0, 0, 0, 0, 0, 0), (4, .iconst 0, 5, 0, 0, 0, 0, nI 0, 0), (5, .istore 4, 7, 0, 0, 0, 0, 0, 0), (7, .iload 4, 9, 0, 0, 0, 0, 0, 0), (9, .aload_n 0, 10, 0, 0, 0, 0, 0, 0), (10, .getfield 15, 13, 6, 2, 0, 0, 0, 0), (13, .if_icmp .ge 53, 16, 66, 0, 0, 0, 0, 0), (16, .iload_n 1, 17, 0, 0, 0, 0, 0, 0), (17, .iload 4, 19, 0, 0, 0, 0, 0, 0), (19, .invokestatic 85, 22, 198, 2, 0, 1, 0, 0), (22, .istore 5, 24, 0, 0, 0, 0, 0, 0), (24, .iload_n 3, 25, 0, 0, 0, 0, 0, 0), (25, .iconst 1, 26, 0, 0, 0, 0, nI 1, 0), (26, .iload 5, 28, 0, 0, 0, 0, 0, 0), (28, .ishl, 29, 0, 0, 0, 0, 0, 0), (29, .iconst 1, 30, 0, 0, 0, 0, nI 1, 0), (30, .isub, 31, 0, 0, 0, 0, 0, 0), (31, .iand, 32, 0, 0, 0, 0, 0, 0), (32, .invokestatic 88, 35, 205, 1, 0, 0, 0, 0), (35, .istore 6, 37, 0, 0, 0, 0, 0, 0), (37, .iload_n 2, 38, 0, 0, 0, 0, 0, 0), (38, .aload_n 0, 39, 0, 0, 0, 0, 0, 0), (39, .getfield 9, 42, 6, 1, 0, 0, 0, 0), (42, .iload 4, 44, 0, 0, 0, 0, 0, 0), (44, .isub, 45, 0, 0, 0, 0, 0, 0), (45, .imul, 46, 0, 0, 0, 0, 0, 0), (46, .iload 5, 48, 0, 0, 0, 0, 0, 0), (48, .iadd, 49, 0, 0, 0, 0, 0, 0), (49, .iload 6, 51, 0, 0, 0, 0, 0, 0), (51, .isub, 52, 0, 0, 0, 0, 0, 0), (52, .istore_n 2, 53, 0, 0, 0, 0, 0, 0), (53, .iload_n 3, 54, 0, 0, 0, 0, 0, 0), (54, .iconst 1, 55, 0, 0, 0, 0, nI 1, 0), (55, .iload 5, 57, 0, 0, 0, 0, 0, 0), (57, .ishl, 58, 0, 0, 0, 0, 0, 0), (58, .ior, 59, 0, 0, 0, 0, 0, 0), (59, .istore_n 3, 60, 0, 0, 0, 0, 0, 0), (60, .iinc 4 1, 63, 0, 0, 0, 0, nI 1, 0), (63, .goto (-56), 66, 7, 0, 0, 0, 0, 0), (66, .iload_n 2, 67, 0, 0, 0, 0, 0, 0), (67, .ireturn, 68, 0, 0, 0, 0, 0, 0)]
def tx_Orbit_rank : List Nat := [0, 0, 0, 0, 0, 0, 0, 0, 56, 0, 0, 0, 112, 0, 0, 0, 0, 0, 0, 0, 0, 113, 0, 0, 0, 55, 0, 0, 0, 0, 0, 0, 0, 0, 0, 0, 0, 0, 0, 0, 0, 0, 0, 0]
def tb_Orbit_numberOf : Tab_ := [(0, .iload_n 1, 1, 0, 0, 0, 0, 0, 0), (1, .iconst (-1), 2, 0, 0, 0, 0, (-1), 0), (2, .if_icmp .ne 7, 5, 9, 0, 0, 0, 0, 0), (5, .iconst (-1), 6, 0, 0, 0, 0, (-1), 0), (6, .goto 15, 9, 21, 0, 0, 0, 0, 0), (9, .aload_n 0, 10, 0, 0, 0, 0, 0, 0), (10, .getfield 28, 13, 6, 6, 3, 0, 0, 0), (13, .aload_n 0, 14, 0, 0, 0, 0, 0, 0), (14, .iload_n 1, 15, 0, 0, 0, 0, 0, 0), (15, .invokevirtual 82, 18, 88, 1, 6, 0, 0, 0), (18, .invokestatic 50, 21, 189, 2, 0, 1, 0, 0), (21, .ireturn, 22, 0, 0, 0, 0, 0, 0)]
def tx_Orbit_numberOf : List Nat := [0, 0, 0, 0, 0, 0, 60, 0, 0, 111, 106, 0]
def tb_Orbit_stepBy : Tab_ := [(0, .iload_n 1, 1, 0, 0, 0, 0, 0, 0), (1, .iconst (-1), 2, 0, 0, 0, 0, (-1), 0), (2, .if_icmp .ne 5, 5, 7, 0, 0, 0, 0, 0), (5, .iconst (-1), 6, 0, 0, 0, 0, (-1), 0), (6, .ireturn, 7, 0, 0, 0, 0, 0, 0), (7, .aload_n 0, 8, 0, 0, 0, 0, 0, 0), (8, .aload_n 0, 9, 0, 0, 0, 0, 0, 0), (9, .iload_n 2, 10, 0, 0, 0, 0, 0, 0), (10, .invokevirtual 66, 13, 91, 1, 6, 0, 0, 0), (13, .iload_n 1, 14, 0, 0, 0, 0, 0, 0), (14, .aload_n 0, 15, 0, 0, 0, 0, 0, 0), (15, .getfield 15, 18, 6, 2, 0, 0, 0, 0), (18, .invokestatic 69, 21, 201, 3, 0, 1, 0, 0), (21, .iload_n 3, 22, 0, 0, 0, 0, 0, 0), (22, .invokevirtual 42, 25, 87, 2, 6, 0, 0, 0), (25, .ireturn, 26, 0, 0, 0, 0, 0, 0)]
def tx_Orbit_stepBy : List Nat := [0, 0, 0, 0, 0, 0, 0, 0, 114, 0, 0, 56, 115, 0, 104, 0]
def tb_Orbit_lying : Tab_ := [(0, .aload_n 0, 1, 0, 0, 0, 0, 0, 0), (1, .getfield 21, 4, 6, 4, 3, 0, 0, 0), (4, .iload_n 1, 5, 0, 0, 0, 0, 0, 0), (5, .invokestatic 50, 8, 189, 2, 0, 1, 0, 0), (8, .ireturn, 9, 0, 0, 0, 0, 0, 0)]
def tx_Orbit_lying : List Nat := [0, 58, 0, 106, 0]
def tb_Orbit_previous : Tab_ := [(0, .aload_n 0, 1, 0, 0, 0, 0, 0, 0), (1, .getfield 25, 4, 6, 5, 3, 0, 0, 0), (4, .iload_n 1, 5, 0, 0, 0, 0, 0, 0), (5, .invokestatic 50, 8, 189, 2, 0, 1, 0, 0), (8, .bipush 6, 10, 0, 0, 0, 0, nI 6, 0), (10, .idiv, 11, 0, 0, 0, 0, 0, 0), (11, .ireturn, 12, 0, 0, 0, 0, 0, 0)]
def tx_Orbit_previous : List Nat := [0, 59, 0, 106, 0, 0, 0]
def tb_Orbit_figureTo : Tab_ := [(0, .aload_n 0, 1, 0, 0, 0, 0, 0, 0), (1, .getfield 25, 4, 6, 5, 3, 0, 0, 0), (4, .iload_n 1, 5, 0, 0, 0, 0, 0, 0), (5, .invokestatic 50, 8, 189, 2, 0, 1, 0, 0), (8, .bipush 6, 10, 0, 0, 0, 0, nI 6, 0), (10, .irem, 11, 0, 0, 0, 0, 0, 0), (11, .ireturn, 12, 0, 0, 0, 0, 0, 0)]
def tx_Orbit_figureTo : List Nat := [0, 59, 0, 106, 0, 0, 0]
def tb_Orbit_step : Tab_ := [(0, .aload_n 0, 1, 0, 0, 0, 0, 0, 0), (1, .getfield 31, 4, 6, 7, 3, 0, 0, 0), (4, .bipush 6, 6, 0, 0, 0, 0, nI 6, 0), (6, .iload_n 1, 7, 0, 0, 0, 0, 0, 0), (7, .imul, 8, 0, 0, 0, 0, 0, 0), (8, .iload_n 2, 9, 0, 0, 0, 0, 0, 0), (9, .iadd, 10, 0, 0, 0, 0, 0, 0), (10, .invokestatic 50, 13, 189, 2, 0, 1, 0, 0), (13, .ireturn, 14, 0, 0, 0, 0, 0, 0)]
def tx_Orbit_step : List Nat := [0, 61, 0, 0, 0, 0, 0, 106, 0]
def tb_Memo_init : Tab_ := [(0, .aload_n 0, 1, 0, 0, 0, 0, 0, 0), (1, .invokespecial 1, 4, 0, 0, 0, 2, 0, 0), (4, .aload_n 0, 5, 0, 0, 0, 0, 0, 0), (5, .bipush 20, 7, 0, 0, 0, 0, nI 20, 0), (7, .newarray .int, 9, 1, 0, 0, 0, 0, 0), (9, .putfield 9, 12, 7, 0, 3, 0, 0, 0), (12, .aload_n 0, 13, 0, 0, 0, 0, 0, 0), (13, .iconst 0, 14, 0, 0, 0, 0, nI 0, 0), (14, .putfield 13, 17, 7, 1, 0, 0, 0, 0), (17, .aload_n 0, 18, 0, 0, 0, 0, 0, 0), (18, .iconst 0, 19, 0, 0, 0, 0, nI 0, 0), (19, .putfield 17, 22, 7, 2, 1, 0, 0, 0), (22, .return_, 23, 0, 0, 0, 0, 0, 0)]
def tx_Memo_init : List Nat := [0, 116, 0, 0, 0, 63, 0, 0, 64, 0, 0, 65, 0]
def tb_Memo_begin : Tab_ := [(0, .aload_n 0, 1, 0, 0, 0, 0, 0, 0), (1, .iconst 0, 2, 0, 0, 0, 0, nI 0, 0), (2, .putfield 13, 5, 7, 1, 0, 0, 0, 0), (5, .return_, 6, 0, 0, 0, 0, 0, 0)]
def tx_Memo_begin : List Nat := [0, 0, 64, 0]
def tb_Memo_partsOfRow : Tab_ := [(0, .iconst 0, 1, 0, 0, 0, 0, nI 0, 0), (1, .istore_n 2, 2, 0, 0, 0, 0, 0, 0), (2, .iload_n 2, 3, 0, 0, 0, 0, 0, 0), (3, .aload_n 1, 4, 0, 0, 0, 0, 0, 0), (4, .arraylength, 5, 0, 0, 0, 0, 0, 0), (5, .if_icmp .ge 16, 8, 21, 0, 0, 0, 0, 0), (8, .aload_n 0, 9, 0, 0, 0, 0, 0, 0), (9, .aload_n 1, 10, 0, 0, 0, 0, 0, 0), (10, .iload_n 2, 11, 0, 0, 0, 0, 0, 0), (11, .iaload, 12, 0, 0, 0, 0, 0, 0), (12, .invokevirtual 31, 15, 98, 1, 7, 0, 0, 0), (15, .iinc 2 1, 18, 0, 0, 0, 0, nI 1, 0), (18, .goto (-16), 21, 2, 0, 0, 0, 0, 0), (21, .return_, 22, 0, 0, 0, 0, 0, 0)]
def tx_Memo_partsOfRow : List Nat := [0, 0, 0, 0, 0, 0, 0, 0, 0, 0, 117, 0, 0, 0]
def tb_Memo_part : Tab_ := [(0, .aload_n 0, 1, 0, 0, 0, 0, 0, 0), (1, .getfield 9, 4, 7, 0, 3, 0, 0, 0), (4, .aload_n 0, 5, 0, 0, 0, 0, 0, 0), (5, .getfield 13, 8, 7, 1, 0, 0, 0, 0), (8, .invokestatic 21, 11, 189, 2, 0, 1, 0, 0), (11, .iload_n 1, 12, 0, 0, 0, 0, 0, 0), (12, .if_icmp .eq 8, 15, 20, 0, 0, 0, 0, 0), (15, .aload_n 0, 16, 0, 0, 0, 0, 0, 0), (16, .iconst 0, 17, 0, 0, 0, 0, nI 0, 0), (17, .putfield 17, 20, 7, 2, 1, 0, 0, 0), (20, .aload_n 0, 21, 0, 0, 0, 0, 0, 0), (21, .getfield 9, 24, 7, 0, 3, 0, 0, 0), (24, .aload_n 0, 25, 0, 0, 0, 0, 0, 0), (25, .getfield 13, 28, 7, 1, 0, 0, 0, 0), (28, .iload_n 1, 29, 0, 0, 0, 0, 0, 0), (29, .invokestatic 27, 32, 188, 3, 0, 1, 0, 0), (32, .aload_n 0, 33, 0, 0, 0, 0, 0, 0), (33, .dup, 34, 0, 0, 0, 0, 0, 0), (34, .getfield 13, 37, 7, 1, 0, 0, 0, 0), (37, .iconst 1, 38, 0, 0, 0, 0, nI 1, 0), (38, .iadd, 39, 0, 0, 0, 0, 0, 0), (39, .putfield 13, 42, 7, 1, 0, 0, 0, 0), (42, .return_, 43, 0, 0, 0, 0, 0, 0)]
def tx_Memo_part : List Nat := [0, 63, 0, 64, 118, 0, 0, 0, 0, 65, 0, 63, 0, 64, 0, 119, 0, 0, 64, 0, 0, 64, 0]
def tb_Memo_endsStale : Tab_ := [(0, .aload_n 0, 1, 0, 0, 0, 0, 0, 0), (1, .getfield 17, 4, 7, 2, 1, 0, 0, 0), (4, .ifCond .ne 7, 7, 11, 0, 0, 0, 0, 0), (7, .iconst 1, 8, 0, 0, 0, 0, nI 1, 0), (8, .goto 4, 11, 12, 0, 0, 0, 0, 0), (11, .iconst 0, 12, 0, 0, 0, 0, nI 0, 0), (12, .istore_n 1, 13, 0, 0, 0, 0, 0, 0), (13, .aload_n 0, 14, 0, 0, 0, 0, 0, 0), (14, .iconst 1, 15, 0, 0, 0, 0, nI 1, 0), (15, .putfield 17, 18, 7, 2, 1, 0, 0, 0), (18, .iload_n 1, 19, 0, 0, 0, 0, 0, 0), (19, .ireturn, 20, 1, 0, 0, 0, 0, 0)]
def tx_Memo_endsStale : List Nat := [0, 65, 0, 0, 0, 0, 0, 0, 0, 65, 0, 0]
def tb_Memo_partsOfNotes : Tab_ := [(0, .iconst 0, 1, 0, 0, 0, 0, nI 0, 0), (1, .istore_n 2, 2, 0, 0, 0, 0, 0, 0), (2, .iload_n 2, 3, 0, 0, 0, 0, 0, 0), (3, .bipush 6, 5, 0, 0, 0, 0, nI 6, 0), (5, .if_icmp .ge 30, 8, 35, 0, 0, 0, 0, 0), (8, .aload_n 0, 9, 0, 0, 0, 0, 0, 0), (9, .iload_n 2, 10, 0, 0, 0, 0, 0, 0), (10, .aload_n 1, 11, 0, 0, 0, 0, 0, 0), (11, .getfield 37, 14, 3, 1, 0, 1, 0, 0), (14, .if_icmp .ge 11, 17, 25, 0, 0, 0, 0, 0), (17, .aload_n 1, 18, 0, 0, 0, 0, 0, 0), (18, .iload_n 2, 19, 0, 0, 0, 0, 0, 0), (19, .invokevirtual 38, 22, 70, 1, 3, 1, 0, 0), (22, .goto 4, 25, 26, 0, 0, 0, 0, 0), (25, .iconst (-1), 26, 0, 0, 0, 0, (-1), 0), (26, .invokevirtual 31, 29, 98, 1, 7, 0, 0, 0), (29, .iinc 2 1, 32, 0, 0, 0, 0, nI 1, 0), (32, .goto (-30), 35, 2, 0, 0, 0, 0, 0), (35, .return_, 36, 0, 0, 0, 0, 0, 0)]
def tx_Memo_partsOfNotes : List Nat := [0, 0, 0, 0, 0, 0, 0, 0, 66, 0, 0, 0, 120, 0, 0, 117, 0, 0, 0]
def tb_Past_init : Tab_ := [(0, .aload_n 0, 1, 0, 0, 0, 0, 0, 0), (1, .invokespecial 3, 4, 0, 0, 0, 2, 0, 0), (4, .aload_n 0, 5, 0, 0, 0, 0, 0, 0), (5, .new 9, 8, 6, 8, 0, 0, 0, 0), (8, .dup, 9, 0, 0, 0, 0, 0, 0), (9, .iconst 1, 10, 0, 0, 0, 0, nI 1, 0), (10, .invokespecial 11, 13, 84, 1, 6, 1, 0, 0), (13, .putfield 14, 16, 8, 0, 3, 0, 0, 0), (16, .aload_n 0, 17, 0, 0, 0, 0, 0, 0), (17, .new 20, 20, 7, 3, 0, 0, 0, 0), (20, .dup, 21, 0, 0, 0, 0, 0, 0), (21, .invokespecial 22, 24, 95, 0, 7, 1, 0, 0), (24, .putfield 23, 27, 8, 1, 3, 0, 0, 0), (27, .aload_n 0, 28, 0, 0, 0, 0, 0, 0), (28, .new 27, 31, 3, 2, 0, 0, 0, 0), (31, .dup, 32, 0, 0, 0, 0, 0, 0), (32, .invokespecial 29, 35, 67, 0, 3, 1, 0, 0), (35, .putfield 30, 38, 8, 2, 3, 0, 0, 0), (38, .aload_n 0, 39, 0, 0, 0, 0, 0, 0), (39, .bipush 12, 41, 0, 0, 0, 0, nI 12, 0), (41, .newarray .int, 43, 1, 0, 0, 0, 0, 0), (43, .putfield 34, 46, 8, 3, 3, 0, 0, 0), (46, .aload_n 0, 47, 0, 0, 0, 0, 0, 0), (47, .bipush 12, 49, 0, 0, 0, 0, nI 12, 0), (49, .newarray .int, 51, 1, 0, 0, 0, 0, 0), (51, .putfield 38, 54, 8, 4, 3, 0, 0, 0), (54, .aload_n 0, 55, 0, 0, 0, 0, 0, 0), (55, .lconst 0, 56, 0, 0, 0, 0, 0, lN 0), (56, .putfield 41, 59, 8, 5, 2, 0, 0, 0), (59, .aload_n 0, 60, 0, 0, 0, 0, 0, 0), (60, .iconst 0, 61, 0, 0, 0, 0, nI 0, 0), (61, .putfield 45, 64, 8, 6, 0, 0, 0, 0), (64, .aload_n 0, 65, 0, 0, 0, 0, 0, 0), (65, .iconst 0, 66, 0, 0, 0, 0, nI 0, 0), (66, .putfield 49, 69, 8, 7, 0, 0, 0, 0), (69, .aload_n 0, 70, 0, 0, 0, 0, 0, 0), (70, .iconst 0, 71, 0, 0, 0, 0, nI 0, 0), (71, .newarray .long, 73, 2, 0, 0, 0, 0, 0), (73, .putfield 52, 76, 8, 8, 3, 0, 0, 0), (76, .aload_n 0, 77, 0, 0, 0, 0, 0, 0), (77, .iconst 0, 78, 0, 0, 0, 0, nI 0, 0), (78, .newarray .long, 80, 2, 0, 0, 0, 0, 0), (80, .putfield 56, 83, 8, 9, 3, 0, 0, 0), (83, .aload_n 0, 84, 0, 0, 0, 0, 0, 0), (84, .iconst 0, 85, 0, 0, 0, 0, nI 0, 0), (85, .newarray .int, 87, 1, 0, 0, 0, 0, 0), (87, .putfield 59, 90, 8, 10, 3, 0, 0, 0), (90, .aload_n 0, 91, 0, 0, 0, 0, 0, 0), (91, .iconst 0, 92, 0, 0, 0, 0, nI 0, 0), (92, .newarray .int, 94, 1, 0, 0, 0, 0, 0), (94, .putfield 62, 97, 8, 11, 3, 0, 0, 0), (97, .return_, 98, 0, 0, 0, 0, 0, 0)]
def tx_Past_init : List Nat := [0, 121, 0, 9, 0, 0, 122, 67, 0, 10, 0, 123, 68, 0, 11, 0, 124, 69, 0, 0, 0, 70, 0, 0, 0, 71, 0, 0, 72, 0, 0, 73, 0, 0, 74, 0, 0, 0, 75, 0, 0, 0, 76, 0, 0, 0, 77, 0, 0, 0, 78, 0]
def tb_Past_look : Tab_ := [(0, .aload_n 0, 1, 0, 0, 0, 0, 0, 0), (1, .aload_n 1, 2, 0, 0, 0, 0, 0, 0), (2, .getfield 65, 5, 2, 9, 3, 1, 0, 0), (5, .iload_n 3, 6, 0, 0, 0, 0, 0, 0), (6, .invokevirtual 68, 9, 103, 2, 8, 0, 0, 0), (9, .aload_n 0, 10, 0, 0, 0, 0, 0, 0), (10, .getfield 23, 13, 8, 1, 3, 0, 0, 0), (13, .invokevirtual 72, 16, 96, 0, 7, 1, 0, 0), (16, .aload_n 0, 17, 0, 0, 0, 0, 0, 0), (17, .getfield 23, 20, 8, 1, 3, 0, 0, 0), (20, .aload_n 2, 21, 0, 0, 0, 0, 0, 0), (21, .invokevirtual 75, 24, 97, 1, 7, 1, 0, 0), (24, .aload_n 0, 25, 0, 0, 0, 0, 0, 0), (25, .getfield 23, 28, 8, 1, 3, 0, 0, 0), (28, .aload_n 1, 29, 0, 0, 0, 0, 0, 0), (29, .getfield 79, 32, 2, 0, 0, 1, 0, 0), (32, .invokevirtual 82, 35, 98, 1, 7, 1, 0, 0), (35, .aload_n 0, 36, 0, 0, 0, 0, 0, 0), (36, .getfield 23, 39, 8, 1, 3, 0, 0, 0), (39, .iload_n 3, 40, 0, 0, 0, 0, 0, 0), (40, .invokevirtual 82, 43, 98, 1, 7, 1, 0, 0), (43, .aload_n 0, 44, 0, 0, 0, 0, 0, 0), (44, .getfield 23, 47, 8, 1, 3, 0, 0, 0), (47, .aload_n 0, 48, 0, 0, 0, 0, 0, 0), (48, .getfield 30, 51, 8, 2, 3, 0, 0, 0), (51, .invokevirtual 86, 54, 100, 1, 7, 1, 0, 0), (54, .aload_n 0, 55, 0, 0, 0, 0, 0, 0), (55, .getfield 23, 58, 8, 1, 3, 0, 0, 0), (58, .invokevirtual 90, 61, 99, 0, 7, 1, 0, 0), (61, .ifCond .eq 27, 64, 88, 0, 0, 0, 0, 0), (64, .aload_n 0, 65, 0, 0, 0, 0, 0, 0), (65, .aload_n 1, 66, 0, 0, 0, 0, 0, 0), (66, .getfield 79, 69, 2, 0, 0, 1, 0, 0), (69, .aload_n 2, 70, 0, 0, 0, 0, 0, 0), (70, .invokevirtual 94, 73, 104, 2, 8, 0, 0, 0), (73, .aload_n 0, 74, 0, 0, 0, 0, 0, 0), (74, .iload_n 3, 75, 0, 0, 0, 0, 0, 0), (75, .invokevirtual 98, 78, 106, 1, 8, 0, 0, 0), (78, .aload_n 0, 79, 0, 0, 0, 0, 0, 0), (79, .iload_n 3, 80, 0, 0, 0, 0, 0, 0), (80, .invokevirtual 101, 83, 109, 1, 8, 0, 0, 0), (83, .aload_n 0, 84, 0, 0, 0, 0, 0, 0), (84, .iload_n 3, 85, 0, 0, 0, 0, 0, 0), (85, .invokevirtual 104, 88, 112, 1, 8, 0, 0, 0), (88, .return_, 89, 0, 0, 0, 0, 0, 0)]
def tx_Past_look : List Nat := [0, 0, 79, 0, 125, 0, 68, 126, 0, 68, 0, 127, 0, 68, 0, 80, 128, 0, 68, 0, 128, 0, 68, 0, 69, 129, 0, 68, 130, 0, 0, 0, 80, 0, 131, 0, 0, 132, 0, 0, 133, 0, 0, 134, 0]
def tb_Past_takeSights : Tab_ := [(0, .aload_n 0, 1, 0, 0, 0, 0, 0, 0), (1, .getfield 30, 4, 8, 2, 3, 0, 0, 0), (4, .iconst 0, 5, 0, 0, 0, 0, nI 0, 0), (5, .putfield 107, 8, 3, 1, 0, 1, 0, 0), (8, .aload_n 0, 9, 0, 0, 0, 0, 0, 0), (9, .iconst 0, 10, 0, 0, 0, 0, nI 0, 0), (10, .putfield 45, 13, 8, 6, 0, 0, 0, 0), (13, .aload_n 0, 14, 0, 0, 0, 0, 0, 0), (14, .iconst 0, 15, 0, 0, 0, 0, nI 0, 0), (15, .putfield 49, 18, 8, 7, 0, 0, 0, 0), (18, .iconst 0, 19, 0, 0, 0, 0, nI 0, 0), (19, .istore_n 3, 20, 0, 0, 0, 0, 0, 0), (20, .iload_n 3, 21, 0, 0, 0, 0, 0, 0), (21, .aload_n 1, 22, 0, 0, 0, 0, 0, 0), (22, .getfield 107, 25, 3, 1, 0, 1, 0, 0), (25, .if_icmp .ge 72, 28, 97, 0, 0, 0, 0, 0), (28, .aload_n 1, 29, 0, 0, 0, 0, 0, 0), (29, .iload_n 3, 30, 0, 0, 0, 0, 0, 0), (30, .invokevirtual 110, 33, 69, 1, 3, 1, 0, 0), (33, .iload_n 2, 34, 0, 0, 0, 0, 0, 0), (34, .if_icmp .gt 57, 37, 91, 0, 0, 0, 0, 0), (37, .aload_n 0, 38, 0, 0, 0, 0, 0, 0), (38, .getfield 30, 41, 8, 2, 3, 0, 0, 0), (41, .aload_n 1, 42, 0, 0, 0, 0, 0, 0), (42, .iload_n 3, 43, 0, 0, 0, 0, 0, 0), (43, .invokevirtual 110, 46, 69, 1, 3, 1, 0, 0), (46, .aload_n 1, 47, 0, 0, 0, 0, 0, 0), (47, .iload_n 3, 48, 0, 0, 0, 0, 0, 0), (48, .invokevirtual 114, 51, 71, 1, 3, 1, 0, 0), (51, .aload_n 1, 52, 0, 0, 0, 0, 0, 0), (52, .iload_n 3, 53, 0, 0, 0, 0, 0, 0), (53, .invokevirtual 117, 56, 72, 1, 3, 1, 0, 0), (56, .invokevirtual 120, 59, 68, 3, 3, 1, 0, 0), (59, .aload_n 0, 60, 0, 0, 0, 0, 0, 0), (60, .dup, 61, 0, 0, 0, 0, 0, 0), (61, .getfield 45, 64, 8, 6, 0, 0, 0, 0), (64, .iconst 1, 65, 0, 0, 0, 0, nI 1, 0), (65, .aload_n 1, 66, 0, 0, 0, 0, 0, 0), (66, .iload_n 3, 67, 0, 0, 0, 0, 0, 0), (67, .invokevirtual 114, 70, 71, 1, 3, 1, 0, 0), (70, .ishl, 71, 0, 0, 0, 0, 0, 0), (71, .ior, 72, 0, 0, 0, 0, 0, 0), (72, .putfield 45, 75, 8, 6, 0, 0, 0, 0), (75, .aload_n 0, 76, 0, 0, 0, 0, 0, 0), (76, .dup, 77, 0, 0, 0, 0, 0, 0), (77, .getfield 49, 80, 8, 7, 0, 0, 0, 0), (80, .iconst 1, 81, 0, 0, 0, 0, nI 1, 0), (81, .aload_n 1, 82, 0, 0, 0, 0, 0, 0), (82, .iload_n 3, 83, 0, 0, 0, 0, 0, 0), (83, .invokevirtual 110, 86, 69, 1, 3, 1, 0, 0), (86, .ishl, 87, 0, 0, 0, 0, 0, 0), (87, .ior, 88, 0, 0, 0, 0, 0, 0), (88, .putfield 49, 91, 8, 7, 0, 0, 0, 0), (91, .iinc 3 1, 94, 0, 0, 0, 0, nI 1, 0), (94, .goto (-74), 97, 20, 0, 0, 0, 0, 0), (97, .return_, 98, 0, 0, 0, 0, 0, 0)]
def tx_Past_takeSights : List Nat := [0, 69, 0, 81, 0, 0, 73, 0, 0, 74, 0, 0, 0, 0, 81, 0, 0, 0, 135, 0, 0, 0, 69, 0, 0, 135, 0, 0, 136, 0, 0, 137, 138, 0, 0, 73, 0, 0, 0, 136, 0, 0, 73, 0, 0, 74, 0, 0, 0, 135, 0, 0, 74, 0, 0, 0]
def tb_Past_explore : Tab_ := [(0, .iconst 0, 1, 0, 0, 0, 0, nI 0, 0), (1, .istore_n 3, 2, 0, 0, 0, 0, 0, 0), (2, .iconst 0, 3, 0, 0, 0, 0, nI 0, 0), (3, .istore 4, 5, 0, 0, 0, 0, 0, 0), (5, .iload 4, 7, 0, 0, 0, 0, 0, 0), (7, .iload_n 1, 8, 0, 0, 0, 0, 0, 0), (8, .if_icmp .ge 34, 11, 42, 0, 0, 0, 0, 0), (11, .aload_n 0, 12, 0, 0, 0, 0, 0, 0), (12, .getfield 45, 15, 8, 6, 0, 0, 0, 0), (15, .iload 4, 17, 0, 0, 0, 0, 0, 0), (17, .invokestatic 124, 20, 190, 2, 0, 1, 0, 0), (20, .ifCond .eq 16, 23, 36, 0, 0, 0, 0, 0), (23, .iload_n 3, 24, 0, 0, 0, 0, 0, 0), (24, .aload_n 0, 25, 0, 0, 0, 0, 0, 0), (25, .iload 4, 27, 0, 0, 0, 0, 0, 0), (27, .invokevirtual 130, 30, 105, 1, 8, 0, 0, 0), (30, .iload 4, 32, 0, 0, 0, 0, 0, 0), (32, .invokestatic 133, 35, 196, 3, 0, 1, 0, 0), (35, .istore_n 3, 36, 0, 0, 0, 0, 0, 0), (36, .iinc 4 1, 39, 0, 0, 0, 0, nI 1, 0), (39, .goto (-34), 42, 5, 0, 0, 0, 0, 0), (42, .aload_n 0, 43, 0, 0, 0, 0, 0, 0), (43, .getfield 14, 46, 8, 0, 3, 0, 0, 0), (46, .iload_n 1, 47, 0, 0, 0, 0, 0, 0), (47, .aload_n 0, 48, 0, 0, 0, 0, 0, 0), (48, .getfield 45, 51, 8, 6, 0, 0, 0, 0), (51, .invokestatic 139, 54, 205, 1, 0, 0, 0, 0), (54, .iload_n 3, 55, 0, 0, 0, 0, 0, 0), (55, .iconst (-1), 56, 0, 0, 0, 0, (-1), 0), (56, .aload_n 2, 57, 0, 0, 0, 0, 0, 0), (57, .invokevirtual 144, 60, 85, 5, 6, 1, 0, 0), (60, .pop, 61, 0, 0, 0, 0, 0, 0), (61, .aload_n 0, 62, 0, 0, 0, 0, 0, 0), (62, .aload_n 0, 63, 0, 0, 0, 0, 0, 0), (63, .getfield 52, 66, 8, 8, 3, 0, 0, 0), (66, .aload_n 0, 67, 0, 0, 0, 0, 0, 0), (67, .getfield 14, 70, 8, 0, 3, 0, 0, 0), (70, .getfield 147, 73, 6, 3, 0, 1, 0, 0), (73, .invokestatic 148, 76, 192, 2, 0, 1, 0, 0), (76, .putfield 52, 79, 8, 8, 3, 0, 0, 0), (79, .aload_n 0, 80, 0, 0, 0, 0, 0, 0), (80, .aload_n 0, 81, 0, 0, 0, 0, 0, 0), (81, .getfield 56, 84, 8, 9, 3, 0, 0, 0), (84, .aload_n 0, 85, 0, 0, 0, 0, 0, 0), (85, .getfield 14, 88, 8, 0, 3, 0, 0, 0), (88, .getfield 147, 91, 6, 3, 0, 1, 0, 0), (91, .invokestatic 148, 94, 192, 2, 0, 1, 0, 0), (94, .putfield 56, 97, 8, 9, 3, 0, 0, 0), (97, .aload_n 0, 98, 0, 0, 0, 0, 0, 0), (98, .aload_n 0, 99, 0, 0, 0, 0, 0, 0), (99, .getfield 59, 102, 8, 10, 3, 0, 0, 0), (102, .aload_n 0, 103, 0, 0, 0, 0, 0, 0), (103, .getfield 14, 106, 8, 0, 3, 0, 0, 0), (106, .getfield 147, 109, 6, 3, 0, 1, 0, 0), (109, .invokestatic 152, 112, 191, 2, 0, 1, 0, 0), (112, .putfield 59, 115, 8, 10, 3, 0, 0, 0), (115, .aload_n 0, 116, 0, 0, 0, 0, 0, 0), (116, .aload_n 0, 117, 0, 0, 0, 0, 0, 0), (117, .getfield 62, 120, 8, 11, 3, 0, 0, 0), (120, .aload_n 0, 121, 0, 0, 0, 0, 0, 0), (121, .getfield 14, 124, 8, 0, 3, 0, 0, 0), (124, .getfield 147, 127, 6, 3, 0, 1, 0, 0), (127, .invokestatic 152, 130, 191, 2, 0, 1, 0, 0), (130, .putfield 62, 133, 8, 11, 3, 0, 0, 0), (133, .aload_n 0, 134, 0, 0, 0, 0, 0, 0), (134, .getfield 59, 137, 8, 10, 3, 0, 0, 0), (137, .iconst 0, 138, 0, 0, 0, 0, nI 0, 0), (138, .invokestatic 156, 141, 187, 2, 0, 1, 0, 0), (141, .aload_n 0, 142, 0, 0, 0, 0, 0, 0), (142, .getfield 62, 145, 8, 11, 3, 0, 0, 0), (145, .iconst 0, 146, 0, 0, 0, 0, nI 0, 0), (146, .invokestatic 156, 149, 187, 2, 0, 1, 0, 0), (149, .return_, 150, 0, 0, 0, 0, 0, 0)]
def tx_Past_explore : List Nat := [0, 0, 0, 0, 0, 0, 0, 0, 73, 0, 139, 0, 0, 0, 0, 140, 0, 141, 0, 0, 0, 0, 67, 0, 0, 73, 142, 0, 0, 0, 143, 0, 0, 0, 75, 0, 67, 82, 144, 75, 0, 0, 76, 0, 67, 82, 144, 76, 0, 0, 77, 0, 67, 82, 145, 77, 0, 0, 78, 0, 67, 82, 145, 78, 0, 77, 0, 146, 0, 78, 0, 146, 0]
def tb_Past_slotOf : Tab_ := [(0, .aload_n 0, 1, 0, 0, 0, 0, 0, 0), (1, .getfield 45, 4, 8, 6, 0, 0, 0, 0), (4, .iconst 1, 5, 0, 0, 0, 0, nI 1, 0), (5, .iload_n 1, 6, 0, 0, 0, 0, 0, 0), (6, .ishl, 7, 0, 0, 0, 0, 0, 0), (7, .iconst 1, 8, 0, 0, 0, 0, nI 1, 0), (8, .isub, 9, 0, 0, 0, 0, 0, 0), (9, .iand, 10, 0, 0, 0, 0, 0, 0), (10, .invokestatic 139, 13, 205, 1, 0, 0, 0, 0), (13, .ireturn, 14, 0, 0, 0, 0, 0, 0)]
def tx_Past_slotOf : List Nat := [0, 73, 0, 0, 0, 0, 0, 0, 142, 0]
def tb_Past_countRows : Tab_ := [(0, .iload_n 1, 1, 0, 0, 0, 0, 0, 0), (1, .istore_n 2, 2, 0, 0, 0, 0, 0, 0), (2, .iload_n 2, 3, 0, 0, 0, 0, 0, 0), (3, .ifCond .lt 125, 6, 128, 0, 0, 0, 0, 0), (6, .aload_n 0, 7, 0, 0, 0, 0, 0, 0), (7, .getfield 56, 10, 8, 9, 3, 0, 0, 0), (10, .astore_n 3, 11, 0, 0, 0, 0, 0, 0), (11, .aload_n 0, 12, 0, 0, 0, 0, 0, 0), (12, .aload_n 0, 13, 0, 0, 0, 0, 0, 0), (13, .getfield 52, 16, 8, 8, 3, 0, 0, 0), (16, .putfield 56, 19, 8, 9, 3, 0, 0, 0), (19, .aload_n 0, 20, 0, 0, 0, 0, 0, 0), (20, .aload_n 3, 21, 0, 0, 0, 0, 0, 0), (21, .putfield 52, 24, 8, 8, 3, 0, 0, 0), (24, .iconst 0, 25, 0, 0, 0, 0, nI 0, 0), (25, .istore 4, 27, 0, 0, 0, 0, 0, 0), (27, .iload 4, 29, 0, 0, 0, 0, 0, 0), (29, .aload_n 0, 30, 0, 0, 0, 0, 0, 0), (30, .getfield 14, 33, 8, 0, 3, 0, 0, 0), (33, .getfield 147, 36, 6, 3, 0, 1, 0, 0), (36, .if_icmp .ge 86, 39, 122, 0, 0, 0, 0, 0), (39, .lconst 0, 40, 0, 0, 0, 0, 0, lN 0), (40, .lstore 5, 42, 0, 0, 0, 0, 0, 0), (42, .aload_n 0, 43, 0, 0, 0, 0, 0, 0), (43, .iload_n 2, 44, 0, 0, 0, 0, 0, 0), (44, .aload_n 0, 45, 0, 0, 0, 0, 0, 0), (45, .getfield 14, 48, 8, 0, 3, 0, 0, 0), (48, .iload 4, 50, 0, 0, 0, 0, 0, 0), (50, .invokevirtual 164, 53, 91, 1, 6, 1, 0, 0), (53, .invokevirtual 167, 56, 107, 2, 8, 0, 0, 0), (56, .ifCond .eq 20, 59, 76, 0, 0, 0, 0, 0), (59, .iload_n 2, 60, 0, 0, 0, 0, 0, 0), (60, .iload_n 1, 61, 0, 0, 0, 0, 0, 0), (61, .if_icmp .ne 7, 64, 68, 0, 0, 0, 0, 0), (64, .lconst 1, 65, 0, 0, 0, 0, 0, lN 1), (65, .goto 9, 68, 74, 0, 0, 0, 0, 0), (68, .aload_n 0, 69, 0, 0, 0, 0, 0, 0), (69, .iload 4, 71, 0, 0, 0, 0, 0, 0), (71, .invokevirtual 170, 74, 108, 1, 8, 0, 0, 0), (74, .lstore 5, 76, 0, 0, 0, 0, 0, 0), (76, .aload_n 0, 77, 0, 0, 0, 0, 0, 0), (77, .getfield 52, 80, 8, 8, 3, 0, 0, 0), (80, .iload 4, 82, 0, 0, 0, 0, 0, 0), (82, .lload 5, 84, 0, 0, 0, 0, 0, 0), (84, .invokestatic 174, 87, 194, 3, 0, 1, 0, 0), (87, .lload 5, 89, 0, 0, 0, 0, 0, 0), (89, .lconst 0, 90, 0, 0, 0, 0, 0, lN 0), (90, .lcmp, 91, 0, 0, 0, 0, 0, 0), (91, .ifCond .le 25, 94, 116, 0, 0, 0, 0, 0), (94, .aload_n 0, 95, 0, 0, 0, 0, 0, 0), (95, .getfield 59, 98, 8, 10, 3, 0, 0, 0), (98, .iload 4, 100, 0, 0, 0, 0, 0, 0), (100, .aload_n 0, 101, 0, 0, 0, 0, 0, 0), (101, .getfield 59, 104, 8, 10, 3, 0, 0, 0), (104, .iload 4, 106, 0, 0, 0, 0, 0, 0), (106, .invokestatic 178, 109, 189, 2, 0, 1, 0, 0), (109, .iconst 1, 110, 0, 0, 0, 0, nI 1, 0), (110, .iload_n 2, 111, 0, 0, 0, 0, 0, 0), (111, .ishl, 112, 0, 0, 0, 0, 0, 0), (112, .ior, 113, 0, 0, 0, 0, 0, 0), (113, .invokestatic 182, 116, 188, 3, 0, 1, 0, 0), (116, .iinc 4 1, 119, 0, 0, 0, 0, nI 1, 0), (119, .goto (-92), 122, 27, 0, 0, 0, 0, 0), (122, .iinc 2 (-1), 125, 0, 0, 0, 0, (-1), 0), (125, .goto (-123), 128, 2, 0, 0, 0, 0, 0), (128, .aload_n 0, 129, 0, 0, 0, 0, 0, 0), (129, .aload_n 0, 130, 0, 0, 0, 0, 0, 0), (130, .getfield 52, 133, 8, 8, 3, 0, 0, 0), (133, .iconst 0, 134, 0, 0, 0, 0, nI 0, 0), (134, .invokestatic 186, 137, 193, 2, 0, 1, 0, 0), (137, .putfield 41, 140, 8, 5, 2, 0, 0, 0), (140, .return_, 141, 0, 0, 0, 0, 0, 0)]
def tx_Past_countRows : List Nat := [0, 0, 0, 0, 0, 76, 0, 0, 0, 75, 76, 0, 0, 75, 0, 0, 0, 0, 67, 82, 0, 0, 0, 0, 0, 0, 67, 0, 147, 148, 0, 0, 0, 0, 0, 0, 0, 0, 149, 0, 0, 75, 0, 0, 150, 0, 0, 0, 0, 0, 77, 0, 0, 77, 0, 151, 0, 0, 0, 0, 152, 0, 0, 0, 0, 0, 0, 75, 0, 153, 72, 0]
def tb_Past_fits : Tab_ := [(0, .aload_n 0, 1, 0, 0, 0, 0, 0, 0), (1, .getfield 49, 4, 8, 7, 0, 0, 0, 0), (4, .iload_n 1, 5, 0, 0, 0, 0, 0, 0), (5, .invokestatic 124, 8, 190, 2, 0, 1, 0, 0), (8, .ifCond .ne 5, 11, 13, 0, 0, 0, 0, 0), (11, .iconst 1, 12, 0, 0, 0, 0, nI 1, 0), (12, .ireturn, 13, 1, 0, 0, 0, 0, 0), (13, .iconst 0, 14, 0, 0, 0, 0, nI 0, 0), (14, .istore_n 3, 15, 0, 0, 0, 0, 0, 0), (15, .iload_n 3, 16, 0, 0, 0, 0, 0, 0), (16, .aload_n 0, 17, 0, 0, 0, 0, 0, 0), (17, .getfield 30, 20, 8, 2, 3, 0, 0, 0), (20, .getfield 107, 23, 3, 1, 0, 1, 0, 0), (23, .if_icmp .ge 50, 26, 73, 0, 0, 0, 0, 0), (26, .aload_n 0, 27, 0, 0, 0, 0, 0, 0), (27, .getfield 30, 30, 8, 2, 3, 0, 0, 0), (30, .iload_n 3, 31, 0, 0, 0, 0, 0, 0), (31, .invokevirtual 110, 34, 69, 1, 3, 1, 0, 0), (34, .iload_n 1, 35, 0, 0, 0, 0, 0, 0), (35, .if_icmp .ne 32, 38, 67, 0, 0, 0, 0, 0), (38, .iload_n 2, 39, 0, 0, 0, 0, 0, 0), (39, .aload_n 0, 40, 0, 0, 0, 0, 0, 0), (40, .aload_n 0, 41, 0, 0, 0, 0, 0, 0), (41, .getfield 30, 44, 8, 2, 3, 0, 0, 0), (44, .iload_n 3, 45, 0, 0, 0, 0, 0, 0), (45, .invokevirtual 114, 48, 71, 1, 3, 1, 0, 0), (48, .invokevirtual 130, 51, 105, 1, 8, 0, 0, 0), (51, .invokestatic 160, 54, 198, 2, 0, 1, 0, 0), (54, .aload_n 0, 55, 0, 0, 0, 0, 0, 0), (55, .getfield 30, 58, 8, 2, 3, 0, 0, 0), (58, .iload_n 3, 59, 0, 0, 0, 0, 0, 0), (59, .invokevirtual 117, 62, 72, 1, 3, 1, 0, 0), (62, .if_icmp .eq 5, 65, 67, 0, 0, 0, 0, 0), (65, .iconst 0, 66, 0, 0, 0, 0, nI 0, 0), (66, .ireturn, 67, 1, 0, 0, 0, 0, 0), (67, .iinc 3 1, 70, 0, 0, 0, 0, nI 1, 0), (70, .goto (-55), 73, 15, 0, 0, 0, 0, 0), (73, .iconst 1, 74, 0, 0, 0, 0, nI 1, 0), (74, .ireturn, 75, 1, 0, 0, 0, 0, 0)]
def tx_Past_fits : List Nat := [0, 74, 0, 139, 0, 0, 0, 0, 0, 0, 0, 69, 81, 0, 0, 69, 0, 135, 0, 0, 0, 0, 0, 69, 0, 136, 140, 154, 0, 69, 0, 137, 0, 0, 0, 0, 0, 0, 0]
def tb_Past_sumAfter : Tab_ := [(0, .lconst 0, 1, 0, 0, 0, 0, 0, lN 0), (1, .lstore_n 2, 2, 0, 0, 0, 0, 0, 0), (2, .iconst 0, 3, 0, 0, 0, 0, nI 0, 0), (3, .istore 4, 5, 0, 0, 0, 0, 0, 0), (5, .iload 4, 7, 0, 0, 0, 0, 0, 0), (7, .bipush 6, 9, 0, 0, 0, 0, nI 6, 0), (9, .if_icmp .ge 29, 12, 38, 0, 0, 0, 0, 0), (12, .lload_n 2, 13, 0, 0, 0, 0, 0, 0), (13, .aload_n 0, 14, 0, 0, 0, 0, 0, 0), (14, .getfield 56, 17, 8, 9, 3, 0, 0, 0), (17, .aload_n 0, 18, 0, 0, 0, 0, 0, 0), (18, .getfield 14, 21, 8, 0, 3, 0, 0, 0), (21, .iload_n 1, 22, 0, 0, 0, 0, 0, 0), (22, .iload 4, 24, 0, 0, 0, 0, 0, 0), (24, .invokevirtual 190, 27, 94, 2, 6, 1, 0, 0), (27, .invokestatic 186, 30, 193, 2, 0, 1, 0, 0), (30, .ladd, 31, 0, 0, 0, 0, 0, 0), (31, .lstore_n 2, 32, 0, 0, 0, 0, 0, 0), (32, .iinc 4 1, 35, 0, 0, 0, 0, nI 1, 0), (35, .goto (-30), 38, 5, 0, 0, 0, 0, 0), (38, .lload_n 2, 39, 0, 0, 0, 0, 0, 0), (39, .lreturn, 40, 0, 0, 0, 0, 0, 0)]
def tx_Past_sumAfter : List Nat := [0, 0, 0, 0, 0, 0, 0, 0, 0, 76, 0, 67, 0, 0, 155, 153, 0, 0, 0, 0, 0, 0]
def tb_Past_gatherCandidates : Tab_ := [(0, .aload_n 0, 1, 0, 0, 0, 0, 0, 0), (1, .getfield 62, 4, 8, 11, 3, 0, 0, 0), (4, .iconst 0, 5, 0, 0, 0, 0, nI 0, 0), (5, .aload_n 0, 6, 0, 0, 0, 0, 0, 0), (6, .iconst 0, 7, 0, 0, 0, 0, nI 0, 0), (7, .iconst 0, 8, 0, 0, 0, 0, nI 0, 0), (8, .invokevirtual 193, 11, 110, 2, 8, 0, 0, 0), (11, .ifCond .eq 7, 14, 18, 0, 0, 0, 0, 0), (14, .iconst 1, 15, 0, 0, 0, 0, nI 1, 0), (15, .goto 4, 18, 19, 0, 0, 0, 0, 0), (18, .iconst 0, 19, 0, 0, 0, 0, nI 0, 0), (19, .invokestatic 182, 22, 188, 3, 0, 1, 0, 0), (22, .iconst 0, 23, 0, 0, 0, 0, nI 0, 0), (23, .istore_n 2, 24, 0, 0, 0, 0, 0, 0), (24, .iload_n 2, 25, 0, 0, 0, 0, 0, 0), (25, .iload_n 1, 26, 0, 0, 0, 0, 0, 0), (26, .if_icmp .ge 67, 29, 93, 0, 0, 0, 0, 0), (29, .iconst 0, 30, 0, 0, 0, 0, nI 0, 0), (30, .istore_n 3, 31, 0, 0, 0, 0, 0, 0), (31, .iconst 0, 32, 0, 0, 0, 0, nI 0, 0), (32, .istore 4, 34, 0, 0, 0, 0, 0, 0), (34, .iload 4, 36, 0, 0, 0, 0, 0, 0), (36, .aload_n 0, 37, 0, 0, 0, 0, 0, 0), (37, .getfield 14, 40, 8, 0, 3, 0, 0, 0), (40, .getfield 147, 43, 6, 3, 0, 1, 0, 0), (43, .if_icmp .ge 35, 46, 78, 0, 0, 0, 0, 0), (46, .aload_n 0, 47, 0, 0, 0, 0, 0, 0), (47, .getfield 62, 50, 8, 11, 3, 0, 0, 0), (50, .iload 4, 52, 0, 0, 0, 0, 0, 0), (52, .invokestatic 178, 55, 189, 2, 0, 1, 0, 0), (55, .iload_n 2, 56, 0, 0, 0, 0, 0, 0), (56, .invokestatic 124, 59, 190, 2, 0, 1, 0, 0), (59, .ifCond .eq 13, 62, 72, 0, 0, 0, 0, 0), (62, .iload_n 3, 63, 0, 0, 0, 0, 0, 0), (63, .aload_n 0, 64, 0, 0, 0, 0, 0, 0), (64, .iload 4, 66, 0, 0, 0, 0, 0, 0), (66, .iload_n 2, 67, 0, 0, 0, 0, 0, 0), (67, .invokevirtual 196, 70, 111, 2, 8, 0, 0, 0), (70, .ior, 71, 0, 0, 0, 0, 0, 0), (71, .istore_n 3, 72, 0, 0, 0, 0, 0, 0), (72, .iinc 4 1, 75, 0, 0, 0, 0, nI 1, 0), (75, .goto (-41), 78, 34, 0, 0, 0, 0, 0), (78, .aload_n 0, 79, 0, 0, 0, 0, 0, 0), (79, .getfield 38, 82, 8, 4, 3, 0, 0, 0), (82, .iload_n 2, 83, 0, 0, 0, 0, 0, 0), (83, .iload_n 3, 84, 0, 0, 0, 0, 0, 0), (84, .invokestatic 182, 87, 188, 3, 0, 1, 0, 0), (87, .iinc 2 1, 90, 0, 0, 0, 0, nI 1, 0), (90, .goto (-66), 93, 24, 0, 0, 0, 0, 0), (93, .return_, 94, 0, 0, 0, 0, 0, 0)]
def tx_Past_gatherCandidates : List Nat := [0, 78, 0, 0, 0, 0, 156, 0, 0, 0, 0, 152, 0, 0, 0, 0, 0, 0, 0, 0, 0, 0, 0, 67, 82, 0, 0, 78, 0, 151, 0, 139, 0, 0, 0, 0, 0, 157, 0, 0, 0, 0, 0, 71, 0, 0, 152, 0, 0, 0]
def tb_Past_isFitting : Tab_ := [(0, .iload_n 1, 1, 0, 0, 0, 0, 0, 0), (1, .iconst (-1), 2, 0, 0, 0, 0, (-1), 0), (2, .if_icmp .eq 22, 5, 24, 0, 0, 0, 0, 0), (5, .aload_n 0, 6, 0, 0, 0, 0, 0, 0), (6, .getfield 59, 9, 8, 10, 3, 0, 0, 0), (9, .iload_n 1, 10, 0, 0, 0, 0, 0, 0), (10, .invokestatic 178, 13, 189, 2, 0, 1, 0, 0), (13, .iload_n 2, 14, 0, 0, 0, 0, 0, 0), (14, .invokestatic 124, 17, 190, 2, 0, 1, 0, 0), (17, .ifCond .eq 7, 20, 24, 0, 0, 0, 0, 0), (20, .iconst 1, 21, 0, 0, 0, 0, nI 1, 0), (21, .goto 4, 24, 25, 0, 0, 0, 0, 0), (24, .iconst 0, 25, 0, 0, 0, 0, nI 0, 0), (25, .ireturn, 26, 1, 0, 0, 0, 0, 0)]
def tx_Past_isFitting : List Nat := [0, 0, 0, 0, 77, 0, 151, 0, 139, 0, 0, 0, 0, 0]
def tb_Past_figuresOn : Tab_ := [(0, .iconst 0, 1, 0, 0, 0, 0, nI 0, 0), (1, .istore_n 3, 2, 0, 0, 0, 0, 0, 0), (2, .iconst 0, 3, 0, 0, 0, 0, nI 0, 0), (3, .istore 4, 5, 0, 0, 0, 0, 0, 0), (5, .iload 4, 7, 0, 0, 0, 0, 0, 0), (7, .bipush 6, 9, 0, 0, 0, 0, nI 6, 0), (9, .if_icmp .ge 64, 12, 73, 0, 0, 0, 0, 0), (12, .aload_n 0, 13, 0, 0, 0, 0, 0, 0), (13, .getfield 14, 16, 8, 0, 3, 0, 0, 0), (16, .iload_n 1, 17, 0, 0, 0, 0, 0, 0), (17, .iload 4, 19, 0, 0, 0, 0, 0, 0), (19, .invokevirtual 190, 22, 94, 2, 6, 1, 0, 0), (22, .istore 5, 24, 0, 0, 0, 0, 0, 0), (24, .aload_n 0, 25, 0, 0, 0, 0, 0, 0), (25, .iload 5, 27, 0, 0, 0, 0, 0, 0), (27, .iload_n 2, 28, 0, 0, 0, 0, 0, 0), (28, .iconst 1, 29, 0, 0, 0, 0, nI 1, 0), (29, .iadd, 30, 0, 0, 0, 0, 0, 0), (30, .invokevirtual 193, 33, 110, 2, 8, 0, 0, 0), (33, .ifCond .eq 34, 36, 67, 0, 0, 0, 0, 0), (36, .iload_n 3, 37, 0, 0, 0, 0, 0, 0), (37, .iconst 1, 38, 0, 0, 0, 0, nI 1, 0), (38, .iload 4, 40, 0, 0, 0, 0, 0, 0), (40, .ishl, 41, 0, 0, 0, 0, 0, 0), (41, .ior, 42, 0, 0, 0, 0, 0, 0), (42, .istore_n 3, 43, 0, 0, 0, 0, 0, 0), (43, .aload_n 0, 44, 0, 0, 0, 0, 0, 0), (44, .getfield 62, 47, 8, 11, 3, 0, 0, 0), (47, .iload 5, 49, 0, 0, 0, 0, 0, 0), (49, .aload_n 0, 50, 0, 0, 0, 0, 0, 0), (50, .getfield 62, 53, 8, 11, 3, 0, 0, 0), (53, .iload 5, 55, 0, 0, 0, 0, 0, 0), (55, .invokestatic 178, 58, 189, 2, 0, 1, 0, 0), (58, .iconst 1, 59, 0, 0, 0, 0, nI 1, 0), (59, .iload_n 2, 60, 0, 0, 0, 0, 0, 0), (60, .iconst 1, 61, 0, 0, 0, 0, nI 1, 0), (61, .iadd, 62, 0, 0, 0, 0, 0, 0), (62, .ishl, 63, 0, 0, 0, 0, 0, 0), (63, .ior, 64, 0, 0, 0, 0, 0, 0), (64, .invokestatic 182, 67, 188, 3, 0, 1, 0, 0), (67, .iinc 4 1, 70, 0, 0, 0, 0, nI 1, 0), (70, .goto (-65), 73, 5, 0, 0, 0, 0, 0), (73, .iload_n 3, 74, 0, 0, 0, 0, 0, 0), (74, .ireturn, 75, 0, 0, 0, 0, 0, 0)]
def tx_Past_figuresOn : List Nat := [0, 0, 0, 0, 0, 0, 0, 0, 67, 0, 0, 155, 0, 0, 0, 0, 0, 0, 156, 0, 0, 0, 0, 0, 0, 0, 0, 78, 0, 0, 78, 0, 151, 0, 0, 0, 0, 0, 0, 152, 0, 0, 0, 0]
def tb_Past_findFirstRow : Tab_ := [(0, .iconst 0, 1, 0, 0, 0, 0, nI 0, 0), (1, .istore_n 2, 2, 0, 0, 0, 0, 0, 0), (2, .iconst 0, 3, 0, 0, 0, 0, nI 0, 0), (3, .istore_n 3, 4, 0, 0, 0, 0, 0, 0), (4, .iload_n 3, 5, 0, 0, 0, 0, 0, 0), (5, .iload_n 1, 6, 0, 0, 0, 0, 0, 0), (6, .if_icmp .ge 38, 9, 44, 0, 0, 0, 0, 0), (9, .aload_n 0, 10, 0, 0, 0, 0, 0, 0), (10, .iload_n 2, 11, 0, 0, 0, 0, 0, 0), (11, .iload_n 3, 12, 0, 0, 0, 0, 0, 0), (12, .invokevirtual 199, 15, 113, 2, 8, 0, 0, 0), (15, .istore 4, 17, 0, 0, 0, 0, 0, 0), (17, .aload_n 0, 18, 0, 0, 0, 0, 0, 0), (18, .getfield 34, 21, 8, 3, 3, 0, 0, 0), (21, .iload_n 3, 22, 0, 0, 0, 0, 0, 0), (22, .iload 4, 24, 0, 0, 0, 0, 0, 0), (24, .invokestatic 182, 27, 188, 3, 0, 1, 0, 0), (27, .aload_n 0, 28, 0, 0, 0, 0, 0, 0), (28, .getfield 14, 31, 8, 0, 3, 0, 0, 0), (31, .iload_n 2, 32, 0, 0, 0, 0, 0, 0), (32, .iload 4, 34, 0, 0, 0, 0, 0, 0), (34, .invokevirtual 190, 37, 94, 2, 6, 1, 0, 0), (37, .istore_n 2, 38, 0, 0, 0, 0, 0, 0), (38, .iinc 3 1, 41, 0, 0, 0, 0, nI 1, 0), (41, .goto (-37), 44, 4, 0, 0, 0, 0, 0), (44, .return_, 45, 0, 0, 0, 0, 0, 0)]
def tx_Past_findFirstRow : List Nat := [0, 0, 0, 0, 0, 0, 0, 0, 0, 0, 158, 0, 0, 70, 0, 0, 152, 0, 67, 0, 0, 155, 0, 0, 0, 0]
def tb_Past_firstFigureOn : Tab_ := [(0, .iconst 0, 1, 0, 0, 0, 0, nI 0, 0), (1, .istore_n 3, 2, 0, 0, 0, 0, 0, 0), (2, .iload_n 3, 3, 0, 0, 0, 0, 0, 0), (3, .bipush 6, 5, 0, 0, 0, 0, nI 6, 0), (5, .if_icmp .ge 30, 8, 35, 0, 0, 0, 0, 0), (8, .aload_n 0, 9, 0, 0, 0, 0, 0, 0), (9, .aload_n 0, 10, 0, 0, 0, 0, 0, 0), (10, .getfield 14, 13, 8, 0, 3, 0, 0, 0), (13, .iload_n 1, 14, 0, 0, 0, 0, 0, 0), (14, .iload_n 3, 15, 0, 0, 0, 0, 0, 0), (15, .invokevirtual 190, 18, 94, 2, 6, 1, 0, 0), (18, .iload_n 2, 19, 0, 0, 0, 0, 0, 0), (19, .iconst 1, 20, 0, 0, 0, 0, nI 1, 0), (20, .iadd, 21, 0, 0, 0, 0, 0, 0), (21, .invokevirtual 193, 24, 110, 2, 8, 0, 0, 0), (24, .ifCond .eq 5, 27, 29, 0, 0, 0, 0, 0), (27, .iload_n 3, 28, 0, 0, 0, 0, 0, 0), (28, .ireturn, 29, 0, 0, 0, 0, 0, 0), (29, .iinc 3 1, 32, 0, 0, 0, 0, nI 1, 0), (32, .goto (-30), 35, 2, 0, 0, 0, 0, 0), (35, .iconst 0, 36, 0, 0, 0, 0, nI 0, 0), (36, .ireturn, 37, 0, 0, 0, 0, 0, 0)]
def tx_Past_firstFigureOn : List Nat := [0, 0, 0, 0, 0, 0, 0, 67, 0, 0, 155, 0, 0, 0, 156, 0, 0, 0, 0, 0, 0, 0]
def tb_Evening_init : Tab_ := [(0, .aload_n 0, 1, 0, 0, 0, 0, 0, 0), (1, .invokespecial 3, 4, 0, 0, 0, 2, 0, 0), (4, .aload_n 0, 5, 0, 0, 0, 0, 0, 0), (5, .new 9, 8, 7, 3, 0, 0, 0, 0), (8, .dup, 9, 0, 0, 0, 0, 0, 0), (9, .invokespecial 11, 12, 95, 0, 7, 1, 0, 0), (12, .putfield 12, 15, 9, 0, 3, 0, 0, 0), (15, .aload_n 0, 16, 0, 0, 0, 0, 0, 0), (16, .bipush 6, 18, 0, 0, 0, 0, nI 6, 0), (18, .newarray .int, 20, 1, 0, 0, 0, 0, 0), (20, .putfield 18, 23, 9, 1, 3, 0, 0, 0), (23, .aload_n 0, 24, 0, 0, 0, 0, 0, 0), (24, .new 22, 27, 3, 2, 0, 0, 0, 0), (27, .dup, 28, 0, 0, 0, 0, 0, 0), (28, .invokespecial 24, 31, 67, 0, 3, 1, 0, 0), (31, .putfield 25, 34, 9, 2, 3, 0, 0, 0), (34, .aload_n 0, 35, 0, 0, 0, 0, 0, 0), (35, .iconst 0, 36, 0, 0, 0, 0, nI 0, 0), (36, .putfield 29, 39, 9, 3, 0, 0, 0, 0), (39, .aload_n 0, 40, 0, 0, 0, 0, 0, 0), (40, .iconst 0, 41, 0, 0, 0, 0, nI 0, 0), (41, .putfield 33, 44, 9, 4, 0, 0, 0, 0), (44, .aload_n 0, 45, 0, 0, 0, 0, 0, 0), (45, .iconst (-1), 46, 0, 0, 0, 0, (-1), 0), (46, .putfield 36, 49, 9, 5, 0, 0, 0, 0), (49, .aload_n 0, 50, 0, 0, 0, 0, 0, 0), (50, .iconst 0, 51, 0, 0, 0, 0, nI 0, 0), (51, .putfield 39, 54, 9, 6, 0, 0, 0, 0), (54, .return_, 55, 0, 0, 0, 0, 0, 0)]
def tx_Evening_init : List Nat := [0, 159, 0, 12, 0, 160, 83, 0, 0, 0, 84, 0, 13, 0, 161, 85, 0, 0, 86, 0, 0, 87, 0, 0, 88, 0, 0, 89, 0]
def tb_Evening_serve : Tab_ := [(0, .aload_n 0, 1, 0, 0, 0, 0, 0, 0), (1, .getfield 12, 4, 9, 0, 3, 0, 0, 0), (4, .invokevirtual 42, 7, 96, 0, 7, 1, 0, 0), (7, .aload_n 0, 8, 0, 0, 0, 0, 0, 0), (8, .getfield 12, 11, 9, 0, 3, 0, 0, 0), (11, .aload_n 2, 12, 0, 0, 0, 0, 0, 0), (12, .invokevirtual 45, 15, 97, 1, 7, 1, 0, 0), (15, .aload_n 0, 16, 0, 0, 0, 0, 0, 0), (16, .getfield 12, 19, 9, 0, 3, 0, 0, 0), (19, .iload_n 3, 20, 0, 0, 0, 0, 0, 0), (20, .invokevirtual 49, 23, 98, 1, 7, 1, 0, 0), (23, .aload_n 0, 24, 0, 0, 0, 0, 0, 0), (24, .getfield 12, 27, 9, 0, 3, 0, 0, 0), (27, .aload_n 1, 28, 0, 0, 0, 0, 0, 0), (28, .getfield 53, 31, 2, 1, 0, 1, 0, 0), (31, .invokevirtual 49, 34, 98, 1, 7, 1, 0, 0), (34, .aload_n 0, 35, 0, 0, 0, 0, 0, 0), (35, .getfield 12, 38, 9, 0, 3, 0, 0, 0), (38, .aload_n 1, 39, 0, 0, 0, 0, 0, 0), (39, .getfield 58, 42, 2, 10, 3, 1, 0, 0), (42, .invokevirtual 59, 45, 100, 1, 7, 1, 0, 0), (45, .aload_n 0, 46, 0, 0, 0, 0, 0, 0), (46, .getfield 12, 49, 9, 0, 3, 0, 0, 0), (49, .invokevirtual 63, 52, 99, 0, 7, 1, 0, 0), (52, .ifCond .eq 54, 55, 106, 0, 0, 0, 0, 0), (55, .aload_n 0, 56, 0, 0, 0, 0, 0, 0), (56, .aload_n 2, 57, 0, 0, 0, 0, 0, 0), (57, .invokevirtual 67, 60, 116, 1, 9, 0, 0, 0), (60, .aload_n 0, 61, 0, 0, 0, 0, 0, 0), (61, .getfield 25, 64, 9, 2, 3, 0, 0, 0), (64, .aload_n 1, 65, 0, 0, 0, 0, 0, 0), (65, .getfield 58, 68, 2, 10, 3, 1, 0, 0), (68, .invokevirtual 70, 71, 73, 1, 3, 1, 0, 0), (71, .aload_n 0, 72, 0, 0, 0, 0, 0, 0), (72, .aload_n 0, 73, 0, 0, 0, 0, 0, 0), (73, .iconst (-1), 74, 0, 0, 0, 0, (-1), 0), (74, .invokevirtual 73, 77, 117, 1, 9, 0, 0, 0), (77, .putfield 33, 80, 9, 4, 0, 0, 0, 0), (80, .aload_n 0, 81, 0, 0, 0, 0, 0, 0), (81, .iload_n 3, 82, 0, 0, 0, 0, 0, 0), (82, .putfield 29, 85, 9, 3, 0, 0, 0, 0), (85, .aload_n 0, 86, 0, 0, 0, 0, 0, 0), (86, .iconst (-1), 87, 0, 0, 0, 0, (-1), 0), (87, .putfield 36, 90, 9, 5, 0, 0, 0, 0), (90, .aload_n 0, 91, 0, 0, 0, 0, 0, 0), (91, .iconst 0, 92, 0, 0, 0, 0, nI 0, 0), (92, .putfield 39, 95, 9, 6, 0, 0, 0, 0), (95, .aload_n 0, 96, 0, 0, 0, 0, 0, 0), (96, .iconst 0, 97, 0, 0, 0, 0, nI 0, 0), (97, .aload_n 1, 98, 0, 0, 0, 0, 0, 0), (98, .getfield 53, 101, 2, 1, 0, 1, 0, 0), (101, .iconst 0, 102, 0, 0, 0, 0, nI 0, 0), (102, .iconst 0, 103, 0, 0, 0, 0, nI 0, 0), (103, .invokestatic 77, 106, 118, 5, 0, 0, 0, 0), (106, .return_, 107, 0, 0, 0, 0, 0, 0)]
def tx_Evening_serve : List Nat := [0, 83, 162, 0, 83, 0, 163, 0, 83, 0, 164, 0, 83, 0, 90, 164, 0, 83, 0, 91, 165, 0, 83, 166, 0, 0, 0, 167, 0, 85, 0, 91, 168, 0, 0, 0, 169, 87, 0, 0, 86, 0, 0, 88, 0, 0, 89, 0, 0, 0, 90, 0, 0, 170, 0]
def tb_Evening_takeMoves : Tab_ := [(0, .iconst 0, 1, 0, 0, 0, 0, nI 0, 0), (1, .istore_n 2, 2, 0, 0, 0, 0, 0, 0), (2, .iload_n 2, 3, 0, 0, 0, 0, 0, 0), (3, .bipush 6, 5, 0, 0, 0, 0, nI 6, 0), (5, .if_icmp .ge 51, 8, 56, 0, 0, 0, 0, 0), (8, .aload_n 1, 9, 0, 0, 0, 0, 0, 0), (9, .iload_n 2, 10, 0, 0, 0, 0, 0, 0), (10, .invokestatic 81, 13, 189, 2, 0, 1, 0, 0), (13, .istore_n 3, 14, 0, 0, 0, 0, 0, 0), (14, .iconst 0, 15, 0, 0, 0, 0, nI 0, 0), (15, .istore 4, 17, 0, 0, 0, 0, 0, 0), (17, .iload 4, 19, 0, 0, 0, 0, 0, 0), (19, .iload_n 2, 20, 0, 0, 0, 0, 0, 0), (20, .if_icmp .ge 21, 23, 41, 0, 0, 0, 0, 0), (23, .aload_n 1, 24, 0, 0, 0, 0, 0, 0), (24, .iload 4, 26, 0, 0, 0, 0, 0, 0), (26, .invokestatic 81, 29, 189, 2, 0, 1, 0, 0), (29, .iload_n 3, 30, 0, 0, 0, 0, 0, 0), (30, .if_icmp .ne 5, 33, 35, 0, 0, 0, 0, 0), (33, .iconst (-1), 34, 0, 0, 0, 0, (-1), 0), (34, .istore_n 3, 35, 0, 0, 0, 0, 0, 0), (35, .iinc 4 1, 38, 0, 0, 0, 0, nI 1, 0), (38, .goto (-21), 41, 17, 0, 0, 0, 0, 0), (41, .aload_n 0, 42, 0, 0, 0, 0, 0, 0), (42, .getfield 18, 45, 9, 1, 3, 0, 0, 0), (45, .iload_n 2, 46, 0, 0, 0, 0, 0, 0), (46, .iload_n 3, 47, 0, 0, 0, 0, 0, 0), (47, .invokestatic 87, 50, 188, 3, 0, 1, 0, 0), (50, .iinc 2 1, 53, 0, 0, 0, 0, nI 1, 0), (53, .goto (-51), 56, 2, 0, 0, 0, 0, 0), (56, .return_, 57, 0, 0, 0, 0, 0, 0)]
def tx_Evening_takeMoves : List Nat := [0, 0, 0, 0, 0, 0, 0, 171, 0, 0, 0, 0, 0, 0, 0, 0, 171, 0, 0, 0, 0, 0, 0, 0, 84, 0, 0, 172, 0, 0, 0]
def tb_Evening_worth : Tab_ := [(0, .iconst 0, 1, 0, 0, 0, 0, nI 0, 0), (1, .istore_n 2, 2, 0, 0, 0, 0, 0, 0), (2, .iconst 0, 3, 0, 0, 0, 0, nI 0, 0), (3, .istore_n 3, 4, 0, 0, 0, 0, 0, 0), (4, .iload_n 3, 5, 0, 0, 0, 0, 0, 0), (5, .aload_n 0, 6, 0, 0, 0, 0, 0, 0), (6, .getfield 25, 9, 9, 2, 3, 0, 0, 0), (9, .getfield 108, 12, 3, 1, 0, 1, 0, 0), (12, .if_icmp .ge 28, 15, 40, 0, 0, 0, 0, 0), (15, .iload_n 1, 16, 0, 0, 0, 0, 0, 0), (16, .iload_n 3, 17, 0, 0, 0, 0, 0, 0), (17, .invokestatic 120, 20, 190, 2, 0, 1, 0, 0), (20, .ifCond .eq 14, 23, 34, 0, 0, 0, 0, 0), (23, .iload_n 2, 24, 0, 0, 0, 0, 0, 0), (24, .aload_n 0, 25, 0, 0, 0, 0, 0, 0), (25, .getfield 25, 28, 9, 2, 3, 0, 0, 0), (28, .iload_n 3, 29, 0, 0, 0, 0, 0, 0), (29, .invokevirtual 124, 32, 69, 1, 3, 1, 0, 0), (32, .iadd, 33, 0, 0, 0, 0, 0, 0), (33, .istore_n 2, 34, 0, 0, 0, 0, 0, 0), (34, .iinc 3 1, 37, 0, 0, 0, 0, nI 1, 0), (37, .goto (-33), 40, 4, 0, 0, 0, 0, 0), (40, .iload_n 2, 41, 0, 0, 0, 0, 0, 0), (41, .ireturn, 42, 0, 0, 0, 0, 0, 0)]
def tx_Evening_worth : List Nat := [0, 0, 0, 0, 0, 0, 85, 92, 0, 0, 0, 173, 0, 0, 0, 85, 0, 174, 0, 0, 0, 0, 0, 0]
def tb_Evening_tryRows : Tab_ := [(0, .iload_n 1, 1, 0, 0, 0, 0, 0, 0), (1, .bipush 6, 3, 0, 0, 0, 0, nI 6, 0), (3, .if_icmp .gt 14, 6, 17, 0, 0, 0, 0, 0), (6, .aload_n 0, 7, 0, 0, 0, 0, 0, 0), (7, .getfield 36, 10, 9, 5, 0, 0, 0, 0), (10, .aload_n 0, 11, 0, 0, 0, 0, 0, 0), (11, .getfield 33, 14, 9, 4, 0, 0, 0, 0), (14, .if_icmp .ne 4, 17, 18, 0, 0, 0, 0, 0), (17, .return_, 18, 0, 0, 0, 0, 0, 0), (18, .iload_n 3, 19, 0, 0, 0, 0, 0, 0), (19, .aload_n 0, 20, 0, 0, 0, 0, 0, 0), (20, .iload_n 2, 21, 0, 0, 0, 0, 0, 0), (21, .invokevirtual 91, 24, 119, 1, 9, 0, 0, 0), (24, .ior, 25, 0, 0, 0, 0, 0, 0), (25, .istore 5, 27, 0, 0, 0, 0, 0, 0), (27, .iload_n 1, 28, 0, 0, 0, 0, 0, 0), (28, .aload_n 0, 29, 0, 0, 0, 0, 0, 0), (29, .getfield 29, 32, 9, 3, 0, 0, 0, 0), (32, .if_icmp .lt 16, 35, 48, 0, 0, 0, 0, 0), (35, .aload_n 0, 36, 0, 0, 0, 0, 0, 0), (36, .aload_n 0, 37, 0, 0, 0, 0, 0, 0), (37, .iload 5, 39, 0, 0, 0, 0, 0, 0), (39, .invokevirtual 73, 42, 117, 1, 9, 0, 0, 0), (42, .iload 4, 44, 0, 0, 0, 0, 0, 0), (44, .invokevirtual 94, 47, 120, 2, 9, 0, 0, 0), (47, .return_, 48, 0, 0, 0, 0, 0, 0), (48, .iconst 0, 49, 0, 0, 0, 0, nI 0, 0), (49, .istore 6, 51, 0, 0, 0, 0, 0, 0), (51, .iload 6, 53, 0, 0, 0, 0, 0, 0), (53, .bipush 6, 55, 0, 0, 0, 0, nI 6, 0), (55, .if_icmp .ge 49, 58, 104, 0, 0, 0, 0, 0), (58, .aload_n 0, 59, 0, 0, 0, 0, 0, 0), (59, .getfield 18, 62, 9, 1, 3, 0, 0, 0), (62, .iload 6, 64, 0, 0, 0, 0, 0, 0), (64, .invokestatic 81, 67, 189, 2, 0, 1, 0, 0), (67, .istore 7, 69, 0, 0, 0, 0, 0, 0), (69, .iload 7, 71, 0, 0, 0, 0, 0, 0), (71, .iconst (-1), 72, 0, 0, 0, 0, (-1), 0), (72, .if_icmp .eq 26, 75, 98, 0, 0, 0, 0, 0), (75, .aload_n 0, 76, 0, 0, 0, 0, 0, 0), (76, .iload_n 1, 77, 0, 0, 0, 0, 0, 0), (77, .iconst 1, 78, 0, 0, 0, 0, nI 1, 0), (78, .iadd, 79, 0, 0, 0, 0, 0, 0), (79, .iload_n 2, 80, 0, 0, 0, 0, 0, 0), (80, .iload 7, 82, 0, 0, 0, 0, 0, 0), (82, .invokestatic 98, 85, 200, 2, 0, 1, 0, 0), (85, .iload 5, 87, 0, 0, 0, 0, 0, 0), (87, .iload 4, 89, 0, 0, 0, 0, 0, 0), (89, .iload_n 1, 90, 0, 0, 0, 0, 0, 0), (90, .iload 6, 92, 0, 0, 0, 0, 0, 0), (92, .invokestatic 104, 95, 196, 3, 0, 1, 0, 0), (95, .invokestatic 77, 98, 118, 5, 0, 0, 0, 0), (98, .iinc 6 1, 101, 0, 0, 0, 0, nI 1, 0), (101, .goto (-50), 104, 51, 0, 0, 0, 0, 0), (104, .return_, 105, 0, 0, 0, 0, 0, 0)]
def tx_Evening_tryRows : List Nat := [0, 0, 0, 0, 88, 0, 87, 0, 0, 0, 0, 0, 175, 0, 0, 0, 0, 86, 0, 0, 0, 0, 169, 0, 176, 0, 0, 0, 0, 0, 0, 0, 84, 0, 171, 0, 0, 0, 0, 0, 0, 0, 0, 0, 0, 177, 0, 0, 0, 0, 178, 170, 0, 0, 0]
def tb_Evening_holding : Tab_ := [(0, .iconst 0, 1, 0, 0, 0, 0, nI 0, 0), (1, .istore_n 2, 2, 0, 0, 0, 0, 0, 0), (2, .iconst 0, 3, 0, 0, 0, 0, nI 0, 0), (3, .istore_n 3, 4, 0, 0, 0, 0, 0, 0), (4, .iload_n 3, 5, 0, 0, 0, 0, 0, 0), (5, .aload_n 0, 6, 0, 0, 0, 0, 0, 0), (6, .getfield 25, 9, 9, 2, 3, 0, 0, 0), (9, .getfield 108, 12, 3, 1, 0, 1, 0, 0), (12, .if_icmp .ge 38, 15, 50, 0, 0, 0, 0, 0), (15, .iload_n 1, 16, 0, 0, 0, 0, 0, 0), (16, .aload_n 0, 17, 0, 0, 0, 0, 0, 0), (17, .getfield 25, 20, 9, 2, 3, 0, 0, 0), (20, .iload_n 3, 21, 0, 0, 0, 0, 0, 0), (21, .invokevirtual 111, 24, 71, 1, 3, 1, 0, 0), (24, .invokestatic 114, 27, 198, 2, 0, 1, 0, 0), (27, .aload_n 0, 28, 0, 0, 0, 0, 0, 0), (28, .getfield 25, 31, 9, 2, 3, 0, 0, 0), (31, .iload_n 3, 32, 0, 0, 0, 0, 0, 0), (32, .invokevirtual 117, 35, 72, 1, 3, 1, 0, 0), (35, .if_icmp .ne 9, 38, 44, 0, 0, 0, 0, 0), (38, .iload_n 2, 39, 0, 0, 0, 0, 0, 0), (39, .iconst 1, 40, 0, 0, 0, 0, nI 1, 0), (40, .iload_n 3, 41, 0, 0, 0, 0, 0, 0), (41, .ishl, 42, 0, 0, 0, 0, 0, 0), (42, .ior, 43, 0, 0, 0, 0, 0, 0), (43, .istore_n 2, 44, 0, 0, 0, 0, 0, 0), (44, .iinc 3 1, 47, 0, 0, 0, 0, nI 1, 0), (47, .goto (-43), 50, 4, 0, 0, 0, 0, 0), (50, .iload_n 2, 51, 0, 0, 0, 0, 0, 0), (51, .ireturn, 52, 0, 0, 0, 0, 0, 0)]
def tx_Evening_holding : List Nat := [0, 0, 0, 0, 0, 0, 85, 92, 0, 0, 0, 85, 0, 179, 180, 0, 85, 0, 181, 0, 0, 0, 0, 0, 0, 0, 0, 0, 0, 0]
def tb_Evening_compare : Tab_ := [(0, .iload_n 1, 1, 0, 0, 0, 0, 0, 0), (1, .aload_n 0, 2, 0, 0, 0, 0, 0, 0), (2, .getfield 36, 5, 9, 5, 0, 0, 0, 0), (5, .if_icmp .le 13, 8, 18, 0, 0, 0, 0, 0), (8, .aload_n 0, 9, 0, 0, 0, 0, 0, 0), (9, .iload_n 1, 10, 0, 0, 0, 0, 0, 0), (10, .putfield 36, 13, 9, 5, 0, 0, 0, 0), (13, .aload_n 0, 14, 0, 0, 0, 0, 0, 0), (14, .iload_n 2, 15, 0, 0, 0, 0, 0, 0), (15, .putfield 39, 18, 9, 6, 0, 0, 0, 0), (18, .return_, 19, 0, 0, 0, 0, 0, 0)]
def tx_Evening_compare : List Nat := [0, 0, 88, 0, 0, 0, 88, 0, 0, 89, 0]
def tb_Ref_init : Tab_ := [(0, .aload_n 0, 1, 0, 0, 0, 0, 0, 0), (1, .invokespecial 1, 4, 0, 0, 0, 2, 0, 0), (4, .aload_n 0, 5, 0, 0, 0, 0, 0, 0), (5, .bipush 48, 7, 0, 0, 0, 0, nI 48, 0), (7, .newarray .int, 9, 1, 0, 0, 0, 0, 0), (9, .putfield 7, 12, 10, 1, 3, 0, 0, 0), (12, .aload_n 0, 13, 0, 0, 0, 0, 0, 0), (13, .bipush 8, 15, 0, 0, 0, 0, nI 8, 0), (15, .newarray .int, 17, 1, 0, 0, 0, 0, 0), (17, .putfield 13, 20, 10, 2, 3, 0, 0, 0), (20, .aload_n 0, 21, 0, 0, 0, 0, 0, 0), (21, .bipush 8, 23, 0, 0, 0, 0, nI 8, 0), (23, .newarray .int, 25, 1, 0, 0, 0, 0, 0), (25, .putfield 16, 28, 10, 3, 3, 0, 0, 0), (28, .aload_n 0, 29, 0, 0, 0, 0, 0, 0), (29, .bipush 6, 31, 0, 0, 0, 0, nI 6, 0), (31, .newarray .int, 33, 1, 0, 0, 0, 0, 0), (33, .putfield 19, 36, 10, 7, 3, 0, 0, 0), (36, .aload_n 0, 37, 0, 0, 0, 0, 0, 0), (37, .iconst 2, 38, 0, 0, 0, 0, nI 2, 0), (38, .newarray .int, 40, 1, 0, 0, 0, 0, 0), (40, .putfield 22, 43, 10, 8, 3, 0, 0, 0), (43, .aload_n 0, 44, 0, 0, 0, 0, 0, 0), (44, .bipush 6, 46, 0, 0, 0, 0, nI 6, 0), (46, .newarray .int, 48, 1, 0, 0, 0, 0, 0), (48, .putfield 25, 51, 10, 9, 3, 0, 0, 0), (51, .aload_n 0, 52, 0, 0, 0, 0, 0, 0), (52, .bipush 6, 54, 0, 0, 0, 0, nI 6, 0), (54, .newarray .int, 56, 1, 0, 0, 0, 0, 0), (56, .putfield 28, 59, 10, 10, 3, 0, 0, 0), (59, .aload_n 0, 60, 0, 0, 0, 0, 0, 0), (60, .bipush 6, 62, 0, 0, 0, 0, nI 6, 0), (62, .newarray .int, 64, 1, 0, 0, 0, 0, 0), (64, .putfield 31, 67, 10, 11, 3, 0, 0, 0), (67, .aload_n 0, 68, 0, 0, 0, 0, 0, 0), (68, .bipush 6, 70, 0, 0, 0, 0, nI 6, 0), (70, .newarray .int, 72, 1, 0, 0, 0, 0, 0), (72, .putfield 34, 75, 10, 13, 3, 0, 0, 0), (75, .aload_n 0, 76, 0, 0, 0, 0, 0, 0), (76, .bipush 6, 78, 0, 0, 0, 0, nI 6, 0), (78, .newarray .int, 80, 1, 0, 0, 0, 0, 0), (80, .putfield 37, 83, 10, 14, 3, 0, 0, 0), (83, .aload_n 0, 84, 0, 0, 0, 0, 0, 0), (84, .bipush 6, 86, 0, 0, 0, 0, nI 6, 0), (86, .newarray .int, 88, 1, 0, 0, 0, 0, 0), (88, .putfield 40, 91, 10, 15, 3, 0, 0, 0), (91, .aload_n 0, 92, 0, 0, 0, 0, 0, 0), (92, .bipush 30, 94, 0, 0, 0, 0, nI 30, 0), (94, .newarray .int, 96, 1, 0, 0, 0, 0, 0), (96, .putfield 43, 99, 10, 17, 3, 0, 0, 0), (99, .aload_n 0, 100, 0, 0, 0, 0, 0, 0), (100, .bipush 48, 102, 0, 0, 0, 0, nI 48, 0), (102, .newarray .int, 104, 1, 0, 0, 0, 0, 0), (104, .putfield 46, 107, 10, 19, 3, 0, 0, 0), (107, .aload_n 0, 108, 0, 0, 0, 0, 0, 0), (108, .bipush 8, 110, 0, 0, 0, 0, nI 8, 0), (110, .newarray .int, 112, 1, 0, 0, 0, 0, 0), (112, .putfield 49, 115, 10, 20, 3, 0, 0, 0), (115, .aload_n 0, 116, 0, 0, 0, 0, 0, 0), (116, .ldc 52, 118, 0, 0, 0, 0, nI 40320, 0), (118, .newarray .int, 120, 1, 0, 0, 0, 0, 0), (120, .putfield 53, 123, 10, 22, 3, 0, 0, 0), (123, .aload_n 0, 124, 0, 0, 0, 0, 0, 0), (124, .ldc 56, 126, 0, 0, 0, 0, nI 241920, 0), (126, .newarray .int, 128, 1, 0, 0, 0, 0, 0), (128, .putfield 57, 131, 10, 23, 3, 0, 0, 0), (131, .aload_n 0, 132, 0, 0, 0, 0, 0, 0), (132, .bipush 8, 134, 0, 0, 0, 0, nI 8, 0), (134, .newarray .int, 136, 1, 0, 0, 0, 0, 0), (136, .putfield 60, 139, 10, 24, 3, 0, 0, 0), (139, .aload_n 0, 140, 0, 0, 0, 0, 0, 0), (140, .ldc 52, 142, 0, 0, 0, 0, nI 40320, 0), (142, .newarray .int, 144, 1, 0, 0, 0, 0, 0), (144, .putfield 63, 147, 10, 26, 3, 0, 0, 0), (147, .aload_n 0, 148, 0, 0, 0, 0, 0, 0), (148, .ldc 52, 150, 0, 0, 0, 0, nI 40320, 0), (150, .newarray .int, 152, 1, 0, 0, 0, 0, 0), (152, .putfield 66, 155, 10, 27, 3, 0, 0, 0), (155, .aload_n 0, 156, 0, 0, 0, 0, 0, 0), (156, .ldc 52, 158, 0, 0, 0, 0, nI 40320, 0), (158, .newarray .int, 160, 1, 0, 0, 0, 0, 0), (160, .putfield 69, 163, 10, 28, 3, 0, 0, 0), (163, .aload_n 0, 164, 0, 0, 0, 0, 0, 0), (164, .ldc 52, 166, 0, 0, 0, 0, nI 40320, 0), (166, .newarray .int, 168, 1, 0, 0, 0, 0, 0), (168, .putfield 72, 171, 10, 29, 3, 0, 0, 0), (171, .aload_n 0, 172, 0, 0, 0, 0, 0, 0), (172, .bipush 16, 174, 0, 0, 0, 0, nI 16, 0), (174, .newarray .int, 176, 1, 0, 0, 0, 0, 0), (176, .putfield 75, 179, 10, 31, 3, 0, 0, 0), (179, .aload_n 0, 180, 0, 0, 0, 0, 0, 0), (180, .ldc 78, 182, 0, 0, 0, 0, nI 524160, 0), (182, .newarray .long, 184, 2, 0, 0, 0, 0, 0), (184, .putfield 79, 187, 10, 32, 3, 0, 0, 0), (187, .aload_n 0, 188, 0, 0, 0, 0, 0, 0), (188, .ldc 52, 190, 0, 0, 0, 0, nI 40320, 0), (190, .newarray .boolean, 192, 3, 0, 0, 0, 0, 0), (192, .putfield 83, 195, 10, 33, 3, 0, 0, 0), (195, .aload_n 0, 196, 0, 0, 0, 0, 0, 0), (196, .ldc 52, 198, 0, 0, 0, 0, nI 40320, 0), (198, .newarray .boolean, 200, 3, 0, 0, 0, 0, 0), (200, .putfield 87, 203, 10, 34, 3, 0, 0, 0), (203, .aload_n 0, 204, 0, 0, 0, 0, 0, 0), (204, .bipush 6, 206, 0, 0, 0, 0, nI 6, 0), (206, .newarray .int, 208, 1, 0, 0, 0, 0, 0), (208, .putfield 90, 211, 10, 35, 3, 0, 0, 0), (211, .aload_n 0, 212, 0, 0, 0, 0, 0, 0), (212, .sipush 320, 215, 0, 0, 0, 0, nI 320, 0), (215, .newarray .int, 217, 1, 0, 0, 0, 0, 0), (217, .putfield 93, 220, 10, 37, 3, 0, 0, 0), (220, .aload_n 0, 221, 0, 0, 0, 0, 0, 0), (221, .iconst 2, 222, 0, 0, 0, 0, nI 2, 0), (222, .newarray .boolean, 224, 3, 0, 0, 0, 0, 0), (224, .putfield 96, 227, 10, 38, 3, 0, 0, 0), (227, .aload_n 0, 228, 0, 0, 0, 0, 0, 0), (228, .iconst 1, 229, 0, 0, 0, 0, nI 1, 0), (229, .putfield 99, 232, 10, 5, 0, 0, 0, 0), (232, .iconst 0, 233, 0, 0, 0, 0, nI 0, 0), (233, .istore_n 1, 234, 0, 0, 0, 0, 0, 0), (234, .iload_n 1, 235, 0, 0, 0, 0, 0, 0), (235, .bipush 6, 237, 0, 0, 0, 0, nI 6, 0), (237, .if_icmp .ge 16, 240, 253, 0, 0, 0, 0, 0), (240, .aload_n 0, 241, 0, 0, 0, 0, 0, 0), (241, .getfield 19, 244, 10, 7, 3, 0, 0, 0), (244, .iload_n 1, 245, 0, 0, 0, 0, 0, 0), (245, .iconst 3, 246, 0, 0, 0, 0, nI 3, 0), (246, .iastore, 247, 0, 0, 0, 0, 0, 0), (247, .iinc 1 1, 250, 0, 0, 0, 0, nI 1, 0), (250, .goto (-16), 253, 234, 0, 0, 0, 0, 0), (253, .aload_n 0, 254, 0, 0, 0, 0, 0, 0), (254, .getfield 22, 257, 10, 8, 3, 0, 0, 0), (257, .iconst 0, 258, 0, 0, 0, 0, nI 0, 0), (258, .bipush 63, 260, 0, 0, 0, 0, nI 63, 0), (260, .iastore, 261, 0, 0, 0, 0, 0, 0), (261, .aload_n 0, 262, 0, 0, 0, 0, 0, 0), (262, .getfield 22, 265, 10, 8, 3, 0, 0, 0), (265, .iconst 1, 266, 0, 0, 0, 0, nI 1, 0), (266, .bipush 63, 268, 0, 0, 0, 0, nI 63, 0), (268, .iastore, 269, 0, 0, 0, 0, 0, 0), (269, .aload_n 0, 270, 0, 0, 0, 0, 0, 0), (270, .bipush 8, 272, 0, 0, 0, 0, nI 8, 0), (272, .invokevirtual 103, 275, 122, 1, 10, 0, 0, 0), (275, .return_, 276, 0, 0, 0, 0, 0, 0)]
def tx_Ref_init : List Nat := [0, 182, 0, 0, 0, 93, 0, 0, 0, 94, 0, 0, 0, 95, 0, 0, 0, 96, 0, 0, 0, 97, 0, 0, 0, 98, 0, 0, 0, 99, 0, 0, 0, 100, 0, 0, 0, 101, 0, 0, 0, 102, 0, 0, 0, 103, 0, 0, 0, 104, 0, 0, 0, 105, 0, 0, 0, 106, 0, 4, 0, 107, 0, 5, 0, 108, 0, 0, 0, 109, 0, 4, 0, 110, 0, 4, 0, 111, 0, 4, 0, 112, 0, 4, 0, 113, 0, 0, 0, 114, 0, 6, 0, 115, 0, 4, 0, 116, 0, 4, 0, 117, 0, 0, 0, 118, 0, 0, 0, 119, 0, 0, 0, 120, 0, 0, 121, 0, 0, 0, 0, 0, 0, 96, 0, 0, 0, 0, 0, 0, 97, 0, 0, 0, 0, 97, 0, 0, 0, 0, 0, 183, 0]
def tb_Ref_begin : Tab_ := [(0, .aload_n 0, 1, 0, 0, 0, 0, 0, 0), (1, .iload_n 1, 2, 0, 0, 0, 0, 0, 0), (2, .putfield 107, 5, 10, 0, 0, 0, 0, 0), (5, .iconst 0, 6, 0, 0, 0, 0, nI 0, 0), (6, .istore_n 2, 7, 0, 0, 0, 0, 0, 0), (7, .iload_n 2, 8, 0, 0, 0, 0, 0, 0), (8, .bipush 8, 10, 0, 0, 0, 0, nI 8, 0), (10, .if_icmp .ge 50, 13, 60, 0, 0, 0, 0, 0), (13, .aload_n 0, 14, 0, 0, 0, 0, 0, 0), (14, .getfield 13, 17, 10, 2, 3, 0, 0, 0), (17, .iload_n 2, 18, 0, 0, 0, 0, 0, 0), (18, .iload_n 2, 19, 0, 0, 0, 0, 0, 0), (19, .iastore, 20, 0, 0, 0, 0, 0, 0), (20, .aload_n 0, 21, 0, 0, 0, 0, 0, 0), (21, .getfield 16, 24, 10, 3, 3, 0, 0, 0), (24, .iload_n 2, 25, 0, 0, 0, 0, 0, 0), (25, .bipush (-6), 27, 0, 0, 0, 0, (-6), 0), (27, .iastore, 28, 0, 0, 0, 0, 0, 0), (28, .iconst 0, 29, 0, 0, 0, 0, nI 0, 0), (29, .istore_n 3, 30, 0, 0, 0, 0, 0, 0), (30, .iload_n 3, 31, 0, 0, 0, 0, 0, 0), (31, .bipush 6, 33, 0, 0, 0, 0, nI 6, 0), (33, .if_icmp .ge 21, 36, 54, 0, 0, 0, 0, 0), (36, .aload_n 0, 37, 0, 0, 0, 0, 0, 0), (37, .getfield 7, 40, 10, 1, 3, 0, 0, 0), (40, .bipush 8, 42, 0, 0, 0, 0, nI 8, 0), (42, .iload_n 3, 43, 0, 0, 0, 0, 0, 0), (43, .imul, 44, 0, 0, 0, 0, 0, 0), (44, .iload_n 2, 45, 0, 0, 0, 0, 0, 0), (45, .iadd, 46, 0, 0, 0, 0, 0, 0), (46, .iload_n 2, 47, 0, 0, 0, 0, 0, 0), (47, .iastore, 48, 0, 0, 0, 0, 0, 0), (48, .iinc 3 1, 51, 0, 0, 0, 0, nI 1, 0), (51, .goto (-21), 54, 30, 0, 0, 0, 0, 0), (54, .iinc 2 1, 57, 0, 0, 0, 0, nI 1, 0), (57, .goto (-50), 60, 7, 0, 0, 0, 0, 0), (60, .aload_n 0, 61, 0, 0, 0, 0, 0, 0), (61, .iconst 0, 62, 0, 0, 0, 0, nI 0, 0), (62, .putfield 110, 65, 10, 4, 0, 0, 0, 0), (65, .aload_n 0, 66, 0, 0, 0, 0, 0, 0), (66, .iconst 0, 67, 0, 0, 0, 0, nI 0, 0), (67, .putfield 113, 70, 10, 12, 0, 0, 0, 0), (70, .aload_n 0, 71, 0, 0, 0, 0, 0, 0), (71, .iconst 0, 72, 0, 0, 0, 0, nI 0, 0), (72, .putfield 116, 75, 10, 16, 0, 0, 0, 0), (75, .return_, 76, 0, 0, 0, 0, 0, 0)]
def tx_Ref_begin : List Nat := [0, 0, 122, 0, 0, 0, 0, 0, 0, 94, 0, 0, 0, 0, 95, 0, 0, 0, 0, 0, 0, 0, 0, 0, 93, 0, 0, 0, 0, 0, 0, 0, 0, 0, 0, 0, 0, 0, 123, 0, 0, 124, 0, 0, 125, 0]
def tb_Ref_places : Tab_ := [(0, .iload_n 1, 1, 0, 0, 0, 0, 0, 0), (1, .i2l, 2, 0, 0, 0, 0, 0, 0), (2, .ldc2_w 119, 5, 0, 0, 0, 0, 0, lN 3), (5, .ldc2_w 121, 8, 0, 0, 0, 0, 0, lN 8), (8, .invokestatic 123, 11, 124, 3, 0, 0, 0, 0), (11, .ifCond .ne 6, 14, 17, 0, 0, 0, 0, 0), (14, .bipush (-2), 16, 0, 0, 0, 0, (-2), 0), (16, .ireturn, 17, 0, 0, 0, 0, 0, 0), (17, .aload_n 0, 18, 0, 0, 0, 0, 0, 0), (18, .getfield 107, 21, 10, 0, 0, 0, 0, 0), (21, .istore_n 2, 22, 0, 0, 0, 0, 0, 0), (22, .aload_n 0, 23, 0, 0, 0, 0, 0, 0), (23, .iload_n 1, 24, 0, 0, 0, 0, 0, 0), (24, .invokevirtual 103, 27, 122, 1, 10, 0, 0, 0), (27, .iload_n 2, 28, 0, 0, 0, 0, 0, 0), (28, .ireturn, 29, 0, 0, 0, 0, 0, 0)]
def tx_Ref_places : List Nat := [0, 0, 1, 2, 184, 0, 0, 0, 0, 122, 0, 0, 0, 183, 0, 0]
def tb_Ref_in : Tab_ := [(0, .lload_n 0, 1, 0, 0, 0, 0, 0, 0), (1, .lload_n 2, 2, 0, 0, 0, 0, 0, 0), (2, .lcmp, 3, 0, 0, 0, 0, 0, 0), (3, .ifCond .lt 14, 6, 17, 0, 0, 0, 0, 0), (6, .lload_n 0, 7, 0, 0, 0, 0, 0, 0), (7, .lload 4, 9, 0, 0, 0, 0, 0, 0), (9, .lcmp, 10, 0, 0, 0, 0, 0, 0), (10, .ifCond .gt 7, 13, 17, 0, 0, 0, 0, 0), (13, .iconst 1, 14, 0, 0, 0, 0, nI 1, 0), (14, .goto 4, 17, 18, 0, 0, 0, 0, 0), (17, .iconst 0, 18, 0, 0, 0, 0, nI 0, 0), (18, .ireturn, 19, 1, 0, 0, 0, 0, 0)]
def tx_Ref_in : List Nat := [0, 0, 0, 0, 0, 0, 0, 0, 0, 0, 0, 0]
def tb_Ref_say : Tab_ := [(0, .iload_n 1, 1, 0, 0, 0, 0, 0, 0), (1, .i2l, 2, 0, 0, 0, 0, 0, 0), (2, .ldc2_w 129, 5, 0, 0, 0, 0, 0, lN 33), (5, .ldc2_w 131, 8, 0, 0, 0, 0, 0, lN 126), (8, .invokestatic 123, 11, 124, 3, 0, 0, 0, 0), (11, .ifCond .ne 6, 14, 17, 0, 0, 0, 0, 0), (14, .bipush (-2), 16, 0, 0, 0, 0, (-2), 0), (16, .ireturn, 17, 0, 0, 0, 0, 0, 0), (17, .aload_n 0, 18, 0, 0, 0, 0, 0, 0), (18, .getfield 133, 21, 10, 18, 0, 0, 0, 0), (21, .bipush 30, 23, 0, 0, 0, 0, nI 30, 0), (23, .if_icmp .ne 6, 26, 29, 0, 0, 0, 0, 0), (26, .bipush (-4), 28, 0, 0, 0, 0, (-4), 0), (28, .ireturn, 29, 0, 0, 0, 0, 0, 0), (29, .aload_n 0, 30, 0, 0, 0, 0, 0, 0), (30, .getfield 43, 33, 10, 17, 3, 0, 0, 0), (33, .aload_n 0, 34, 0, 0, 0, 0, 0, 0), (34, .getfield 133, 37, 10, 18, 0, 0, 0, 0), (37, .iload_n 1, 38, 0, 0, 0, 0, 0, 0), (38, .iastore, 39, 0, 0, 0, 0, 0, 0), (39, .aload_n 0, 40, 0, 0, 0, 0, 0, 0), (40, .dup, 41, 0, 0, 0, 0, 0, 0), (41, .getfield 133, 44, 10, 18, 0, 0, 0, 0), (44, .iconst 1, 45, 0, 0, 0, 0, nI 1, 0), (45, .iadd, 46, 0, 0, 0, 0, 0, 0), (46, .putfield 133, 49, 10, 18, 0, 0, 0, 0), (49, .aload_n 0, 50, 0, 0, 0, 0, 0, 0), (50, .getfield 133, 53, 10, 18, 0, 0, 0, 0), (53, .ireturn, 54, 0, 0, 0, 0, 0, 0)]
def tx_Ref_say : List Nat := [0, 0, 3, 4, 184, 0, 0, 0, 0, 126, 0, 0, 0, 0, 0, 104, 0, 126, 0, 0, 0, 0, 126, 0, 0, 126, 0, 126, 0]
def tb_Ref_wipe : Tab_ := [(0, .aload_n 0, 1, 0, 0, 0, 0, 0, 0), (1, .getfield 133, 4, 10, 18, 0, 0, 0, 0), (4, .istore_n 1, 5, 0, 0, 0, 0, 0, 0), (5, .aload_n 0, 6, 0, 0, 0, 0, 0, 0), (6, .iconst 0, 7, 0, 0, 0, 0, nI 0, 0), (7, .putfield 133, 10, 10, 18, 0, 0, 0, 0), (10, .iload_n 1, 11, 0, 0, 0, 0, 0, 0), (11, .ireturn, 12, 0, 0, 0, 0, 0, 0)]
def tx_Ref_wipe : List Nat := [0, 126, 0, 0, 0, 126, 0, 0]
def tb_Ref_fault : Tab_ := [(0, .iload_n 1, 1, 0, 0, 0, 0, 0, 0), (1, .ifCond .ne 12, 4, 13, 0, 0, 0, 0, 0), (4, .aload_n 0, 5, 0, 0, 0, 0, 0, 0), (5, .bipush 48, 7, 0, 0, 0, 0, nI 48, 0), (7, .invokevirtual 143, 10, 128, 1, 10, 0, 0, 0), (10, .goto 31, 13, 41, 0, 0, 0, 0, 0), (13, .iload_n 1, 14, 0, 0, 0, 0, 0, 0), (14, .iconst 1, 15, 0, 0, 0, 0, nI 1, 0), (15, .if_icmp .ne 10, 18, 25, 0, 0, 0, 0, 0), (18, .aload_n 0, 19, 0, 0, 0, 0, 0, 0), (19, .invokevirtual 147, 22, 130, 0, 10, 0, 0, 0), (22, .goto 19, 25, 41, 0, 0, 0, 0, 0), (25, .iload_n 1, 26, 0, 0, 0, 0, 0, 0), (26, .iconst 2, 27, 0, 0, 0, 0, nI 2, 0), (27, .if_icmp .ne 12, 30, 39, 0, 0, 0, 0, 0), (30, .aload_n 0, 31, 0, 0, 0, 0, 0, 0), (31, .bipush 97, 33, 0, 0, 0, 0, nI 97, 0), (33, .invokevirtual 143, 36, 128, 1, 10, 0, 0, 0), (36, .goto 5, 39, 41, 0, 0, 0, 0, 0), (39, .bipush (-2), 41, 0, 0, 0, 0, (-2), 0), (41, .ireturn, 42, 0, 0, 0, 0, 0, 0)]
def tx_Ref_fault : List Nat := [0, 0, 0, 0, 185, 0, 0, 0, 0, 0, 186, 0, 0, 0, 0, 0, 0, 185, 0, 0, 0]
def tb_Ref_faultOfOrder : Tab_ := [(0, .iconst 0, 1, 0, 0, 0, 0, nI 0, 0), (1, .istore_n 2, 2, 0, 0, 0, 0, 0, 0), (2, .iconst 0, 3, 0, 0, 0, 0, nI 0, 0), (3, .istore_n 3, 4, 0, 0, 0, 0, 0, 0), (4, .iload_n 3, 5, 0, 0, 0, 0, 0, 0), (5, .aload_n 0, 6, 0, 0, 0, 0, 0, 0), (6, .getfield 133, 9, 10, 18, 0, 0, 0, 0), (9, .if_icmp .ge 47, 12, 56, 0, 0, 0, 0, 0), (12, .aload_n 0, 13, 0, 0, 0, 0, 0, 0), (13, .getfield 43, 16, 10, 17, 3, 0, 0, 0), (16, .iload_n 3, 17, 0, 0, 0, 0, 0, 0), (17, .iaload, 18, 0, 0, 0, 0, 0, 0), (18, .iload_n 1, 19, 0, 0, 0, 0, 0, 0), (19, .isub, 20, 0, 0, 0, 0, 0, 0), (20, .istore 4, 22, 0, 0, 0, 0, 0, 0), (22, .aload_n 0, 23, 0, 0, 0, 0, 0, 0), (23, .iload 4, 25, 0, 0, 0, 0, 0, 0), (25, .invokevirtual 136, 28, 129, 1, 10, 0, 0, 0), (28, .ifCond .eq 13, 31, 41, 0, 0, 0, 0, 0), (31, .iload_n 2, 32, 0, 0, 0, 0, 0, 0), (32, .iload 4, 34, 0, 0, 0, 0, 0, 0), (34, .ishr, 35, 0, 0, 0, 0, 0, 0), (35, .iconst 1, 36, 0, 0, 0, 0, nI 1, 0), (36, .iand, 37, 0, 0, 0, 0, 0, 0), (37, .iconst 1, 38, 0, 0, 0, 0, nI 1, 0), (38, .if_icmp .ne 5, 41, 43, 0, 0, 0, 0, 0), (41, .iload_n 3, 42, 0, 0, 0, 0, 0, 0), (42, .ireturn, 43, 0, 0, 0, 0, 0, 0), (43, .iload_n 2, 44, 0, 0, 0, 0, 0, 0), (44, .iconst 1, 45, 0, 0, 0, 0, nI 1, 0), (45, .iload 4, 47, 0, 0, 0, 0, 0, 0), (47, .ishl, 48, 0, 0, 0, 0, 0, 0), (48, .ior, 49, 0, 0, 0, 0, 0, 0), (49, .istore_n 2, 50, 0, 0, 0, 0, 0, 0), (50, .iinc 3 1, 53, 0, 0, 0, 0, nI 1, 0), (53, .goto (-49), 56, 4, 0, 0, 0, 0, 0), (56, .aload_n 0, 57, 0, 0, 0, 0, 0, 0), (57, .getfield 133, 60, 10, 18, 0, 0, 0, 0), (60, .aload_n 0, 61, 0, 0, 0, 0, 0, 0), (61, .getfield 107, 64, 10, 0, 0, 0, 0, 0), (64, .if_icmp .ge 10, 67, 74, 0, 0, 0, 0, 0), (67, .aload_n 0, 68, 0, 0, 0, 0, 0, 0), (68, .getfield 133, 71, 10, 18, 0, 0, 0, 0), (71, .goto 5, 74, 76, 0, 0, 0, 0, 0), (74, .bipush (-6), 76, 0, 0, 0, 0, (-6), 0), (76, .ireturn, 77, 0, 0, 0, 0, 0, 0)]
def tx_Ref_faultOfOrder : List Nat := [0, 0, 0, 0, 0, 0, 126, 0, 0, 104, 0, 0, 0, 0, 0, 0, 0, 187, 0, 0, 0, 0, 0, 0, 0, 0, 0, 0, 0, 0, 0, 0, 0, 0, 0, 0, 0, 126, 0, 122, 0, 0, 126, 0, 0, 0]
def tb_Ref_isPlace : Tab_ := [(0, .iload_n 1, 1, 0, 0, 0, 0, 0, 0), (1, .i2l, 2, 0, 0, 0, 0, 0, 0), (2, .lconst 0, 3, 0, 0, 0, 0, 0, lN 0), (3, .aload_n 0, 4, 0, 0, 0, 0, 0, 0), (4, .getfield 107, 7, 10, 0, 0, 0, 0, 0), (7, .iconst 1, 8, 0, 0, 0, 0, nI 1, 0), (8, .isub, 9, 0, 0, 0, 0, 0, 0), (9, .i2l, 10, 0, 0, 0, 0, 0, 0), (10, .invokestatic 123, 13, 124, 3, 0, 0, 0, 0), (13, .ireturn, 14, 1, 0, 0, 0, 0, 0)]
def tx_Ref_isPlace : List Nat := [0, 0, 0, 0, 122, 0, 0, 0, 184, 0]
def tb_Ref_faultOfRow : Tab_ := [(0, .iconst 0, 1, 0, 0, 0, 0, nI 0, 0), (1, .istore_n 1, 2, 0, 0, 0, 0, 0, 0), (2, .iload_n 1, 3, 0, 0, 0, 0, 0, 0), (3, .aload_n 0, 4, 0, 0, 0, 0, 0, 0), (4, .getfield 133, 7, 10, 18, 0, 0, 0, 0), (7, .if_icmp .ge 32, 10, 39, 0, 0, 0, 0, 0), (10, .iload_n 1, 11, 0, 0, 0, 0, 0, 0), (11, .bipush 20, 13, 0, 0, 0, 0, nI 20, 0), (13, .if_icmp .eq 18, 16, 31, 0, 0, 0, 0, 0), (16, .aload_n 0, 17, 0, 0, 0, 0, 0, 0), (17, .getfield 43, 20, 10, 17, 3, 0, 0, 0), (20, .iload_n 1, 21, 0, 0, 0, 0, 0, 0), (21, .iaload, 22, 0, 0, 0, 0, 0, 0), (22, .bipush 65, 24, 0, 0, 0, 0, nI 65, 0), (24, .isub, 25, 0, 0, 0, 0, 0, 0), (25, .invokestatic 140, 28, 131, 1, 0, 0, 0, 0), (28, .ifCond .ne 5, 31, 33, 0, 0, 0, 0, 0), (31, .iload_n 1, 32, 0, 0, 0, 0, 0, 0), (32, .ireturn, 33, 0, 0, 0, 0, 0, 0), (33, .iinc 1 1, 36, 0, 0, 0, 0, nI 1, 0), (36, .goto (-34), 39, 2, 0, 0, 0, 0, 0), (39, .bipush (-6), 41, 0, 0, 0, 0, (-6), 0), (41, .ireturn, 42, 0, 0, 0, 0, 0, 0)]
def tx_Ref_faultOfRow : List Nat := [0, 0, 0, 0, 126, 0, 0, 0, 0, 0, 104, 0, 0, 0, 0, 188, 0, 0, 0, 0, 0, 0, 0]
def tb_Ref_isFigure : Tab_ := [(0, .iload_n 0, 1, 0, 0, 0, 0, 0, 0), (1, .i2l, 2, 0, 0, 0, 0, 0, 0), (2, .lconst 0, 3, 0, 0, 0, 0, 0, lN 0), (3, .ldc2_w 127, 6, 0, 0, 0, 0, 0, lN 5), (6, .invokestatic 123, 9, 124, 3, 0, 0, 0, 0), (9, .ireturn, 10, 1, 0, 0, 0, 0, 0)]
def tx_Ref_isFigure : List Nat := [0, 0, 0, 5, 184, 0]
def tb_Ref_figure : Tab_ := [(0, .iload_n 1, 1, 0, 0, 0, 0, 0, 0), (1, .invokestatic 140, 4, 131, 1, 0, 0, 0, 0), (4, .ifCond .ne 5, 7, 9, 0, 0, 0, 0, 0), (7, .iconst (-1), 8, 0, 0, 0, 0, (-1), 0), (8, .ireturn, 9, 0, 0, 0, 0, 0, 0), (9, .aload_n 0, 10, 0, 0, 0, 0, 0, 0), (10, .bipush 48, 12, 0, 0, 0, 0, nI 48, 0), (12, .invokevirtual 143, 15, 128, 1, 10, 0, 0, 0), (15, .ifCond .lt 6, 18, 21, 0, 0, 0, 0, 0), (18, .bipush (-5), 20, 0, 0, 0, 0, (-5), 0), (20, .ireturn, 21, 0, 0, 0, 0, 0, 0), (21, .iconst 0, 22, 0, 0, 0, 0, nI 0, 0), (22, .istore_n 2, 23, 0, 0, 0, 0, 0, 0), (23, .iload_n 2, 24, 0, 0, 0, 0, 0, 0), (24, .aload_n 0, 25, 0, 0, 0, 0, 0, 0), (25, .getfield 107, 28, 10, 0, 0, 0, 0, 0), (28, .if_icmp .ge 29, 31, 57, 0, 0, 0, 0, 0), (31, .aload_n 0, 32, 0, 0, 0, 0, 0, 0), (32, .getfield 7, 35, 10, 1, 3, 0, 0, 0), (35, .bipush 8, 37, 0, 0, 0, 0, nI 8, 0), (37, .iload_n 1, 38, 0, 0, 0, 0, 0, 0), (38, .imul, 39, 0, 0, 0, 0, 0, 0), (39, .iload_n 2, 40, 0, 0, 0, 0, 0, 0), (40, .iadd, 41, 0, 0, 0, 0, 0, 0), (41, .aload_n 0, 42, 0, 0, 0, 0, 0, 0), (42, .getfield 43, 45, 10, 17, 3, 0, 0, 0), (45, .iload_n 2, 46, 0, 0, 0, 0, 0, 0), (46, .iaload, 47, 0, 0, 0, 0, 0, 0), (47, .bipush 48, 49, 0, 0, 0, 0, nI 48, 0), (49, .isub, 50, 0, 0, 0, 0, 0, 0), (50, .iastore, 51, 0, 0, 0, 0, 0, 0), (51, .iinc 2 1, 54, 0, 0, 0, 0, nI 1, 0), (54, .goto (-31), 57, 23, 0, 0, 0, 0, 0), (57, .aload_n 0, 58, 0, 0, 0, 0, 0, 0), (58, .iconst 0, 59, 0, 0, 0, 0, nI 0, 0), (59, .putfield 133, 62, 10, 18, 0, 0, 0, 0), (62, .iconst 1, 63, 0, 0, 0, 0, nI 1, 0), (63, .ireturn, 64, 0, 0, 0, 0, 0, 0)]
def tx_Ref_figure : List Nat := [0, 188, 0, 0, 0, 0, 0, 185, 0, 0, 0, 0, 0, 0, 0, 122, 0, 0, 93, 0, 0, 0, 0, 0, 0, 104, 0, 0, 0, 0, 0, 0, 0, 0, 0, 126, 0, 0]
def tb_Ref_goes : Tab_ := [(0, .iload_n 1, 1, 0, 0, 0, 0, 0, 0), (1, .invokestatic 140, 4, 131, 1, 0, 0, 0, 0), (4, .ifCond .eq 11, 7, 15, 0, 0, 0, 0, 0), (7, .aload_n 0, 8, 0, 0, 0, 0, 0, 0), (8, .iload_n 2, 9, 0, 0, 0, 0, 0, 0), (9, .invokevirtual 136, 12, 129, 1, 10, 0, 0, 0), (12, .ifCond .ne 5, 15, 17, 0, 0, 0, 0, 0), (15, .iconst (-1), 16, 0, 0, 0, 0, (-1), 0), (16, .ireturn, 17, 0, 0, 0, 0, 0, 0), (17, .iload_n 3, 18, 0, 0, 0, 0, 0, 0), (18, .i2l, 19, 0, 0, 0, 0, 0, 0), (19, .lconst 0, 20, 0, 0, 0, 0, 0, lN 0), (20, .lconst 1, 21, 0, 0, 0, 0, 0, lN 1), (21, .invokestatic 123, 24, 124, 3, 0, 0, 0, 0), (24, .ifCond .ne 6, 27, 30, 0, 0, 0, 0, 0), (27, .bipush (-2), 29, 0, 0, 0, 0, (-2), 0), (29, .ireturn, 30, 0, 0, 0, 0, 0, 0), (30, .aload_n 0, 31, 0, 0, 0, 0, 0, 0), (31, .invokevirtual 157, 34, 134, 0, 10, 0, 0, 0), (34, .iload_n 3, 35, 0, 0, 0, 0, 0, 0), (35, .ifCond .ne 17, 38, 52, 0, 0, 0, 0, 0), (38, .aload_n 0, 39, 0, 0, 0, 0, 0, 0), (39, .getfield 7, 42, 10, 1, 3, 0, 0, 0), (42, .bipush 8, 44, 0, 0, 0, 0, nI 8, 0), (44, .iload_n 1, 45, 0, 0, 0, 0, 0, 0), (45, .imul, 46, 0, 0, 0, 0, 0, 0), (46, .iload_n 2, 47, 0, 0, 0, 0, 0, 0), (47, .iadd, 48, 0, 0, 0, 0, 0, 0), (48, .iaload, 49, 0, 0, 0, 0, 0, 0), (49, .goto 14, 52, 63, 0, 0, 0, 0, 0), (52, .aload_n 0, 53, 0, 0, 0, 0, 0, 0), (53, .getfield 46, 56, 10, 19, 3, 0, 0, 0), (56, .bipush 8, 58, 0, 0, 0, 0, nI 8, 0), (58, .iload_n 1, 59, 0, 0, 0, 0, 0, 0), (59, .imul, 60, 0, 0, 0, 0, 0, 0), (60, .iload_n 2, 61, 0, 0, 0, 0, 0, 0), (61, .iadd, 62, 0, 0, 0, 0, 0, 0), (62, .iaload, 63, 0, 0, 0, 0, 0, 0), (63, .ireturn, 64, 0, 0, 0, 0, 0, 0)]
def tx_Ref_goes : List Nat := [0, 188, 0, 0, 0, 187, 0, 0, 0, 0, 0, 0, 0, 184, 0, 0, 0, 0, 189, 0, 0, 0, 93, 0, 0, 0, 0, 0, 0, 0, 0, 105, 0, 0, 0, 0, 0, 0, 0]
def tb_Ref_findGoes : Tab_ := [(0, .iconst 0, 1, 0, 0, 0, 0, nI 0, 0), (1, .istore_n 1, 2, 0, 0, 0, 0, 0, 0), (2, .iload_n 1, 3, 0, 0, 0, 0, 0, 0), (3, .bipush 6, 5, 0, 0, 0, 0, nI 6, 0), (5, .if_icmp .ge 82, 8, 87, 0, 0, 0, 0, 0), (8, .iconst 0, 9, 0, 0, 0, 0, nI 0, 0), (9, .istore_n 2, 10, 0, 0, 0, 0, 0, 0), (10, .iload_n 2, 11, 0, 0, 0, 0, 0, 0), (11, .aload_n 0, 12, 0, 0, 0, 0, 0, 0), (12, .getfield 107, 15, 10, 0, 0, 0, 0, 0), (15, .if_icmp .ge 66, 18, 81, 0, 0, 0, 0, 0), (18, .iload_n 2, 19, 0, 0, 0, 0, 0, 0), (19, .istore_n 3, 20, 0, 0, 0, 0, 0, 0), (20, .aload_n 0, 21, 0, 0, 0, 0, 0, 0), (21, .iload_n 2, 22, 0, 0, 0, 0, 0, 0), (22, .invokevirtual 151, 25, 135, 1, 10, 0, 0, 0), (25, .ifCond .ne 38, 28, 63, 0, 0, 0, 0, 0), (28, .aload_n 0, 29, 0, 0, 0, 0, 0, 0), (29, .getfield 7, 32, 10, 1, 3, 0, 0, 0), (32, .bipush 8, 34, 0, 0, 0, 0, nI 8, 0), (34, .iload_n 1, 35, 0, 0, 0, 0, 0, 0), (35, .imul, 36, 0, 0, 0, 0, 0, 0), (36, .iload_n 2, 37, 0, 0, 0, 0, 0, 0), (37, .iadd, 38, 0, 0, 0, 0, 0, 0), (38, .iaload, 39, 0, 0, 0, 0, 0, 0), (39, .istore_n 3, 40, 0, 0, 0, 0, 0, 0), (40, .aload_n 0, 41, 0, 0, 0, 0, 0, 0), (41, .iload_n 3, 42, 0, 0, 0, 0, 0, 0), (42, .invokevirtual 151, 45, 135, 1, 10, 0, 0, 0), (45, .ifCond .eq 18, 48, 63, 0, 0, 0, 0, 0), (48, .aload_n 0, 49, 0, 0, 0, 0, 0, 0), (49, .getfield 7, 52, 10, 1, 3, 0, 0, 0), (52, .bipush 8, 54, 0, 0, 0, 0, nI 8, 0), (54, .iload_n 1, 55, 0, 0, 0, 0, 0, 0), (55, .imul, 56, 0, 0, 0, 0, 0, 0), (56, .iload_n 3, 57, 0, 0, 0, 0, 0, 0), (57, .iadd, 58, 0, 0, 0, 0, 0, 0), (58, .iaload, 59, 0, 0, 0, 0, 0, 0), (59, .istore_n 3, 60, 0, 0, 0, 0, 0, 0), (60, .goto (-20), 63, 40, 0, 0, 0, 0, 0), (63, .aload_n 0, 64, 0, 0, 0, 0, 0, 0), (64, .getfield 46, 67, 10, 19, 3, 0, 0, 0), (67, .bipush 8, 69, 0, 0, 0, 0, nI 8, 0), (69, .iload_n 1, 70, 0, 0, 0, 0, 0, 0), (70, .imul, 71, 0, 0, 0, 0, 0, 0), (71, .iload_n 2, 72, 0, 0, 0, 0, 0, 0), (72, .iadd, 73, 0, 0, 0, 0, 0, 0), (73, .iload_n 3, 74, 0, 0, 0, 0, 0, 0), (74, .iastore, 75, 0, 0, 0, 0, 0, 0), (75, .iinc 2 1, 78, 0, 0, 0, 0, nI 1, 0), (78, .goto (-68), 81, 10, 0, 0, 0, 0, 0), (81, .iinc 1 1, 84, 0, 0, 0, 0, nI 1, 0), (84, .goto (-82), 87, 2, 0, 0, 0, 0, 0), (87, .return_, 88, 0, 0, 0, 0, 0, 0)]
def tx_Ref_findGoes : List Nat := [0, 0, 0, 0, 0, 0, 0, 0, 0, 122, 0, 0, 0, 0, 0, 190, 0, 0, 93, 0, 0, 0, 0, 0, 0, 0, 0, 0, 190, 0, 0, 93, 0, 0, 0, 0, 0, 0, 0, 0, 0, 105, 0, 0, 0, 0, 0, 0, 0, 0, 0, 0, 0, 0]
def tb_Ref_isLame : Tab_ := [(0, .aload_n 0, 1, 0, 0, 0, 0, 0, 0), (1, .getfield 110, 4, 10, 4, 0, 0, 0, 0), (4, .iload_n 1, 5, 0, 0, 0, 0, 0, 0), (5, .ishr, 6, 0, 0, 0, 0, 0, 0), (6, .iconst 1, 7, 0, 0, 0, 0, nI 1, 0), (7, .iand, 8, 0, 0, 0, 0, 0, 0), (8, .iconst 1, 9, 0, 0, 0, 0, nI 1, 0), (9, .if_icmp .ne 7, 12, 16, 0, 0, 0, 0, 0), (12, .iconst 1, 13, 0, 0, 0, 0, nI 1, 0), (13, .goto 4, 16, 17, 0, 0, 0, 0, 0), (16, .iconst 0, 17, 0, 0, 0, 0, nI 0, 0), (17, .ireturn, 18, 1, 0, 0, 0, 0, 0)]
def tx_Ref_isLame : List Nat := [0, 123, 0, 0, 0, 0, 0, 0, 0, 0, 0, 0]
def tb_Ref_set : Tab_ := [(0, .iload_n 1, 1, 0, 0, 0, 0, 0, 0), (1, .i2l, 2, 0, 0, 0, 0, 0, 0), (2, .lconst 0, 3, 0, 0, 0, 0, 0, lN 0), (3, .ldc2_w 160, 6, 0, 0, 0, 0, 0, lN 2), (6, .invokestatic 123, 9, 124, 3, 0, 0, 0, 0), (9, .ifCond .eq 51, 12, 60, 0, 0, 0, 0, 0), (12, .iload_n 2, 13, 0, 0, 0, 0, 0, 0), (13, .i2l, 14, 0, 0, 0, 0, 0, 0), (14, .iload_n 1, 15, 0, 0, 0, 0, 0, 0), (15, .iconst 1, 16, 0, 0, 0, 0, nI 1, 0), (16, .if_icmp .ne 7, 19, 23, 0, 0, 0, 0, 0), (19, .lconst 1, 20, 0, 0, 0, 0, 0, lN 1), (20, .goto 4, 23, 24, 0, 0, 0, 0, 0), (23, .lconst 0, 24, 0, 0, 0, 0, 0, lN 0), (24, .iload_n 1, 25, 0, 0, 0, 0, 0, 0), (25, .ifCond .ne 15, 28, 40, 0, 0, 0, 0, 0), (28, .iconst 1, 29, 0, 0, 0, 0, nI 1, 0), (29, .aload_n 0, 30, 0, 0, 0, 0, 0, 0), (30, .getfield 107, 33, 10, 0, 0, 0, 0, 0), (33, .ishl, 34, 0, 0, 0, 0, 0, 0), (34, .iconst 1, 35, 0, 0, 0, 0, nI 1, 0), (35, .isub, 36, 0, 0, 0, 0, 0, 0), (36, .i2l, 37, 0, 0, 0, 0, 0, 0), (37, .goto 17, 40, 54, 0, 0, 0, 0, 0), (40, .iload_n 1, 41, 0, 0, 0, 0, 0, 0), (41, .iconst 1, 42, 0, 0, 0, 0, nI 1, 0), (42, .if_icmp .ne 9, 45, 51, 0, 0, 0, 0, 0), (45, .ldc2_w 160, 48, 0, 0, 0, 0, 0, lN 2), (48, .goto 6, 51, 54, 0, 0, 0, 0, 0), (51, .ldc2_w 162, 54, 0, 0, 0, 0, 0, lN 63), (54, .invokestatic 123, 57, 124, 3, 0, 0, 0, 0), (57, .ifCond .ne 6, 60, 63, 0, 0, 0, 0, 0), (60, .bipush (-2), 62, 0, 0, 0, 0, (-2), 0), (62, .ireturn, 63, 0, 0, 0, 0, 0, 0), (63, .iload_n 1, 64, 0, 0, 0, 0, 0, 0), (64, .ifCond .ne 10, 67, 74, 0, 0, 0, 0, 0), (67, .aload_n 0, 68, 0, 0, 0, 0, 0, 0), (68, .getfield 110, 71, 10, 4, 0, 0, 0, 0), (71, .goto 19, 74, 90, 0, 0, 0, 0, 0), (74, .iload_n 1, 75, 0, 0, 0, 0, 0, 0), (75, .iconst 1, 76, 0, 0, 0, 0, nI 1, 0), (76, .if_icmp .ne 10, 79, 86, 0, 0, 0, 0, 0), (79, .aload_n 0, 80, 0, 0, 0, 0, 0, 0), (80, .getfield 99, 83, 10, 5, 0, 0, 0, 0), (83, .goto 7, 86, 90, 0, 0, 0, 0, 0), (86, .aload_n 0, 87, 0, 0, 0, 0, 0, 0), (87, .getfield 154, 90, 10, 6, 0, 0, 0, 0), (90, .istore_n 3, 91, 0, 0, 0, 0, 0, 0), (91, .aload_n 0, 92, 0, 0, 0, 0, 0, 0), (92, .iload_n 1, 93, 0, 0, 0, 0, 0, 0), (93, .ifCond .ne 7, 96, 100, 0, 0, 0, 0, 0), (96, .iload_n 2, 97, 0, 0, 0, 0, 0, 0), (97, .goto 7, 100, 104, 0, 0, 0, 0, 0), (100, .aload_n 0, 101, 0, 0, 0, 0, 0, 0), (101, .getfield 110, 104, 10, 4, 0, 0, 0, 0), (104, .putfield 110, 107, 10, 4, 0, 0, 0, 0), (107, .aload_n 0, 108, 0, 0, 0, 0, 0, 0), (108, .iload_n 1, 109, 0, 0, 0, 0, 0, 0), (109, .iconst 1, 110, 0, 0, 0, 0, nI 1, 0), (110, .if_icmp .ne 7, 113, 117, 0, 0, 0, 0, 0), (113, .iload_n 2, 114, 0, 0, 0, 0, 0, 0), (114, .goto 7, 117, 121, 0, 0, 0, 0, 0), (117, .aload_n 0, 118, 0, 0, 0, 0, 0, 0), (118, .getfield 99, 121, 10, 5, 0, 0, 0, 0), (121, .putfield 99, 124, 10, 5, 0, 0, 0, 0), (124, .aload_n 0, 125, 0, 0, 0, 0, 0, 0), (125, .iload_n 1, 126, 0, 0, 0, 0, 0, 0), (126, .iconst 2, 127, 0, 0, 0, 0, nI 2, 0), (127, .if_icmp .ne 7, 130, 134, 0, 0, 0, 0, 0), (130, .iload_n 2, 131, 0, 0, 0, 0, 0, 0), (131, .goto 7, 134, 138, 0, 0, 0, 0, 0), (134, .aload_n 0, 135, 0, 0, 0, 0, 0, 0), (135, .getfield 154, 138, 10, 6, 0, 0, 0, 0), (138, .putfield 154, 141, 10, 6, 0, 0, 0, 0), (141, .iload_n 3, 142, 0, 0, 0, 0, 0, 0), (142, .ireturn, 143, 0, 0, 0, 0, 0, 0)]
def tx_Ref_set : List Nat := [0, 0, 0, 6, 184, 0, 0, 0, 0, 0, 0, 0, 0, 0, 0, 0, 0, 0, 122, 0, 0, 0, 0, 0, 0, 0, 0, 6, 0, 7, 184, 0, 0, 0, 0, 0, 0, 123, 0, 0, 0, 0, 0, 121, 0, 0, 127, 0, 0, 0, 0, 0, 0, 0, 123, 123, 0, 0, 0, 0, 0, 0, 0, 121, 121, 0, 0, 0, 0, 0, 0, 0, 127, 127, 0, 0]
def tb_Ref_music : Tab_ := [(0, .iload_n 1, 1, 0, 0, 0, 0, 0, 0), (1, .invokestatic 140, 4, 131, 1, 0, 0, 0, 0), (4, .ifCond .ne 5, 7, 9, 0, 0, 0, 0, 0), (7, .iconst (-1), 8, 0, 0, 0, 0, (-1), 0), (8, .ireturn, 9, 0, 0, 0, 0, 0, 0), (9, .iload_n 2, 10, 0, 0, 0, 0, 0, 0), (10, .i2l, 11, 0, 0, 0, 0, 0, 0), (11, .lconst 1, 12, 0, 0, 0, 0, 0, lN 1), (12, .ldc2_w 119, 15, 0, 0, 0, 0, 0, lN 3), (15, .invokestatic 123, 18, 124, 3, 0, 0, 0, 0), (18, .ifCond .ne 6, 21, 24, 0, 0, 0, 0, 0), (21, .bipush (-2), 23, 0, 0, 0, 0, (-2), 0), (23, .ireturn, 24, 0, 0, 0, 0, 0, 0), (24, .aload_n 0, 25, 0, 0, 0, 0, 0, 0), (25, .getfield 19, 28, 10, 7, 3, 0, 0, 0), (28, .iload_n 1, 29, 0, 0, 0, 0, 0, 0), (29, .iaload, 30, 0, 0, 0, 0, 0, 0), (30, .istore_n 3, 31, 0, 0, 0, 0, 0, 0), (31, .aload_n 0, 32, 0, 0, 0, 0, 0, 0), (32, .getfield 19, 35, 10, 7, 3, 0, 0, 0), (35, .iload_n 1, 36, 0, 0, 0, 0, 0, 0), (36, .iload_n 2, 37, 0, 0, 0, 0, 0, 0), (37, .iastore, 38, 0, 0, 0, 0, 0, 0), (38, .iload_n 3, 39, 0, 0, 0, 0, 0, 0), (39, .ireturn, 40, 0, 0, 0, 0, 0, 0)]
def tx_Ref_music : List Nat := [0, 188, 0, 0, 0, 0, 0, 0, 1, 184, 0, 0, 0, 0, 96, 0, 0, 0, 0, 96, 0, 0, 0, 0, 0]
def tb_Ref_judge : Tab_ := [(0, .aload_n 0, 1, 0, 0, 0, 0, 0, 0), (1, .invokevirtual 147, 4, 130, 0, 10, 0, 0, 0), (4, .ifCond .lt 8, 7, 12, 0, 0, 0, 0, 0), (7, .bipush (-5), 9, 0, 0, 0, 0, (-5), 0), (9, .goto 7, 12, 16, 0, 0, 0, 0, 0), (12, .aload_n 0, 13, 0, 0, 0, 0, 0, 0), (13, .invokevirtual 167, 16, 139, 0, 10, 0, 0, 0), (16, .ireturn, 17, 0, 0, 0, 0, 0, 0)]
def tx_Ref_judge : List Nat := [0, 186, 0, 0, 0, 0, 191, 0]
def tb_Ref_badFigure : Tab_ := [(0, .iconst 0, 1, 0, 0, 0, 0, nI 0, 0), (1, .istore_n 1, 2, 0, 0, 0, 0, 0, 0), (2, .iload_n 1, 3, 0, 0, 0, 0, 0, 0), (3, .aload_n 0, 4, 0, 0, 0, 0, 0, 0), (4, .getfield 133, 7, 10, 18, 0, 0, 0, 0), (7, .if_icmp .ge 27, 10, 34, 0, 0, 0, 0, 0), (10, .aload_n 0, 11, 0, 0, 0, 0, 0, 0), (11, .aload_n 0, 12, 0, 0, 0, 0, 0, 0), (12, .getfield 43, 15, 10, 17, 3, 0, 0, 0), (15, .iload_n 1, 16, 0, 0, 0, 0, 0, 0), (16, .iaload, 17, 0, 0, 0, 0, 0, 0), (17, .bipush 65, 19, 0, 0, 0, 0, nI 65, 0), (19, .isub, 20, 0, 0, 0, 0, 0, 0), (20, .invokevirtual 164, 23, 140, 1, 10, 0, 0, 0), (23, .ifCond .ne 5, 26, 28, 0, 0, 0, 0, 0), (26, .iload_n 1, 27, 0, 0, 0, 0, 0, 0), (27, .ireturn, 28, 0, 0, 0, 0, 0, 0), (28, .iinc 1 1, 31, 0, 0, 0, 0, nI 1, 0), (31, .goto (-29), 34, 2, 0, 0, 0, 0, 0), (34, .bipush (-6), 36, 0, 0, 0, 0, (-6), 0), (36, .ireturn, 37, 0, 0, 0, 0, 0, 0)]
def tx_Ref_badFigure : List Nat := [0, 0, 0, 0, 126, 0, 0, 0, 104, 0, 0, 0, 0, 192, 0, 0, 0, 0, 0, 0, 0]
def tb_Ref_may : Tab_ := [(0, .aload_n 0, 1, 0, 0, 0, 0, 0, 0), (1, .getfield 19, 4, 10, 7, 3, 0, 0, 0), (4, .iload_n 1, 5, 0, 0, 0, 0, 0, 0), (5, .iaload, 6, 0, 0, 0, 0, 0, 0), (6, .aload_n 0, 7, 0, 0, 0, 0, 0, 0), (7, .getfield 99, 10, 10, 5, 0, 0, 0, 0), (10, .iand, 11, 0, 0, 0, 0, 0, 0), (11, .ifCond .eq 18, 14, 29, 0, 0, 0, 0, 0), (14, .aload_n 0, 15, 0, 0, 0, 0, 0, 0), (15, .getfield 154, 18, 10, 6, 0, 0, 0, 0), (18, .iload_n 1, 19, 0, 0, 0, 0, 0, 0), (19, .ishr, 20, 0, 0, 0, 0, 0, 0), (20, .iconst 1, 21, 0, 0, 0, 0, nI 1, 0), (21, .iand, 22, 0, 0, 0, 0, 0, 0), (22, .ifCond .ne 7, 25, 29, 0, 0, 0, 0, 0), (25, .iconst 1, 26, 0, 0, 0, 0, nI 1, 0), (26, .goto 4, 29, 30, 0, 0, 0, 0, 0), (29, .iconst 0, 30, 0, 0, 0, 0, nI 0, 0), (30, .ireturn, 31, 1, 0, 0, 0, 0, 0)]
def tx_Ref_may : List Nat := [0, 96, 0, 0, 0, 121, 0, 0, 0, 127, 0, 0, 0, 0, 0, 0, 0, 0, 0]
def tb_Ref_dance : Tab_ := [(0, .aload_n 0, 1, 0, 0, 0, 0, 0, 0), (1, .invokevirtual 147, 4, 130, 0, 10, 0, 0, 0), (4, .ifCond .ge 10, 7, 14, 0, 0, 0, 0, 0), (7, .aload_n 0, 8, 0, 0, 0, 0, 0, 0), (8, .invokevirtual 167, 11, 139, 0, 10, 0, 0, 0), (11, .ifCond .lt 6, 14, 17, 0, 0, 0, 0, 0), (14, .bipush (-5), 16, 0, 0, 0, 0, (-5), 0), (16, .ireturn, 17, 0, 0, 0, 0, 0, 0), (17, .aload_n 0, 18, 0, 0, 0, 0, 0, 0), (18, .invokevirtual 157, 21, 134, 0, 10, 0, 0, 0), (21, .iconst 0, 22, 0, 0, 0, 0, nI 0, 0), (22, .istore_n 1, 23, 0, 0, 0, 0, 0, 0), (23, .iload_n 1, 24, 0, 0, 0, 0, 0, 0), (24, .aload_n 0, 25, 0, 0, 0, 0, 0, 0), (25, .getfield 133, 28, 10, 18, 0, 0, 0, 0), (28, .if_icmp .ge 85, 31, 113, 0, 0, 0, 0, 0), (31, .aload_n 0, 32, 0, 0, 0, 0, 0, 0), (32, .getfield 43, 35, 10, 17, 3, 0, 0, 0), (35, .iload_n 1, 36, 0, 0, 0, 0, 0, 0), (36, .iaload, 37, 0, 0, 0, 0, 0, 0), (37, .bipush 65, 39, 0, 0, 0, 0, nI 65, 0), (39, .isub, 40, 0, 0, 0, 0, 0, 0), (40, .istore_n 2, 41, 0, 0, 0, 0, 0, 0), (41, .iconst 0, 42, 0, 0, 0, 0, nI 0, 0), (42, .istore_n 3, 43, 0, 0, 0, 0, 0, 0), (43, .iload_n 3, 44, 0, 0, 0, 0, 0, 0), (44, .aload_n 0, 45, 0, 0, 0, 0, 0, 0), (45, .getfield 107, 48, 10, 0, 0, 0, 0, 0), (48, .if_icmp .ge 31, 51, 79, 0, 0, 0, 0, 0), (51, .aload_n 0, 52, 0, 0, 0, 0, 0, 0), (52, .getfield 49, 55, 10, 20, 3, 0, 0, 0), (55, .aload_n 0, 56, 0, 0, 0, 0, 0, 0), (56, .getfield 46, 59, 10, 19, 3, 0, 0, 0), (59, .bipush 8, 61, 0, 0, 0, 0, nI 8, 0), (61, .iload_n 2, 62, 0, 0, 0, 0, 0, 0), (62, .imul, 63, 0, 0, 0, 0, 0, 0), (63, .iload_n 3, 64, 0, 0, 0, 0, 0, 0), (64, .iadd, 65, 0, 0, 0, 0, 0, 0), (65, .iaload, 66, 0, 0, 0, 0, 0, 0), (66, .aload_n 0, 67, 0, 0, 0, 0, 0, 0), (67, .getfield 13, 70, 10, 2, 3, 0, 0, 0), (70, .iload_n 3, 71, 0, 0, 0, 0, 0, 0), (71, .iaload, 72, 0, 0, 0, 0, 0, 0), (72, .iastore, 73, 0, 0, 0, 0, 0, 0), (73, .iinc 3 1, 76, 0, 0, 0, 0, nI 1, 0), (76, .goto (-33), 79, 43, 0, 0, 0, 0, 0), (79, .iconst 0, 80, 0, 0, 0, 0, nI 0, 0), (80, .istore_n 3, 81, 0, 0, 0, 0, 0, 0), (81, .iload_n 3, 82, 0, 0, 0, 0, 0, 0), (82, .aload_n 0, 83, 0, 0, 0, 0, 0, 0), (83, .getfield 107, 86, 10, 0, 0, 0, 0, 0), (86, .if_icmp .ge 21, 89, 107, 0, 0, 0, 0, 0), (89, .aload_n 0, 90, 0, 0, 0, 0, 0, 0), (90, .getfield 13, 93, 10, 2, 3, 0, 0, 0), (93, .iload_n 3, 94, 0, 0, 0, 0, 0, 0), (94, .aload_n 0, 95, 0, 0, 0, 0, 0, 0), (95, .getfield 49, 98, 10, 20, 3, 0, 0, 0), (98, .iload_n 3, 99, 0, 0, 0, 0, 0, 0), (99, .iaload, 100, 0, 0, 0, 0, 0, 0), (100, .iastore, 101, 0, 0, 0, 0, 0, 0), (101, .iinc 3 1, 104, 0, 0, 0, 0, nI 1, 0), (104, .goto (-23), 107, 81, 0, 0, 0, 0, 0), (107, .iinc 1 1, 110, 0, 0, 0, 0, nI 1, 0), (110, .goto (-87), 113, 23, 0, 0, 0, 0, 0), (113, .aload_n 0, 114, 0, 0, 0, 0, 0, 0), (114, .getfield 133, 117, 10, 18, 0, 0, 0, 0), (117, .istore_n 1, 118, 0, 0, 0, 0, 0, 0), (118, .aload_n 0, 119, 0, 0, 0, 0, 0, 0), (119, .iconst 0, 120, 0, 0, 0, 0, nI 0, 0), (120, .putfield 133, 123, 10, 18, 0, 0, 0, 0), (123, .iload_n 1, 124, 0, 0, 0, 0, 0, 0), (124, .ireturn, 125, 0, 0, 0, 0, 0, 0)]
def tx_Ref_dance : List Nat := [0, 186, 0, 0, 191, 0, 0, 0, 0, 189, 0, 0, 0, 0, 126, 0, 0, 104, 0, 0, 0, 0, 0, 0, 0, 0, 0, 122, 0, 0, 106, 0, 105, 0, 0, 0, 0, 0, 0, 0, 94, 0, 0, 0, 0, 0, 0, 0, 0, 0, 122, 0, 0, 94, 0, 0, 106, 0, 0, 0, 0, 0, 0, 0, 0, 126, 0, 0, 0, 126, 0, 0]
def tb_Ref_home : Tab_ := [(0, .iconst 0, 1, 0, 0, 0, 0, nI 0, 0), (1, .istore_n 1, 2, 0, 0, 0, 0, 0, 0), (2, .iconst 0, 3, 0, 0, 0, 0, nI 0, 0), (3, .istore_n 2, 4, 0, 0, 0, 0, 0, 0), (4, .iload_n 2, 5, 0, 0, 0, 0, 0, 0), (5, .aload_n 0, 6, 0, 0, 0, 0, 0, 0), (6, .getfield 107, 9, 10, 0, 0, 0, 0, 0), (9, .if_icmp .ge 34, 12, 43, 0, 0, 0, 0, 0), (12, .iload_n 1, 13, 0, 0, 0, 0, 0, 0), (13, .aload_n 0, 14, 0, 0, 0, 0, 0, 0), (14, .getfield 13, 17, 10, 2, 3, 0, 0, 0), (17, .iload_n 2, 18, 0, 0, 0, 0, 0, 0), (18, .iaload, 19, 0, 0, 0, 0, 0, 0), (19, .iload_n 2, 20, 0, 0, 0, 0, 0, 0), (20, .if_icmp .ne 7, 23, 27, 0, 0, 0, 0, 0), (23, .iconst 0, 24, 0, 0, 0, 0, nI 0, 0), (24, .goto 4, 27, 28, 0, 0, 0, 0, 0), (27, .iconst 1, 28, 0, 0, 0, 0, nI 1, 0), (28, .iadd, 29, 0, 0, 0, 0, 0, 0), (29, .istore_n 1, 30, 0, 0, 0, 0, 0, 0), (30, .aload_n 0, 31, 0, 0, 0, 0, 0, 0), (31, .getfield 13, 34, 10, 2, 3, 0, 0, 0), (34, .iload_n 2, 35, 0, 0, 0, 0, 0, 0), (35, .iload_n 2, 36, 0, 0, 0, 0, 0, 0), (36, .iastore, 37, 0, 0, 0, 0, 0, 0), (37, .iinc 2 1, 40, 0, 0, 0, 0, nI 1, 0), (40, .goto (-36), 43, 4, 0, 0, 0, 0, 0), (43, .iload_n 1, 44, 0, 0, 0, 0, 0, 0), (44, .ireturn, 45, 0, 0, 0, 0, 0, 0)]
def tx_Ref_home : List Nat := [0, 0, 0, 0, 0, 0, 122, 0, 0, 0, 94, 0, 0, 0, 0, 0, 0, 0, 0, 0, 0, 94, 0, 0, 0, 0, 0, 0, 0]
def tb_Ref_where : Tab_ := [(0, .aload_n 0, 1, 0, 0, 0, 0, 0, 0), (1, .iload_n 1, 2, 0, 0, 0, 0, 0, 0), (2, .invokevirtual 136, 5, 129, 1, 10, 0, 0, 0), (5, .ifCond .ne 5, 8, 10, 0, 0, 0, 0, 0), (8, .iconst (-1), 9, 0, 0, 0, 0, (-1), 0), (9, .ireturn, 10, 0, 0, 0, 0, 0, 0), (10, .iload_n 2, 11, 0, 0, 0, 0, 0, 0), (11, .ifCond .ne 11, 14, 22, 0, 0, 0, 0, 0), (14, .aload_n 0, 15, 0, 0, 0, 0, 0, 0), (15, .iload_n 1, 16, 0, 0, 0, 0, 0, 0), (16, .invokevirtual 170, 19, 144, 1, 10, 0, 0, 0), (19, .goto 19, 22, 38, 0, 0, 0, 0, 0), (22, .iload_n 2, 23, 0, 0, 0, 0, 0, 0), (23, .iconst 1, 24, 0, 0, 0, 0, nI 1, 0), (24, .if_icmp .ne 12, 27, 36, 0, 0, 0, 0, 0), (27, .aload_n 0, 28, 0, 0, 0, 0, 0, 0), (28, .getfield 13, 31, 10, 2, 3, 0, 0, 0), (31, .iload_n 1, 32, 0, 0, 0, 0, 0, 0), (32, .iaload, 33, 0, 0, 0, 0, 0, 0), (33, .goto 5, 36, 38, 0, 0, 0, 0, 0), (36, .bipush (-2), 38, 0, 0, 0, 0, (-2), 0), (38, .ireturn, 39, 0, 0, 0, 0, 0, 0)]
def tx_Ref_where : List Nat := [0, 0, 187, 0, 0, 0, 0, 0, 0, 0, 193, 0, 0, 0, 0, 0, 94, 0, 0, 0, 0, 0]
def tb_Ref_placeOf : Tab_ := [(0, .iconst 0, 1, 0, 0, 0, 0, nI 0, 0), (1, .istore_n 2, 2, 0, 0, 0, 0, 0, 0), (2, .aload_n 0, 3, 0, 0, 0, 0, 0, 0), (3, .getfield 13, 6, 10, 2, 3, 0, 0, 0), (6, .iload_n 2, 7, 0, 0, 0, 0, 0, 0), (7, .iaload, 8, 0, 0, 0, 0, 0, 0), (8, .iload_n 1, 9, 0, 0, 0, 0, 0, 0), (9, .if_icmp .eq 9, 12, 18, 0, 0, 0, 0, 0), (12, .iinc 2 1, 15, 0, 0, 0, 0, nI 1, 0), (15, .goto (-13), 18, 2, 0, 0, 0, 0, 0), (18, .iload_n 2, 19, 0, 0, 0, 0, 0, 0), (19, .ireturn, 20, 0, 0, 0, 0, 0, 0)]
def tx_Ref_placeOf : List Nat := [0, 0, 0, 94, 0, 0, 0, 0, 0, 0, 0, 0]
def tb_Ref_length : Tab_ := [(0, .aload_n 0, 1, 0, 0, 0, 0, 0, 0), (1, .invokevirtual 147, 4, 130, 0, 10, 0, 0, 0), (4, .ifCond .lt 6, 7, 10, 0, 0, 0, 0, 0), (7, .bipush (-5), 9, 0, 0, 0, 0, (-5), 0), (9, .ireturn, 10, 0, 0, 0, 0, 0, 0), (10, .aload_n 0, 11, 0, 0, 0, 0, 0, 0), (11, .invokevirtual 157, 14, 134, 0, 10, 0, 0, 0), (14, .iconst 0, 15, 0, 0, 0, 0, nI 0, 0), (15, .istore_n 1, 16, 0, 0, 0, 0, 0, 0), (16, .iload_n 1, 17, 0, 0, 0, 0, 0, 0), (17, .aload_n 0, 18, 0, 0, 0, 0, 0, 0), (18, .getfield 107, 21, 10, 0, 0, 0, 0, 0), (21, .if_icmp .ge 54, 24, 75, 0, 0, 0, 0, 0), (24, .iload_n 1, 25, 0, 0, 0, 0, 0, 0), (25, .istore_n 2, 26, 0, 0, 0, 0, 0, 0), (26, .iconst 0, 27, 0, 0, 0, 0, nI 0, 0), (27, .istore_n 3, 28, 0, 0, 0, 0, 0, 0), (28, .iload_n 3, 29, 0, 0, 0, 0, 0, 0), (29, .aload_n 0, 30, 0, 0, 0, 0, 0, 0), (30, .getfield 133, 33, 10, 18, 0, 0, 0, 0), (33, .if_icmp .ge 29, 36, 62, 0, 0, 0, 0, 0), (36, .aload_n 0, 37, 0, 0, 0, 0, 0, 0), (37, .getfield 46, 40, 10, 19, 3, 0, 0, 0), (40, .bipush 8, 42, 0, 0, 0, 0, nI 8, 0), (42, .aload_n 0, 43, 0, 0, 0, 0, 0, 0), (43, .getfield 43, 46, 10, 17, 3, 0, 0, 0), (46, .iload_n 3, 47, 0, 0, 0, 0, 0, 0), (47, .iaload, 48, 0, 0, 0, 0, 0, 0), (48, .bipush 65, 50, 0, 0, 0, 0, nI 65, 0), (50, .isub, 51, 0, 0, 0, 0, 0, 0), (51, .imul, 52, 0, 0, 0, 0, 0, 0), (52, .iload_n 2, 53, 0, 0, 0, 0, 0, 0), (53, .iadd, 54, 0, 0, 0, 0, 0, 0), (54, .iaload, 55, 0, 0, 0, 0, 0, 0), (55, .istore_n 2, 56, 0, 0, 0, 0, 0, 0), (56, .iinc 3 1, 59, 0, 0, 0, 0, nI 1, 0), (59, .goto (-31), 62, 28, 0, 0, 0, 0, 0), (62, .aload_n 0, 63, 0, 0, 0, 0, 0, 0), (63, .getfield 49, 66, 10, 20, 3, 0, 0, 0), (66, .iload_n 1, 67, 0, 0, 0, 0, 0, 0), (67, .iload_n 2, 68, 0, 0, 0, 0, 0, 0), (68, .iastore, 69, 0, 0, 0, 0, 0, 0), (69, .iinc 1 1, 72, 0, 0, 0, 0, nI 1, 0), (72, .goto (-56), 75, 16, 0, 0, 0, 0, 0), (75, .aload_n 0, 76, 0, 0, 0, 0, 0, 0), (76, .invokevirtual 180, 79, 146, 0, 10, 0, 0, 0), (79, .ireturn, 80, 0, 0, 0, 0, 0, 0)]
def tx_Ref_length : List Nat := [0, 186, 0, 0, 0, 0, 189, 0, 0, 0, 0, 122, 0, 0, 0, 0, 0, 0, 0, 126, 0, 0, 105, 0, 0, 104, 0, 0, 0, 0, 0, 0, 0, 0, 0, 0, 0, 0, 106, 0, 0, 0, 0, 0, 0, 194, 0]
def tb_Ref_lengthOfMoved : Tab_ := [(0, .iconst 1, 1, 0, 0, 0, 0, nI 1, 0), (1, .istore_n 1, 2, 0, 0, 0, 0, 0, 0), (2, .iconst 0, 3, 0, 0, 0, 0, nI 0, 0), (3, .istore_n 2, 4, 0, 0, 0, 0, 0, 0), (4, .aload_n 0, 5, 0, 0, 0, 0, 0, 0), (5, .iconst 0, 6, 0, 0, 0, 0, nI 0, 0), (6, .putfield 173, 9, 10, 21, 0, 0, 0, 0), (9, .iconst 0, 10, 0, 0, 0, 0, nI 0, 0), (10, .istore_n 3, 11, 0, 0, 0, 0, 0, 0), (11, .iload_n 3, 12, 0, 0, 0, 0, 0, 0), (12, .aload_n 0, 13, 0, 0, 0, 0, 0, 0), (13, .getfield 107, 16, 10, 0, 0, 0, 0, 0), (16, .if_icmp .ge 76, 19, 92, 0, 0, 0, 0, 0), (19, .iload_n 2, 20, 0, 0, 0, 0, 0, 0), (20, .iload_n 3, 21, 0, 0, 0, 0, 0, 0), (21, .ishr, 22, 0, 0, 0, 0, 0, 0), (22, .iconst 1, 23, 0, 0, 0, 0, nI 1, 0), (23, .iand, 24, 0, 0, 0, 0, 0, 0), (24, .ifCond .ne 62, 27, 86, 0, 0, 0, 0, 0), (27, .iconst 0, 28, 0, 0, 0, 0, nI 0, 0), (28, .istore 4, 30, 0, 0, 0, 0, 0, 0), (30, .iload_n 3, 31, 0, 0, 0, 0, 0, 0), (31, .istore 5, 33, 0, 0, 0, 0, 0, 0), (33, .iload_n 2, 34, 0, 0, 0, 0, 0, 0), (34, .iload 5, 36, 0, 0, 0, 0, 0, 0), (36, .ishr, 37, 0, 0, 0, 0, 0, 0), (37, .iconst 1, 38, 0, 0, 0, 0, nI 1, 0), (38, .iand, 39, 0, 0, 0, 0, 0, 0), (39, .ifCond .ne 25, 42, 64, 0, 0, 0, 0, 0), (42, .iload_n 2, 43, 0, 0, 0, 0, 0, 0), (43, .iconst 1, 44, 0, 0, 0, 0, nI 1, 0), (44, .iload 5, 46, 0, 0, 0, 0, 0, 0), (46, .ishl, 47, 0, 0, 0, 0, 0, 0), (47, .ior, 48, 0, 0, 0, 0, 0, 0), (48, .istore_n 2, 49, 0, 0, 0, 0, 0, 0), (49, .aload_n 0, 50, 0, 0, 0, 0, 0, 0), (50, .getfield 49, 53, 10, 20, 3, 0, 0, 0), (53, .iload 5, 55, 0, 0, 0, 0, 0, 0), (55, .iaload, 56, 0, 0, 0, 0, 0, 0), (56, .istore 5, 58, 0, 0, 0, 0, 0, 0), (58, .iinc 4 1, 61, 0, 0, 0, 0, nI 1, 0), (61, .goto (-28), 64, 33, 0, 0, 0, 0, 0), (64, .aload_n 0, 65, 0, 0, 0, 0, 0, 0), (65, .dup, 66, 0, 0, 0, 0, 0, 0), (66, .getfield 173, 69, 10, 21, 0, 0, 0, 0), (69, .iconst 1, 70, 0, 0, 0, 0, nI 1, 0), (70, .iadd, 71, 0, 0, 0, 0, 0, 0), (71, .putfield 173, 74, 10, 21, 0, 0, 0, 0), (74, .iload_n 1, 75, 0, 0, 0, 0, 0, 0), (75, .iload_n 1, 76, 0, 0, 0, 0, 0, 0), (76, .iload 4, 78, 0, 0, 0, 0, 0, 0), (78, .invokestatic 176, 81, 147, 2, 0, 0, 0, 0), (81, .idiv, 82, 0, 0, 0, 0, 0, 0), (82, .iload 4, 84, 0, 0, 0, 0, 0, 0), (84, .imul, 85, 0, 0, 0, 0, 0, 0), (85, .istore_n 1, 86, 0, 0, 0, 0, 0, 0), (86, .iinc 3 1, 89, 0, 0, 0, 0, nI 1, 0), (89, .goto (-78), 92, 11, 0, 0, 0, 0, 0), (92, .iload_n 1, 93, 0, 0, 0, 0, 0, 0), (93, .ireturn, 94, 0, 0, 0, 0, 0, 0)]
def tx_Ref_lengthOfMoved : List Nat := [0, 0, 0, 0, 0, 0, 128, 0, 0, 0, 0, 122, 0, 0, 0, 0, 0, 0, 0, 0, 0, 0, 0, 0, 0, 0, 0, 0, 0, 0, 0, 0, 0, 0, 0, 0, 106, 0, 0, 0, 0, 0, 0, 0, 128, 0, 0, 128, 0, 0, 0, 195, 0, 0, 0, 0, 0, 0, 0, 0]
def tb_Ref_common : Tab_ := [(0, .iload_n 0, 1, 0, 0, 0, 0, 0, 0), (1, .istore_n 2, 2, 0, 0, 0, 0, 0, 0), (2, .iload_n 1, 3, 0, 0, 0, 0, 0, 0), (3, .istore_n 3, 4, 0, 0, 0, 0, 0, 0), (4, .iload_n 3, 5, 0, 0, 0, 0, 0, 0), (5, .ifCond .eq 16, 8, 21, 0, 0, 0, 0, 0), (8, .iload_n 2, 9, 0, 0, 0, 0, 0, 0), (9, .iload_n 3, 10, 0, 0, 0, 0, 0, 0), (10, .irem, 11, 0, 0, 0, 0, 0, 0), (11, .istore 4, 13, 0, 0, 0, 0, 0, 0), (13, .iload_n 3, 14, 0, 0, 0, 0, 0, 0), (14, .istore_n 2, 15, 0, 0, 0, 0, 0, 0), (15, .iload 4, 17, 0, 0, 0, 0, 0, 0), (17, .istore_n 3, 18, 0, 0, 0, 0, 0, 0), (18, .goto (-14), 21, 4, 0, 0, 0, 0, 0), (21, .iload_n 2, 22, 0, 0, 0, 0, 0, 0), (22, .ireturn, 23, 0, 0, 0, 0, 0, 0)]
def tx_Ref_common : List Nat := [0, 0, 0, 0, 0, 0, 0, 0, 0, 0, 0, 0, 0, 0, 0, 0, 0]
def tb_Ref_sign : Tab_ := [(0, .iload_n 1, 1, 0, 0, 0, 0, 0, 0), (1, .invokestatic 140, 4, 131, 1, 0, 0, 0, 0), (4, .ifCond .ne 5, 7, 9, 0, 0, 0, 0, 0), (7, .iconst (-1), 8, 0, 0, 0, 0, (-1), 0), (8, .ireturn, 9, 0, 0, 0, 0, 0, 0), (9, .aload_n 0, 10, 0, 0, 0, 0, 0, 0), (10, .invokevirtual 157, 13, 134, 0, 10, 0, 0, 0), (13, .iconst 0, 14, 0, 0, 0, 0, nI 0, 0), (14, .istore_n 2, 15, 0, 0, 0, 0, 0, 0), (15, .iload_n 2, 16, 0, 0, 0, 0, 0, 0), (16, .aload_n 0, 17, 0, 0, 0, 0, 0, 0), (17, .getfield 107, 20, 10, 0, 0, 0, 0, 0), (20, .if_icmp .ge 26, 23, 46, 0, 0, 0, 0, 0), (23, .aload_n 0, 24, 0, 0, 0, 0, 0, 0), (24, .getfield 49, 27, 10, 20, 3, 0, 0, 0), (27, .iload_n 2, 28, 0, 0, 0, 0, 0, 0), (28, .aload_n 0, 29, 0, 0, 0, 0, 0, 0), (29, .getfield 46, 32, 10, 19, 3, 0, 0, 0), (32, .bipush 8, 34, 0, 0, 0, 0, nI 8, 0), (34, .iload_n 1, 35, 0, 0, 0, 0, 0, 0), (35, .imul, 36, 0, 0, 0, 0, 0, 0), (36, .iload_n 2, 37, 0, 0, 0, 0, 0, 0), (37, .iadd, 38, 0, 0, 0, 0, 0, 0), (38, .iaload, 39, 0, 0, 0, 0, 0, 0), (39, .iastore, 40, 0, 0, 0, 0, 0, 0), (40, .iinc 2 1, 43, 0, 0, 0, 0, nI 1, 0), (43, .goto (-28), 46, 15, 0, 0, 0, 0, 0), (46, .aload_n 0, 47, 0, 0, 0, 0, 0, 0), (47, .invokevirtual 180, 50, 146, 0, 10, 0, 0, 0), (50, .pop, 51, 0, 0, 0, 0, 0, 0), (51, .aload_n 0, 52, 0, 0, 0, 0, 0, 0), (52, .getfield 107, 55, 10, 0, 0, 0, 0, 0), (55, .aload_n 0, 56, 0, 0, 0, 0, 0, 0), (56, .getfield 173, 59, 10, 21, 0, 0, 0, 0), (59, .isub, 60, 0, 0, 0, 0, 0, 0), (60, .iconst 2, 61, 0, 0, 0, 0, nI 2, 0), (61, .irem, 62, 0, 0, 0, 0, 0, 0), (62, .ifCond .ne 7, 65, 69, 0, 0, 0, 0, 0), (65, .iconst 1, 66, 0, 0, 0, 0, nI 1, 0), (66, .goto 4, 69, 70, 0, 0, 0, 0, 0), (69, .iconst 0, 70, 0, 0, 0, 0, nI 0, 0), (70, .ireturn, 71, 0, 0, 0, 0, 0, 0)]
def tx_Ref_sign : List Nat := [0, 188, 0, 0, 0, 0, 189, 0, 0, 0, 0, 122, 0, 0, 106, 0, 0, 105, 0, 0, 0, 0, 0, 0, 0, 0, 0, 0, 194, 0, 0, 122, 0, 128, 0, 0, 0, 0, 0, 0, 0, 0]
def tb_Ref_want : Tab_ := [(0, .aload_n 0, 1, 0, 0, 0, 0, 0, 0), (1, .iload_n 1, 2, 0, 0, 0, 0, 0, 0), (2, .invokevirtual 136, 5, 129, 1, 10, 0, 0, 0), (5, .ifCond .eq 16, 8, 21, 0, 0, 0, 0, 0), (8, .iload_n 2, 9, 0, 0, 0, 0, 0, 0), (9, .iconst (-1), 10, 0, 0, 0, 0, (-1), 0), (10, .if_icmp .eq 13, 13, 23, 0, 0, 0, 0, 0), (13, .aload_n 0, 14, 0, 0, 0, 0, 0, 0), (14, .iload_n 2, 15, 0, 0, 0, 0, 0, 0), (15, .invokevirtual 136, 18, 129, 1, 10, 0, 0, 0), (18, .ifCond .ne 5, 21, 23, 0, 0, 0, 0, 0), (21, .iconst (-1), 22, 0, 0, 0, 0, (-1), 0), (22, .ireturn, 23, 0, 0, 0, 0, 0, 0), (23, .iconst 0, 24, 0, 0, 0, 0, nI 0, 0), (24, .istore_n 3, 25, 0, 0, 0, 0, 0, 0), (25, .iload_n 3, 26, 0, 0, 0, 0, 0, 0), (26, .aload_n 0, 27, 0, 0, 0, 0, 0, 0), (27, .getfield 107, 30, 10, 0, 0, 0, 0, 0), (30, .if_icmp .ge 31, 33, 61, 0, 0, 0, 0, 0), (33, .iload_n 3, 34, 0, 0, 0, 0, 0, 0), (34, .iload_n 1, 35, 0, 0, 0, 0, 0, 0), (35, .if_icmp .eq 20, 38, 55, 0, 0, 0, 0, 0), (38, .iload_n 2, 39, 0, 0, 0, 0, 0, 0), (39, .ifCond .lt 16, 42, 55, 0, 0, 0, 0, 0), (42, .aload_n 0, 43, 0, 0, 0, 0, 0, 0), (43, .getfield 16, 46, 10, 3, 3, 0, 0, 0), (46, .iload_n 3, 47, 0, 0, 0, 0, 0, 0), (47, .iaload, 48, 0, 0, 0, 0, 0, 0), (48, .iload_n 2, 49, 0, 0, 0, 0, 0, 0), (49, .if_icmp .ne 6, 52, 55, 0, 0, 0, 0, 0), (52, .bipush (-3), 54, 0, 0, 0, 0, (-3), 0), (54, .ireturn, 55, 0, 0, 0, 0, 0, 0), (55, .iinc 3 1, 58, 0, 0, 0, 0, nI 1, 0), (58, .goto (-33), 61, 25, 0, 0, 0, 0, 0), (61, .aload_n 0, 62, 0, 0, 0, 0, 0, 0), (62, .getfield 16, 65, 10, 3, 3, 0, 0, 0), (65, .iload_n 1, 66, 0, 0, 0, 0, 0, 0), (66, .iaload, 67, 0, 0, 0, 0, 0, 0), (67, .istore_n 3, 68, 0, 0, 0, 0, 0, 0), (68, .aload_n 0, 69, 0, 0, 0, 0, 0, 0), (69, .getfield 16, 72, 10, 3, 3, 0, 0, 0), (72, .iload_n 1, 73, 0, 0, 0, 0, 0, 0), (73, .iload_n 2, 74, 0, 0, 0, 0, 0, 0), (74, .iconst (-1), 75, 0, 0, 0, 0, (-1), 0), (75, .if_icmp .ne 8, 78, 83, 0, 0, 0, 0, 0), (78, .bipush (-6), 80, 0, 0, 0, 0, (-6), 0), (80, .goto 4, 83, 84, 0, 0, 0, 0, 0), (83, .iload_n 2, 84, 0, 0, 0, 0, 0, 0), (84, .iastore, 85, 0, 0, 0, 0, 0, 0), (85, .iload_n 3, 86, 0, 0, 0, 0, 0, 0), (86, .ireturn, 87, 0, 0, 0, 0, 0, 0)]
def tx_Ref_want : List Nat := [0, 0, 187, 0, 0, 0, 0, 0, 0, 187, 0, 0, 0, 0, 0, 0, 0, 122, 0, 0, 0, 0, 0, 0, 0, 95, 0, 0, 0, 0, 0, 0, 0, 0, 0, 95, 0, 0, 0, 0, 95, 0, 0, 0, 0, 0, 0, 0, 0, 0, 0]
def tb_Ref_fewest : Tab_ := [(0, .aload_n 0, 1, 0, 0, 0, 0, 0, 0), (1, .invokevirtual 207, 4, 151, 0, 10, 0, 0, 0), (4, .bipush (-6), 6, 0, 0, 0, 0, (-6), 0), (6, .istore_n 2, 7, 0, 0, 0, 0, 0, 0), (7, .iconst 0, 8, 0, 0, 0, 0, nI 0, 0), (8, .istore_n 3, 9, 0, 0, 0, 0, 0, 0), (9, .iload_n 3, 10, 0, 0, 0, 0, 0, 0), (10, .aload_n 0, 11, 0, 0, 0, 0, 0, 0), (11, .getfield 204, 14, 10, 30, 0, 0, 0, 0), (14, .if_icmp .ge 42, 17, 56, 0, 0, 0, 0, 0), (17, .iload_n 2, 18, 0, 0, 0, 0, 0, 0), (18, .ifCond .ge 38, 21, 56, 0, 0, 0, 0, 0), (21, .aload_n 0, 22, 0, 0, 0, 0, 0, 0), (22, .aload_n 0, 23, 0, 0, 0, 0, 0, 0), (23, .getfield 53, 26, 10, 22, 3, 0, 0, 0), (26, .aload_n 0, 27, 0, 0, 0, 0, 0, 0), (27, .getfield 63, 30, 10, 26, 3, 0, 0, 0), (30, .iload_n 3, 31, 0, 0, 0, 0, 0, 0), (31, .iaload, 32, 0, 0, 0, 0, 0, 0), (32, .iaload, 33, 0, 0, 0, 0, 0, 0), (33, .invokevirtual 210, 36, 158, 1, 10, 0, 0, 0), (36, .ifCond .eq 12, 39, 48, 0, 0, 0, 0, 0), (39, .aload_n 0, 40, 0, 0, 0, 0, 0, 0), (40, .getfield 63, 43, 10, 26, 3, 0, 0, 0), (43, .iload_n 3, 44, 0, 0, 0, 0, 0, 0), (44, .iaload, 45, 0, 0, 0, 0, 0, 0), (45, .goto 4, 48, 49, 0, 0, 0, 0, 0), (48, .iload_n 2, 49, 0, 0, 0, 0, 0, 0), (49, .istore_n 2, 50, 0, 0, 0, 0, 0, 0), (50, .iinc 3 1, 53, 0, 0, 0, 0, nI 1, 0), (53, .goto (-44), 56, 9, 0, 0, 0, 0, 0), (56, .iload_n 2, 57, 0, 0, 0, 0, 0, 0), (57, .ifCond .ge 6, 60, 63, 0, 0, 0, 0, 0), (60, .bipush (-6), 62, 0, 0, 0, 0, (-6), 0), (62, .ireturn, 63, 0, 0, 0, 0, 0, 0), (63, .iload_n 1, 64, 0, 0, 0, 0, 0, 0), (64, .iconst (-1), 65, 0, 0, 0, 0, (-1), 0), (65, .if_icmp .ne 10, 68, 75, 0, 0, 0, 0, 0), (68, .aload_n 0, 69, 0, 0, 0, 0, 0, 0), (69, .getfield 72, 72, 10, 29, 3, 0, 0, 0), (72, .iload_n 2, 73, 0, 0, 0, 0, 0, 0), (73, .iaload, 74, 0, 0, 0, 0, 0, 0), (74, .ireturn, 75, 0, 0, 0, 0, 0, 0), (75, .iload_n 1, 76, 0, 0, 0, 0, 0, 0), (76, .i2l, 77, 0, 0, 0, 0, 0, 0), (77, .lconst 0, 78, 0, 0, 0, 0, 0, lN 0), (78, .aload_n 0, 79, 0, 0, 0, 0, 0, 0), (79, .getfield 72, 82, 10, 29, 3, 0, 0, 0), (82, .iload_n 2, 83, 0, 0, 0, 0, 0, 0), (83, .iaload, 84, 0, 0, 0, 0, 0, 0), (84, .iconst 1, 85, 0, 0, 0, 0, nI 1, 0), (85, .isub, 86, 0, 0, 0, 0, 0, 0), (86, .i2l, 87, 0, 0, 0, 0, 0, 0), (87, .invokestatic 123, 90, 124, 3, 0, 0, 0, 0), (90, .ifCond .ne 6, 93, 96, 0, 0, 0, 0, 0), (93, .bipush (-6), 95, 0, 0, 0, 0, (-6), 0), (95, .ireturn, 96, 0, 0, 0, 0, 0, 0), (96, .iload_n 2, 97, 0, 0, 0, 0, 0, 0), (97, .istore_n 3, 98, 0, 0, 0, 0, 0, 0), (98, .aload_n 0, 99, 0, 0, 0, 0, 0, 0), (99, .getfield 72, 102, 10, 29, 3, 0, 0, 0), (102, .iload_n 3, 103, 0, 0, 0, 0, 0, 0), (103, .iaload, 104, 0, 0, 0, 0, 0, 0), (104, .iload_n 1, 105, 0, 0, 0, 0, 0, 0), (105, .iconst 1, 106, 0, 0, 0, 0, nI 1, 0), (106, .iadd, 107, 0, 0, 0, 0, 0, 0), (107, .if_icmp .le 13, 110, 120, 0, 0, 0, 0, 0), (110, .aload_n 0, 111, 0, 0, 0, 0, 0, 0), (111, .getfield 69, 114, 10, 28, 3, 0, 0, 0), (114, .iload_n 3, 115, 0, 0, 0, 0, 0, 0), (115, .iaload, 116, 0, 0, 0, 0, 0, 0), (116, .istore_n 3, 117, 0, 0, 0, 0, 0, 0), (117, .goto (-19), 120, 98, 0, 0, 0, 0, 0), (120, .bipush 65, 122, 0, 0, 0, 0, nI 65, 0), (122, .aload_n 0, 123, 0, 0, 0, 0, 0, 0), (123, .getfield 66, 126, 10, 27, 3, 0, 0, 0), (126, .iload_n 3, 127, 0, 0, 0, 0, 0, 0), (127, .iaload, 128, 0, 0, 0, 0, 0, 0), (128, .iadd, 129, 0, 0, 0, 0, 0, 0), (129, .ireturn, 130, 0, 0, 0, 0, 0, 0)]
def tx_Ref_fewest : List Nat := [0, 196, 0, 0, 0, 0, 0, 0, 129, 0, 0, 0, 0, 0, 107, 0, 110, 0, 0, 0, 197, 0, 0, 110, 0, 0, 0, 0, 0, 0, 0, 0, 0, 0, 0, 0, 0, 0, 0, 113, 0, 0, 0, 0, 0, 0, 0, 113, 0, 0, 0, 0, 0, 184, 0, 0, 0, 0, 0, 0, 113, 0, 0, 0, 0, 0, 0, 0, 112, 0, 0, 0, 0, 0, 0, 111, 0, 0, 0, 0]
def tb_Ref_goAll : Tab_ := [(0, .aload_n 0, 1, 0, 0, 0, 0, 0, 0), (1, .invokevirtual 198, 4, 152, 0, 10, 0, 0, 0), (4, .iconst 0, 5, 0, 0, 0, 0, nI 0, 0), (5, .istore_n 1, 6, 0, 0, 0, 0, 0, 0), (6, .iload_n 1, 7, 0, 0, 0, 0, 0, 0), (7, .aload_n 0, 8, 0, 0, 0, 0, 0, 0), (8, .getfield 186, 11, 10, 25, 0, 0, 0, 0), (11, .if_icmp .ge 17, 14, 28, 0, 0, 0, 0, 0), (14, .aload_n 0, 15, 0, 0, 0, 0, 0, 0), (15, .getfield 72, 18, 10, 29, 3, 0, 0, 0), (18, .iload_n 1, 19, 0, 0, 0, 0, 0, 0), (19, .bipush (-6), 21, 0, 0, 0, 0, (-6), 0), (21, .iastore, 22, 0, 0, 0, 0, 0, 0), (22, .iinc 1 1, 25, 0, 0, 0, 0, nI 1, 0), (25, .goto (-19), 28, 6, 0, 0, 0, 0, 0), (28, .aload_n 0, 29, 0, 0, 0, 0, 0, 0), (29, .aload_n 0, 30, 0, 0, 0, 0, 0, 0), (30, .invokevirtual 201, 33, 157, 0, 10, 0, 0, 0), (33, .invokevirtual 195, 36, 155, 1, 10, 0, 0, 0), (36, .istore_n 1, 37, 0, 0, 0, 0, 0, 0), (37, .aload_n 0, 38, 0, 0, 0, 0, 0, 0), (38, .getfield 72, 41, 10, 29, 3, 0, 0, 0), (41, .iload_n 1, 42, 0, 0, 0, 0, 0, 0), (42, .iconst 0, 43, 0, 0, 0, 0, nI 0, 0), (43, .iastore, 44, 0, 0, 0, 0, 0, 0), (44, .aload_n 0, 45, 0, 0, 0, 0, 0, 0), (45, .getfield 63, 48, 10, 26, 3, 0, 0, 0), (48, .iconst 0, 49, 0, 0, 0, 0, nI 0, 0), (49, .iload_n 1, 50, 0, 0, 0, 0, 0, 0), (50, .iastore, 51, 0, 0, 0, 0, 0, 0), (51, .aload_n 0, 52, 0, 0, 0, 0, 0, 0), (52, .iconst 1, 53, 0, 0, 0, 0, nI 1, 0), (53, .putfield 204, 56, 10, 30, 0, 0, 0, 0), (56, .iconst 0, 57, 0, 0, 0, 0, nI 0, 0), (57, .istore_n 2, 58, 0, 0, 0, 0, 0, 0), (58, .iload_n 2, 59, 0, 0, 0, 0, 0, 0), (59, .aload_n 0, 60, 0, 0, 0, 0, 0, 0), (60, .getfield 204, 63, 10, 30, 0, 0, 0, 0), (63, .if_icmp .ge 114, 66, 177, 0, 0, 0, 0, 0), (66, .aload_n 0, 67, 0, 0, 0, 0, 0, 0), (67, .getfield 63, 70, 10, 26, 3, 0, 0, 0), (70, .iload_n 2, 71, 0, 0, 0, 0, 0, 0), (71, .iaload, 72, 0, 0, 0, 0, 0, 0), (72, .istore_n 3, 73, 0, 0, 0, 0, 0, 0), (73, .iconst 0, 74, 0, 0, 0, 0, nI 0, 0), (74, .istore 4, 76, 0, 0, 0, 0, 0, 0), (76, .iload 4, 78, 0, 0, 0, 0, 0, 0), (78, .bipush 6, 80, 0, 0, 0, 0, nI 6, 0), (80, .if_icmp .ge 91, 83, 171, 0, 0, 0, 0, 0), (83, .aload_n 0, 84, 0, 0, 0, 0, 0, 0), (84, .getfield 57, 87, 10, 23, 3, 0, 0, 0), (87, .ldc 52, 89, 0, 0, 0, 0, nI 40320, 0), (89, .iload 4, 91, 0, 0, 0, 0, 0, 0), (91, .imul, 92, 0, 0, 0, 0, 0, 0), (92, .iload_n 3, 93, 0, 0, 0, 0, 0, 0), (93, .iadd, 94, 0, 0, 0, 0, 0, 0), (94, .iaload, 95, 0, 0, 0, 0, 0, 0), (95, .istore 5, 97, 0, 0, 0, 0, 0, 0), (97, .iload 5, 99, 0, 0, 0, 0, 0, 0), (99, .ifCond .lt 66, 102, 165, 0, 0, 0, 0, 0), (102, .aload_n 0, 103, 0, 0, 0, 0, 0, 0), (103, .getfield 72, 106, 10, 29, 3, 0, 0, 0), (106, .iload 5, 108, 0, 0, 0, 0, 0, 0), (108, .iaload, 109, 0, 0, 0, 0, 0, 0), (109, .ifCond .ge 56, 112, 165, 0, 0, 0, 0, 0), (112, .aload_n 0, 113, 0, 0, 0, 0, 0, 0), (113, .getfield 72, 116, 10, 29, 3, 0, 0, 0), (116, .iload 5, 118, 0, 0, 0, 0, 0, 0), (118, .aload_n 0, 119, 0, 0, 0, 0, 0, 0), (119, .getfield 72, 122, 10, 29, 3, 0, 0, 0), (122, .iload_n 3, 123, 0, 0, 0, 0, 0, 0), (123, .iaload, 124, 0, 0, 0, 0, 0, 0), (124, .iconst 1, 125, 0, 0, 0, 0, nI 1, 0), (125, .iadd, 126, 0, 0, 0, 0, 0, 0), (126, .iastore, 127, 0, 0, 0, 0, 0, 0), (127, .aload_n 0, 128, 0, 0, 0, 0, 0, 0), (128, .getfield 66, 131, 10, 27, 3, 0, 0, 0), (131, .iload 5, 133, 0, 0, 0, 0, 0, 0), (133, .iload 4, 135, 0, 0, 0, 0, 0, 0), (135, .iastore, 136, 0, 0, 0, 0, 0, 0), (136, .aload_n 0, 137, 0, 0, 0, 0, 0, 0), (137, .getfield 69, 140, 10, 28, 3, 0, 0, 0), (140, .iload 5, 142, 0, 0, 0, 0, 0, 0), (142, .iload_n 3, 143, 0, 0, 0, 0, 0, 0), (143, .iastore, 144, 0, 0, 0, 0, 0, 0), (144, .aload_n 0, 145, 0, 0, 0, 0, 0, 0), (145, .getfield 63, 148, 10, 26, 3, 0, 0, 0), (148, .aload_n 0, 149, 0, 0, 0, 0, 0, 0), (149, .getfield 204, 152, 10, 30, 0, 0, 0, 0), (152, .iload 5, 154, 0, 0, 0, 0, 0, 0), (154, .iastore, 155, 0, 0, 0, 0, 0, 0), (155, .aload_n 0, 156, 0, 0, 0, 0, 0, 0), (156, .dup, 157, 0, 0, 0, 0, 0, 0), (157, .getfield 204, 160, 10, 30, 0, 0, 0, 0), (160, .iconst 1, 161, 0, 0, 0, 0, nI 1, 0), (161, .iadd, 162, 0, 0, 0, 0, 0, 0), (162, .putfield 204, 165, 10, 30, 0, 0, 0, 0), (165, .iinc 4 1, 168, 0, 0, 0, 0, nI 1, 0), (168, .goto (-92), 171, 76, 0, 0, 0, 0, 0), (171, .iinc 2 1, 174, 0, 0, 0, 0, nI 1, 0), (174, .goto (-116), 177, 58, 0, 0, 0, 0, 0), (177, .return_, 178, 0, 0, 0, 0, 0, 0)]
def tx_Ref_goAll : List Nat := [0, 198, 0, 0, 0, 0, 130, 0, 0, 113, 0, 0, 0, 0, 0, 0, 0, 199, 200, 0, 0, 113, 0, 0, 0, 0, 110, 0, 0, 0, 0, 0, 129, 0, 0, 0, 0, 129, 0, 0, 110, 0, 0, 0, 0, 0, 0, 0, 0, 0, 108, 4, 0, 0, 0, 0, 0, 0, 0, 0, 0, 113, 0, 0, 0, 0, 113, 0, 0, 113, 0, 0, 0, 0, 0, 0, 111, 0, 0, 0, 0, 112, 0, 0, 0, 0, 110, 0, 129, 0, 0, 0, 0, 129, 0, 0, 129, 0, 0, 0, 0, 0]
def tb_Ref_findNext : Tab_ := [(0, .aload_n 0, 1, 0, 0, 0, 0, 0, 0), (1, .invokevirtual 157, 4, 134, 0, 10, 0, 0, 0), (4, .aload_n 0, 5, 0, 0, 0, 0, 0, 0), (5, .iconst 1, 6, 0, 0, 0, 0, nI 1, 0), (6, .putfield 186, 9, 10, 25, 0, 0, 0, 0), (9, .iconst 2, 10, 0, 0, 0, 0, nI 2, 0), (10, .istore_n 1, 11, 0, 0, 0, 0, 0, 0), (11, .iload_n 1, 12, 0, 0, 0, 0, 0, 0), (12, .aload_n 0, 13, 0, 0, 0, 0, 0, 0), (13, .getfield 107, 16, 10, 0, 0, 0, 0, 0), (16, .if_icmp .gt 19, 19, 35, 0, 0, 0, 0, 0), (19, .aload_n 0, 20, 0, 0, 0, 0, 0, 0), (20, .dup, 21, 0, 0, 0, 0, 0, 0), (21, .getfield 186, 24, 10, 25, 0, 0, 0, 0), (24, .iload_n 1, 25, 0, 0, 0, 0, 0, 0), (25, .imul, 26, 0, 0, 0, 0, 0, 0), (26, .putfield 186, 29, 10, 25, 0, 0, 0, 0), (29, .iinc 1 1, 32, 0, 0, 0, 0, nI 1, 0), (32, .goto (-21), 35, 11, 0, 0, 0, 0, 0), (35, .iconst 0, 36, 0, 0, 0, 0, nI 0, 0), (36, .istore_n 1, 37, 0, 0, 0, 0, 0, 0), (37, .iload_n 1, 38, 0, 0, 0, 0, 0, 0), (38, .aload_n 0, 39, 0, 0, 0, 0, 0, 0), (39, .getfield 186, 42, 10, 25, 0, 0, 0, 0), (42, .if_icmp .ge 73, 45, 115, 0, 0, 0, 0, 0), (45, .aload_n 0, 46, 0, 0, 0, 0, 0, 0), (46, .getfield 53, 49, 10, 22, 3, 0, 0, 0), (49, .iload_n 1, 50, 0, 0, 0, 0, 0, 0), (50, .aload_n 0, 51, 0, 0, 0, 0, 0, 0), (51, .iload_n 1, 52, 0, 0, 0, 0, 0, 0), (52, .invokevirtual 189, 55, 153, 1, 10, 0, 0, 0), (55, .iastore, 56, 0, 0, 0, 0, 0, 0), (56, .iconst 0, 57, 0, 0, 0, 0, nI 0, 0), (57, .istore_n 2, 58, 0, 0, 0, 0, 0, 0), (58, .iload_n 2, 59, 0, 0, 0, 0, 0, 0), (59, .bipush 6, 61, 0, 0, 0, 0, nI 6, 0), (61, .if_icmp .ge 48, 64, 109, 0, 0, 0, 0, 0), (64, .aload_n 0, 65, 0, 0, 0, 0, 0, 0), (65, .getfield 57, 68, 10, 23, 3, 0, 0, 0), (68, .ldc 52, 70, 0, 0, 0, 0, nI 40320, 0), (70, .iload_n 2, 71, 0, 0, 0, 0, 0, 0), (71, .imul, 72, 0, 0, 0, 0, 0, 0), (72, .iload_n 1, 73, 0, 0, 0, 0, 0, 0), (73, .iadd, 74, 0, 0, 0, 0, 0, 0), (74, .aload_n 0, 75, 0, 0, 0, 0, 0, 0), (75, .iload_n 2, 76, 0, 0, 0, 0, 0, 0), (76, .invokevirtual 164, 79, 140, 1, 10, 0, 0, 0), (79, .ifCond .eq 21, 82, 100, 0, 0, 0, 0, 0), (82, .aload_n 0, 83, 0, 0, 0, 0, 0, 0), (83, .aload_n 0, 84, 0, 0, 0, 0, 0, 0), (84, .aload_n 0, 85, 0, 0, 0, 0, 0, 0), (85, .getfield 53, 88, 10, 22, 3, 0, 0, 0), (88, .iload_n 1, 89, 0, 0, 0, 0, 0, 0), (89, .iaload, 90, 0, 0, 0, 0, 0, 0), (90, .iload_n 2, 91, 0, 0, 0, 0, 0, 0), (91, .invokevirtual 192, 94, 154, 2, 10, 0, 0, 0), (94, .invokevirtual 195, 97, 155, 1, 10, 0, 0, 0), (97, .goto 5, 100, 102, 0, 0, 0, 0, 0), (100, .bipush (-6), 102, 0, 0, 0, 0, (-6), 0), (102, .iastore, 103, 0, 0, 0, 0, 0, 0), (103, .iinc 2 1, 106, 0, 0, 0, 0, nI 1, 0), (106, .goto (-48), 109, 58, 0, 0, 0, 0, 0), (109, .iinc 1 1, 112, 0, 0, 0, 0, nI 1, 0), (112, .goto (-75), 115, 37, 0, 0, 0, 0, 0), (115, .return_, 116, 0, 0, 0, 0, 0, 0)]
def tx_Ref_findNext : List Nat := [0, 189, 0, 0, 130, 0, 0, 0, 0, 122, 0, 0, 0, 130, 0, 0, 130, 0, 0, 0, 0, 0, 0, 130, 0, 0, 107, 0, 0, 0, 201, 0, 0, 0, 0, 0, 0, 0, 108, 4, 0, 0, 0, 0, 0, 0, 192, 0, 0, 0, 0, 107, 0, 0, 0, 202, 200, 0, 0, 0, 0, 0, 0, 0, 0]
def tb_Ref_codeBy : Tab_ := [(0, .iload_n 1, 1, 0, 0, 0, 0, 0, 0), (1, .istore_n 2, 2, 0, 0, 0, 0, 0, 0), (2, .aload_n 0, 3, 0, 0, 0, 0, 0, 0), (3, .getfield 107, 6, 10, 0, 0, 0, 0, 0), (6, .iconst 1, 7, 0, 0, 0, 0, nI 1, 0), (7, .isub, 8, 0, 0, 0, 0, 0, 0), (8, .istore_n 3, 9, 0, 0, 0, 0, 0, 0), (9, .iload_n 3, 10, 0, 0, 0, 0, 0, 0), (10, .ifCond .lt 32, 13, 42, 0, 0, 0, 0, 0), (13, .aload_n 0, 14, 0, 0, 0, 0, 0, 0), (14, .getfield 60, 17, 10, 24, 3, 0, 0, 0), (17, .iload_n 3, 18, 0, 0, 0, 0, 0, 0), (18, .iload_n 2, 19, 0, 0, 0, 0, 0, 0), (19, .aload_n 0, 20, 0, 0, 0, 0, 0, 0), (20, .getfield 107, 23, 10, 0, 0, 0, 0, 0), (23, .iload_n 3, 24, 0, 0, 0, 0, 0, 0), (24, .isub, 25, 0, 0, 0, 0, 0, 0), (25, .irem, 26, 0, 0, 0, 0, 0, 0), (26, .iastore, 27, 0, 0, 0, 0, 0, 0), (27, .iload_n 2, 28, 0, 0, 0, 0, 0, 0), (28, .aload_n 0, 29, 0, 0, 0, 0, 0, 0), (29, .getfield 107, 32, 10, 0, 0, 0, 0, 0), (32, .iload_n 3, 33, 0, 0, 0, 0, 0, 0), (33, .isub, 34, 0, 0, 0, 0, 0, 0), (34, .idiv, 35, 0, 0, 0, 0, 0, 0), (35, .istore_n 2, 36, 0, 0, 0, 0, 0, 0), (36, .iinc 3 (-1), 39, 0, 0, 0, 0, (-1), 0), (39, .goto (-30), 42, 9, 0, 0, 0, 0, 0), (42, .iconst 0, 43, 0, 0, 0, 0, nI 0, 0), (43, .istore_n 3, 44, 0, 0, 0, 0, 0, 0), (44, .iconst 0, 45, 0, 0, 0, 0, nI 0, 0), (45, .istore 4, 47, 0, 0, 0, 0, 0, 0), (47, .iconst 0, 48, 0, 0, 0, 0, nI 0, 0), (48, .istore 5, 50, 0, 0, 0, 0, 0, 0), (50, .iload 5, 52, 0, 0, 0, 0, 0, 0), (52, .aload_n 0, 53, 0, 0, 0, 0, 0, 0), (53, .getfield 107, 56, 10, 0, 0, 0, 0, 0), (56, .if_icmp .ge 83, 59, 139, 0, 0, 0, 0, 0), (59, .iconst 0, 60, 0, 0, 0, 0, nI 0, 0), (60, .istore 6, 62, 0, 0, 0, 0, 0, 0), (62, .aload_n 0, 63, 0, 0, 0, 0, 0, 0), (63, .getfield 60, 66, 10, 24, 3, 0, 0, 0), (66, .iload 5, 68, 0, 0, 0, 0, 0, 0), (68, .iaload, 69, 0, 0, 0, 0, 0, 0), (69, .istore 7, 71, 0, 0, 0, 0, 0, 0), (71, .iload 4, 73, 0, 0, 0, 0, 0, 0), (73, .iload 6, 75, 0, 0, 0, 0, 0, 0), (75, .ishr, 76, 0, 0, 0, 0, 0, 0), (76, .iconst 1, 77, 0, 0, 0, 0, nI 1, 0), (77, .iand, 78, 0, 0, 0, 0, 0, 0), (78, .iconst 1, 79, 0, 0, 0, 0, nI 1, 0), (79, .if_icmp .eq 8, 82, 87, 0, 0, 0, 0, 0), (82, .iload 7, 84, 0, 0, 0, 0, 0, 0), (84, .ifCond .le 30, 87, 114, 0, 0, 0, 0, 0), (87, .iload 7, 89, 0, 0, 0, 0, 0, 0), (89, .iload 4, 91, 0, 0, 0, 0, 0, 0), (91, .iload 6, 93, 0, 0, 0, 0, 0, 0), (93, .ishr, 94, 0, 0, 0, 0, 0, 0), (94, .iconst 1, 95, 0, 0, 0, 0, nI 1, 0), (95, .iand, 96, 0, 0, 0, 0, 0, 0), (96, .iconst 1, 97, 0, 0, 0, 0, nI 1, 0), (97, .if_icmp .ne 7, 100, 104, 0, 0, 0, 0, 0), (100, .iconst 0, 101, 0, 0, 0, 0, nI 0, 0), (101, .goto 4, 104, 105, 0, 0, 0, 0, 0), (104, .iconst 1, 105, 0, 0, 0, 0, nI 1, 0), (105, .isub, 106, 0, 0, 0, 0, 0, 0), (106, .istore 7, 108, 0, 0, 0, 0, 0, 0), (108, .iinc 6 1, 111, 0, 0, 0, 0, nI 1, 0), (111, .goto (-40), 114, 71, 0, 0, 0, 0, 0), (114, .iload 4, 116, 0, 0, 0, 0, 0, 0), (116, .iconst 1, 117, 0, 0, 0, 0, nI 1, 0), (117, .iload 6, 119, 0, 0, 0, 0, 0, 0), (119, .ishl, 120, 0, 0, 0, 0, 0, 0), (120, .ior, 121, 0, 0, 0, 0, 0, 0), (121, .istore 4, 123, 0, 0, 0, 0, 0, 0), (123, .iload_n 3, 124, 0, 0, 0, 0, 0, 0), (124, .iload 6, 126, 0, 0, 0, 0, 0, 0), (126, .iconst 3, 127, 0, 0, 0, 0, nI 3, 0), (127, .iload 5, 129, 0, 0, 0, 0, 0, 0), (129, .imul, 130, 0, 0, 0, 0, 0, 0), (130, .ishl, 131, 0, 0, 0, 0, 0, 0), (131, .ior, 132, 0, 0, 0, 0, 0, 0), (132, .istore_n 3, 133, 0, 0, 0, 0, 0, 0), (133, .iinc 5 1, 136, 0, 0, 0, 0, nI 1, 0), (136, .goto (-86), 139, 50, 0, 0, 0, 0, 0), (139, .iload_n 3, 140, 0, 0, 0, 0, 0, 0), (140, .ireturn, 141, 0, 0, 0, 0, 0, 0)]
def tx_Ref_codeBy : List Nat := [0, 0, 0, 122, 0, 0, 0, 0, 0, 0, 109, 0, 0, 0, 122, 0, 0, 0, 0, 0, 0, 122, 0, 0, 0, 0, 0, 0, 0, 0, 0, 0, 0, 0, 0, 0, 122, 0, 0, 0, 0, 109, 0, 0, 0, 0, 0, 0, 0, 0, 0, 0, 0, 0, 0, 0, 0, 0, 0, 0, 0, 0, 0, 0, 0, 0, 0, 0, 0, 0, 0, 0, 0, 0, 0, 0, 0, 0, 0, 0, 0, 0, 0, 0, 0, 0, 0]
def tb_Ref_danced : Tab_ := [(0, .iconst 0, 1, 0, 0, 0, 0, nI 0, 0), (1, .istore_n 3, 2, 0, 0, 0, 0, 0, 0), (2, .iconst 0, 3, 0, 0, 0, 0, nI 0, 0), (3, .istore 4, 5, 0, 0, 0, 0, 0, 0), (5, .iload 4, 7, 0, 0, 0, 0, 0, 0), (7, .aload_n 0, 8, 0, 0, 0, 0, 0, 0), (8, .getfield 107, 11, 10, 0, 0, 0, 0, 0), (11, .if_icmp .ge 36, 14, 47, 0, 0, 0, 0, 0), (14, .iload_n 3, 15, 0, 0, 0, 0, 0, 0), (15, .iload_n 1, 16, 0, 0, 0, 0, 0, 0), (16, .iconst 3, 17, 0, 0, 0, 0, nI 3, 0), (17, .iload 4, 19, 0, 0, 0, 0, 0, 0), (19, .imul, 20, 0, 0, 0, 0, 0, 0), (20, .ishr, 21, 0, 0, 0, 0, 0, 0), (21, .bipush 7, 23, 0, 0, 0, 0, nI 7, 0), (23, .iand, 24, 0, 0, 0, 0, 0, 0), (24, .iconst 3, 25, 0, 0, 0, 0, nI 3, 0), (25, .aload_n 0, 26, 0, 0, 0, 0, 0, 0), (26, .getfield 46, 29, 10, 19, 3, 0, 0, 0), (29, .bipush 8, 31, 0, 0, 0, 0, nI 8, 0), (31, .iload_n 2, 32, 0, 0, 0, 0, 0, 0), (32, .imul, 33, 0, 0, 0, 0, 0, 0), (33, .iload 4, 35, 0, 0, 0, 0, 0, 0), (35, .iadd, 36, 0, 0, 0, 0, 0, 0), (36, .iaload, 37, 0, 0, 0, 0, 0, 0), (37, .imul, 38, 0, 0, 0, 0, 0, 0), (38, .ishl, 39, 0, 0, 0, 0, 0, 0), (39, .ior, 40, 0, 0, 0, 0, 0, 0), (40, .istore_n 3, 41, 0, 0, 0, 0, 0, 0), (41, .iinc 4 1, 44, 0, 0, 0, 0, nI 1, 0), (44, .goto (-39), 47, 5, 0, 0, 0, 0, 0), (47, .iload_n 3, 48, 0, 0, 0, 0, 0, 0), (48, .ireturn, 49, 0, 0, 0, 0, 0, 0)]
def tx_Ref_danced : List Nat := [0, 0, 0, 0, 0, 0, 122, 0, 0, 0, 0, 0, 0, 0, 0, 0, 0, 0, 105, 0, 0, 0, 0, 0, 0, 0, 0, 0, 0, 0, 0, 0, 0]
def tb_Ref_numberOf : Tab_ := [(0, .iconst 0, 1, 0, 0, 0, 0, nI 0, 0), (1, .istore_n 2, 2, 0, 0, 0, 0, 0, 0), (2, .iconst 0, 3, 0, 0, 0, 0, nI 0, 0), (3, .istore_n 3, 4, 0, 0, 0, 0, 0, 0), (4, .iconst 0, 5, 0, 0, 0, 0, nI 0, 0), (5, .istore 4, 7, 0, 0, 0, 0, 0, 0), (7, .iload 4, 9, 0, 0, 0, 0, 0, 0), (9, .aload_n 0, 10, 0, 0, 0, 0, 0, 0), (10, .getfield 107, 13, 10, 0, 0, 0, 0, 0), (13, .if_icmp .ge 52, 16, 65, 0, 0, 0, 0, 0), (16, .iload_n 1, 17, 0, 0, 0, 0, 0, 0), (17, .iconst 3, 18, 0, 0, 0, 0, nI 3, 0), (18, .iload 4, 20, 0, 0, 0, 0, 0, 0), (20, .imul, 21, 0, 0, 0, 0, 0, 0), (21, .ishr, 22, 0, 0, 0, 0, 0, 0), (22, .bipush 7, 24, 0, 0, 0, 0, nI 7, 0), (24, .iand, 25, 0, 0, 0, 0, 0, 0), (25, .istore 5, 27, 0, 0, 0, 0, 0, 0), (27, .iload_n 2, 28, 0, 0, 0, 0, 0, 0), (28, .aload_n 0, 29, 0, 0, 0, 0, 0, 0), (29, .getfield 107, 32, 10, 0, 0, 0, 0, 0), (32, .iload 4, 34, 0, 0, 0, 0, 0, 0), (34, .isub, 35, 0, 0, 0, 0, 0, 0), (35, .imul, 36, 0, 0, 0, 0, 0, 0), (36, .iload 5, 38, 0, 0, 0, 0, 0, 0), (38, .iadd, 39, 0, 0, 0, 0, 0, 0), (39, .iload_n 3, 40, 0, 0, 0, 0, 0, 0), (40, .iconst 1, 41, 0, 0, 0, 0, nI 1, 0), (41, .iload 5, 43, 0, 0, 0, 0, 0, 0), (43, .ishl, 44, 0, 0, 0, 0, 0, 0), (44, .iconst 1, 45, 0, 0, 0, 0, nI 1, 0), (45, .isub, 46, 0, 0, 0, 0, 0, 0), (46, .iand, 47, 0, 0, 0, 0, 0, 0), (47, .invokestatic 183, 50, 156, 1, 0, 0, 0, 0), (50, .isub, 51, 0, 0, 0, 0, 0, 0), (51, .istore_n 2, 52, 0, 0, 0, 0, 0, 0), (52, .iload_n 3, 53, 0, 0, 0, 0, 0, 0), (53, .iconst 1, 54, 0, 0, 0, 0, nI 1, 0), (54, .iload 5, 56, 0, 0, 0, 0, 0, 0), (56, .ishl, 57, 0, 0, 0, 0, 0, 0), (57, .ior, 58, 0, 0, 0, 0, 0, 0), (58, .istore_n 3, 59, 0, 0, 0, 0, 0, 0), (59, .iinc 4 1, 62, 0, 0, 0, 0, nI 1, 0), (62, .goto (-55), 65, 7, 0, 0, 0, 0, 0), (65, .iload_n 2, 66, 0, 0, 0, 0, 0, 0), (66, .ireturn, 67, 0, 0, 0, 0, 0, 0)]
def tx_Ref_numberOf : List Nat := [0, 0, 0, 0, 0, 0, 0, 0, 122, 0, 0, 0, 0, 0, 0, 0, 0, 0, 0, 0, 122, 0, 0, 0, 0, 0, 0, 0, 0, 0, 0, 0, 0, 203, 0, 0, 0, 0, 0, 0, 0, 0, 0, 0, 0, 0]
def tb_Ref_ones : Tab_ := [(0, .iconst 0, 1, 0, 0, 0, 0, nI 0, 0), (1, .istore_n 1, 2, 0, 0, 0, 0, 0, 0), (2, .iload_n 0, 3, 0, 0, 0, 0, 0, 0), (3, .istore_n 2, 4, 0, 0, 0, 0, 0, 0), (4, .iload_n 2, 5, 0, 0, 0, 0, 0, 0), (5, .ifCond .eq 15, 8, 20, 0, 0, 0, 0, 0), (8, .iinc 1 1, 11, 0, 0, 0, 0, nI 1, 0), (11, .iload_n 2, 12, 0, 0, 0, 0, 0, 0), (12, .iload_n 2, 13, 0, 0, 0, 0, 0, 0), (13, .iconst 1, 14, 0, 0, 0, 0, nI 1, 0), (14, .isub, 15, 0, 0, 0, 0, 0, 0), (15, .iand, 16, 0, 0, 0, 0, 0, 0), (16, .istore_n 2, 17, 0, 0, 0, 0, 0, 0), (17, .goto (-13), 20, 4, 0, 0, 0, 0, 0), (20, .iload_n 1, 21, 0, 0, 0, 0, 0, 0), (21, .ireturn, 22, 0, 0, 0, 0, 0, 0)]
def tx_Ref_ones : List Nat := [0, 0, 0, 0, 0, 0, 0, 0, 0, 0, 0, 0, 0, 0, 0, 0]
def tb_Ref_codeNow : Tab_ := [(0, .iconst 0, 1, 0, 0, 0, 0, nI 0, 0), (1, .istore_n 1, 2, 0, 0, 0, 0, 0, 0), (2, .iconst 0, 3, 0, 0, 0, 0, nI 0, 0), (3, .istore_n 2, 4, 0, 0, 0, 0, 0, 0), (4, .iload_n 2, 5, 0, 0, 0, 0, 0, 0), (5, .aload_n 0, 6, 0, 0, 0, 0, 0, 0), (6, .getfield 107, 9, 10, 0, 0, 0, 0, 0), (9, .if_icmp .ge 22, 12, 31, 0, 0, 0, 0, 0), (12, .iload_n 1, 13, 0, 0, 0, 0, 0, 0), (13, .aload_n 0, 14, 0, 0, 0, 0, 0, 0), (14, .getfield 13, 17, 10, 2, 3, 0, 0, 0), (17, .iload_n 2, 18, 0, 0, 0, 0, 0, 0), (18, .iaload, 19, 0, 0, 0, 0, 0, 0), (19, .iconst 3, 20, 0, 0, 0, 0, nI 3, 0), (20, .iload_n 2, 21, 0, 0, 0, 0, 0, 0), (21, .imul, 22, 0, 0, 0, 0, 0, 0), (22, .ishl, 23, 0, 0, 0, 0, 0, 0), (23, .ior, 24, 0, 0, 0, 0, 0, 0), (24, .istore_n 1, 25, 0, 0, 0, 0, 0, 0), (25, .iinc 2 1, 28, 0, 0, 0, 0, nI 1, 0), (28, .goto (-24), 31, 4, 0, 0, 0, 0, 0), (31, .iload_n 1, 32, 0, 0, 0, 0, 0, 0), (32, .ireturn, 33, 0, 0, 0, 0, 0, 0)]
def tx_Ref_codeNow : List Nat := [0, 0, 0, 0, 0, 0, 122, 0, 0, 0, 94, 0, 0, 0, 0, 0, 0, 0, 0, 0, 0, 0, 0]
def tb_Ref_isWanted : Tab_ := [(0, .iconst 1, 1, 0, 0, 0, 0, nI 1, 0), (1, .istore_n 2, 2, 0, 0, 0, 0, 0, 0), (2, .iconst 0, 3, 0, 0, 0, 0, nI 0, 0), (3, .istore_n 3, 4, 0, 0, 0, 0, 0, 0), (4, .iload_n 3, 5, 0, 0, 0, 0, 0, 0), (5, .aload_n 0, 6, 0, 0, 0, 0, 0, 0), (6, .getfield 107, 9, 10, 0, 0, 0, 0, 0), (9, .if_icmp .ge 45, 12, 54, 0, 0, 0, 0, 0), (12, .iload_n 2, 13, 0, 0, 0, 0, 0, 0), (13, .ifCond .eq 33, 16, 46, 0, 0, 0, 0, 0), (16, .aload_n 0, 17, 0, 0, 0, 0, 0, 0), (17, .getfield 16, 20, 10, 3, 3, 0, 0, 0), (20, .iload_n 3, 21, 0, 0, 0, 0, 0, 0), (21, .iaload, 22, 0, 0, 0, 0, 0, 0), (22, .ifCond .lt 20, 25, 42, 0, 0, 0, 0, 0), (25, .iload_n 1, 26, 0, 0, 0, 0, 0, 0), (26, .iconst 3, 27, 0, 0, 0, 0, nI 3, 0), (27, .aload_n 0, 28, 0, 0, 0, 0, 0, 0), (28, .getfield 16, 31, 10, 3, 3, 0, 0, 0), (31, .iload_n 3, 32, 0, 0, 0, 0, 0, 0), (32, .iaload, 33, 0, 0, 0, 0, 0, 0), (33, .imul, 34, 0, 0, 0, 0, 0, 0), (34, .ishr, 35, 0, 0, 0, 0, 0, 0), (35, .bipush 7, 37, 0, 0, 0, 0, nI 7, 0), (37, .iand, 38, 0, 0, 0, 0, 0, 0), (38, .iload_n 3, 39, 0, 0, 0, 0, 0, 0), (39, .if_icmp .ne 7, 42, 46, 0, 0, 0, 0, 0), (42, .iconst 1, 43, 0, 0, 0, 0, nI 1, 0), (43, .goto 4, 46, 47, 0, 0, 0, 0, 0), (46, .iconst 0, 47, 0, 0, 0, 0, nI 0, 0), (47, .istore_n 2, 48, 0, 0, 0, 0, 0, 0), (48, .iinc 3 1, 51, 0, 0, 0, 0, nI 1, 0), (51, .goto (-47), 54, 4, 0, 0, 0, 0, 0), (54, .iload_n 2, 55, 0, 0, 0, 0, 0, 0), (55, .ireturn, 56, 1, 0, 0, 0, 0, 0)]
def tx_Ref_isWanted : List Nat := [0, 0, 0, 0, 0, 0, 122, 0, 0, 0, 0, 95, 0, 0, 0, 0, 0, 0, 95, 0, 0, 0, 0, 0, 0, 0, 0, 0, 0, 0, 0, 0, 0, 0, 0]
def tb_Ref_standings : Tab_ := [(0, .aload_n 0, 1, 0, 0, 0, 0, 0, 0), (1, .invokevirtual 207, 4, 151, 0, 10, 0, 0, 0), (4, .aload_n 0, 5, 0, 0, 0, 0, 0, 0), (5, .getfield 204, 8, 10, 30, 0, 0, 0, 0), (8, .ireturn, 9, 0, 0, 0, 0, 0, 0)]
def tx_Ref_standings : List Nat := [0, 196, 0, 129, 0]
def tb_Ref_canBe : Tab_ := [(0, .aload_n 0, 1, 0, 0, 0, 0, 0, 0), (1, .bipush 97, 3, 0, 0, 0, 0, nI 97, 0), (3, .invokevirtual 143, 6, 128, 1, 10, 0, 0, 0), (6, .ifCond .lt 6, 9, 12, 0, 0, 0, 0, 0), (9, .bipush (-5), 11, 0, 0, 0, 0, (-5), 0), (11, .ireturn, 12, 0, 0, 0, 0, 0, 0), (12, .aload_n 0, 13, 0, 0, 0, 0, 0, 0), (13, .invokevirtual 207, 16, 151, 0, 10, 0, 0, 0), (16, .iconst 0, 17, 0, 0, 0, 0, nI 0, 0), (17, .istore_n 1, 18, 0, 0, 0, 0, 0, 0), (18, .iconst 0, 19, 0, 0, 0, 0, nI 0, 0), (19, .istore_n 2, 20, 0, 0, 0, 0, 0, 0), (20, .iload_n 2, 21, 0, 0, 0, 0, 0, 0), (21, .aload_n 0, 22, 0, 0, 0, 0, 0, 0), (22, .getfield 107, 25, 10, 0, 0, 0, 0, 0), (25, .if_icmp .ge 25, 28, 50, 0, 0, 0, 0, 0), (28, .iload_n 1, 29, 0, 0, 0, 0, 0, 0), (29, .aload_n 0, 30, 0, 0, 0, 0, 0, 0), (30, .getfield 43, 33, 10, 17, 3, 0, 0, 0), (33, .iload_n 2, 34, 0, 0, 0, 0, 0, 0), (34, .iaload, 35, 0, 0, 0, 0, 0, 0), (35, .bipush 97, 37, 0, 0, 0, 0, nI 97, 0), (37, .isub, 38, 0, 0, 0, 0, 0, 0), (38, .iconst 3, 39, 0, 0, 0, 0, nI 3, 0), (39, .iload_n 2, 40, 0, 0, 0, 0, 0, 0), (40, .imul, 41, 0, 0, 0, 0, 0, 0), (41, .ishl, 42, 0, 0, 0, 0, 0, 0), (42, .ior, 43, 0, 0, 0, 0, 0, 0), (43, .istore_n 1, 44, 0, 0, 0, 0, 0, 0), (44, .iinc 2 1, 47, 0, 0, 0, 0, nI 1, 0), (47, .goto (-27), 50, 20, 0, 0, 0, 0, 0), (50, .aload_n 0, 51, 0, 0, 0, 0, 0, 0), (51, .getfield 72, 54, 10, 29, 3, 0, 0, 0), (54, .aload_n 0, 55, 0, 0, 0, 0, 0, 0), (55, .iload_n 1, 56, 0, 0, 0, 0, 0, 0), (56, .invokevirtual 195, 59, 155, 1, 10, 0, 0, 0), (59, .iaload, 60, 0, 0, 0, 0, 0, 0), (60, .ifCond .ge 7, 63, 67, 0, 0, 0, 0, 0), (63, .iconst 0, 64, 0, 0, 0, 0, nI 0, 0), (64, .goto 4, 67, 68, 0, 0, 0, 0, 0), (67, .iconst 1, 68, 0, 0, 0, 0, nI 1, 0), (68, .ireturn, 69, 0, 0, 0, 0, 0, 0)]
def tx_Ref_canBe : List Nat := [0, 0, 185, 0, 0, 0, 0, 196, 0, 0, 0, 0, 0, 0, 122, 0, 0, 0, 104, 0, 0, 0, 0, 0, 0, 0, 0, 0, 0, 0, 0, 0, 113, 0, 0, 200, 0, 0, 0, 0, 0, 0]
def tb_Ref_sure : Tab_ := [(0, .aload_n 0, 1, 0, 0, 0, 0, 0, 0), (1, .iload_n 1, 2, 0, 0, 0, 0, 0, 0), (2, .invokevirtual 136, 5, 129, 1, 10, 0, 0, 0), (5, .ifCond .ne 5, 8, 10, 0, 0, 0, 0, 0), (8, .iconst (-1), 9, 0, 0, 0, 0, (-1), 0), (9, .ireturn, 10, 0, 0, 0, 0, 0, 0), (10, .aload_n 0, 11, 0, 0, 0, 0, 0, 0), (11, .invokevirtual 157, 14, 134, 0, 10, 0, 0, 0), (14, .iconst 1, 15, 0, 0, 0, 0, nI 1, 0), (15, .aload_n 0, 16, 0, 0, 0, 0, 0, 0), (16, .iload_n 1, 17, 0, 0, 0, 0, 0, 0), (17, .invokevirtual 170, 20, 144, 1, 10, 0, 0, 0), (20, .ishl, 21, 0, 0, 0, 0, 0, 0), (21, .istore_n 2, 22, 0, 0, 0, 0, 0, 0), (22, .iconst 0, 23, 0, 0, 0, 0, nI 0, 0), (23, .istore_n 3, 24, 0, 0, 0, 0, 0, 0), (24, .iload_n 3, 25, 0, 0, 0, 0, 0, 0), (25, .bipush 8, 27, 0, 0, 0, 0, nI 8, 0), (27, .if_icmp .ge 84, 30, 111, 0, 0, 0, 0, 0), (30, .iconst 0, 31, 0, 0, 0, 0, nI 0, 0), (31, .istore 4, 33, 0, 0, 0, 0, 0, 0), (33, .iload 4, 35, 0, 0, 0, 0, 0, 0), (35, .bipush 6, 37, 0, 0, 0, 0, nI 6, 0), (37, .if_icmp .ge 68, 40, 105, 0, 0, 0, 0, 0), (40, .iconst 0, 41, 0, 0, 0, 0, nI 0, 0), (41, .istore 5, 43, 0, 0, 0, 0, 0, 0), (43, .iload 5, 45, 0, 0, 0, 0, 0, 0), (45, .aload_n 0, 46, 0, 0, 0, 0, 0, 0), (46, .getfield 107, 49, 10, 0, 0, 0, 0, 0), (49, .if_icmp .ge 50, 52, 99, 0, 0, 0, 0, 0), (52, .iload_n 2, 53, 0, 0, 0, 0, 0, 0), (53, .aload_n 0, 54, 0, 0, 0, 0, 0, 0), (54, .iload 4, 56, 0, 0, 0, 0, 0, 0), (56, .invokevirtual 164, 59, 140, 1, 10, 0, 0, 0), (59, .ifCond .eq 31, 62, 90, 0, 0, 0, 0, 0), (62, .iload_n 2, 63, 0, 0, 0, 0, 0, 0), (63, .iload 5, 65, 0, 0, 0, 0, 0, 0), (65, .ishr, 66, 0, 0, 0, 0, 0, 0), (66, .iconst 1, 67, 0, 0, 0, 0, nI 1, 0), (67, .iand, 68, 0, 0, 0, 0, 0, 0), (68, .iconst 1, 69, 0, 0, 0, 0, nI 1, 0), (69, .if_icmp .ne 21, 72, 90, 0, 0, 0, 0, 0), (72, .iconst 1, 73, 0, 0, 0, 0, nI 1, 0), (73, .aload_n 0, 74, 0, 0, 0, 0, 0, 0), (74, .getfield 46, 77, 10, 19, 3, 0, 0, 0), (77, .bipush 8, 79, 0, 0, 0, 0, nI 8, 0), (79, .iload 4, 81, 0, 0, 0, 0, 0, 0), (81, .imul, 82, 0, 0, 0, 0, 0, 0), (82, .iload 5, 84, 0, 0, 0, 0, 0, 0), (84, .iadd, 85, 0, 0, 0, 0, 0, 0), (85, .iaload, 86, 0, 0, 0, 0, 0, 0), (86, .ishl, 87, 0, 0, 0, 0, 0, 0), (87, .goto 4, 90, 91, 0, 0, 0, 0, 0), (90, .iconst 0, 91, 0, 0, 0, 0, nI 0, 0), (91, .ior, 92, 0, 0, 0, 0, 0, 0), (92, .istore_n 2, 93, 0, 0, 0, 0, 0, 0), (93, .iinc 5 1, 96, 0, 0, 0, 0, nI 1, 0), (96, .goto (-53), 99, 43, 0, 0, 0, 0, 0), (99, .iinc 4 1, 102, 0, 0, 0, 0, nI 1, 0), (102, .goto (-69), 105, 33, 0, 0, 0, 0, 0), (105, .iinc 3 1, 108, 0, 0, 0, 0, nI 1, 0), (108, .goto (-84), 111, 24, 0, 0, 0, 0, 0), (111, .iload_n 2, 112, 0, 0, 0, 0, 0, 0), (112, .ireturn, 113, 0, 0, 0, 0, 0, 0)]
def tx_Ref_sure : List Nat := [0, 0, 187, 0, 0, 0, 0, 189, 0, 0, 0, 193, 0, 0, 0, 0, 0, 0, 0, 0, 0, 0, 0, 0, 0, 0, 0, 0, 122, 0, 0, 0, 0, 192, 0, 0, 0, 0, 0, 0, 0, 0, 0, 0, 105, 0, 0, 0, 0, 0, 0, 0, 0, 0, 0, 0, 0, 0, 0, 0, 0, 0, 0, 0]
def tb_Ref_caller : Tab_ := [(0, .iload_n 1, 1, 0, 0, 0, 0, 0, 0), (1, .i2l, 2, 0, 0, 0, 0, 0, 0), (2, .lconst 0, 3, 0, 0, 0, 0, 0, lN 0), (3, .lconst 1, 4, 0, 0, 0, 0, 0, lN 1), (4, .invokestatic 123, 7, 124, 3, 0, 0, 0, 0), (7, .ifCond .ne 5, 10, 12, 0, 0, 0, 0, 0), (10, .iconst (-1), 11, 0, 0, 0, 0, (-1), 0), (11, .ireturn, 12, 0, 0, 0, 0, 0, 0), (12, .iload_n 2, 13, 0, 0, 0, 0, 0, 0), (13, .i2l, 14, 0, 0, 0, 0, 0, 0), (14, .lconst 0, 15, 0, 0, 0, 0, 0, lN 0), (15, .ldc2_w 162, 18, 0, 0, 0, 0, 0, lN 63), (18, .invokestatic 123, 21, 124, 3, 0, 0, 0, 0), (21, .ifCond .ne 6, 24, 27, 0, 0, 0, 0, 0), (24, .bipush (-2), 26, 0, 0, 0, 0, (-2), 0), (26, .ireturn, 27, 0, 0, 0, 0, 0, 0), (27, .aload_n 0, 28, 0, 0, 0, 0, 0, 0), (28, .getfield 22, 31, 10, 8, 3, 0, 0, 0), (31, .iload_n 1, 32, 0, 0, 0, 0, 0, 0), (32, .iaload, 33, 0, 0, 0, 0, 0, 0), (33, .istore_n 3, 34, 0, 0, 0, 0, 0, 0), (34, .aload_n 0, 35, 0, 0, 0, 0, 0, 0), (35, .getfield 22, 38, 10, 8, 3, 0, 0, 0), (38, .iload_n 1, 39, 0, 0, 0, 0, 0, 0), (39, .iload_n 2, 40, 0, 0, 0, 0, 0, 0), (40, .iastore, 41, 0, 0, 0, 0, 0, 0), (41, .iload_n 3, 42, 0, 0, 0, 0, 0, 0), (42, .ireturn, 43, 0, 0, 0, 0, 0, 0)]
def tx_Ref_caller : List Nat := [0, 0, 0, 0, 184, 0, 0, 0, 0, 0, 0, 7, 184, 0, 0, 0, 0, 97, 0, 0, 0, 0, 97, 0, 0, 0, 0, 0]
def tb_Ref_forced : Tab_ := [(0, .aload_n 0, 1, 0, 0, 0, 0, 0, 0), (1, .iload_n 1, 2, 0, 0, 0, 0, 0, 0), (2, .invokevirtual 136, 5, 129, 1, 10, 0, 0, 0), (5, .ifCond .eq 11, 8, 16, 0, 0, 0, 0, 0), (8, .aload_n 0, 9, 0, 0, 0, 0, 0, 0), (9, .iload_n 2, 10, 0, 0, 0, 0, 0, 0), (10, .invokevirtual 136, 13, 129, 1, 10, 0, 0, 0), (13, .ifCond .ne 5, 16, 18, 0, 0, 0, 0, 0), (16, .iconst (-1), 17, 0, 0, 0, 0, (-1), 0), (17, .ireturn, 18, 0, 0, 0, 0, 0, 0), (18, .aload_n 0, 19, 0, 0, 0, 0, 0, 0), (19, .invokevirtual 157, 22, 134, 0, 10, 0, 0, 0), (22, .iconst 0, 23, 0, 0, 0, 0, nI 0, 0), (23, .istore_n 3, 24, 0, 0, 0, 0, 0, 0), (24, .iload_n 3, 25, 0, 0, 0, 0, 0, 0), (25, .bipush 16, 27, 0, 0, 0, 0, nI 16, 0), (27, .if_icmp .ge 29, 30, 56, 0, 0, 0, 0, 0), (30, .aload_n 0, 31, 0, 0, 0, 0, 0, 0), (31, .getfield 75, 34, 10, 31, 3, 0, 0, 0), (34, .iload_n 3, 35, 0, 0, 0, 0, 0, 0), (35, .iload_n 3, 36, 0, 0, 0, 0, 0, 0), (36, .iconst 2, 37, 0, 0, 0, 0, nI 2, 0), (37, .idiv, 38, 0, 0, 0, 0, 0, 0), (38, .iload_n 2, 39, 0, 0, 0, 0, 0, 0), (39, .if_icmp .ne 7, 42, 46, 0, 0, 0, 0, 0), (42, .iconst 0, 43, 0, 0, 0, 0, nI 0, 0), (43, .goto 6, 46, 49, 0, 0, 0, 0, 0), (46, .sipush 1000, 49, 0, 0, 0, 0, nI 1000, 0), (49, .iastore, 50, 0, 0, 0, 0, 0, 0), (50, .iinc 3 1, 53, 0, 0, 0, 0, nI 1, 0), (53, .goto (-29), 56, 24, 0, 0, 0, 0, 0), (56, .iconst 0, 57, 0, 0, 0, 0, nI 0, 0), (57, .istore_n 3, 58, 0, 0, 0, 0, 0, 0), (58, .iload_n 3, 59, 0, 0, 0, 0, 0, 0), (59, .bipush 40, 61, 0, 0, 0, 0, nI 40, 0), (61, .if_icmp .ge 56, 64, 117, 0, 0, 0, 0, 0), (64, .iconst 0, 65, 0, 0, 0, 0, nI 0, 0), (65, .istore 4, 67, 0, 0, 0, 0, 0, 0), (67, .iload 4, 69, 0, 0, 0, 0, 0, 0), (69, .iconst 2, 70, 0, 0, 0, 0, nI 2, 0), (70, .aload_n 0, 71, 0, 0, 0, 0, 0, 0), (71, .getfield 107, 74, 10, 0, 0, 0, 0, 0), (74, .imul, 75, 0, 0, 0, 0, 0, 0), (75, .if_icmp .ge 36, 78, 111, 0, 0, 0, 0, 0), (78, .iload 4, 80, 0, 0, 0, 0, 0, 0), (80, .iconst 2, 81, 0, 0, 0, 0, nI 2, 0), (81, .idiv, 82, 0, 0, 0, 0, 0, 0), (82, .iload_n 2, 83, 0, 0, 0, 0, 0, 0), (83, .if_icmp .eq 22, 86, 105, 0, 0, 0, 0, 0), (86, .aload_n 0, 87, 0, 0, 0, 0, 0, 0), (87, .getfield 75, 90, 10, 31, 3, 0, 0, 0), (90, .iload 4, 92, 0, 0, 0, 0, 0, 0), (92, .aload_n 0, 93, 0, 0, 0, 0, 0, 0), (93, .iload 4, 95, 0, 0, 0, 0, 0, 0), (95, .iconst 2, 96, 0, 0, 0, 0, nI 2, 0), (96, .idiv, 97, 0, 0, 0, 0, 0, 0), (97, .iload 4, 99, 0, 0, 0, 0, 0, 0), (99, .iconst 2, 100, 0, 0, 0, 0, nI 2, 0), (100, .irem, 101, 0, 0, 0, 0, 0, 0), (101, .invokevirtual 213, 104, 164, 2, 10, 0, 0, 0), (104, .iastore, 105, 0, 0, 0, 0, 0, 0), (105, .iinc 4 1, 108, 0, 0, 0, 0, nI 1, 0), (108, .goto (-41), 111, 67, 0, 0, 0, 0, 0), (111, .iinc 3 1, 114, 0, 0, 0, 0, nI 1, 0), (114, .goto (-56), 117, 58, 0, 0, 0, 0, 0), (117, .aload_n 0, 118, 0, 0, 0, 0, 0, 0), (118, .getfield 75, 121, 10, 31, 3, 0, 0, 0), (121, .iconst 2, 122, 0, 0, 0, 0, nI 2, 0), (122, .aload_n 0, 123, 0, 0, 0, 0, 0, 0), (123, .iload_n 1, 124, 0, 0, 0, 0, 0, 0), (124, .invokevirtual 170, 127, 144, 1, 10, 0, 0, 0), (127, .imul, 128, 0, 0, 0, 0, 0, 0), (128, .iaload, 129, 0, 0, 0, 0, 0, 0), (129, .istore_n 3, 130, 0, 0, 0, 0, 0, 0), (130, .iload_n 3, 131, 0, 0, 0, 0, 0, 0), (131, .sipush 1000, 134, 0, 0, 0, 0, nI 1000, 0), (134, .if_icmp .ge 7, 137, 141, 0, 0, 0, 0, 0), (137, .iload_n 3, 138, 0, 0, 0, 0, 0, 0), (138, .goto 5, 141, 143, 0, 0, 0, 0, 0), (141, .bipush (-6), 143, 0, 0, 0, 0, (-6), 0), (143, .ireturn, 144, 0, 0, 0, 0, 0, 0)]
def tx_Ref_forced : List Nat := [0, 0, 187, 0, 0, 0, 187, 0, 0, 0, 0, 189, 0, 0, 0, 0, 0, 0, 114, 0, 0, 0, 0, 0, 0, 0, 0, 0, 0, 0, 0, 0, 0, 0, 0, 0, 0, 0, 0, 0, 0, 122, 0, 0, 0, 0, 0, 0, 0, 0, 114, 0, 0, 0, 0, 0, 0, 0, 0, 204, 0, 0, 0, 0, 0, 0, 114, 0, 0, 0, 193, 0, 0, 0, 0, 0, 0, 0, 0, 0, 0]
def tb_Ref_needsOf : Tab_ := [(0, .bipush (-6), 2, 0, 0, 0, 0, (-6), 0), (2, .istore_n 3, 3, 0, 0, 0, 0, 0, 0), (3, .iconst 0, 4, 0, 0, 0, 0, nI 0, 0), (4, .istore 4, 6, 0, 0, 0, 0, 0, 0), (6, .iload 4, 8, 0, 0, 0, 0, 0, 0), (8, .bipush 6, 10, 0, 0, 0, 0, nI 6, 0), (10, .if_icmp .ge 100, 13, 110, 0, 0, 0, 0, 0), (13, .aload_n 0, 14, 0, 0, 0, 0, 0, 0), (14, .getfield 22, 17, 10, 8, 3, 0, 0, 0), (17, .iload_n 2, 18, 0, 0, 0, 0, 0, 0), (18, .iaload, 19, 0, 0, 0, 0, 0, 0), (19, .iload 4, 21, 0, 0, 0, 0, 0, 0), (21, .ishr, 22, 0, 0, 0, 0, 0, 0), (22, .iconst 1, 23, 0, 0, 0, 0, nI 1, 0), (23, .iand, 24, 0, 0, 0, 0, 0, 0), (24, .iconst 1, 25, 0, 0, 0, 0, nI 1, 0), (25, .if_icmp .ne 79, 28, 104, 0, 0, 0, 0, 0), (28, .aload_n 0, 29, 0, 0, 0, 0, 0, 0), (29, .iload 4, 31, 0, 0, 0, 0, 0, 0), (31, .invokevirtual 164, 34, 140, 1, 10, 0, 0, 0), (34, .ifCond .eq 70, 37, 104, 0, 0, 0, 0, 0), (37, .aload_n 0, 38, 0, 0, 0, 0, 0, 0), (38, .getfield 75, 41, 10, 31, 3, 0, 0, 0), (41, .iconst 2, 42, 0, 0, 0, 0, nI 2, 0), (42, .aload_n 0, 43, 0, 0, 0, 0, 0, 0), (43, .getfield 46, 46, 10, 19, 3, 0, 0, 0), (46, .bipush 8, 48, 0, 0, 0, 0, nI 8, 0), (48, .iload 4, 50, 0, 0, 0, 0, 0, 0), (50, .imul, 51, 0, 0, 0, 0, 0, 0), (51, .iload_n 1, 52, 0, 0, 0, 0, 0, 0), (52, .iadd, 53, 0, 0, 0, 0, 0, 0), (53, .iaload, 54, 0, 0, 0, 0, 0, 0), (54, .imul, 55, 0, 0, 0, 0, 0, 0), (55, .iconst 1, 56, 0, 0, 0, 0, nI 1, 0), (56, .iadd, 57, 0, 0, 0, 0, 0, 0), (57, .iload_n 2, 58, 0, 0, 0, 0, 0, 0), (58, .isub, 59, 0, 0, 0, 0, 0, 0), (59, .iaload, 60, 0, 0, 0, 0, 0, 0), (60, .istore 5, 62, 0, 0, 0, 0, 0, 0), (62, .iload_n 3, 63, 0, 0, 0, 0, 0, 0), (63, .ifCond .lt 22, 66, 85, 0, 0, 0, 0, 0), (66, .iload_n 2, 67, 0, 0, 0, 0, 0, 0), (67, .ifCond .ne 12, 70, 79, 0, 0, 0, 0, 0), (70, .iload 5, 72, 0, 0, 0, 0, 0, 0), (72, .iload_n 3, 73, 0, 0, 0, 0, 0, 0), (73, .if_icmp .ge 16, 76, 89, 0, 0, 0, 0, 0), (76, .goto 9, 79, 85, 0, 0, 0, 0, 0), (79, .iload 5, 81, 0, 0, 0, 0, 0, 0), (81, .iload_n 3, 82, 0, 0, 0, 0, 0, 0), (82, .if_icmp .le 7, 85, 89, 0, 0, 0, 0, 0), (85, .iconst 1, 86, 0, 0, 0, 0, nI 1, 0), (86, .goto 4, 89, 90, 0, 0, 0, 0, 0), (89, .iconst 0, 90, 0, 0, 0, 0, nI 0, 0), (90, .istore 6, 92, 0, 0, 0, 0, 0, 0), (92, .iload 6, 94, 0, 0, 0, 0, 0, 0), (94, .ifCond .eq 8, 97, 102, 0, 0, 0, 0, 0), (97, .iload 5, 99, 0, 0, 0, 0, 0, 0), (99, .goto 4, 102, 103, 0, 0, 0, 0, 0), (102, .iload_n 3, 103, 0, 0, 0, 0, 0, 0), (103, .istore_n 3, 104, 0, 0, 0, 0, 0, 0), (104, .iinc 4 1, 107, 0, 0, 0, 0, nI 1, 0), (107, .goto (-101), 110, 6, 0, 0, 0, 0, 0), (110, .iload_n 3, 111, 0, 0, 0, 0, 0, 0), (111, .ifCond .ge 18, 114, 129, 0, 0, 0, 0, 0), (114, .aload_n 0, 115, 0, 0, 0, 0, 0, 0), (115, .getfield 75, 118, 10, 31, 3, 0, 0, 0), (118, .iconst 2, 119, 0, 0, 0, 0, nI 2, 0), (119, .iload_n 1, 120, 0, 0, 0, 0, 0, 0), (120, .imul, 121, 0, 0, 0, 0, 0, 0), (121, .iconst 1, 122, 0, 0, 0, 0, nI 1, 0), (122, .iadd, 123, 0, 0, 0, 0, 0, 0), (123, .iload_n 2, 124, 0, 0, 0, 0, 0, 0), (124, .isub, 125, 0, 0, 0, 0, 0, 0), (125, .iaload, 126, 0, 0, 0, 0, 0, 0), (126, .goto 4, 129, 130, 0, 0, 0, 0, 0), (129, .iload_n 3, 130, 0, 0, 0, 0, 0, 0), (130, .istore_n 3, 131, 0, 0, 0, 0, 0, 0), (131, .iload_n 3, 132, 0, 0, 0, 0, 0, 0), (132, .sipush 1000, 135, 0, 0, 0, 0, nI 1000, 0), (135, .if_icmp .ge 9, 138, 144, 0, 0, 0, 0, 0), (138, .iload_n 3, 139, 0, 0, 0, 0, 0, 0), (139, .iconst 1, 140, 0, 0, 0, 0, nI 1, 0), (140, .iadd, 141, 0, 0, 0, 0, 0, 0), (141, .goto 6, 144, 147, 0, 0, 0, 0, 0), (144, .sipush 1000, 147, 0, 0, 0, 0, nI 1000, 0), (147, .ireturn, 148, 0, 0, 0, 0, 0, 0)]
def tx_Ref_needsOf : List Nat := [0, 0, 0, 0, 0, 0, 0, 0, 97, 0, 0, 0, 0, 0, 0, 0, 0, 0, 0, 192, 0, 0, 114, 0, 0, 105, 0, 0, 0, 0, 0, 0, 0, 0, 0, 0, 0, 0, 0, 0, 0, 0, 0, 0, 0, 0, 0, 0, 0, 0, 0, 0, 0, 0, 0, 0, 0, 0, 0, 0, 0, 0, 0, 0, 0, 114, 0, 0, 0, 0, 0, 0, 0, 0, 0, 0, 0, 0, 0, 0, 0, 0, 0, 0, 0, 0]
def tb_Ref_seen : Tab_ := [(0, .aload_n 0, 1, 0, 0, 0, 0, 0, 0), (1, .iload_n 2, 2, 0, 0, 0, 0, 0, 0), (2, .invokevirtual 136, 5, 129, 1, 10, 0, 0, 0), (5, .ifCond .eq 11, 8, 16, 0, 0, 0, 0, 0), (8, .aload_n 0, 9, 0, 0, 0, 0, 0, 0), (9, .iload_n 3, 10, 0, 0, 0, 0, 0, 0), (10, .invokevirtual 136, 13, 129, 1, 10, 0, 0, 0), (13, .ifCond .ne 5, 16, 18, 0, 0, 0, 0, 0), (16, .iconst (-1), 17, 0, 0, 0, 0, (-1), 0), (17, .ireturn, 18, 0, 0, 0, 0, 0, 0), (18, .iload_n 1, 19, 0, 0, 0, 0, 0, 0), (19, .i2l, 20, 0, 0, 0, 0, 0, 0), (20, .lconst 0, 21, 0, 0, 0, 0, 0, lN 0), (21, .ldc2_w 216, 24, 0, 0, 0, 0, 0, lN 12), (24, .invokestatic 123, 27, 124, 3, 0, 0, 0, 0), (27, .ifCond .ne 6, 30, 33, 0, 0, 0, 0, 0), (30, .bipush (-2), 32, 0, 0, 0, 0, (-2), 0), (32, .ireturn, 33, 0, 0, 0, 0, 0, 0), (33, .aload_n 0, 34, 0, 0, 0, 0, 0, 0), (34, .getfield 113, 37, 10, 12, 0, 0, 0, 0), (37, .bipush 6, 39, 0, 0, 0, 0, nI 6, 0), (39, .if_icmp .ne 6, 42, 45, 0, 0, 0, 0, 0), (42, .bipush (-4), 44, 0, 0, 0, 0, (-4), 0), (44, .ireturn, 45, 0, 0, 0, 0, 0, 0), (45, .aload_n 0, 46, 0, 0, 0, 0, 0, 0), (46, .getfield 25, 49, 10, 9, 3, 0, 0, 0), (49, .aload_n 0, 50, 0, 0, 0, 0, 0, 0), (50, .getfield 113, 53, 10, 12, 0, 0, 0, 0), (53, .iload_n 1, 54, 0, 0, 0, 0, 0, 0), (54, .iastore, 55, 0, 0, 0, 0, 0, 0), (55, .aload_n 0, 56, 0, 0, 0, 0, 0, 0), (56, .getfield 28, 59, 10, 10, 3, 0, 0, 0), (59, .aload_n 0, 60, 0, 0, 0, 0, 0, 0), (60, .getfield 113, 63, 10, 12, 0, 0, 0, 0), (63, .iload_n 2, 64, 0, 0, 0, 0, 0, 0), (64, .iastore, 65, 0, 0, 0, 0, 0, 0), (65, .aload_n 0, 66, 0, 0, 0, 0, 0, 0), (66, .getfield 31, 69, 10, 11, 3, 0, 0, 0), (69, .aload_n 0, 70, 0, 0, 0, 0, 0, 0), (70, .getfield 113, 73, 10, 12, 0, 0, 0, 0), (73, .iload_n 3, 74, 0, 0, 0, 0, 0, 0), (74, .iastore, 75, 0, 0, 0, 0, 0, 0), (75, .aload_n 0, 76, 0, 0, 0, 0, 0, 0), (76, .dup, 77, 0, 0, 0, 0, 0, 0), (77, .getfield 113, 80, 10, 12, 0, 0, 0, 0), (80, .iconst 1, 81, 0, 0, 0, 0, nI 1, 0), (81, .iadd, 82, 0, 0, 0, 0, 0, 0), (82, .putfield 113, 85, 10, 12, 0, 0, 0, 0), (85, .aload_n 0, 86, 0, 0, 0, 0, 0, 0), (86, .getfield 113, 89, 10, 12, 0, 0, 0, 0), (89, .ireturn, 90, 0, 0, 0, 0, 0, 0)]
def tx_Ref_seen : List Nat := [0, 0, 187, 0, 0, 0, 187, 0, 0, 0, 0, 0, 0, 8, 184, 0, 0, 0, 0, 124, 0, 0, 0, 0, 0, 98, 0, 124, 0, 0, 0, 99, 0, 124, 0, 0, 0, 100, 0, 124, 0, 0, 0, 0, 124, 0, 0, 124, 0, 124, 0]
def tb_Ref_forget : Tab_ := [(0, .aload_n 0, 1, 0, 0, 0, 0, 0, 0), (1, .getfield 113, 4, 10, 12, 0, 0, 0, 0), (4, .istore_n 1, 5, 0, 0, 0, 0, 0, 0), (5, .aload_n 0, 6, 0, 0, 0, 0, 0, 0), (6, .iconst 0, 7, 0, 0, 0, 0, nI 0, 0), (7, .putfield 113, 10, 10, 12, 0, 0, 0, 0), (10, .iload_n 1, 11, 0, 0, 0, 0, 0, 0), (11, .ireturn, 12, 0, 0, 0, 0, 0, 0)]
def tx_Ref_forget : List Nat := [0, 124, 0, 0, 0, 124, 0, 0]
def tb_Ref_rows : Tab_ := [(0, .iload_n 1, 1, 0, 0, 0, 0, 0, 0), (1, .i2l, 2, 0, 0, 0, 0, 0, 0), (2, .lconst 0, 3, 0, 0, 0, 0, 0, lN 0), (3, .ldc2_w 216, 6, 0, 0, 0, 0, 0, lN 12), (6, .invokestatic 123, 9, 124, 3, 0, 0, 0, 0), (9, .ifCond .ne 7, 12, 16, 0, 0, 0, 0, 0), (12, .ldc2_w 226, 15, 0, 0, 0, 0, 0, (-2)), (15, .lreturn, 16, 0, 0, 0, 0, 0, 0), (16, .aload_n 0, 17, 0, 0, 0, 0, 0, 0), (17, .iload_n 1, 18, 0, 0, 0, 0, 0, 0), (18, .invokevirtual 228, 21, 168, 1, 10, 0, 0, 0), (21, .aload_n 0, 22, 0, 0, 0, 0, 0, 0), (22, .getfield 79, 25, 10, 32, 3, 0, 0, 0), (25, .iconst 0, 26, 0, 0, 0, 0, nI 0, 0), (26, .laload, 27, 0, 0, 0, 0, 0, 0), (27, .lreturn, 28, 0, 0, 0, 0, 0, 0)]
def tx_Ref_rows : List Nat := [0, 0, 0, 8, 184, 0, 9, 0, 0, 0, 205, 0, 115, 0, 0, 0]
def tb_Ref_findRows : Tab_ := [(0, .aload_n 0, 1, 0, 0, 0, 0, 0, 0), (1, .invokevirtual 198, 4, 152, 0, 10, 0, 0, 0), (4, .iload_n 1, 5, 0, 0, 0, 0, 0, 0), (5, .istore_n 2, 6, 0, 0, 0, 0, 0, 0), (6, .iload_n 2, 7, 0, 0, 0, 0, 0, 0), (7, .ifCond .lt 126, 10, 133, 0, 0, 0, 0, 0), (10, .iconst 0, 11, 0, 0, 0, 0, nI 0, 0), (11, .istore_n 3, 12, 0, 0, 0, 0, 0, 0), (12, .iload_n 3, 13, 0, 0, 0, 0, 0, 0), (13, .aload_n 0, 14, 0, 0, 0, 0, 0, 0), (14, .getfield 186, 17, 10, 25, 0, 0, 0, 0), (17, .if_icmp .ge 110, 20, 127, 0, 0, 0, 0, 0), (20, .iload_n 2, 21, 0, 0, 0, 0, 0, 0), (21, .iload_n 1, 22, 0, 0, 0, 0, 0, 0), (22, .if_icmp .ne 7, 25, 29, 0, 0, 0, 0, 0), (25, .lconst 1, 26, 0, 0, 0, 0, 0, lN 1), (26, .goto 4, 29, 30, 0, 0, 0, 0, 0), (29, .lconst 0, 30, 0, 0, 0, 0, 0, lN 0), (30, .lstore 4, 32, 0, 0, 0, 0, 0, 0), (32, .iconst 0, 33, 0, 0, 0, 0, nI 0, 0), (33, .istore 6, 35, 0, 0, 0, 0, 0, 0), (35, .iload 6, 37, 0, 0, 0, 0, 0, 0), (37, .bipush 6, 39, 0, 0, 0, 0, nI 6, 0), (39, .if_icmp .ge 51, 42, 90, 0, 0, 0, 0, 0), (42, .iload_n 2, 43, 0, 0, 0, 0, 0, 0), (43, .iload_n 1, 44, 0, 0, 0, 0, 0, 0), (44, .if_icmp .ge 46, 47, 90, 0, 0, 0, 0, 0), (47, .aload_n 0, 48, 0, 0, 0, 0, 0, 0), (48, .getfield 57, 51, 10, 23, 3, 0, 0, 0), (51, .ldc 52, 53, 0, 0, 0, 0, nI 40320, 0), (53, .iload 6, 55, 0, 0, 0, 0, 0, 0), (55, .imul, 56, 0, 0, 0, 0, 0, 0), (56, .iload_n 3, 57, 0, 0, 0, 0, 0, 0), (57, .iadd, 58, 0, 0, 0, 0, 0, 0), (58, .iaload, 59, 0, 0, 0, 0, 0, 0), (59, .istore 7, 61, 0, 0, 0, 0, 0, 0), (61, .lload 4, 63, 0, 0, 0, 0, 0, 0), (63, .iload 7, 65, 0, 0, 0, 0, 0, 0), (65, .ifCond .ge 7, 68, 72, 0, 0, 0, 0, 0), (68, .lconst 0, 69, 0, 0, 0, 0, 0, lN 0), (69, .goto 12, 72, 81, 0, 0, 0, 0, 0), (72, .aload_n 0, 73, 0, 0, 0, 0, 0, 0), (73, .iload_n 2, 74, 0, 0, 0, 0, 0, 0), (74, .iconst 1, 75, 0, 0, 0, 0, nI 1, 0), (75, .iadd, 76, 0, 0, 0, 0, 0, 0), (76, .iload 7, 78, 0, 0, 0, 0, 0, 0), (78, .invokevirtual 218, 81, 169, 2, 10, 0, 0, 0), (81, .ladd, 82, 0, 0, 0, 0, 0, 0), (82, .lstore 4, 84, 0, 0, 0, 0, 0, 0), (84, .iinc 6 1, 87, 0, 0, 0, 0, nI 1, 0), (87, .goto (-52), 90, 35, 0, 0, 0, 0, 0), (90, .aload_n 0, 91, 0, 0, 0, 0, 0, 0), (91, .getfield 79, 94, 10, 32, 3, 0, 0, 0), (94, .ldc 52, 96, 0, 0, 0, 0, nI 40320, 0), (96, .iload_n 2, 97, 0, 0, 0, 0, 0, 0), (97, .imul, 98, 0, 0, 0, 0, 0, 0), (98, .iload_n 3, 99, 0, 0, 0, 0, 0, 0), (99, .iadd, 100, 0, 0, 0, 0, 0, 0), (100, .aload_n 0, 101, 0, 0, 0, 0, 0, 0), (101, .aload_n 0, 102, 0, 0, 0, 0, 0, 0), (102, .getfield 53, 105, 10, 22, 3, 0, 0, 0), (105, .iload_n 3, 106, 0, 0, 0, 0, 0, 0), (106, .iaload, 107, 0, 0, 0, 0, 0, 0), (107, .iload_n 2, 108, 0, 0, 0, 0, 0, 0), (108, .invokevirtual 222, 111, 170, 2, 10, 0, 0, 0), (111, .ifCond .eq 8, 114, 119, 0, 0, 0, 0, 0), (114, .lload 4, 116, 0, 0, 0, 0, 0, 0), (116, .goto 4, 119, 120, 0, 0, 0, 0, 0), (119, .lconst 0, 120, 0, 0, 0, 0, 0, lN 0), (120, .lastore, 121, 0, 0, 0, 0, 0, 0), (121, .iinc 3 1, 124, 0, 0, 0, 0, nI 1, 0), (124, .goto (-112), 127, 12, 0, 0, 0, 0, 0), (127, .iinc 2 (-1), 130, 0, 0, 0, 0, (-1), 0), (130, .goto (-124), 133, 6, 0, 0, 0, 0, 0), (133, .return_, 134, 0, 0, 0, 0, 0, 0)]
def tx_Ref_findRows : List Nat := [0, 198, 0, 0, 0, 0, 0, 0, 0, 0, 130, 0, 0, 0, 0, 0, 0, 0, 0, 0, 0, 0, 0, 0, 0, 0, 0, 0, 108, 4, 0, 0, 0, 0, 0, 0, 0, 0, 0, 0, 0, 0, 0, 0, 0, 0, 206, 0, 0, 0, 0, 0, 115, 4, 0, 0, 0, 0, 0, 0, 107, 0, 0, 0, 207, 0, 0, 0, 0, 0, 0, 0, 0, 0, 0]
def tb_Ref_onFrom : Tab_ := [(0, .aload_n 0, 1, 0, 0, 0, 0, 0, 0), (1, .getfield 79, 4, 10, 32, 3, 0, 0, 0), (4, .ldc 52, 6, 0, 0, 0, 0, nI 40320, 0), (6, .iload_n 1, 7, 0, 0, 0, 0, 0, 0), (7, .imul, 8, 0, 0, 0, 0, 0, 0), (8, .iload_n 2, 9, 0, 0, 0, 0, 0, 0), (9, .iadd, 10, 0, 0, 0, 0, 0, 0), (10, .laload, 11, 0, 0, 0, 0, 0, 0), (11, .lreturn, 12, 0, 0, 0, 0, 0, 0)]
def tx_Ref_onFrom : List Nat := [0, 115, 4, 0, 0, 0, 0, 0, 0]
def tb_Ref_fits : Tab_ := [(0, .iconst 1, 1, 0, 0, 0, 0, nI 1, 0), (1, .istore_n 3, 2, 0, 0, 0, 0, 0, 0), (2, .iconst 0, 3, 0, 0, 0, 0, nI 0, 0), (3, .istore 4, 5, 0, 0, 0, 0, 0, 0), (5, .iload 4, 7, 0, 0, 0, 0, 0, 0), (7, .aload_n 0, 8, 0, 0, 0, 0, 0, 0), (8, .getfield 113, 11, 10, 12, 0, 0, 0, 0), (11, .if_icmp .ge 54, 14, 65, 0, 0, 0, 0, 0), (14, .iload_n 3, 15, 0, 0, 0, 0, 0, 0), (15, .ifCond .eq 42, 18, 57, 0, 0, 0, 0, 0), (18, .aload_n 0, 19, 0, 0, 0, 0, 0, 0), (19, .getfield 25, 22, 10, 9, 3, 0, 0, 0), (22, .iload 4, 24, 0, 0, 0, 0, 0, 0), (24, .iaload, 25, 0, 0, 0, 0, 0, 0), (25, .iload_n 2, 26, 0, 0, 0, 0, 0, 0), (26, .if_icmp .ne 27, 29, 53, 0, 0, 0, 0, 0), (29, .iload_n 1, 30, 0, 0, 0, 0, 0, 0), (30, .iconst 3, 31, 0, 0, 0, 0, nI 3, 0), (31, .aload_n 0, 32, 0, 0, 0, 0, 0, 0), (32, .getfield 31, 35, 10, 11, 3, 0, 0, 0), (35, .iload 4, 37, 0, 0, 0, 0, 0, 0), (37, .iaload, 38, 0, 0, 0, 0, 0, 0), (38, .imul, 39, 0, 0, 0, 0, 0, 0), (39, .ishr, 40, 0, 0, 0, 0, 0, 0), (40, .bipush 7, 42, 0, 0, 0, 0, nI 7, 0), (42, .iand, 43, 0, 0, 0, 0, 0, 0), (43, .aload_n 0, 44, 0, 0, 0, 0, 0, 0), (44, .getfield 28, 47, 10, 10, 3, 0, 0, 0), (47, .iload 4, 49, 0, 0, 0, 0, 0, 0), (49, .iaload, 50, 0, 0, 0, 0, 0, 0), (50, .if_icmp .ne 7, 53, 57, 0, 0, 0, 0, 0), (53, .iconst 1, 54, 0, 0, 0, 0, nI 1, 0), (54, .goto 4, 57, 58, 0, 0, 0, 0, 0), (57, .iconst 0, 58, 0, 0, 0, 0, nI 0, 0), (58, .istore_n 3, 59, 0, 0, 0, 0, 0, 0), (59, .iinc 4 1, 62, 0, 0, 0, 0, nI 1, 0), (62, .goto (-57), 65, 5, 0, 0, 0, 0, 0), (65, .iload_n 3, 66, 0, 0, 0, 0, 0, 0), (66, .ireturn, 67, 1, 0, 0, 0, 0, 0)]
def tx_Ref_fits : List Nat := [0, 0, 0, 0, 0, 0, 124, 0, 0, 0, 0, 98, 0, 0, 0, 0, 0, 0, 0, 100, 0, 0, 0, 0, 0, 0, 0, 99, 0, 0, 0, 0, 0, 0, 0, 0, 0, 0, 0]
def tb_Ref_came : Tab_ := [(0, .iload_n 1, 1, 0, 0, 0, 0, 0, 0), (1, .i2l, 2, 0, 0, 0, 0, 0, 0), (2, .lconst 0, 3, 0, 0, 0, 0, 0, lN 0), (3, .ldc2_w 216, 6, 0, 0, 0, 0, 0, lN 12), (6, .invokestatic 123, 9, 124, 3, 0, 0, 0, 0), (9, .ifCond .eq 26, 12, 35, 0, 0, 0, 0, 0), (12, .iload_n 2, 13, 0, 0, 0, 0, 0, 0), (13, .i2l, 14, 0, 0, 0, 0, 0, 0), (14, .lconst 0, 15, 0, 0, 0, 0, 0, lN 0), (15, .iload_n 1, 16, 0, 0, 0, 0, 0, 0), (16, .iconst 1, 17, 0, 0, 0, 0, nI 1, 0), (17, .isub, 18, 0, 0, 0, 0, 0, 0), (18, .i2l, 19, 0, 0, 0, 0, 0, 0), (19, .invokestatic 123, 22, 124, 3, 0, 0, 0, 0), (22, .ifCond .eq 13, 25, 35, 0, 0, 0, 0, 0), (25, .iload_n 3, 26, 0, 0, 0, 0, 0, 0), (26, .i2l, 27, 0, 0, 0, 0, 0, 0), (27, .lconst 0, 28, 0, 0, 0, 0, 0, lN 0), (28, .lconst 1, 29, 0, 0, 0, 0, 0, lN 1), (29, .invokestatic 123, 32, 124, 3, 0, 0, 0, 0), (32, .ifCond .ne 6, 35, 38, 0, 0, 0, 0, 0), (35, .bipush (-2), 37, 0, 0, 0, 0, (-2), 0), (37, .ireturn, 38, 0, 0, 0, 0, 0, 0), (38, .aload_n 0, 39, 0, 0, 0, 0, 0, 0), (39, .iload_n 1, 40, 0, 0, 0, 0, 0, 0), (40, .invokevirtual 228, 43, 168, 1, 10, 0, 0, 0), (43, .aload_n 0, 44, 0, 0, 0, 0, 0, 0), (44, .getfield 79, 47, 10, 32, 3, 0, 0, 0), (47, .iconst 0, 48, 0, 0, 0, 0, nI 0, 0), (48, .laload, 49, 0, 0, 0, 0, 0, 0), (49, .lconst 0, 50, 0, 0, 0, 0, 0, lN 0), (50, .lcmp, 51, 0, 0, 0, 0, 0, 0), (51, .ifCond .ne 6, 54, 57, 0, 0, 0, 0, 0), (54, .bipush (-6), 56, 0, 0, 0, 0, (-6), 0), (56, .ireturn, 57, 0, 0, 0, 0, 0, 0), (57, .iload_n 3, 58, 0, 0, 0, 0, 0, 0), (58, .ifCond .ne 11, 61, 69, 0, 0, 0, 0, 0), (61, .aload_n 0, 62, 0, 0, 0, 0, 0, 0), (62, .iload_n 2, 63, 0, 0, 0, 0, 0, 0), (63, .invokevirtual 234, 66, 172, 1, 10, 0, 0, 0), (66, .goto 8, 69, 74, 0, 0, 0, 0, 0), (69, .aload_n 0, 70, 0, 0, 0, 0, 0, 0), (70, .iload_n 2, 71, 0, 0, 0, 0, 0, 0), (71, .invokevirtual 237, 74, 174, 1, 10, 0, 0, 0), (74, .ireturn, 75, 0, 0, 0, 0, 0, 0)]
def tx_Ref_came : List Nat := [0, 0, 0, 8, 184, 0, 0, 0, 0, 0, 0, 0, 0, 184, 0, 0, 0, 0, 0, 184, 0, 0, 0, 0, 0, 205, 0, 115, 0, 0, 0, 0, 0, 0, 0, 0, 0, 0, 0, 208, 0, 0, 0, 209, 0]
def tb_Ref_firstAt : Tab_ := [(0, .iconst 0, 1, 0, 0, 0, 0, nI 0, 0), (1, .istore_n 2, 2, 0, 0, 0, 0, 0, 0), (2, .iconst 0, 3, 0, 0, 0, 0, nI 0, 0), (3, .istore_n 3, 4, 0, 0, 0, 0, 0, 0), (4, .iload_n 3, 5, 0, 0, 0, 0, 0, 0), (5, .iload_n 1, 6, 0, 0, 0, 0, 0, 0), (6, .if_icmp .ge 26, 9, 32, 0, 0, 0, 0, 0), (9, .aload_n 0, 10, 0, 0, 0, 0, 0, 0), (10, .getfield 57, 13, 10, 23, 3, 0, 0, 0), (13, .ldc 52, 15, 0, 0, 0, 0, nI 40320, 0), (15, .aload_n 0, 16, 0, 0, 0, 0, 0, 0), (16, .iload_n 3, 17, 0, 0, 0, 0, 0, 0), (17, .iload_n 2, 18, 0, 0, 0, 0, 0, 0), (18, .invokevirtual 231, 21, 173, 2, 10, 0, 0, 0), (21, .imul, 22, 0, 0, 0, 0, 0, 0), (22, .iload_n 2, 23, 0, 0, 0, 0, 0, 0), (23, .iadd, 24, 0, 0, 0, 0, 0, 0), (24, .iaload, 25, 0, 0, 0, 0, 0, 0), (25, .istore_n 2, 26, 0, 0, 0, 0, 0, 0), (26, .iinc 3 1, 29, 0, 0, 0, 0, nI 1, 0), (29, .goto (-25), 32, 4, 0, 0, 0, 0, 0), (32, .bipush 65, 34, 0, 0, 0, 0, nI 65, 0), (34, .aload_n 0, 35, 0, 0, 0, 0, 0, 0), (35, .iload_n 1, 36, 0, 0, 0, 0, 0, 0), (36, .iload_n 2, 37, 0, 0, 0, 0, 0, 0), (37, .invokevirtual 231, 40, 173, 2, 10, 0, 0, 0), (40, .iadd, 41, 0, 0, 0, 0, 0, 0), (41, .ireturn, 42, 0, 0, 0, 0, 0, 0)]
def tx_Ref_firstAt : List Nat := [0, 0, 0, 0, 0, 0, 0, 0, 108, 4, 0, 0, 0, 210, 0, 0, 0, 0, 0, 0, 0, 0, 0, 0, 0, 210, 0, 0]
def tb_Ref_firstFrom : Tab_ := [(0, .iconst 0, 1, 0, 0, 0, 0, nI 0, 0), (1, .istore_n 3, 2, 0, 0, 0, 0, 0, 0), (2, .aload_n 0, 3, 0, 0, 0, 0, 0, 0), (3, .getfield 57, 6, 10, 23, 3, 0, 0, 0), (6, .iload_n 2, 7, 0, 0, 0, 0, 0, 0), (7, .iaload, 8, 0, 0, 0, 0, 0, 0), (8, .istore 4, 10, 0, 0, 0, 0, 0, 0), (10, .iload 4, 12, 0, 0, 0, 0, 0, 0), (12, .ifCond .lt 17, 15, 29, 0, 0, 0, 0, 0), (15, .aload_n 0, 16, 0, 0, 0, 0, 0, 0), (16, .iload_n 1, 17, 0, 0, 0, 0, 0, 0), (17, .iconst 1, 18, 0, 0, 0, 0, nI 1, 0), (18, .iadd, 19, 0, 0, 0, 0, 0, 0), (19, .iload 4, 21, 0, 0, 0, 0, 0, 0), (21, .invokevirtual 218, 24, 169, 2, 10, 0, 0, 0), (24, .lconst 0, 25, 0, 0, 0, 0, 0, lN 0), (25, .lcmp, 26, 0, 0, 0, 0, 0, 0), (26, .ifCond .ne 22, 29, 48, 0, 0, 0, 0, 0), (29, .iinc 3 1, 32, 0, 0, 0, 0, nI 1, 0), (32, .aload_n 0, 33, 0, 0, 0, 0, 0, 0), (33, .getfield 57, 36, 10, 23, 3, 0, 0, 0), (36, .ldc 52, 38, 0, 0, 0, 0, nI 40320, 0), (38, .iload_n 3, 39, 0, 0, 0, 0, 0, 0), (39, .imul, 40, 0, 0, 0, 0, 0, 0), (40, .iload_n 2, 41, 0, 0, 0, 0, 0, 0), (41, .iadd, 42, 0, 0, 0, 0, 0, 0), (42, .iaload, 43, 0, 0, 0, 0, 0, 0), (43, .istore 4, 45, 0, 0, 0, 0, 0, 0), (45, .goto (-35), 48, 10, 0, 0, 0, 0, 0), (48, .iload_n 3, 49, 0, 0, 0, 0, 0, 0), (49, .ireturn, 50, 0, 0, 0, 0, 0, 0)]
def tx_Ref_firstFrom : List Nat := [0, 0, 0, 108, 0, 0, 0, 0, 0, 0, 0, 0, 0, 0, 206, 0, 0, 0, 0, 0, 108, 4, 0, 0, 0, 0, 0, 0, 0, 0, 0]
def tb_Ref_bitsAt : Tab_ := [(0, .iconst 0, 1, 0, 0, 0, 0, nI 0, 0), (1, .istore_n 2, 2, 0, 0, 0, 0, 0, 0), (2, .iload_n 2, 3, 0, 0, 0, 0, 0, 0), (3, .aload_n 0, 4, 0, 0, 0, 0, 0, 0), (4, .getfield 186, 7, 10, 25, 0, 0, 0, 0), (7, .if_icmp .ge 24, 10, 31, 0, 0, 0, 0, 0), (10, .aload_n 0, 11, 0, 0, 0, 0, 0, 0), (11, .getfield 83, 14, 10, 33, 3, 0, 0, 0), (14, .iload_n 2, 15, 0, 0, 0, 0, 0, 0), (15, .iload_n 2, 16, 0, 0, 0, 0, 0, 0), (16, .ifCond .ne 7, 19, 23, 0, 0, 0, 0, 0), (19, .iconst 1, 20, 0, 0, 0, 0, nI 1, 0), (20, .goto 4, 23, 24, 0, 0, 0, 0, 0), (23, .iconst 0, 24, 0, 0, 0, 0, nI 0, 0), (24, .bastore, 25, 0, 0, 0, 0, 0, 0), (25, .iinc 2 1, 28, 0, 0, 0, 0, nI 1, 0), (28, .goto (-26), 31, 2, 0, 0, 0, 0, 0), (31, .iconst 0, 32, 0, 0, 0, 0, nI 0, 0), (32, .istore_n 2, 33, 0, 0, 0, 0, 0, 0), (33, .iconst 0, 34, 0, 0, 0, 0, nI 0, 0), (34, .istore_n 3, 35, 0, 0, 0, 0, 0, 0), (35, .iload_n 3, 36, 0, 0, 0, 0, 0, 0), (36, .iload_n 1, 37, 0, 0, 0, 0, 0, 0), (37, .if_icmp .gt 162, 40, 199, 0, 0, 0, 0, 0), (40, .iconst 0, 41, 0, 0, 0, 0, nI 0, 0), (41, .istore_n 2, 42, 0, 0, 0, 0, 0, 0), (42, .iconst 0, 43, 0, 0, 0, 0, nI 0, 0), (43, .istore 4, 45, 0, 0, 0, 0, 0, 0), (45, .iload 4, 47, 0, 0, 0, 0, 0, 0), (47, .aload_n 0, 48, 0, 0, 0, 0, 0, 0), (48, .getfield 186, 51, 10, 25, 0, 0, 0, 0), (51, .if_icmp .ge 17, 54, 68, 0, 0, 0, 0, 0), (54, .aload_n 0, 55, 0, 0, 0, 0, 0, 0), (55, .getfield 87, 58, 10, 34, 3, 0, 0, 0), (58, .iload 4, 60, 0, 0, 0, 0, 0, 0), (60, .iconst 0, 61, 0, 0, 0, 0, nI 0, 0), (61, .bastore, 62, 0, 0, 0, 0, 0, 0), (62, .iinc 4 1, 65, 0, 0, 0, 0, nI 1, 0), (65, .goto (-20), 68, 45, 0, 0, 0, 0, 0), (68, .iconst 0, 69, 0, 0, 0, 0, nI 0, 0), (69, .istore 4, 71, 0, 0, 0, 0, 0, 0), (71, .iload 4, 73, 0, 0, 0, 0, 0, 0), (73, .aload_n 0, 74, 0, 0, 0, 0, 0, 0), (74, .getfield 186, 77, 10, 25, 0, 0, 0, 0), (77, .if_icmp .ge 84, 80, 161, 0, 0, 0, 0, 0), (80, .iconst 0, 81, 0, 0, 0, 0, nI 0, 0), (81, .istore 5, 83, 0, 0, 0, 0, 0, 0), (83, .iload 5, 85, 0, 0, 0, 0, 0, 0), (85, .bipush 6, 87, 0, 0, 0, 0, nI 6, 0), (87, .if_icmp .ge 68, 90, 155, 0, 0, 0, 0, 0), (90, .aload_n 0, 91, 0, 0, 0, 0, 0, 0), (91, .getfield 83, 94, 10, 33, 3, 0, 0, 0), (94, .iload 4, 96, 0, 0, 0, 0, 0, 0), (96, .baload, 97, 0, 0, 0, 0, 0, 0), (97, .ifCond .eq 58, 100, 155, 0, 0, 0, 0, 0), (100, .aload_n 0, 101, 0, 0, 0, 0, 0, 0), (101, .getfield 57, 104, 10, 23, 3, 0, 0, 0), (104, .ldc 52, 106, 0, 0, 0, 0, nI 40320, 0), (106, .iload 5, 108, 0, 0, 0, 0, 0, 0), (108, .imul, 109, 0, 0, 0, 0, 0, 0), (109, .iload 4, 111, 0, 0, 0, 0, 0, 0), (111, .iadd, 112, 0, 0, 0, 0, 0, 0), (112, .iaload, 113, 0, 0, 0, 0, 0, 0), (113, .istore 6, 115, 0, 0, 0, 0, 0, 0), (115, .iload 6, 117, 0, 0, 0, 0, 0, 0), (117, .ifCond .lt 32, 120, 149, 0, 0, 0, 0, 0), (120, .aload_n 0, 121, 0, 0, 0, 0, 0, 0), (121, .iload_n 3, 122, 0, 0, 0, 0, 0, 0), (122, .iconst 1, 123, 0, 0, 0, 0, nI 1, 0), (123, .iadd, 124, 0, 0, 0, 0, 0, 0), (124, .iload 6, 126, 0, 0, 0, 0, 0, 0), (126, .invokevirtual 218, 129, 169, 2, 10, 0, 0, 0), (129, .lconst 0, 130, 0, 0, 0, 0, 0, lN 0), (130, .lcmp, 131, 0, 0, 0, 0, 0, 0), (131, .ifCond .le 18, 134, 149, 0, 0, 0, 0, 0), (134, .aload_n 0, 135, 0, 0, 0, 0, 0, 0), (135, .getfield 87, 138, 10, 34, 3, 0, 0, 0), (138, .iload 6, 140, 0, 0, 0, 0, 0, 0), (140, .iconst 1, 141, 0, 0, 0, 0, nI 1, 0), (141, .bastore, 142, 0, 0, 0, 0, 0, 0), (142, .iload_n 2, 143, 0, 0, 0, 0, 0, 0), (143, .iconst 1, 144, 0, 0, 0, 0, nI 1, 0), (144, .iload 5, 146, 0, 0, 0, 0, 0, 0), (146, .ishl, 147, 0, 0, 0, 0, 0, 0), (147, .ior, 148, 0, 0, 0, 0, 0, 0), (148, .istore_n 2, 149, 0, 0, 0, 0, 0, 0), (149, .iinc 5 1, 152, 0, 0, 0, 0, nI 1, 0), (152, .goto (-69), 155, 83, 0, 0, 0, 0, 0), (155, .iinc 4 1, 158, 0, 0, 0, 0, nI 1, 0), (158, .goto (-87), 161, 71, 0, 0, 0, 0, 0), (161, .iconst 0, 162, 0, 0, 0, 0, nI 0, 0), (162, .istore 4, 164, 0, 0, 0, 0, 0, 0), (164, .iload 4, 166, 0, 0, 0, 0, 0, 0), (166, .aload_n 0, 167, 0, 0, 0, 0, 0, 0), (167, .getfield 186, 170, 10, 25, 0, 0, 0, 0), (170, .if_icmp .ge 23, 173, 193, 0, 0, 0, 0, 0), (173, .aload_n 0, 174, 0, 0, 0, 0, 0, 0), (174, .getfield 83, 177, 10, 33, 3, 0, 0, 0), (177, .iload 4, 179, 0, 0, 0, 0, 0, 0), (179, .aload_n 0, 180, 0, 0, 0, 0, 0, 0), (180, .getfield 87, 183, 10, 34, 3, 0, 0, 0), (183, .iload 4, 185, 0, 0, 0, 0, 0, 0), (185, .baload, 186, 0, 0, 0, 0, 0, 0), (186, .bastore, 187, 0, 0, 0, 0, 0, 0), (187, .iinc 4 1, 190, 0, 0, 0, 0, nI 1, 0), (190, .goto (-26), 193, 164, 0, 0, 0, 0, 0), (193, .iinc 3 1, 196, 0, 0, 0, 0, nI 1, 0), (196, .goto (-161), 199, 35, 0, 0, 0, 0, 0), (199, .iload_n 2, 200, 0, 0, 0, 0, 0, 0), (200, .ireturn, 201, 0, 0, 0, 0, 0, 0)]
def tx_Ref_bitsAt : List Nat := [0, 0, 0, 0, 130, 0, 0, 116, 0, 0, 0, 0, 0, 0, 0, 0, 0, 0, 0, 0, 0, 0, 0, 0, 0, 0, 0, 0, 0, 0, 130, 0, 0, 117, 0, 0, 0, 0, 0, 0, 0, 0, 0, 130, 0, 0, 0, 0, 0, 0, 0, 116, 0, 0, 0, 0, 108, 4, 0, 0, 0, 0, 0, 0, 0, 0, 0, 0, 0, 0, 0, 206, 0, 0, 0, 0, 117, 0, 0, 0, 0, 0, 0, 0, 0, 0, 0, 0, 0, 0, 0, 0, 0, 0, 130, 0, 0, 116, 0, 0, 117, 0, 0, 0, 0, 0, 0, 0, 0, 0]
def tb_Ref_wish : Tab_ := [(0, .aload_n 0, 1, 0, 0, 0, 0, 0, 0), (1, .iload_n 1, 2, 0, 0, 0, 0, 0, 0), (2, .invokevirtual 136, 5, 129, 1, 10, 0, 0, 0), (5, .ifCond .eq 11, 8, 16, 0, 0, 0, 0, 0), (8, .aload_n 0, 9, 0, 0, 0, 0, 0, 0), (9, .iload_n 2, 10, 0, 0, 0, 0, 0, 0), (10, .invokevirtual 136, 13, 129, 1, 10, 0, 0, 0), (13, .ifCond .ne 5, 16, 18, 0, 0, 0, 0, 0), (16, .iconst (-1), 17, 0, 0, 0, 0, (-1), 0), (17, .ireturn, 18, 0, 0, 0, 0, 0, 0), (18, .iload_n 3, 19, 0, 0, 0, 0, 0, 0), (19, .i2l, 20, 0, 0, 0, 0, 0, 0), (20, .lconst 1, 21, 0, 0, 0, 0, 0, lN 1), (21, .ldc2_w 240, 24, 0, 0, 0, 0, 0, lN 99), (24, .invokestatic 123, 27, 124, 3, 0, 0, 0, 0), (27, .ifCond .ne 6, 30, 33, 0, 0, 0, 0, 0), (30, .bipush (-2), 32, 0, 0, 0, 0, (-2), 0), (32, .ireturn, 33, 0, 0, 0, 0, 0, 0), (33, .aload_n 0, 34, 0, 0, 0, 0, 0, 0), (34, .getfield 116, 37, 10, 16, 0, 0, 0, 0), (37, .bipush 6, 39, 0, 0, 0, 0, nI 6, 0), (39, .if_icmp .ne 6, 42, 45, 0, 0, 0, 0, 0), (42, .bipush (-4), 44, 0, 0, 0, 0, (-4), 0), (44, .ireturn, 45, 0, 0, 0, 0, 0, 0), (45, .aload_n 0, 46, 0, 0, 0, 0, 0, 0), (46, .getfield 34, 49, 10, 13, 3, 0, 0, 0), (49, .aload_n 0, 50, 0, 0, 0, 0, 0, 0), (50, .getfield 116, 53, 10, 16, 0, 0, 0, 0), (53, .iload_n 1, 54, 0, 0, 0, 0, 0, 0), (54, .iastore, 55, 0, 0, 0, 0, 0, 0), (55, .aload_n 0, 56, 0, 0, 0, 0, 0, 0), (56, .getfield 37, 59, 10, 14, 3, 0, 0, 0), (59, .aload_n 0, 60, 0, 0, 0, 0, 0, 0), (60, .getfield 116, 63, 10, 16, 0, 0, 0, 0), (63, .iload_n 2, 64, 0, 0, 0, 0, 0, 0), (64, .iastore, 65, 0, 0, 0, 0, 0, 0), (65, .aload_n 0, 66, 0, 0, 0, 0, 0, 0), (66, .getfield 40, 69, 10, 15, 3, 0, 0, 0), (69, .aload_n 0, 70, 0, 0, 0, 0, 0, 0), (70, .getfield 116, 73, 10, 16, 0, 0, 0, 0), (73, .iload_n 3, 74, 0, 0, 0, 0, 0, 0), (74, .iastore, 75, 0, 0, 0, 0, 0, 0), (75, .aload_n 0, 76, 0, 0, 0, 0, 0, 0), (76, .dup, 77, 0, 0, 0, 0, 0, 0), (77, .getfield 116, 80, 10, 16, 0, 0, 0, 0), (80, .iconst 1, 81, 0, 0, 0, 0, nI 1, 0), (81, .iadd, 82, 0, 0, 0, 0, 0, 0), (82, .putfield 116, 85, 10, 16, 0, 0, 0, 0), (85, .aload_n 0, 86, 0, 0, 0, 0, 0, 0), (86, .getfield 116, 89, 10, 16, 0, 0, 0, 0), (89, .ireturn, 90, 0, 0, 0, 0, 0, 0)]
def tx_Ref_wish : List Nat := [0, 0, 187, 0, 0, 0, 187, 0, 0, 0, 0, 0, 0, 10, 184, 0, 0, 0, 0, 125, 0, 0, 0, 0, 0, 101, 0, 125, 0, 0, 0, 102, 0, 125, 0, 0, 0, 103, 0, 125, 0, 0, 0, 0, 125, 0, 0, 125, 0, 125, 0]
def tb_Ref_drop : Tab_ := [(0, .aload_n 0, 1, 0, 0, 0, 0, 0, 0), (1, .getfield 116, 4, 10, 16, 0, 0, 0, 0), (4, .istore_n 1, 5, 0, 0, 0, 0, 0, 0), (5, .aload_n 0, 6, 0, 0, 0, 0, 0, 0), (6, .iconst 0, 7, 0, 0, 0, 0, nI 0, 0), (7, .putfield 116, 10, 10, 16, 0, 0, 0, 0), (10, .iload_n 1, 11, 0, 0, 0, 0, 0, 0), (11, .ireturn, 12, 0, 0, 0, 0, 0, 0)]
def tx_Ref_drop : List Nat := [0, 125, 0, 0, 0, 125, 0, 0]
def tb_Ref_served : Tab_ := [(0, .iload_n 1, 1, 0, 0, 0, 0, 0, 0), (1, .i2l, 2, 0, 0, 0, 0, 0, 0), (2, .lconst 0, 3, 0, 0, 0, 0, 0, lN 0), (3, .ldc2_w 248, 6, 0, 0, 0, 0, 0, lN 6), (6, .invokestatic 123, 9, 124, 3, 0, 0, 0, 0), (9, .ifCond .ne 6, 12, 15, 0, 0, 0, 0, 0), (12, .bipush (-2), 14, 0, 0, 0, 0, (-2), 0), (14, .ireturn, 15, 0, 0, 0, 0, 0, 0), (15, .aload_n 0, 16, 0, 0, 0, 0, 0, 0), (16, .invokevirtual 157, 19, 134, 0, 10, 0, 0, 0), (19, .aload_n 0, 20, 0, 0, 0, 0, 0, 0), (20, .invokevirtual 250, 23, 178, 0, 10, 0, 0, 0), (23, .iconst 1, 24, 0, 0, 0, 0, nI 1, 0), (24, .istore_n 3, 25, 0, 0, 0, 0, 0, 0), (25, .iconst 0, 26, 0, 0, 0, 0, nI 0, 0), (26, .istore 4, 28, 0, 0, 0, 0, 0, 0), (28, .iload 4, 30, 0, 0, 0, 0, 0, 0), (30, .iload_n 1, 31, 0, 0, 0, 0, 0, 0), (31, .if_icmp .ge 16, 34, 47, 0, 0, 0, 0, 0), (34, .iload_n 3, 35, 0, 0, 0, 0, 0, 0), (35, .aload_n 0, 36, 0, 0, 0, 0, 0, 0), (36, .getfield 242, 39, 10, 36, 0, 0, 0, 0), (39, .imul, 40, 0, 0, 0, 0, 0, 0), (40, .istore_n 3, 41, 0, 0, 0, 0, 0, 0), (41, .iinc 4 1, 44, 0, 0, 0, 0, nI 1, 0), (44, .goto (-16), 47, 28, 0, 0, 0, 0, 0), (47, .bipush (-6), 49, 0, 0, 0, 0, (-6), 0), (49, .istore 4, 51, 0, 0, 0, 0, 0, 0), (51, .iconst 0, 52, 0, 0, 0, 0, nI 0, 0), (52, .istore 5, 54, 0, 0, 0, 0, 0, 0), (54, .iconst 0, 55, 0, 0, 0, 0, nI 0, 0), (55, .istore 6, 57, 0, 0, 0, 0, 0, 0), (57, .iload 6, 59, 0, 0, 0, 0, 0, 0), (59, .iload_n 3, 60, 0, 0, 0, 0, 0, 0), (60, .if_icmp .ge 34, 63, 94, 0, 0, 0, 0, 0), (63, .aload_n 0, 64, 0, 0, 0, 0, 0, 0), (64, .iload 6, 66, 0, 0, 0, 0, 0, 0), (66, .iload_n 1, 67, 0, 0, 0, 0, 0, 0), (67, .iload_n 3, 68, 0, 0, 0, 0, 0, 0), (68, .invokevirtual 253, 71, 179, 3, 10, 0, 0, 0), (71, .istore 7, 73, 0, 0, 0, 0, 0, 0), (73, .iload 7, 75, 0, 0, 0, 0, 0, 0), (75, .iload 4, 77, 0, 0, 0, 0, 0, 0), (77, .if_icmp .le 11, 80, 88, 0, 0, 0, 0, 0), (80, .iload 7, 82, 0, 0, 0, 0, 0, 0), (82, .istore 4, 84, 0, 0, 0, 0, 0, 0), (84, .iload 6, 86, 0, 0, 0, 0, 0, 0), (86, .istore 5, 88, 0, 0, 0, 0, 0, 0), (88, .iinc 6 1, 91, 0, 0, 0, 0, nI 1, 0), (91, .goto (-34), 94, 57, 0, 0, 0, 0, 0), (94, .iload 4, 96, 0, 0, 0, 0, 0, 0), (96, .ifCond .lt 8, 99, 104, 0, 0, 0, 0, 0), (99, .iload_n 2, 100, 0, 0, 0, 0, 0, 0), (100, .iconst (-1), 101, 0, 0, 0, 0, (-1), 0), (101, .if_icmp .ne 6, 104, 107, 0, 0, 0, 0, 0), (104, .iload 4, 106, 0, 0, 0, 0, 0, 0), (106, .ireturn, 107, 0, 0, 0, 0, 0, 0), (107, .iload_n 2, 108, 0, 0, 0, 0, 0, 0), (108, .i2l, 109, 0, 0, 0, 0, 0, 0), (109, .lconst 0, 110, 0, 0, 0, 0, 0, lN 0), (110, .iload_n 1, 111, 0, 0, 0, 0, 0, 0), (111, .iconst 1, 112, 0, 0, 0, 0, nI 1, 0), (112, .isub, 113, 0, 0, 0, 0, 0, 0), (113, .i2l, 114, 0, 0, 0, 0, 0, 0), (114, .invokestatic 123, 117, 124, 3, 0, 0, 0, 0), (117, .ifCond .ne 6, 120, 123, 0, 0, 0, 0, 0), (120, .bipush (-6), 122, 0, 0, 0, 0, (-6), 0), (122, .ireturn, 123, 0, 0, 0, 0, 0, 0), (123, .iload_n 3, 124, 0, 0, 0, 0, 0, 0), (124, .istore 6, 126, 0, 0, 0, 0, 0, 0), (126, .iconst 0, 127, 0, 0, 0, 0, nI 0, 0), (127, .istore 7, 129, 0, 0, 0, 0, 0, 0), (129, .iload 7, 131, 0, 0, 0, 0, 0, 0), (131, .iload_n 2, 132, 0, 0, 0, 0, 0, 0), (132, .if_icmp .gt 18, 135, 150, 0, 0, 0, 0, 0), (135, .iload 6, 137, 0, 0, 0, 0, 0, 0), (137, .aload_n 0, 138, 0, 0, 0, 0, 0, 0), (138, .getfield 242, 141, 10, 36, 0, 0, 0, 0), (141, .idiv, 142, 0, 0, 0, 0, 0, 0), (142, .istore 6, 144, 0, 0, 0, 0, 0, 0), (144, .iinc 7 1, 147, 0, 0, 0, 0, nI 1, 0), (147, .goto (-18), 150, 129, 0, 0, 0, 0, 0), (150, .bipush 65, 152, 0, 0, 0, 0, nI 65, 0), (152, .aload_n 0, 153, 0, 0, 0, 0, 0, 0), (153, .getfield 90, 156, 10, 35, 3, 0, 0, 0), (156, .iload 5, 158, 0, 0, 0, 0, 0, 0), (158, .iload 6, 160, 0, 0, 0, 0, 0, 0), (160, .idiv, 161, 0, 0, 0, 0, 0, 0), (161, .aload_n 0, 162, 0, 0, 0, 0, 0, 0), (162, .getfield 242, 165, 10, 36, 0, 0, 0, 0), (165, .irem, 166, 0, 0, 0, 0, 0, 0), (166, .iaload, 167, 0, 0, 0, 0, 0, 0), (167, .iadd, 168, 0, 0, 0, 0, 0, 0), (168, .ireturn, 169, 0, 0, 0, 0, 0, 0)]
def tx_Ref_served : List Nat := [0, 0, 0, 11, 184, 0, 0, 0, 0, 189, 0, 211, 0, 0, 0, 0, 0, 0, 0, 0, 0, 131, 0, 0, 0, 0, 0, 0, 0, 0, 0, 0, 0, 0, 0, 0, 0, 0, 0, 212, 0, 0, 0, 0, 0, 0, 0, 0, 0, 0, 0, 0, 0, 0, 0, 0, 0, 0, 0, 0, 0, 0, 0, 0, 184, 0, 0, 0, 0, 0, 0, 0, 0, 0, 0, 0, 0, 131, 0, 0, 0, 0, 0, 0, 118, 0, 0, 0, 0, 131, 0, 0, 0, 0]
def tb_Ref_findMay : Tab_ := [(0, .aload_n 0, 1, 0, 0, 0, 0, 0, 0), (1, .iconst 0, 2, 0, 0, 0, 0, nI 0, 0), (2, .putfield 242, 5, 10, 36, 0, 0, 0, 0), (5, .iconst 0, 6, 0, 0, 0, 0, nI 0, 0), (6, .istore_n 1, 7, 0, 0, 0, 0, 0, 0), (7, .iload_n 1, 8, 0, 0, 0, 0, 0, 0), (8, .bipush 6, 10, 0, 0, 0, 0, nI 6, 0), (10, .if_icmp .ge 37, 13, 47, 0, 0, 0, 0, 0), (13, .aload_n 0, 14, 0, 0, 0, 0, 0, 0), (14, .iload_n 1, 15, 0, 0, 0, 0, 0, 0), (15, .invokevirtual 164, 18, 140, 1, 10, 0, 0, 0), (18, .ifCond .eq 23, 21, 41, 0, 0, 0, 0, 0), (21, .aload_n 0, 22, 0, 0, 0, 0, 0, 0), (22, .getfield 90, 25, 10, 35, 3, 0, 0, 0), (25, .aload_n 0, 26, 0, 0, 0, 0, 0, 0), (26, .getfield 242, 29, 10, 36, 0, 0, 0, 0), (29, .iload_n 1, 30, 0, 0, 0, 0, 0, 0), (30, .iastore, 31, 0, 0, 0, 0, 0, 0), (31, .aload_n 0, 32, 0, 0, 0, 0, 0, 0), (32, .dup, 33, 0, 0, 0, 0, 0, 0), (33, .getfield 242, 36, 10, 36, 0, 0, 0, 0), (36, .iconst 1, 37, 0, 0, 0, 0, nI 1, 0), (37, .iadd, 38, 0, 0, 0, 0, 0, 0), (38, .putfield 242, 41, 10, 36, 0, 0, 0, 0), (41, .iinc 1 1, 44, 0, 0, 0, 0, nI 1, 0), (44, .goto (-37), 47, 7, 0, 0, 0, 0, 0), (47, .return_, 48, 0, 0, 0, 0, 0, 0)]
def tx_Ref_findMay : List Nat := [0, 0, 131, 0, 0, 0, 0, 0, 0, 0, 192, 0, 0, 118, 0, 131, 0, 0, 0, 0, 131, 0, 0, 131, 0, 0, 0]
def tb_Ref_worthOf : Tab_ := [(0, .aload_n 0, 1, 0, 0, 0, 0, 0, 0), (1, .invokevirtual 201, 4, 157, 0, 10, 0, 0, 0), (4, .istore 4, 6, 0, 0, 0, 0, 0, 0), (6, .aload_n 0, 7, 0, 0, 0, 0, 0, 0), (7, .iload 4, 9, 0, 0, 0, 0, 0, 0), (9, .invokevirtual 245, 12, 180, 1, 10, 0, 0, 0), (12, .istore 5, 14, 0, 0, 0, 0, 0, 0), (14, .iload_n 3, 15, 0, 0, 0, 0, 0, 0), (15, .istore 6, 17, 0, 0, 0, 0, 0, 0), (17, .iload_n 1, 18, 0, 0, 0, 0, 0, 0), (18, .istore 7, 20, 0, 0, 0, 0, 0, 0), (20, .iconst 0, 21, 0, 0, 0, 0, nI 0, 0), (21, .istore 8, 23, 0, 0, 0, 0, 0, 0), (23, .iload 8, 25, 0, 0, 0, 0, 0, 0), (25, .iload_n 2, 26, 0, 0, 0, 0, 0, 0), (26, .if_icmp .ge 54, 29, 80, 0, 0, 0, 0, 0), (29, .iload 6, 31, 0, 0, 0, 0, 0, 0), (31, .aload_n 0, 32, 0, 0, 0, 0, 0, 0), (32, .getfield 242, 35, 10, 36, 0, 0, 0, 0), (35, .idiv, 36, 0, 0, 0, 0, 0, 0), (36, .istore 6, 38, 0, 0, 0, 0, 0, 0), (38, .aload_n 0, 39, 0, 0, 0, 0, 0, 0), (39, .iload 4, 41, 0, 0, 0, 0, 0, 0), (41, .aload_n 0, 42, 0, 0, 0, 0, 0, 0), (42, .getfield 90, 45, 10, 35, 3, 0, 0, 0), (45, .iload 7, 47, 0, 0, 0, 0, 0, 0), (47, .iload 6, 49, 0, 0, 0, 0, 0, 0), (49, .idiv, 50, 0, 0, 0, 0, 0, 0), (50, .iaload, 51, 0, 0, 0, 0, 0, 0), (51, .invokevirtual 192, 54, 154, 2, 10, 0, 0, 0), (54, .istore 4, 56, 0, 0, 0, 0, 0, 0), (56, .iload 7, 58, 0, 0, 0, 0, 0, 0), (58, .iload 6, 60, 0, 0, 0, 0, 0, 0), (60, .irem, 61, 0, 0, 0, 0, 0, 0), (61, .istore 7, 63, 0, 0, 0, 0, 0, 0), (63, .iload 5, 65, 0, 0, 0, 0, 0, 0), (65, .aload_n 0, 66, 0, 0, 0, 0, 0, 0), (66, .iload 4, 68, 0, 0, 0, 0, 0, 0), (68, .invokevirtual 245, 71, 180, 1, 10, 0, 0, 0), (71, .ior, 72, 0, 0, 0, 0, 0, 0), (72, .istore 5, 74, 0, 0, 0, 0, 0, 0), (74, .iinc 8 1, 77, 0, 0, 0, 0, nI 1, 0), (77, .goto (-54), 80, 23, 0, 0, 0, 0, 0), (80, .iconst 0, 81, 0, 0, 0, 0, nI 0, 0), (81, .istore 8, 83, 0, 0, 0, 0, 0, 0), (83, .iconst 0, 84, 0, 0, 0, 0, nI 0, 0), (84, .istore 9, 86, 0, 0, 0, 0, 0, 0), (86, .iload 9, 88, 0, 0, 0, 0, 0, 0), (88, .aload_n 0, 89, 0, 0, 0, 0, 0, 0), (89, .getfield 116, 92, 10, 16, 0, 0, 0, 0), (92, .if_icmp .ge 36, 95, 128, 0, 0, 0, 0, 0), (95, .iload 8, 97, 0, 0, 0, 0, 0, 0), (97, .iload 5, 99, 0, 0, 0, 0, 0, 0), (99, .iload 9, 101, 0, 0, 0, 0, 0, 0), (101, .ishr, 102, 0, 0, 0, 0, 0, 0), (102, .iconst 1, 103, 0, 0, 0, 0, nI 1, 0), (103, .iand, 104, 0, 0, 0, 0, 0, 0), (104, .iconst 1, 105, 0, 0, 0, 0, nI 1, 0), (105, .if_icmp .ne 13, 108, 118, 0, 0, 0, 0, 0), (108, .aload_n 0, 109, 0, 0, 0, 0, 0, 0), (109, .getfield 40, 112, 10, 15, 3, 0, 0, 0), (112, .iload 9, 114, 0, 0, 0, 0, 0, 0), (114, .iaload, 115, 0, 0, 0, 0, 0, 0), (115, .goto 4, 118, 119, 0, 0, 0, 0, 0), (118, .iconst 0, 119, 0, 0, 0, 0, nI 0, 0), (119, .iadd, 120, 0, 0, 0, 0, 0, 0), (120, .istore 8, 122, 0, 0, 0, 0, 0, 0), (122, .iinc 9 1, 125, 0, 0, 0, 0, nI 1, 0), (125, .goto (-39), 128, 86, 0, 0, 0, 0, 0), (128, .iload 8, 130, 0, 0, 0, 0, 0, 0), (130, .ireturn, 131, 0, 0, 0, 0, 0, 0)]
def tx_Ref_worthOf : List Nat := [0, 199, 0, 0, 0, 213, 0, 0, 0, 0, 0, 0, 0, 0, 0, 0, 0, 0, 131, 0, 0, 0, 0, 0, 118, 0, 0, 0, 0, 202, 0, 0, 0, 0, 0, 0, 0, 0, 213, 0, 0, 0, 0, 0, 0, 0, 0, 0, 0, 125, 0, 0, 0, 0, 0, 0, 0, 0, 0, 0, 103, 0, 0, 0, 0, 0, 0, 0, 0, 0, 0]
def tb_Ref_holding : Tab_ := [(0, .iconst 0, 1, 0, 0, 0, 0, nI 0, 0), (1, .istore_n 2, 2, 0, 0, 0, 0, 0, 0), (2, .iconst 0, 3, 0, 0, 0, 0, nI 0, 0), (3, .istore_n 3, 4, 0, 0, 0, 0, 0, 0), (4, .iload_n 3, 5, 0, 0, 0, 0, 0, 0), (5, .aload_n 0, 6, 0, 0, 0, 0, 0, 0), (6, .getfield 116, 9, 10, 16, 0, 0, 0, 0), (9, .if_icmp .ge 41, 12, 50, 0, 0, 0, 0, 0), (12, .iload_n 2, 13, 0, 0, 0, 0, 0, 0), (13, .iload_n 1, 14, 0, 0, 0, 0, 0, 0), (14, .iconst 3, 15, 0, 0, 0, 0, nI 3, 0), (15, .aload_n 0, 16, 0, 0, 0, 0, 0, 0), (16, .getfield 37, 19, 10, 14, 3, 0, 0, 0), (19, .iload_n 3, 20, 0, 0, 0, 0, 0, 0), (20, .iaload, 21, 0, 0, 0, 0, 0, 0), (21, .imul, 22, 0, 0, 0, 0, 0, 0), (22, .ishr, 23, 0, 0, 0, 0, 0, 0), (23, .bipush 7, 25, 0, 0, 0, 0, nI 7, 0), (25, .iand, 26, 0, 0, 0, 0, 0, 0), (26, .aload_n 0, 27, 0, 0, 0, 0, 0, 0), (27, .getfield 34, 30, 10, 13, 3, 0, 0, 0), (30, .iload_n 3, 31, 0, 0, 0, 0, 0, 0), (31, .iaload, 32, 0, 0, 0, 0, 0, 0), (32, .if_icmp .ne 9, 35, 41, 0, 0, 0, 0, 0), (35, .iconst 1, 36, 0, 0, 0, 0, nI 1, 0), (36, .iload_n 3, 37, 0, 0, 0, 0, 0, 0), (37, .ishl, 38, 0, 0, 0, 0, 0, 0), (38, .goto 4, 41, 42, 0, 0, 0, 0, 0), (41, .iconst 0, 42, 0, 0, 0, 0, nI 0, 0), (42, .ior, 43, 0, 0, 0, 0, 0, 0), (43, .istore_n 2, 44, 0, 0, 0, 0, 0, 0), (44, .iinc 3 1, 47, 0, 0, 0, 0, nI 1, 0), (47, .goto (-43), 50, 4, 0, 0, 0, 0, 0), (50, .iload_n 2, 51, 0, 0, 0, 0, 0, 0), (51, .ireturn, 52, 0, 0, 0, 0, 0, 0)]
def tx_Ref_holding : List Nat := [0, 0, 0, 0, 0, 0, 125, 0, 0, 0, 0, 0, 102, 0, 0, 0, 0, 0, 0, 0, 101, 0, 0, 0, 0, 0, 0, 0, 0, 0, 0, 0, 0, 0, 0]
def tb_Ref_night : Tab_ := [(0, .aload_n 0, 1, 0, 0, 0, 0, 0, 0), (1, .iload_n 3, 2, 0, 0, 0, 0, 0, 0), (2, .invokevirtual 136, 5, 129, 1, 10, 0, 0, 0), (5, .ifCond .ne 5, 8, 10, 0, 0, 0, 0, 0), (8, .iconst (-1), 9, 0, 0, 0, 0, (-1), 0), (9, .ireturn, 10, 0, 0, 0, 0, 0, 0), (10, .iload_n 1, 11, 0, 0, 0, 0, 0, 0), (11, .i2l, 12, 0, 0, 0, 0, 0, 0), (12, .lconst 0, 13, 0, 0, 0, 0, 0, lN 0), (13, .ldc2_w 257, 16, 0, 0, 0, 0, 0, lN 9999), (16, .invokestatic 123, 19, 124, 3, 0, 0, 0, 0), (19, .ifCond .eq 26, 22, 45, 0, 0, 0, 0, 0), (22, .iload_n 2, 23, 0, 0, 0, 0, 0, 0), (23, .i2l, 24, 0, 0, 0, 0, 0, 0), (24, .lconst 0, 25, 0, 0, 0, 0, 0, lN 0), (25, .ldc2_w 240, 28, 0, 0, 0, 0, 0, lN 99), (28, .invokestatic 123, 31, 124, 3, 0, 0, 0, 0), (31, .ifCond .eq 14, 34, 45, 0, 0, 0, 0, 0), (34, .iload 4, 36, 0, 0, 0, 0, 0, 0), (36, .i2l, 37, 0, 0, 0, 0, 0, 0), (37, .lconst 0, 38, 0, 0, 0, 0, 0, lN 0), (38, .lconst 1, 39, 0, 0, 0, 0, 0, lN 1), (39, .invokestatic 123, 42, 124, 3, 0, 0, 0, 0), (42, .ifCond .ne 6, 45, 48, 0, 0, 0, 0, 0), (45, .bipush (-2), 47, 0, 0, 0, 0, (-2), 0), (47, .ireturn, 48, 0, 0, 0, 0, 0, 0), (48, .aload_n 0, 49, 0, 0, 0, 0, 0, 0), (49, .invokevirtual 157, 52, 134, 0, 10, 0, 0, 0), (52, .aload_n 0, 53, 0, 0, 0, 0, 0, 0), (53, .invokevirtual 250, 56, 178, 0, 10, 0, 0, 0), (56, .aload_n 0, 57, 0, 0, 0, 0, 0, 0), (57, .iload_n 3, 58, 0, 0, 0, 0, 0, 0), (58, .invokevirtual 170, 61, 144, 1, 10, 0, 0, 0), (61, .istore 5, 63, 0, 0, 0, 0, 0, 0), (63, .iconst 1, 64, 0, 0, 0, 0, nI 1, 0), (64, .iload 5, 66, 0, 0, 0, 0, 0, 0), (66, .ishl, 67, 0, 0, 0, 0, 0, 0), (67, .istore 6, 69, 0, 0, 0, 0, 0, 0), (69, .iload_n 1, 70, 0, 0, 0, 0, 0, 0), (70, .istore 7, 72, 0, 0, 0, 0, 0, 0), (72, .iconst 0, 73, 0, 0, 0, 0, nI 0, 0), (73, .istore 8, 75, 0, 0, 0, 0, 0, 0), (75, .iload 8, 77, 0, 0, 0, 0, 0, 0), (77, .iload_n 2, 78, 0, 0, 0, 0, 0, 0), (78, .if_icmp .ge 68, 81, 146, 0, 0, 0, 0, 0), (81, .aload_n 0, 82, 0, 0, 0, 0, 0, 0), (82, .getfield 242, 85, 10, 36, 0, 0, 0, 0), (85, .ifCond .le 61, 88, 146, 0, 0, 0, 0, 0), (88, .ldc2_w 259, 91, 0, 0, 0, 0, 0, lN 75), (91, .iload 7, 93, 0, 0, 0, 0, 0, 0), (93, .i2l, 94, 0, 0, 0, 0, 0, 0), (94, .lmul, 95, 0, 0, 0, 0, 0, 0), (95, .ldc2_w 261, 98, 0, 0, 0, 0, 0, lN 74), (98, .ladd, 99, 0, 0, 0, 0, 0, 0), (99, .ldc2_w 263, 102, 0, 0, 0, 0, 0, lN 65537), (102, .lrem, 103, 0, 0, 0, 0, 0, 0), (103, .l2i, 104, 0, 0, 0, 0, 0, 0), (104, .istore 7, 106, 0, 0, 0, 0, 0, 0), (106, .aload_n 0, 107, 0, 0, 0, 0, 0, 0), (107, .getfield 46, 110, 10, 19, 3, 0, 0, 0), (110, .bipush 8, 112, 0, 0, 0, 0, nI 8, 0), (112, .aload_n 0, 113, 0, 0, 0, 0, 0, 0), (113, .getfield 90, 116, 10, 35, 3, 0, 0, 0), (116, .iload 7, 118, 0, 0, 0, 0, 0, 0), (118, .aload_n 0, 119, 0, 0, 0, 0, 0, 0), (119, .getfield 242, 122, 10, 36, 0, 0, 0, 0), (122, .irem, 123, 0, 0, 0, 0, 0, 0), (123, .iaload, 124, 0, 0, 0, 0, 0, 0), (124, .imul, 125, 0, 0, 0, 0, 0, 0), (125, .iload 5, 127, 0, 0, 0, 0, 0, 0), (127, .iadd, 128, 0, 0, 0, 0, 0, 0), (128, .iaload, 129, 0, 0, 0, 0, 0, 0), (129, .istore 5, 131, 0, 0, 0, 0, 0, 0), (131, .iload 6, 133, 0, 0, 0, 0, 0, 0), (133, .iconst 1, 134, 0, 0, 0, 0, nI 1, 0), (134, .iload 5, 136, 0, 0, 0, 0, 0, 0), (136, .ishl, 137, 0, 0, 0, 0, 0, 0), (137, .ior, 138, 0, 0, 0, 0, 0, 0), (138, .istore 6, 140, 0, 0, 0, 0, 0, 0), (140, .iinc 8 1, 143, 0, 0, 0, 0, nI 1, 0), (143, .goto (-68), 146, 75, 0, 0, 0, 0, 0), (146, .iload 4, 148, 0, 0, 0, 0, 0, 0), (148, .ifCond .ne 8, 151, 156, 0, 0, 0, 0, 0), (151, .iload 6, 153, 0, 0, 0, 0, 0, 0), (153, .goto 5, 156, 158, 0, 0, 0, 0, 0), (156, .iload 5, 158, 0, 0, 0, 0, 0, 0), (158, .ireturn, 159, 0, 0, 0, 0, 0, 0)]
def tx_Ref_night : List Nat := [0, 0, 187, 0, 0, 0, 0, 0, 0, 12, 184, 0, 0, 0, 0, 10, 184, 0, 0, 0, 0, 0, 184, 0, 0, 0, 0, 189, 0, 211, 0, 0, 193, 0, 0, 0, 0, 0, 0, 0, 0, 0, 0, 0, 0, 0, 131, 0, 13, 0, 0, 0, 14, 0, 15, 0, 0, 0, 0, 105, 0, 0, 118, 0, 0, 131, 0, 0, 0, 0, 0, 0, 0, 0, 0, 0, 0, 0, 0, 0, 0, 0, 0, 0, 0, 0, 0]
def tb_Ref_image : Tab_ := [(0, .iload_n 1, 1, 0, 0, 0, 0, 0, 0), (1, .i2l, 2, 0, 0, 0, 0, 0, 0), (2, .lconst 0, 3, 0, 0, 0, 0, 0, lN 0), (3, .lconst 1, 4, 0, 0, 0, 0, 0, lN 1), (4, .invokestatic 123, 7, 124, 3, 0, 0, 0, 0), (7, .ifCond .ne 6, 10, 13, 0, 0, 0, 0, 0), (10, .bipush (-2), 12, 0, 0, 0, 0, (-2), 0), (12, .ireturn, 13, 0, 0, 0, 0, 0, 0), (13, .aload_n 0, 14, 0, 0, 0, 0, 0, 0), (14, .sipush 160, 17, 0, 0, 0, 0, nI 160, 0), (17, .iload_n 1, 18, 0, 0, 0, 0, 0, 0), (18, .imul, 19, 0, 0, 0, 0, 0, 0), (19, .putfield 269, 22, 10, 39, 0, 0, 0, 0), (22, .aload_n 0, 23, 0, 0, 0, 0, 0, 0), (23, .iconst 1, 24, 0, 0, 0, 0, nI 1, 0), (24, .putfield 265, 27, 10, 40, 1, 0, 0, 0), (27, .aload_n 0, 28, 0, 0, 0, 0, 0, 0), (28, .invokevirtual 275, 31, 183, 0, 10, 0, 0, 0), (31, .aload_n 0, 32, 0, 0, 0, 0, 0, 0), (32, .getfield 96, 35, 10, 38, 3, 0, 0, 0), (35, .iload_n 1, 36, 0, 0, 0, 0, 0, 0), (36, .iconst 1, 37, 0, 0, 0, 0, nI 1, 0), (37, .bastore, 38, 0, 0, 0, 0, 0, 0), (38, .iconst 1, 39, 0, 0, 0, 0, nI 1, 0), (39, .ireturn, 40, 0, 0, 0, 0, 0, 0)]
def tx_Ref_image : List Nat := [0, 0, 0, 0, 184, 0, 0, 0, 0, 0, 0, 0, 132, 0, 0, 133, 0, 214, 0, 120, 0, 0, 0, 0, 0]
def tb_Ref_passAll : Tab_ := [(0, .aload_n 0, 1, 0, 0, 0, 0, 0, 0), (1, .aload_n 0, 2, 0, 0, 0, 0, 0, 0), (2, .aload_n 0, 3, 0, 0, 0, 0, 0, 0), (3, .getfield 107, 6, 10, 0, 0, 0, 0, 0), (6, .invokevirtual 272, 9, 184, 1, 10, 0, 0, 0), (9, .putfield 107, 12, 10, 0, 0, 0, 0, 0), (12, .aload_n 0, 13, 0, 0, 0, 0, 0, 0), (13, .aload_n 0, 14, 0, 0, 0, 0, 0, 0), (14, .aload_n 0, 15, 0, 0, 0, 0, 0, 0), (15, .getfield 110, 18, 10, 4, 0, 0, 0, 0), (18, .invokevirtual 272, 21, 184, 1, 10, 0, 0, 0), (21, .putfield 110, 24, 10, 4, 0, 0, 0, 0), (24, .aload_n 0, 25, 0, 0, 0, 0, 0, 0), (25, .aload_n 0, 26, 0, 0, 0, 0, 0, 0), (26, .aload_n 0, 27, 0, 0, 0, 0, 0, 0), (27, .getfield 99, 30, 10, 5, 0, 0, 0, 0), (30, .invokevirtual 272, 33, 184, 1, 10, 0, 0, 0), (33, .putfield 99, 36, 10, 5, 0, 0, 0, 0), (36, .aload_n 0, 37, 0, 0, 0, 0, 0, 0), (37, .aload_n 0, 38, 0, 0, 0, 0, 0, 0), (38, .aload_n 0, 39, 0, 0, 0, 0, 0, 0), (39, .getfield 154, 42, 10, 6, 0, 0, 0, 0), (42, .invokevirtual 272, 45, 184, 1, 10, 0, 0, 0), (45, .putfield 154, 48, 10, 6, 0, 0, 0, 0), (48, .aload_n 0, 49, 0, 0, 0, 0, 0, 0), (49, .aload_n 0, 50, 0, 0, 0, 0, 0, 0), (50, .aload_n 0, 51, 0, 0, 0, 0, 0, 0), (51, .getfield 113, 54, 10, 12, 0, 0, 0, 0), (54, .invokevirtual 272, 57, 184, 1, 10, 0, 0, 0), (57, .putfield 113, 60, 10, 12, 0, 0, 0, 0), (60, .aload_n 0, 61, 0, 0, 0, 0, 0, 0), (61, .aload_n 0, 62, 0, 0, 0, 0, 0, 0), (62, .aload_n 0, 63, 0, 0, 0, 0, 0, 0), (63, .getfield 116, 66, 10, 16, 0, 0, 0, 0), (66, .invokevirtual 272, 69, 184, 1, 10, 0, 0, 0), (69, .putfield 116, 72, 10, 16, 0, 0, 0, 0), (72, .aload_n 0, 73, 0, 0, 0, 0, 0, 0), (73, .getfield 22, 76, 10, 8, 3, 0, 0, 0), (76, .iconst 0, 77, 0, 0, 0, 0, nI 0, 0), (77, .aload_n 0, 78, 0, 0, 0, 0, 0, 0), (78, .aload_n 0, 79, 0, 0, 0, 0, 0, 0), (79, .getfield 22, 82, 10, 8, 3, 0, 0, 0), (82, .iconst 0, 83, 0, 0, 0, 0, nI 0, 0), (83, .iaload, 84, 0, 0, 0, 0, 0, 0), (84, .invokevirtual 272, 87, 184, 1, 10, 0, 0, 0), (87, .iastore, 88, 0, 0, 0, 0, 0, 0), (88, .aload_n 0, 89, 0, 0, 0, 0, 0, 0), (89, .getfield 22, 92, 10, 8, 3, 0, 0, 0), (92, .iconst 1, 93, 0, 0, 0, 0, nI 1, 0), (93, .aload_n 0, 94, 0, 0, 0, 0, 0, 0), (94, .aload_n 0, 95, 0, 0, 0, 0, 0, 0), (95, .getfield 22, 98, 10, 8, 3, 0, 0, 0), (98, .iconst 1, 99, 0, 0, 0, 0, nI 1, 0), (99, .iaload, 100, 0, 0, 0, 0, 0, 0), (100, .invokevirtual 272, 103, 184, 1, 10, 0, 0, 0), (103, .iastore, 104, 0, 0, 0, 0, 0, 0), (104, .iconst 0, 105, 0, 0, 0, 0, nI 0, 0), (105, .istore_n 1, 106, 0, 0, 0, 0, 0, 0), (106, .iload_n 1, 107, 0, 0, 0, 0, 0, 0), (107, .bipush 48, 109, 0, 0, 0, 0, nI 48, 0), (109, .if_icmp .ge 25, 112, 134, 0, 0, 0, 0, 0), (112, .aload_n 0, 113, 0, 0, 0, 0, 0, 0), (113, .getfield 7, 116, 10, 1, 3, 0, 0, 0), (116, .iload_n 1, 117, 0, 0, 0, 0, 0, 0), (117, .aload_n 0, 118, 0, 0, 0, 0, 0, 0), (118, .aload_n 0, 119, 0, 0, 0, 0, 0, 0), (119, .getfield 7, 122, 10, 1, 3, 0, 0, 0), (122, .iload_n 1, 123, 0, 0, 0, 0, 0, 0), (123, .iaload, 124, 0, 0, 0, 0, 0, 0), (124, .invokevirtual 272, 127, 184, 1, 10, 0, 0, 0), (127, .iastore, 128, 0, 0, 0, 0, 0, 0), (128, .iinc 1 1, 131, 0, 0, 0, 0, nI 1, 0), (131, .goto (-25), 134, 106, 0, 0, 0, 0, 0), (134, .iconst 0, 135, 0, 0, 0, 0, nI 0, 0), (135, .istore_n 1, 136, 0, 0, 0, 0, 0, 0), (136, .iload_n 1, 137, 0, 0, 0, 0, 0, 0), (137, .bipush 8, 139, 0, 0, 0, 0, nI 8, 0), (139, .if_icmp .ge 41, 142, 180, 0, 0, 0, 0, 0), (142, .aload_n 0, 143, 0, 0, 0, 0, 0, 0), (143, .getfield 13, 146, 10, 2, 3, 0, 0, 0), (146, .iload_n 1, 147, 0, 0, 0, 0, 0, 0), (147, .aload_n 0, 148, 0, 0, 0, 0, 0, 0), (148, .aload_n 0, 149, 0, 0, 0, 0, 0, 0), (149, .getfield 13, 152, 10, 2, 3, 0, 0, 0), (152, .iload_n 1, 153, 0, 0, 0, 0, 0, 0), (153, .iaload, 154, 0, 0, 0, 0, 0, 0), (154, .invokevirtual 272, 157, 184, 1, 10, 0, 0, 0), (157, .iastore, 158, 0, 0, 0, 0, 0, 0), (158, .aload_n 0, 159, 0, 0, 0, 0, 0, 0), (159, .getfield 16, 162, 10, 3, 3, 0, 0, 0), (162, .iload_n 1, 163, 0, 0, 0, 0, 0, 0), (163, .aload_n 0, 164, 0, 0, 0, 0, 0, 0), (164, .aload_n 0, 165, 0, 0, 0, 0, 0, 0), (165, .getfield 16, 168, 10, 3, 3, 0, 0, 0), (168, .iload_n 1, 169, 0, 0, 0, 0, 0, 0), (169, .iaload, 170, 0, 0, 0, 0, 0, 0), (170, .invokevirtual 272, 173, 184, 1, 10, 0, 0, 0), (173, .iastore, 174, 0, 0, 0, 0, 0, 0), (174, .iinc 1 1, 177, 0, 0, 0, 0, nI 1, 0), (177, .goto (-41), 180, 136, 0, 0, 0, 0, 0), (180, .iconst 0, 181, 0, 0, 0, 0, nI 0, 0), (181, .istore_n 1, 182, 0, 0, 0, 0, 0, 0), (182, .iload_n 1, 183, 0, 0, 0, 0, 0, 0), (183, .bipush 6, 185, 0, 0, 0, 0, nI 6, 0), (185, .if_icmp .ge 121, 188, 306, 0, 0, 0, 0, 0), (188, .aload_n 0, 189, 0, 0, 0, 0, 0, 0), (189, .getfield 19, 192, 10, 7, 3, 0, 0, 0), (192, .iload_n 1, 193, 0, 0, 0, 0, 0, 0), (193, .aload_n 0, 194, 0, 0, 0, 0, 0, 0), (194, .aload_n 0, 195, 0, 0, 0, 0, 0, 0), (195, .getfield 19, 198, 10, 7, 3, 0, 0, 0), (198, .iload_n 1, 199, 0, 0, 0, 0, 0, 0), (199, .iaload, 200, 0, 0, 0, 0, 0, 0), (200, .invokevirtual 272, 203, 184, 1, 10, 0, 0, 0), (203, .iastore, 204, 0, 0, 0, 0, 0, 0), (204, .aload_n 0, 205, 0, 0, 0, 0, 0, 0), (205, .getfield 25, 208, 10, 9, 3, 0, 0, 0), (208, .iload_n 1, 209, 0, 0, 0, 0, 0, 0), (209, .aload_n 0, 210, 0, 0, 0, 0, 0, 0), (210, .aload_n 0, 211, 0, 0, 0, 0, 0, 0), (211, .getfield 25, 214, 10, 9, 3, 0, 0, 0), (214, .iload_n 1, 215, 0, 0, 0, 0, 0, 0), (215, .iaload, 216, 0, 0, 0, 0, 0, 0), (216, .invokevirtual 272, 219, 184, 1, 10, 0, 0, 0), (219, .iastore, 220, 0, 0, 0, 0, 0, 0), (220, .aload_n 0, 221, 0, 0, 0, 0, 0, 0), (221, .getfield 28, 224, 10, 10, 3, 0, 0, 0), (224, .iload_n 1, 225, 0, 0, 0, 0, 0, 0), (225, .aload_n 0, 226, 0, 0, 0, 0, 0, 0), (226, .aload_n 0, 227, 0, 0, 0, 0, 0, 0), (227, .getfield 28, 230, 10, 10, 3, 0, 0, 0), (230, .iload_n 1, 231, 0, 0, 0, 0, 0, 0), (231, .iaload, 232, 0, 0, 0, 0, 0, 0), (232, .invokevirtual 272, 235, 184, 1, 10, 0, 0, 0), (235, .iastore, 236, 0, 0, 0, 0, 0, 0), (236, .aload_n 0, 237, 0, 0, 0, 0, 0, 0), (237, .getfield 31, 240, 10, 11, 3, 0, 0, 0), (240, .iload_n 1, 241, 0, 0, 0, 0, 0, 0), (241, .aload_n 0, 242, 0, 0, 0, 0, 0, 0), (242, .aload_n 0, 243, 0, 0, 0, 0, 0, 0), (243, .getfield 31, 246, 10, 11, 3, 0, 0, 0), (246, .iload_n 1, 247, 0, 0, 0, 0, 0, 0), (247, .iaload, 248, 0, 0, 0, 0, 0, 0), (248, .invokevirtual 272, 251, 184, 1, 10, 0, 0, 0), (251, .iastore, 252, 0, 0, 0, 0, 0, 0), (252, .aload_n 0, 253, 0, 0, 0, 0, 0, 0), (253, .getfield 34, 256, 10, 13, 3, 0, 0, 0), (256, .iload_n 1, 257, 0, 0, 0, 0, 0, 0), (257, .aload_n 0, 258, 0, 0, 0, 0, 0, 0), (258, .aload_n 0, 259, 0, 0, 0, 0, 0, 0), (259, .getfield 34, 262, 10, 13, 3, 0, 0, 0), (262, .iload_n 1, 263, 0, 0, 0, 0, 0, 0), (263, .iaload, 264, 0, 0, 0, 0, 0, 0), (264, .invokevirtual 272, 267, 184, 1, 10, 0, 0, 0), (267, .iastore, 268, 0, 0, 0, 0, 0, 0), (268, .aload_n 0, 269, 0, 0, 0, 0, 0, 0), (269, .getfield 37, 272, 10, 14, 3, 0, 0, 0), (272, .iload_n 1, 273, 0, 0, 0, 0, 0, 0), (273, .aload_n 0, 274, 0, 0, 0, 0, 0, 0), (274, .aload_n 0, 275, 0, 0, 0, 0, 0, 0), (275, .getfield 37, 278, 10, 14, 3, 0, 0, 0), (278, .iload_n 1, 279, 0, 0, 0, 0, 0, 0), (279, .iaload, 280, 0, 0, 0, 0, 0, 0), (280, .invokevirtual 272, 283, 184, 1, 10, 0, 0, 0), (283, .iastore, 284, 0, 0, 0, 0, 0, 0), (284, .aload_n 0, 285, 0, 0, 0, 0, 0, 0), (285, .getfield 40, 288, 10, 15, 3, 0, 0, 0), (288, .iload_n 1, 289, 0, 0, 0, 0, 0, 0), (289, .aload_n 0, 290, 0, 0, 0, 0, 0, 0), (290, .aload_n 0, 291, 0, 0, 0, 0, 0, 0), (291, .getfield 40, 294, 10, 15, 3, 0, 0, 0), (294, .iload_n 1, 295, 0, 0, 0, 0, 0, 0), (295, .iaload, 296, 0, 0, 0, 0, 0, 0), (296, .invokevirtual 272, 299, 184, 1, 10, 0, 0, 0), (299, .iastore, 300, 0, 0, 0, 0, 0, 0), (300, .iinc 1 1, 303, 0, 0, 0, 0, nI 1, 0), (303, .goto (-121), 306, 182, 0, 0, 0, 0, 0), (306, .return_, 307, 0, 0, 0, 0, 0, 0)]
def tx_Ref_passAll : List Nat := [0, 0, 0, 122, 215, 122, 0, 0, 0, 123, 215, 123, 0, 0, 0, 121, 215, 121, 0, 0, 0, 127, 215, 127, 0, 0, 0, 124, 215, 124, 0, 0, 0, 125, 215, 125, 0, 97, 0, 0, 0, 97, 0, 0, 215, 0, 0, 97, 0, 0, 0, 97, 0, 0, 215, 0, 0, 0, 0, 0, 0, 0, 93, 0, 0, 0, 93, 0, 0, 215, 0, 0, 0, 0, 0, 0, 0, 0, 0, 94, 0, 0, 0, 94, 0, 0, 215, 0, 0, 95, 0, 0, 0, 95, 0, 0, 215, 0, 0, 0, 0, 0, 0, 0, 0, 0, 96, 0, 0, 0, 96, 0, 0, 215, 0, 0, 98, 0, 0, 0, 98, 0, 0, 215, 0, 0, 99, 0, 0, 0, 99, 0, 0, 215, 0, 0, 100, 0, 0, 0, 100, 0, 0, 215, 0, 0, 101, 0, 0, 0, 101, 0, 0, 215, 0, 0, 102, 0, 0, 0, 102, 0, 0, 215, 0, 0, 103, 0, 0, 0, 103, 0, 0, 215, 0, 0, 0, 0]
def tb_Ref_pass : Tab_ := [(0, .aload_n 0, 1, 0, 0, 0, 0, 0, 0), (1, .getfield 265, 4, 10, 40, 1, 0, 0, 0), (4, .ifCond .eq 7, 7, 11, 0, 0, 0, 0, 0), (7, .iload_n 1, 8, 0, 0, 0, 0, 0, 0), (8, .goto 12, 11, 20, 0, 0, 0, 0, 0), (11, .aload_n 0, 12, 0, 0, 0, 0, 0, 0), (12, .getfield 93, 15, 10, 37, 3, 0, 0, 0), (15, .aload_n 0, 16, 0, 0, 0, 0, 0, 0), (16, .getfield 269, 19, 10, 39, 0, 0, 0, 0), (19, .iaload, 20, 0, 0, 0, 0, 0, 0), (20, .istore_n 2, 21, 0, 0, 0, 0, 0, 0), (21, .aload_n 0, 22, 0, 0, 0, 0, 0, 0), (22, .getfield 93, 25, 10, 37, 3, 0, 0, 0), (25, .aload_n 0, 26, 0, 0, 0, 0, 0, 0), (26, .getfield 269, 29, 10, 39, 0, 0, 0, 0), (29, .iload_n 2, 30, 0, 0, 0, 0, 0, 0), (30, .iastore, 31, 0, 0, 0, 0, 0, 0), (31, .aload_n 0, 32, 0, 0, 0, 0, 0, 0), (32, .dup, 33, 0, 0, 0, 0, 0, 0), (33, .getfield 269, 36, 10, 39, 0, 0, 0, 0), (36, .iconst 1, 37, 0, 0, 0, 0, nI 1, 0), (37, .iadd, 38, 0, 0, 0, 0, 0, 0), (38, .putfield 269, 41, 10, 39, 0, 0, 0, 0), (41, .iload_n 2, 42, 0, 0, 0, 0, 0, 0), (42, .ireturn, 43, 0, 0, 0, 0, 0, 0)]
def tx_Ref_pass : List Nat := [0, 133, 0, 0, 0, 0, 119, 0, 132, 0, 0, 0, 119, 0, 132, 0, 0, 0, 0, 132, 0, 0, 132, 0, 0]
def tb_Ref_restore : Tab_ := [(0, .iload_n 1, 1, 0, 0, 0, 0, 0, 0), (1, .i2l, 2, 0, 0, 0, 0, 0, 0), (2, .lconst 0, 3, 0, 0, 0, 0, 0, lN 0), (3, .lconst 1, 4, 0, 0, 0, 0, 0, lN 1), (4, .invokestatic 123, 7, 124, 3, 0, 0, 0, 0), (7, .ifCond .ne 6, 10, 13, 0, 0, 0, 0, 0), (10, .bipush (-2), 12, 0, 0, 0, 0, (-2), 0), (12, .ireturn, 13, 0, 0, 0, 0, 0, 0), (13, .aload_n 0, 14, 0, 0, 0, 0, 0, 0), (14, .getfield 96, 17, 10, 38, 3, 0, 0, 0), (17, .iload_n 1, 18, 0, 0, 0, 0, 0, 0), (18, .baload, 19, 0, 0, 0, 0, 0, 0), (19, .ifCond .ne 6, 22, 25, 0, 0, 0, 0, 0), (22, .bipush (-3), 24, 0, 0, 0, 0, (-3), 0), (24, .ireturn, 25, 0, 0, 0, 0, 0, 0), (25, .aload_n 0, 26, 0, 0, 0, 0, 0, 0), (26, .sipush 160, 29, 0, 0, 0, 0, nI 160, 0), (29, .iload_n 1, 30, 0, 0, 0, 0, 0, 0), (30, .imul, 31, 0, 0, 0, 0, 0, 0), (31, .putfield 269, 34, 10, 39, 0, 0, 0, 0), (34, .aload_n 0, 35, 0, 0, 0, 0, 0, 0), (35, .iconst 0, 36, 0, 0, 0, 0, nI 0, 0), (36, .putfield 265, 39, 10, 40, 1, 0, 0, 0), (39, .aload_n 0, 40, 0, 0, 0, 0, 0, 0), (40, .invokevirtual 275, 43, 183, 0, 10, 0, 0, 0), (43, .iconst 1, 44, 0, 0, 0, 0, nI 1, 0), (44, .ireturn, 45, 0, 0, 0, 0, 0, 0)]
def tx_Ref_restore : List Nat := [0, 0, 0, 0, 184, 0, 0, 0, 0, 120, 0, 0, 0, 0, 0, 0, 0, 0, 0, 132, 0, 0, 133, 0, 214, 0, 0]
def tb_Ref_told : Tab_ := [(0, .iload_n 1, 1, 0, 0, 0, 0, 0, 0), (1, .i2l, 2, 0, 0, 0, 0, 0, 0), (2, .ldc2_w 278, 5, 0, 0, 0, 0, 0, lN 10), (5, .ldc2_w 280, 8, 0, 0, 0, 0, 0, lN 15), (8, .invokestatic 123, 11, 124, 3, 0, 0, 0, 0), (11, .ifCond .eq 13, 14, 24, 0, 0, 0, 0, 0), (14, .aload_n 0, 15, 0, 0, 0, 0, 0, 0), (15, .getfield 19, 18, 10, 7, 3, 0, 0, 0), (18, .iload_n 1, 19, 0, 0, 0, 0, 0, 0), (19, .bipush 10, 21, 0, 0, 0, 0, nI 10, 0), (21, .isub, 22, 0, 0, 0, 0, 0, 0), (22, .iaload, 23, 0, 0, 0, 0, 0, 0), (23, .ireturn, 24, 0, 0, 0, 0, 0, 0), (24, .iload_n 1, 25, 0, 0, 0, 0, 0, 0), (25, .i2l, 26, 0, 0, 0, 0, 0, 0), (26, .ldc2_w 282, 29, 0, 0, 0, 0, 0, lN 30), (29, .bipush 29, 31, 0, 0, 0, 0, nI 29, 0), (31, .aload_n 0, 32, 0, 0, 0, 0, 0, 0), (32, .getfield 107, 35, 10, 0, 0, 0, 0, 0), (35, .iadd, 36, 0, 0, 0, 0, 0, 0), (36, .i2l, 37, 0, 0, 0, 0, 0, 0), (37, .invokestatic 123, 40, 124, 3, 0, 0, 0, 0), (40, .ifCond .eq 12, 43, 52, 0, 0, 0, 0, 0), (43, .aload_n 0, 44, 0, 0, 0, 0, 0, 0), (44, .iload_n 1, 45, 0, 0, 0, 0, 0, 0), (45, .bipush 30, 47, 0, 0, 0, 0, nI 30, 0), (47, .isub, 48, 0, 0, 0, 0, 0, 0), (48, .invokevirtual 170, 51, 144, 1, 10, 0, 0, 0), (51, .ireturn, 52, 0, 0, 0, 0, 0, 0), (52, .iload_n 1, 53, 0, 0, 0, 0, 0, 0), (53, .i2l, 54, 0, 0, 0, 0, 0, 0), (54, .ldc2_w 284, 57, 0, 0, 0, 0, 0, lN 40), (57, .bipush 39, 59, 0, 0, 0, 0, nI 39, 0), (59, .aload_n 0, 60, 0, 0, 0, 0, 0, 0), (60, .getfield 107, 63, 10, 0, 0, 0, 0, 0), (63, .iadd, 64, 0, 0, 0, 0, 0, 0), (64, .i2l, 65, 0, 0, 0, 0, 0, 0), (65, .invokestatic 123, 68, 124, 3, 0, 0, 0, 0), (68, .ifCond .eq 13, 71, 81, 0, 0, 0, 0, 0), (71, .aload_n 0, 72, 0, 0, 0, 0, 0, 0), (72, .getfield 16, 75, 10, 3, 3, 0, 0, 0), (75, .iload_n 1, 76, 0, 0, 0, 0, 0, 0), (76, .bipush 40, 78, 0, 0, 0, 0, nI 40, 0), (78, .isub, 79, 0, 0, 0, 0, 0, 0), (79, .iaload, 80, 0, 0, 0, 0, 0, 0), (80, .ireturn, 81, 0, 0, 0, 0, 0, 0), (81, .iload_n 1, 82, 0, 0, 0, 0, 0, 0), (82, .tableswitch 151 0 21 #[102, 107, 112, 117, 122, 127, 132, 151, 151, 151, 151, 151, 151, 151, 151, 151, 151, 151, 151, 151, 137, 144], 184, 233, 0, 0, 0, 0, 0), (184, .aload_n 0, 185, 0, 0, 0, 0, 0, 0), (185, .getfield 133, 188, 10, 18, 0, 0, 0, 0), (188, .ireturn, 189, 0, 0, 0, 0, 0, 0), (189, .aload_n 0, 190, 0, 0, 0, 0, 0, 0), (190, .getfield 107, 193, 10, 0, 0, 0, 0, 0), (193, .ireturn, 194, 0, 0, 0, 0, 0, 0), (194, .aload_n 0, 195, 0, 0, 0, 0, 0, 0), (195, .getfield 110, 198, 10, 4, 0, 0, 0, 0), (198, .ireturn, 199, 0, 0, 0, 0, 0, 0), (199, .aload_n 0, 200, 0, 0, 0, 0, 0, 0), (200, .getfield 99, 203, 10, 5, 0, 0, 0, 0), (203, .ireturn, 204, 0, 0, 0, 0, 0, 0), (204, .aload_n 0, 205, 0, 0, 0, 0, 0, 0), (205, .getfield 154, 208, 10, 6, 0, 0, 0, 0), (208, .ireturn, 209, 0, 0, 0, 0, 0, 0), (209, .aload_n 0, 210, 0, 0, 0, 0, 0, 0), (210, .getfield 113, 213, 10, 12, 0, 0, 0, 0), (213, .ireturn, 214, 0, 0, 0, 0, 0, 0), (214, .aload_n 0, 215, 0, 0, 0, 0, 0, 0), (215, .getfield 116, 218, 10, 16, 0, 0, 0, 0), (218, .ireturn, 219, 0, 0, 0, 0, 0, 0), (219, .aload_n 0, 220, 0, 0, 0, 0, 0, 0), (220, .getfield 22, 223, 10, 8, 3, 0, 0, 0), (223, .iconst 0, 224, 0, 0, 0, 0, nI 0, 0), (224, .iaload, 225, 0, 0, 0, 0, 0, 0), (225, .ireturn, 226, 0, 0, 0, 0, 0, 0), (226, .aload_n 0, 227, 0, 0, 0, 0, 0, 0), (227, .getfield 22, 230, 10, 8, 3, 0, 0, 0), (230, .iconst 1, 231, 0, 0, 0, 0, nI 1, 0), (231, .iaload, 232, 0, 0, 0, 0, 0, 0), (232, .ireturn, 233, 0, 0, 0, 0, 0, 0), (233, .bipush (-2), 235, 0, 0, 0, 0, (-2), 0), (235, .ireturn, 236, 0, 0, 0, 0, 0, 0)]
def tx_Ref_told : List Nat := [0, 0, 16, 17, 184, 0, 0, 96, 0, 0, 0, 0, 0, 0, 0, 18, 0, 0, 122, 0, 0, 184, 0, 0, 0, 0, 0, 193, 0, 0, 0, 19, 0, 0, 122, 0, 0, 184, 0, 0, 95, 0, 0, 0, 0, 0, 0, 0, 0, 126, 0, 0, 122, 0, 0, 123, 0, 0, 121, 0, 0, 127, 0, 0, 124, 0, 0, 125, 0, 0, 97, 0, 0, 0, 0, 97, 0, 0, 0, 0, 0]
def tb_Cells_fill : Tab_ := [(0, .iconst 0, 1, 0, 0, 0, 0, nI 0, 0), (1, .istore_n 2, 2, 0, 0, 0, 0, 0, 0), (2, .iload_n 2, 3, 0, 0, 0, 0, 0, 0), (3, .aload_n 0, 4, 0, 0, 0, 0, 0, 0), (4, .arraylength, 5, 0, 0, 0, 0, 0, 0), (5, .if_icmp .ge 13, 8, 18, 0, 0, 0, 0, 0), (8, .aload_n 0, 9, 0, 0, 0, 0, 0, 0), (9, .iload_n 2, 10, 0, 0, 0, 0, 0, 0), (10, .iload_n 1, 11, 0, 0, 0, 0, 0, 0), (11, .iastore, 12, 0, 0, 0, 0, 0, 0), (12, .iinc 2 1, 15, 0, 0, 0, 0, nI 1, 0), (15, .goto (-13), 18, 2, 0, 0, 0, 0, 0), (18, .return_, 19, 0, 0, 0, 0, 0, 0)]
def tx_Cells_fill : List Nat := [0, 0, 0, 0, 0, 0, 0, 0, 0, 0, 0, 0, 0]
def tb_Cells_put : Tab_ := [(0, .iload_n 1, 1, 0, 0, 0, 0, 0, 0), (1, .ifCond .lt 13, 4, 14, 0, 0, 0, 0, 0), (4, .iload_n 1, 5, 0, 0, 0, 0, 0, 0), (5, .aload_n 0, 6, 0, 0, 0, 0, 0, 0), (6, .arraylength, 7, 0, 0, 0, 0, 0, 0), (7, .if_icmp .ge 7, 10, 14, 0, 0, 0, 0, 0), (10, .aload_n 0, 11, 0, 0, 0, 0, 0, 0), (11, .iload_n 1, 12, 0, 0, 0, 0, 0, 0), (12, .iload_n 2, 13, 0, 0, 0, 0, 0, 0), (13, .iastore, 14, 0, 0, 0, 0, 0, 0), (14, .return_, 15, 0, 0, 0, 0, 0, 0)]
def tx_Cells_put : List Nat := [0, 0, 0, 0, 0, 0, 0, 0, 0, 0, 0]
def tb_Cells_at : Tab_ := [(0, .iload_n 1, 1, 0, 0, 0, 0, 0, 0), (1, .ifCond .lt 15, 4, 16, 0, 0, 0, 0, 0), (4, .iload_n 1, 5, 0, 0, 0, 0, 0, 0), (5, .aload_n 0, 6, 0, 0, 0, 0, 0, 0), (6, .arraylength, 7, 0, 0, 0, 0, 0, 0), (7, .if_icmp .ge 9, 10, 16, 0, 0, 0, 0, 0), (10, .aload_n 0, 11, 0, 0, 0, 0, 0, 0), (11, .iload_n 1, 12, 0, 0, 0, 0, 0, 0), (12, .iaload, 13, 0, 0, 0, 0, 0, 0), (13, .goto 4, 16, 17, 0, 0, 0, 0, 0), (16, .iconst 0, 17, 0, 0, 0, 0, nI 0, 0), (17, .ireturn, 18, 0, 0, 0, 0, 0, 0)]
def tx_Cells_at : List Nat := [0, 0, 0, 0, 0, 0, 0, 0, 0, 0, 0, 0]
def tb_Cells_isIn : Tab_ := [(0, .iload_n 0, 1, 0, 0, 0, 0, 0, 0), (1, .iload_n 1, 2, 0, 0, 0, 0, 0, 0), (2, .iushr, 3, 0, 0, 0, 0, 0, 0), (3, .iconst 1, 4, 0, 0, 0, 0, nI 1, 0), (4, .iand, 5, 0, 0, 0, 0, 0, 0), (5, .iconst 1, 6, 0, 0, 0, 0, nI 1, 0), (6, .if_icmp .ne 7, 9, 13, 0, 0, 0, 0, 0), (9, .iconst 1, 10, 0, 0, 0, 0, nI 1, 0), (10, .goto 4, 13, 14, 0, 0, 0, 0, 0), (13, .iconst 0, 14, 0, 0, 0, 0, nI 0, 0), (14, .ireturn, 15, 1, 0, 0, 0, 0, 0)]
def tx_Cells_isIn : List Nat := [0, 0, 0, 0, 0, 0, 0, 0, 0, 0, 0]
def tb_Cells_grown : Tab_ := [(0, .iload_n 1, 1, 0, 0, 0, 0, 0, 0), (1, .aload_n 0, 2, 0, 0, 0, 0, 0, 0), (2, .arraylength, 3, 0, 0, 0, 0, 0, 0), (3, .if_icmp .gt 7, 6, 10, 0, 0, 0, 0, 0), (6, .aload_n 0, 7, 0, 0, 0, 0, 0, 0), (7, .goto 6, 10, 13, 0, 0, 0, 0, 0), (10, .iload_n 1, 11, 0, 0, 0, 0, 0, 0), (11, .newarray .int, 13, 1, 0, 0, 0, 0, 0), (13, .areturn, 14, 0, 0, 0, 0, 0, 0)]
def tx_Cells_grown : List Nat := [0, 0, 0, 0, 0, 0, 0, 0, 0]
def tb_Cells_grownLong : Tab_ := [(0, .iload_n 1, 1, 0, 0, 0, 0, 0, 0), (1, .aload_n 0, 2, 0, 0, 0, 0, 0, 0), (2, .arraylength, 3, 0, 0, 0, 0, 0, 0), (3, .if_icmp .gt 7, 6, 10, 0, 0, 0, 0, 0), (6, .aload_n 0, 7, 0, 0, 0, 0, 0, 0), (7, .goto 6, 10, 13, 0, 0, 0, 0, 0), (10, .iload_n 1, 11, 0, 0, 0, 0, 0, 0), (11, .newarray .long, 13, 2, 0, 0, 0, 0, 0), (13, .areturn, 14, 0, 0, 0, 0, 0, 0)]
def tx_Cells_grownLong : List Nat := [0, 0, 0, 0, 0, 0, 0, 0, 0]
def tb_Cells_longAt : Tab_ := [(0, .iload_n 1, 1, 0, 0, 0, 0, 0, 0), (1, .ifCond .lt 15, 4, 16, 0, 0, 0, 0, 0), (4, .iload_n 1, 5, 0, 0, 0, 0, 0, 0), (5, .aload_n 0, 6, 0, 0, 0, 0, 0, 0), (6, .arraylength, 7, 0, 0, 0, 0, 0, 0), (7, .if_icmp .ge 9, 10, 16, 0, 0, 0, 0, 0), (10, .aload_n 0, 11, 0, 0, 0, 0, 0, 0), (11, .iload_n 1, 12, 0, 0, 0, 0, 0, 0), (12, .laload, 13, 0, 0, 0, 0, 0, 0), (13, .goto 4, 16, 17, 0, 0, 0, 0, 0), (16, .lconst 0, 17, 0, 0, 0, 0, 0, lN 0), (17, .lreturn, 18, 0, 0, 0, 0, 0, 0)]
def tx_Cells_longAt : List Nat := [0, 0, 0, 0, 0, 0, 0, 0, 0, 0, 0, 0]
def tb_Cells_putLong : Tab_ := [(0, .iload_n 1, 1, 0, 0, 0, 0, 0, 0), (1, .ifCond .lt 13, 4, 14, 0, 0, 0, 0, 0), (4, .iload_n 1, 5, 0, 0, 0, 0, 0, 0), (5, .aload_n 0, 6, 0, 0, 0, 0, 0, 0), (6, .arraylength, 7, 0, 0, 0, 0, 0, 0), (7, .if_icmp .ge 7, 10, 14, 0, 0, 0, 0, 0), (10, .aload_n 0, 11, 0, 0, 0, 0, 0, 0), (11, .iload_n 1, 12, 0, 0, 0, 0, 0, 0), (12, .lload_n 2, 13, 0, 0, 0, 0, 0, 0), (13, .lastore, 14, 0, 0, 0, 0, 0, 0), (14, .return_, 15, 0, 0, 0, 0, 0, 0)]
def tx_Cells_putLong : List Nat := [0, 0, 0, 0, 0, 0, 0, 0, 0, 0, 0]
def tb_Cells_copy : Tab_ := [(0, .iconst 0, 1, 0, 0, 0, 0, nI 0, 0), (1, .istore_n 2, 2, 0, 0, 0, 0, 0, 0), (2, .iload_n 2, 3, 0, 0, 0, 0, 0, 0), (3, .aload_n 0, 4, 0, 0, 0, 0, 0, 0), (4, .arraylength, 5, 0, 0, 0, 0, 0, 0), (5, .if_icmp .ge 21, 8, 26, 0, 0, 0, 0, 0), (8, .iload_n 2, 9, 0, 0, 0, 0, 0, 0), (9, .aload_n 1, 10, 0, 0, 0, 0, 0, 0), (10, .arraylength, 11, 0, 0, 0, 0, 0, 0), (11, .if_icmp .ge 15, 14, 26, 0, 0, 0, 0, 0), (14, .aload_n 1, 15, 0, 0, 0, 0, 0, 0), (15, .iload_n 2, 16, 0, 0, 0, 0, 0, 0), (16, .aload_n 0, 17, 0, 0, 0, 0, 0, 0), (17, .iload_n 2, 18, 0, 0, 0, 0, 0, 0), (18, .iaload, 19, 0, 0, 0, 0, 0, 0), (19, .iastore, 20, 0, 0, 0, 0, 0, 0), (20, .iinc 2 1, 23, 0, 0, 0, 0, nI 1, 0), (23, .goto (-21), 26, 2, 0, 0, 0, 0, 0), (26, .return_, 27, 0, 0, 0, 0, 0, 0)]
def tx_Cells_copy : List Nat := [0, 0, 0, 0, 0, 0, 0, 0, 0, 0, 0, 0, 0, 0, 0, 0, 0, 0, 0]
def tb_Maps_with : Tab_ := [(0, .iload_n 0, 1, 0, 0, 0, 0, 0, 0), (1, .bipush 7, 3, 0, 0, 0, 0, nI 7, 0), (3, .iconst 3, 4, 0, 0, 0, 0, nI 3, 0), (4, .iload_n 1, 5, 0, 0, 0, 0, 0, 0), (5, .imul, 6, 0, 0, 0, 0, 0, 0), (6, .ishl, 7, 0, 0, 0, 0, 0, 0), (7, .iconst (-1), 8, 0, 0, 0, 0, (-1), 0), (8, .ixor, 9, 0, 0, 0, 0, 0, 0), (9, .iand, 10, 0, 0, 0, 0, 0, 0), (10, .iload_n 2, 11, 0, 0, 0, 0, 0, 0), (11, .bipush 7, 13, 0, 0, 0, 0, nI 7, 0), (13, .iand, 14, 0, 0, 0, 0, 0, 0), (14, .iconst 3, 15, 0, 0, 0, 0, nI 3, 0), (15, .iload_n 1, 16, 0, 0, 0, 0, 0, 0), (16, .imul, 17, 0, 0, 0, 0, 0, 0), (17, .ishl, 18, 0, 0, 0, 0, 0, 0), (18, .ior, 19, 0, 0, 0, 0, 0, 0), (19, .ireturn, 20, 0, 0, 0, 0, 0, 0)]
def tx_Maps_with : List Nat := [0, 0, 0, 0, 0, 0, 0, 0, 0, 0, 0, 0, 0, 0, 0, 0, 0, 0]
def tb_Maps_passing : Tab_ := [(0, .ldc 17, 2, 0, 0, 0, 0, nI 16434824, 0), (2, .istore_n 2, 3, 0, 0, 0, 0, 0, 0), (3, .iconst 0, 4, 0, 0, 0, 0, nI 0, 0), (4, .istore_n 3, 5, 0, 0, 0, 0, 0, 0), (5, .iload_n 3, 6, 0, 0, 0, 0, 0, 0), (6, .bipush 8, 8, 0, 0, 0, 0, nI 8, 0), (8, .if_icmp .ge 33, 11, 41, 0, 0, 0, 0, 0), (11, .iload_n 1, 12, 0, 0, 0, 0, 0, 0), (12, .iload_n 3, 13, 0, 0, 0, 0, 0, 0), (13, .invokestatic 18, 16, 190, 2, 0, 1, 0, 0), (16, .ifCond .ne 19, 19, 35, 0, 0, 0, 0, 0), (19, .iload_n 2, 20, 0, 0, 0, 0, 0, 0), (20, .iload_n 3, 21, 0, 0, 0, 0, 0, 0), (21, .iload_n 0, 22, 0, 0, 0, 0, 0, 0), (22, .iload_n 1, 23, 0, 0, 0, 0, 0, 0), (23, .iload_n 0, 24, 0, 0, 0, 0, 0, 0), (24, .iload_n 3, 25, 0, 0, 0, 0, 0, 0), (25, .invokestatic 13, 28, 198, 2, 0, 0, 0, 0), (28, .invokestatic 24, 31, 199, 3, 0, 0, 0, 0), (31, .invokestatic 27, 34, 196, 3, 0, 0, 0, 0), (34, .istore_n 2, 35, 0, 0, 0, 0, 0, 0), (35, .iinc 3 1, 38, 0, 0, 0, 0, nI 1, 0), (38, .goto (-33), 41, 5, 0, 0, 0, 0, 0), (41, .iload_n 2, 42, 0, 0, 0, 0, 0, 0), (42, .ireturn, 43, 0, 0, 0, 0, 0, 0)]
def tx_Maps_passing : List Nat := [7, 0, 0, 0, 0, 0, 0, 0, 0, 216, 0, 0, 0, 0, 0, 0, 0, 217, 218, 219, 0, 0, 0, 0, 0]
def tb_Maps_to : Tab_ := [(0, .iload_n 0, 1, 0, 0, 0, 0, 0, 0), (1, .iconst 3, 2, 0, 0, 0, 0, nI 3, 0), (2, .iload_n 1, 3, 0, 0, 0, 0, 0, 0), (3, .imul, 4, 0, 0, 0, 0, 0, 0), (4, .iushr, 5, 0, 0, 0, 0, 0, 0), (5, .bipush 7, 7, 0, 0, 0, 0, nI 7, 0), (7, .iand, 8, 0, 0, 0, 0, 0, 0), (8, .ireturn, 9, 0, 0, 0, 0, 0, 0)]
def tx_Maps_to : List Nat := [0, 0, 0, 0, 0, 0, 0, 0]
def tb_Maps_firstNotLame : Tab_ := [(0, .iload_n 2, 1, 0, 0, 0, 0, 0, 0), (1, .istore_n 3, 2, 0, 0, 0, 0, 0, 0), (2, .iconst 0, 3, 0, 0, 0, 0, nI 0, 0), (3, .istore 4, 5, 0, 0, 0, 0, 0, 0), (5, .iload 4, 7, 0, 0, 0, 0, 0, 0), (7, .bipush 8, 9, 0, 0, 0, 0, nI 8, 0), (9, .if_icmp .ge 23, 12, 32, 0, 0, 0, 0, 0), (12, .iload_n 1, 13, 0, 0, 0, 0, 0, 0), (13, .iload_n 3, 14, 0, 0, 0, 0, 0, 0), (14, .invokestatic 18, 17, 190, 2, 0, 1, 0, 0), (17, .ifCond .eq 15, 20, 32, 0, 0, 0, 0, 0), (20, .iload_n 0, 21, 0, 0, 0, 0, 0, 0), (21, .iload_n 3, 22, 0, 0, 0, 0, 0, 0), (22, .invokestatic 13, 25, 198, 2, 0, 0, 0, 0), (25, .istore_n 3, 26, 0, 0, 0, 0, 0, 0), (26, .iinc 4 1, 29, 0, 0, 0, 0, nI 1, 0), (29, .goto (-24), 32, 5, 0, 0, 0, 0, 0), (32, .iload_n 3, 33, 0, 0, 0, 0, 0, 0), (33, .ireturn, 34, 0, 0, 0, 0, 0, 0)]
def tx_Maps_firstNotLame : List Nat := [0, 0, 0, 0, 0, 0, 0, 0, 0, 216, 0, 0, 0, 217, 0, 0, 0, 0, 0]
def tb_Maps_then : Tab_ := [(0, .iload_n 0, 1, 0, 0, 0, 0, 0, 0), (1, .iload_n 1, 2, 0, 0, 0, 0, 0, 0), (2, .bipush 8, 4, 0, 0, 0, 0, nI 8, 0), (4, .invokestatic 9, 7, 201, 3, 0, 0, 0, 0), (7, .ireturn, 8, 0, 0, 0, 0, 0, 0)]
def tx_Maps_then : List Nat := [0, 0, 0, 220, 0]
def tb_Maps_thenOf : Tab_ := [(0, .iconst 0, 1, 0, 0, 0, 0, nI 0, 0), (1, .istore_n 3, 2, 0, 0, 0, 0, 0, 0), (2, .iconst 0, 3, 0, 0, 0, 0, nI 0, 0), (3, .istore 4, 5, 0, 0, 0, 0, 0, 0), (5, .iload 4, 7, 0, 0, 0, 0, 0, 0), (7, .iload_n 2, 8, 0, 0, 0, 0, 0, 0), (8, .if_icmp .ge 27, 11, 35, 0, 0, 0, 0, 0), (11, .iload_n 3, 12, 0, 0, 0, 0, 0, 0), (12, .iload_n 1, 13, 0, 0, 0, 0, 0, 0), (13, .iload_n 0, 14, 0, 0, 0, 0, 0, 0), (14, .iload 4, 16, 0, 0, 0, 0, 0, 0), (16, .invokestatic 13, 19, 198, 2, 0, 0, 0, 0), (19, .invokestatic 13, 22, 198, 2, 0, 0, 0, 0), (22, .iconst 3, 23, 0, 0, 0, 0, nI 3, 0), (23, .iload 4, 25, 0, 0, 0, 0, 0, 0), (25, .imul, 26, 0, 0, 0, 0, 0, 0), (26, .ishl, 27, 0, 0, 0, 0, 0, 0), (27, .ior, 28, 0, 0, 0, 0, 0, 0), (28, .istore_n 3, 29, 0, 0, 0, 0, 0, 0), (29, .iinc 4 1, 32, 0, 0, 0, 0, nI 1, 0), (32, .goto (-27), 35, 5, 0, 0, 0, 0, 0), (35, .iload_n 3, 36, 0, 0, 0, 0, 0, 0), (36, .ireturn, 37, 0, 0, 0, 0, 0, 0)]
def tx_Maps_thenOf : List Nat := [0, 0, 0, 0, 0, 0, 0, 0, 0, 0, 0, 217, 217, 0, 0, 0, 0, 0, 0, 0, 0, 0, 0]
def tb_Maps_undone : Tab_ := [(0, .iconst 0, 1, 0, 0, 0, 0, nI 0, 0), (1, .istore_n 1, 2, 0, 0, 0, 0, 0, 0), (2, .iconst 0, 3, 0, 0, 0, 0, nI 0, 0), (3, .istore_n 2, 4, 0, 0, 0, 0, 0, 0), (4, .iload_n 2, 5, 0, 0, 0, 0, 0, 0), (5, .bipush 8, 7, 0, 0, 0, 0, nI 8, 0), (7, .if_icmp .ge 21, 10, 28, 0, 0, 0, 0, 0), (10, .iload_n 1, 11, 0, 0, 0, 0, 0, 0), (11, .iload_n 2, 12, 0, 0, 0, 0, 0, 0), (12, .iconst 3, 13, 0, 0, 0, 0, nI 3, 0), (13, .iload_n 0, 14, 0, 0, 0, 0, 0, 0), (14, .iload_n 2, 15, 0, 0, 0, 0, 0, 0), (15, .invokestatic 13, 18, 198, 2, 0, 0, 0, 0), (18, .imul, 19, 0, 0, 0, 0, 0, 0), (19, .ishl, 20, 0, 0, 0, 0, 0, 0), (20, .ior, 21, 0, 0, 0, 0, 0, 0), (21, .istore_n 1, 22, 0, 0, 0, 0, 0, 0), (22, .iinc 2 1, 25, 0, 0, 0, 0, nI 1, 0), (25, .goto (-21), 28, 4, 0, 0, 0, 0, 0), (28, .iload_n 1, 29, 0, 0, 0, 0, 0, 0), (29, .ireturn, 30, 0, 0, 0, 0, 0, 0)]
def tx_Maps_undone : List Nat := [0, 0, 0, 0, 0, 0, 0, 0, 0, 0, 0, 0, 217, 0, 0, 0, 0, 0, 0, 0, 0]
def tb_Maps_timesTillStays : Tab_ := [(0, .iconst 1, 1, 0, 0, 0, 0, nI 1, 0), (1, .istore_n 1, 2, 0, 0, 0, 0, 0, 0), (2, .iload_n 0, 3, 0, 0, 0, 0, 0, 0), (3, .istore_n 2, 4, 0, 0, 0, 0, 0, 0), (4, .iload_n 2, 5, 0, 0, 0, 0, 0, 0), (5, .ldc 17, 7, 0, 0, 0, 0, nI 16434824, 0), (7, .if_icmp .eq 21, 10, 28, 0, 0, 0, 0, 0), (10, .iload_n 1, 11, 0, 0, 0, 0, 0, 0), (11, .ldc 30, 13, 0, 0, 0, 0, nI 1000000, 0), (13, .if_icmp .ge 15, 16, 28, 0, 0, 0, 0, 0), (16, .iload_n 2, 17, 0, 0, 0, 0, 0, 0), (17, .iload_n 0, 18, 0, 0, 0, 0, 0, 0), (18, .invokestatic 31, 21, 200, 2, 0, 0, 0, 0), (21, .istore_n 2, 22, 0, 0, 0, 0, 0, 0), (22, .iinc 1 1, 25, 0, 0, 0, 0, nI 1, 0), (25, .goto (-21), 28, 4, 0, 0, 0, 0, 0), (28, .iload_n 1, 29, 0, 0, 0, 0, 0, 0), (29, .ireturn, 30, 0, 0, 0, 0, 0, 0)]
def tx_Maps_timesTillStays : List Nat := [0, 0, 0, 0, 0, 7, 0, 0, 8, 0, 0, 0, 221, 0, 0, 0, 0, 0]
def tb_Maps_isEven : Tab_ := [(0, .iconst 0, 1, 0, 0, 0, 0, nI 0, 0), (1, .istore_n 1, 2, 0, 0, 0, 0, 0, 0), (2, .iconst 0, 3, 0, 0, 0, 0, nI 0, 0), (3, .istore_n 2, 4, 0, 0, 0, 0, 0, 0), (4, .iload_n 2, 5, 0, 0, 0, 0, 0, 0), (5, .bipush 8, 7, 0, 0, 0, 0, nI 8, 0), (7, .if_icmp .ge 38, 10, 45, 0, 0, 0, 0, 0), (10, .iconst 0, 11, 0, 0, 0, 0, nI 0, 0), (11, .istore_n 3, 12, 0, 0, 0, 0, 0, 0), (12, .iload_n 3, 13, 0, 0, 0, 0, 0, 0), (13, .iload_n 2, 14, 0, 0, 0, 0, 0, 0), (14, .if_icmp .ge 25, 17, 39, 0, 0, 0, 0, 0), (17, .iload_n 0, 18, 0, 0, 0, 0, 0, 0), (18, .iload_n 3, 19, 0, 0, 0, 0, 0, 0), (19, .invokestatic 13, 22, 198, 2, 0, 0, 0, 0), (22, .iload_n 0, 23, 0, 0, 0, 0, 0, 0), (23, .iload_n 2, 24, 0, 0, 0, 0, 0, 0), (24, .invokestatic 13, 27, 198, 2, 0, 0, 0, 0), (27, .if_icmp .le 6, 30, 33, 0, 0, 0, 0, 0), (30, .iinc 1 1, 33, 0, 0, 0, 0, nI 1, 0), (33, .iinc 3 1, 36, 0, 0, 0, 0, nI 1, 0), (36, .goto (-24), 39, 12, 0, 0, 0, 0, 0), (39, .iinc 2 1, 42, 0, 0, 0, 0, nI 1, 0), (42, .goto (-38), 45, 4, 0, 0, 0, 0, 0), (45, .iload_n 1, 46, 0, 0, 0, 0, 0, 0), (46, .iconst 1, 47, 0, 0, 0, 0, nI 1, 0), (47, .iand, 48, 0, 0, 0, 0, 0, 0), (48, .ifCond .ne 7, 51, 55, 0, 0, 0, 0, 0), (51, .iconst 1, 52, 0, 0, 0, 0, nI 1, 0), (52, .goto 4, 55, 56, 0, 0, 0, 0, 0), (55, .iconst 0, 56, 0, 0, 0, 0, nI 0, 0), (56, .ireturn, 57, 1, 0, 0, 0, 0, 0)]
def tx_Maps_isEven : List Nat := [0, 0, 0, 0, 0, 0, 0, 0, 0, 0, 0, 0, 0, 0, 217, 0, 0, 217, 0, 0, 0, 0, 0, 0, 0, 0, 0, 0, 0, 0, 0, 0]
def tb_Integer_bitCount : Tab_ := [(0, .iload_n 0, 1, 0, 0, 0, 0, 0, 0), (1, .iload_n 0, 2, 0, 0, 0, 0, 0, 0), (2, .iconst 1, 3, 0, 0, 0, 0, nI 1, 0), (3, .iushr, 4, 0, 0, 0, 0, 0, 0), (4, .ldc_w 265, 7, 0, 0, 0, 0, nI 1431655765, 0), (7, .iand, 8, 0, 0, 0, 0, 0, 0), (8, .isub, 9, 0, 0, 0, 0, 0, 0), (9, .istore_n 0, 10, 0, 0, 0, 0, 0, 0), (10, .iload_n 0, 11, 0, 0, 0, 0, 0, 0), (11, .ldc_w 266, 14, 0, 0, 0, 0, nI 858993459, 0), (14, .iand, 15, 0, 0, 0, 0, 0, 0), (15, .iload_n 0, 16, 0, 0, 0, 0, 0, 0), (16, .iconst 2, 17, 0, 0, 0, 0, nI 2, 0), (17, .iushr, 18, 0, 0, 0, 0, 0, 0), (18, .ldc_w 266, 21, 0, 0, 0, 0, nI 858993459, 0), (21, .iand, 22, 0, 0, 0, 0, 0, 0), (22, .iadd, 23, 0, 0, 0, 0, 0, 0), (23, .istore_n 0, 24, 0, 0, 0, 0, 0, 0), (24, .iload_n 0, 25, 0, 0, 0, 0, 0, 0), (25, .iload_n 0, 26, 0, 0, 0, 0, 0, 0), (26, .iconst 4, 27, 0, 0, 0, 0, nI 4, 0), (27, .iushr, 28, 0, 0, 0, 0, 0, 0), (28, .iadd, 29, 0, 0, 0, 0, 0, 0), (29, .ldc_w 267, 32, 0, 0, 0, 0, nI 252645135, 0), (32, .iand, 33, 0, 0, 0, 0, 0, 0), (33, .istore_n 0, 34, 0, 0, 0, 0, 0, 0), (34, .iload_n 0, 35, 0, 0, 0, 0, 0, 0), (35, .iload_n 0, 36, 0, 0, 0, 0, 0, 0), (36, .bipush 8, 38, 0, 0, 0, 0, nI 8, 0), (38, .iushr, 39, 0, 0, 0, 0, 0, 0), (39, .iadd, 40, 0, 0, 0, 0, 0, 0), (40, .istore_n 0, 41, 0, 0, 0, 0, 0, 0), (41, .iload_n 0, 42, 0, 0, 0, 0, 0, 0), (42, .iload_n 0, 43, 0, 0, 0, 0, 0, 0), (43, .bipush 16, 45, 0, 0, 0, 0, nI 16, 0), (45, .iushr, 46, 0, 0, 0, 0, 0, 0), (46, .iadd, 47, 0, 0, 0, 0, 0, 0), (47, .istore_n 0, 48, 0, 0, 0, 0, 0, 0), (48, .iload_n 0, 49, 0, 0, 0, 0, 0, 0), (49, .bipush 63, 51, 0, 0, 0, 0, nI 63, 0), (51, .iand, 52, 0, 0, 0, 0, 0, 0), (52, .ireturn, 53, 0, 0, 0, 0, 0, 0)]
def tx_Integer_bitCount : List Nat := [0, 0, 0, 0, 9, 0, 0, 0, 0, 10, 0, 0, 0, 0, 10, 0, 0, 0, 0, 0, 0, 0, 0, 11, 0, 0, 0, 0, 0, 0, 0, 0, 0, 0, 0, 0, 0, 0, 0, 0, 0, 0]
def tb_Law_law : Tab_ := [(0, .new 7, 3, 0, 10, 0, 0, 0, 0), (3, .dup, 4, 0, 0, 0, 0, 0, 0), (4, .invokespecial 9, 7, 0, 0, 0, 0, 0, 0), (7, .astore_n 1, 8, 0, 0, 0, 0, 0, 0), (8, .new 10, 11, 10, 41, 0, 0, 0, 0), (11, .dup, 12, 0, 0, 0, 0, 0, 0), (12, .invokespecial 12, 15, 121, 0, 10, 0, 0, 0), (15, .astore_n 2, 16, 0, 0, 0, 0, 0, 0), (16, .iconst 0, 17, 0, 0, 0, 0, nI 0, 0), (17, .istore_n 3, 18, 0, 0, 0, 0, 0, 0), (18, .iload_n 3, 19, 0, 0, 0, 0, 0, 0), (19, .aload_n 0, 20, 0, 0, 0, 0, 0, 0), (20, .arraylength, 21, 0, 0, 0, 0, 0, 0), (21, .iconst 5, 22, 0, 0, 0, 0, nI 5, 0), (22, .isub, 23, 0, 0, 0, 0, 0, 0), (23, .if_icmp .gt 986, 26, 1009, 0, 0, 0, 0, 0), (26, .aload_n 0, 27, 0, 0, 0, 0, 0, 0), (27, .iload_n 3, 28, 0, 0, 0, 0, 0, 0), (28, .iaload, 29, 0, 0, 0, 0, 0, 0), (29, .bipush 31, 31, 0, 0, 0, 0, nI 31, 0), (31, .iand, 32, 0, 0, 0, 0, 0, 0), (32, .tableswitch 971 0 31 #[144, 167, 190, 203, 226, 249, 292, 325, 358, 371, 384, 397, 430, 443, 466, 499, 522, 535, 548, 571, 604, 637, 680, 693, 717, 760, 803, 816, 849, 902, 925, 948], 176, 1003, 0, 0, 0, 0, 0), (176, .aload_n 1, 177, 0, 0, 0, 0, 0, 0), (177, .aload_n 0, 178, 0, 0, 0, 0, 0, 0), (178, .iload_n 3, 179, 0, 0, 0, 0, 0, 0), (179, .iconst 1, 180, 0, 0, 0, 0, nI 1, 0), (180, .iadd, 181, 0, 0, 0, 0, 0, 0), (181, .iaload, 182, 0, 0, 0, 0, 0, 0), (182, .invokevirtual 13, 185, 1, 1, 0, 0, 0, 0), (185, .aload_n 2, 186, 0, 0, 0, 0, 0, 0), (186, .aload_n 0, 187, 0, 0, 0, 0, 0, 0), (187, .iload_n 3, 188, 0, 0, 0, 0, 0, 0), (188, .iconst 1, 189, 0, 0, 0, 0, nI 1, 0), (189, .iadd, 190, 0, 0, 0, 0, 0, 0), (190, .iaload, 191, 0, 0, 0, 0, 0, 0), (191, .invokevirtual 17, 194, 123, 1, 10, 0, 0, 0), (194, .if_icmp .eq 809, 197, 1003, 0, 0, 0, 0, 0), (197, .iconst 0, 198, 0, 0, 0, 0, nI 0, 0), (198, .ireturn, 199, 1, 0, 0, 0, 0, 0), (199, .aload_n 1, 200, 0, 0, 0, 0, 0, 0), (200, .aload_n 0, 201, 0, 0, 0, 0, 0, 0), (201, .iload_n 3, 202, 0, 0, 0, 0, 0, 0), (202, .iconst 1, 203, 0, 0, 0, 0, nI 1, 0), (203, .iadd, 204, 0, 0, 0, 0, 0, 0), (204, .iaload, 205, 0, 0, 0, 0, 0, 0), (205, .invokevirtual 18, 208, 2, 1, 0, 0, 0, 0), (208, .aload_n 2, 209, 0, 0, 0, 0, 0, 0), (209, .aload_n 0, 210, 0, 0, 0, 0, 0, 0), (210, .iload_n 3, 211, 0, 0, 0, 0, 0, 0), (211, .iconst 1, 212, 0, 0, 0, 0, nI 1, 0), (212, .iadd, 213, 0, 0, 0, 0, 0, 0), (213, .iaload, 214, 0, 0, 0, 0, 0, 0), (214, .invokevirtual 21, 217, 125, 1, 10, 0, 0, 0), (217, .if_icmp .eq 786, 220, 1003, 0, 0, 0, 0, 0), (220, .iconst 0, 221, 0, 0, 0, 0, nI 0, 0), (221, .ireturn, 222, 1, 0, 0, 0, 0, 0), (222, .aload_n 1, 223, 0, 0, 0, 0, 0, 0), (223, .invokevirtual 22, 226, 3, 0, 0, 0, 0, 0), (226, .aload_n 2, 227, 0, 0, 0, 0, 0, 0), (227, .invokevirtual 26, 230, 126, 0, 10, 0, 0, 0), (230, .if_icmp .eq 773, 233, 1003, 0, 0, 0, 0, 0), (233, .iconst 0, 234, 0, 0, 0, 0, nI 0, 0), (234, .ireturn, 235, 1, 0, 0, 0, 0, 0), (235, .aload_n 1, 236, 0, 0, 0, 0, 0, 0), (236, .aload_n 0, 237, 0, 0, 0, 0, 0, 0), (237, .iload_n 3, 238, 0, 0, 0, 0, 0, 0), (238, .iconst 1, 239, 0, 0, 0, 0, nI 1, 0), (239, .iadd, 240, 0, 0, 0, 0, 0, 0), (240, .iaload, 241, 0, 0, 0, 0, 0, 0), (241, .invokevirtual 27, 244, 4, 1, 0, 0, 0, 0), (244, .aload_n 2, 245, 0, 0, 0, 0, 0, 0), (245, .aload_n 0, 246, 0, 0, 0, 0, 0, 0), (246, .iload_n 3, 247, 0, 0, 0, 0, 0, 0), (247, .iconst 1, 248, 0, 0, 0, 0, nI 1, 0), (248, .iadd, 249, 0, 0, 0, 0, 0, 0), (249, .iaload, 250, 0, 0, 0, 0, 0, 0), (250, .invokevirtual 30, 253, 127, 1, 10, 0, 0, 0), (253, .if_icmp .eq 750, 256, 1003, 0, 0, 0, 0, 0), (256, .iconst 0, 257, 0, 0, 0, 0, nI 0, 0), (257, .ireturn, 258, 1, 0, 0, 0, 0, 0), (258, .aload_n 1, 259, 0, 0, 0, 0, 0, 0), (259, .aload_n 0, 260, 0, 0, 0, 0, 0, 0), (260, .iload_n 3, 261, 0, 0, 0, 0, 0, 0), (261, .iconst 1, 262, 0, 0, 0, 0, nI 1, 0), (262, .iadd, 263, 0, 0, 0, 0, 0, 0), (263, .iaload, 264, 0, 0, 0, 0, 0, 0), (264, .invokevirtual 31, 267, 8, 1, 0, 0, 0, 0), (267, .aload_n 2, 268, 0, 0, 0, 0, 0, 0), (268, .aload_n 0, 269, 0, 0, 0, 0, 0, 0), (269, .iload_n 3, 270, 0, 0, 0, 0, 0, 0), (270, .iconst 1, 271, 0, 0, 0, 0, nI 1, 0), (271, .iadd, 272, 0, 0, 0, 0, 0, 0), (272, .iaload, 273, 0, 0, 0, 0, 0, 0), (273, .invokevirtual 34, 276, 132, 1, 10, 0, 0, 0), (276, .if_icmp .eq 727, 279, 1003, 0, 0, 0, 0, 0), (279, .iconst 0, 280, 0, 0, 0, 0, nI 0, 0), (280, .ireturn, 281, 1, 0, 0, 0, 0, 0), (281, .aload_n 1, 282, 0, 0, 0, 0, 0, 0), (282, .aload_n 0, 283, 0, 0, 0, 0, 0, 0), (283, .iload_n 3, 284, 0, 0, 0, 0, 0, 0), (284, .iconst 1, 285, 0, 0, 0, 0, nI 1, 0), (285, .iadd, 286, 0, 0, 0, 0, 0, 0), (286, .iaload, 287, 0, 0, 0, 0, 0, 0), (287, .aload_n 0, 288, 0, 0, 0, 0, 0, 0), (288, .iload_n 3, 289, 0, 0, 0, 0, 0, 0), (289, .iconst 2, 290, 0, 0, 0, 0, nI 2, 0), (290, .iadd, 291, 0, 0, 0, 0, 0, 0), (291, .iaload, 292, 0, 0, 0, 0, 0, 0), (292, .aload_n 0, 293, 0, 0, 0, 0, 0, 0), (293, .iload_n 3, 294, 0, 0, 0, 0, 0, 0), (294, .iconst 3, 295, 0, 0, 0, 0, nI 3, 0), (295, .iadd, 296, 0, 0, 0, 0, 0, 0), (296, .iaload, 297, 0, 0, 0, 0, 0, 0), (297, .invokevirtual 35, 300, 10, 3, 0, 0, 0, 0), (300, .aload_n 2, 301, 0, 0, 0, 0, 0, 0), (301, .aload_n 0, 302, 0, 0, 0, 0, 0, 0), (302, .iload_n 3, 303, 0, 0, 0, 0, 0, 0), (303, .iconst 1, 304, 0, 0, 0, 0, nI 1, 0), (304, .iadd, 305, 0, 0, 0, 0, 0, 0), (305, .iaload, 306, 0, 0, 0, 0, 0, 0), (306, .aload_n 0, 307, 0, 0, 0, 0, 0, 0), (307, .iload_n 3, 308, 0, 0, 0, 0, 0, 0), (308, .iconst 2, 309, 0, 0, 0, 0, nI 2, 0), (309, .iadd, 310, 0, 0, 0, 0, 0, 0), (310, .iaload, 311, 0, 0, 0, 0, 0, 0), (311, .aload_n 0, 312, 0, 0, 0, 0, 0, 0), (312, .iload_n 3, 313, 0, 0, 0, 0, 0, 0), (313, .iconst 3, 314, 0, 0, 0, 0, nI 3, 0), (314, .iadd, 315, 0, 0, 0, 0, 0, 0), (315, .iaload, 316, 0, 0, 0, 0, 0, 0), (316, .invokevirtual 39, 319, 133, 3, 10, 0, 0, 0), (319, .if_icmp .eq 684, 322, 1003, 0, 0, 0, 0, 0), (322, .iconst 0, 323, 0, 0, 0, 0, nI 0, 0), (323, .ireturn, 324, 1, 0, 0, 0, 0, 0), (324, .aload_n 1, 325, 0, 0, 0, 0, 0, 0), (325, .aload_n 0, 326, 0, 0, 0, 0, 0, 0), (326, .iload_n 3, 327, 0, 0, 0, 0, 0, 0), (327, .iconst 1, 328, 0, 0, 0, 0, nI 1, 0), (328, .iadd, 329, 0, 0, 0, 0, 0, 0), (329, .iaload, 330, 0, 0, 0, 0, 0, 0), (330, .aload_n 0, 331, 0, 0, 0, 0, 0, 0), (331, .iload_n 3, 332, 0, 0, 0, 0, 0, 0), (332, .iconst 2, 333, 0, 0, 0, 0, nI 2, 0), (333, .iadd, 334, 0, 0, 0, 0, 0, 0), (334, .iaload, 335, 0, 0, 0, 0, 0, 0), (335, .invokevirtual 40, 338, 12, 2, 0, 0, 0, 0), (338, .aload_n 2, 339, 0, 0, 0, 0, 0, 0), (339, .aload_n 0, 340, 0, 0, 0, 0, 0, 0), (340, .iload_n 3, 341, 0, 0, 0, 0, 0, 0), (341, .iconst 1, 342, 0, 0, 0, 0, nI 1, 0), (342, .iadd, 343, 0, 0, 0, 0, 0, 0), (343, .iaload, 344, 0, 0, 0, 0, 0, 0), (344, .aload_n 0, 345, 0, 0, 0, 0, 0, 0), (345, .iload_n 3, 346, 0, 0, 0, 0, 0, 0), (346, .iconst 2, 347, 0, 0, 0, 0, nI 2, 0), (347, .iadd, 348, 0, 0, 0, 0, 0, 0), (348, .iaload, 349, 0, 0, 0, 0, 0, 0), (349, .invokevirtual 44, 352, 136, 2, 10, 0, 0, 0), (352, .if_icmp .eq 651, 355, 1003, 0, 0, 0, 0, 0), (355, .iconst 0, 356, 0, 0, 0, 0, nI 0, 0), (356, .ireturn, 357, 1, 0, 0, 0, 0, 0), (357, .aload_n 1, 358, 0, 0, 0, 0, 0, 0), (358, .aload_n 0, 359, 0, 0, 0, 0, 0, 0), (359, .iload_n 3, 360, 0, 0, 0, 0, 0, 0), (360, .iconst 1, 361, 0, 0, 0, 0, nI 1, 0), (361, .iadd, 362, 0, 0, 0, 0, 0, 0), (362, .iaload, 363, 0, 0, 0, 0, 0, 0), (363, .aload_n 0, 364, 0, 0, 0, 0, 0, 0), (364, .iload_n 3, 365, 0, 0, 0, 0, 0, 0), (365, .iconst 2, 366, 0, 0, 0, 0, nI 2, 0), (366, .iadd, 367, 0, 0, 0, 0, 0, 0), (367, .iaload, 368, 0, 0, 0, 0, 0, 0), (368, .invokevirtual 45, 371, 16, 2, 0, 0, 0, 0), (371, .aload_n 2, 372, 0, 0, 0, 0, 0, 0), (372, .aload_n 0, 373, 0, 0, 0, 0, 0, 0), (373, .iload_n 3, 374, 0, 0, 0, 0, 0, 0), (374, .iconst 1, 375, 0, 0, 0, 0, nI 1, 0), (375, .iadd, 376, 0, 0, 0, 0, 0, 0), (376, .iaload, 377, 0, 0, 0, 0, 0, 0), (377, .aload_n 0, 378, 0, 0, 0, 0, 0, 0), (378, .iload_n 3, 379, 0, 0, 0, 0, 0, 0), (379, .iconst 2, 380, 0, 0, 0, 0, nI 2, 0), (380, .iadd, 381, 0, 0, 0, 0, 0, 0), (381, .iaload, 382, 0, 0, 0, 0, 0, 0), (382, .invokevirtual 48, 385, 137, 2, 10, 0, 0, 0), (385, .if_icmp .eq 618, 388, 1003, 0, 0, 0, 0, 0), (388, .iconst 0, 389, 0, 0, 0, 0, nI 0, 0), (389, .ireturn, 390, 1, 0, 0, 0, 0, 0), (390, .aload_n 1, 391, 0, 0, 0, 0, 0, 0), (391, .invokevirtual 49, 394, 17, 0, 0, 0, 0, 0), (394, .aload_n 2, 395, 0, 0, 0, 0, 0, 0), (395, .invokevirtual 52, 398, 138, 0, 10, 0, 0, 0), (398, .if_icmp .eq 605, 401, 1003, 0, 0, 0, 0, 0), (401, .iconst 0, 402, 0, 0, 0, 0, nI 0, 0), (402, .ireturn, 403, 1, 0, 0, 0, 0, 0), (403, .aload_n 1, 404, 0, 0, 0, 0, 0, 0), (404, .invokevirtual 53, 407, 19, 0, 0, 0, 0, 0), (407, .aload_n 2, 408, 0, 0, 0, 0, 0, 0), (408, .invokevirtual 56, 411, 141, 0, 10, 0, 0, 0), (411, .if_icmp .eq 592, 414, 1003, 0, 0, 0, 0, 0), (414, .iconst 0, 415, 0, 0, 0, 0, nI 0, 0), (415, .ireturn, 416, 1, 0, 0, 0, 0, 0), (416, .aload_n 1, 417, 0, 0, 0, 0, 0, 0), (417, .invokevirtual 57, 420, 21, 0, 0, 0, 0, 0), (420, .aload_n 2, 421, 0, 0, 0, 0, 0, 0), (421, .invokevirtual 60, 424, 142, 0, 10, 0, 0, 0), (424, .if_icmp .eq 579, 427, 1003, 0, 0, 0, 0, 0), (427, .iconst 0, 428, 0, 0, 0, 0, nI 0, 0), (428, .ireturn, 429, 1, 0, 0, 0, 0, 0), (429, .aload_n 1, 430, 0, 0, 0, 0, 0, 0), (430, .aload_n 0, 431, 0, 0, 0, 0, 0, 0), (431, .iload_n 3, 432, 0, 0, 0, 0, 0, 0), (432, .iconst 1, 433, 0, 0, 0, 0, nI 1, 0), (433, .iadd, 434, 0, 0, 0, 0, 0, 0), (434, .iaload, 435, 0, 0, 0, 0, 0, 0), (435, .aload_n 0, 436, 0, 0, 0, 0, 0, 0), (436, .iload_n 3, 437, 0, 0, 0, 0, 0, 0), (437, .iconst 2, 438, 0, 0, 0, 0, nI 2, 0), (438, .iadd, 439, 0, 0, 0, 0, 0, 0), (439, .iaload, 440, 0, 0, 0, 0, 0, 0), (440, .invokevirtual 61, 443, 22, 2, 0, 0, 0, 0), (443, .aload_n 2, 444, 0, 0, 0, 0, 0, 0), (444, .aload_n 0, 445, 0, 0, 0, 0, 0, 0), (445, .iload_n 3, 446, 0, 0, 0, 0, 0, 0), (446, .iconst 1, 447, 0, 0, 0, 0, nI 1, 0), (447, .iadd, 448, 0, 0, 0, 0, 0, 0), (448, .iaload, 449, 0, 0, 0, 0, 0, 0), (449, .aload_n 0, 450, 0, 0, 0, 0, 0, 0), (450, .iload_n 3, 451, 0, 0, 0, 0, 0, 0), (451, .iconst 2, 452, 0, 0, 0, 0, nI 2, 0), (452, .iadd, 453, 0, 0, 0, 0, 0, 0), (453, .iaload, 454, 0, 0, 0, 0, 0, 0), (454, .invokevirtual 64, 457, 143, 2, 10, 0, 0, 0), (457, .if_icmp .eq 546, 460, 1003, 0, 0, 0, 0, 0), (460, .iconst 0, 461, 0, 0, 0, 0, nI 0, 0), (461, .ireturn, 462, 1, 0, 0, 0, 0, 0), (462, .aload_n 1, 463, 0, 0, 0, 0, 0, 0), (463, .invokevirtual 65, 466, 23, 0, 0, 0, 0, 0), (466, .aload_n 2, 467, 0, 0, 0, 0, 0, 0), (467, .invokevirtual 68, 470, 145, 0, 10, 0, 0, 0), (470, .if_icmp .eq 533, 473, 1003, 0, 0, 0, 0, 0), (473, .iconst 0, 474, 0, 0, 0, 0, nI 0, 0), (474, .ireturn, 475, 1, 0, 0, 0, 0, 0), (475, .aload_n 1, 476, 0, 0, 0, 0, 0, 0), (476, .aload_n 0, 477, 0, 0, 0, 0, 0, 0), (477, .iload_n 3, 478, 0, 0, 0, 0, 0, 0), (478, .iconst 1, 479, 0, 0, 0, 0, nI 1, 0), (479, .iadd, 480, 0, 0, 0, 0, 0, 0), (480, .iaload, 481, 0, 0, 0, 0, 0, 0), (481, .invokevirtual 69, 484, 24, 1, 0, 0, 0, 0), (484, .aload_n 2, 485, 0, 0, 0, 0, 0, 0), (485, .aload_n 0, 486, 0, 0, 0, 0, 0, 0), (486, .iload_n 3, 487, 0, 0, 0, 0, 0, 0), (487, .iconst 1, 488, 0, 0, 0, 0, nI 1, 0), (488, .iadd, 489, 0, 0, 0, 0, 0, 0), (489, .iaload, 490, 0, 0, 0, 0, 0, 0), (490, .invokevirtual 72, 493, 148, 1, 10, 0, 0, 0), (493, .if_icmp .eq 510, 496, 1003, 0, 0, 0, 0, 0), (496, .iconst 0, 497, 0, 0, 0, 0, nI 0, 0), (497, .ireturn, 498, 1, 0, 0, 0, 0, 0), (498, .aload_n 1, 499, 0, 0, 0, 0, 0, 0), (499, .aload_n 0, 500, 0, 0, 0, 0, 0, 0), (500, .iload_n 3, 501, 0, 0, 0, 0, 0, 0), (501, .iconst 1, 502, 0, 0, 0, 0, nI 1, 0), (502, .iadd, 503, 0, 0, 0, 0, 0, 0), (503, .iaload, 504, 0, 0, 0, 0, 0, 0), (504, .aload_n 0, 505, 0, 0, 0, 0, 0, 0), (505, .iload_n 3, 506, 0, 0, 0, 0, 0, 0), (506, .iconst 2, 507, 0, 0, 0, 0, nI 2, 0), (507, .iadd, 508, 0, 0, 0, 0, 0, 0), (508, .iaload, 509, 0, 0, 0, 0, 0, 0), (509, .invokevirtual 73, 512, 25, 2, 0, 0, 0, 0), (512, .aload_n 2, 513, 0, 0, 0, 0, 0, 0), (513, .aload_n 0, 514, 0, 0, 0, 0, 0, 0), (514, .iload_n 3, 515, 0, 0, 0, 0, 0, 0), (515, .iconst 1, 516, 0, 0, 0, 0, nI 1, 0), (516, .iadd, 517, 0, 0, 0, 0, 0, 0), (517, .iaload, 518, 0, 0, 0, 0, 0, 0), (518, .aload_n 0, 519, 0, 0, 0, 0, 0, 0), (519, .iload_n 3, 520, 0, 0, 0, 0, 0, 0), (520, .iconst 2, 521, 0, 0, 0, 0, nI 2, 0), (521, .iadd, 522, 0, 0, 0, 0, 0, 0), (522, .iaload, 523, 0, 0, 0, 0, 0, 0), (523, .invokevirtual 76, 526, 149, 2, 10, 0, 0, 0), (526, .if_icmp .eq 477, 529, 1003, 0, 0, 0, 0, 0), (529, .iconst 0, 530, 0, 0, 0, 0, nI 0, 0), (530, .ireturn, 531, 1, 0, 0, 0, 0, 0), (531, .aload_n 1, 532, 0, 0, 0, 0, 0, 0), (532, .aload_n 0, 533, 0, 0, 0, 0, 0, 0), (533, .iload_n 3, 534, 0, 0, 0, 0, 0, 0), (534, .iconst 1, 535, 0, 0, 0, 0, nI 1, 0), (535, .iadd, 536, 0, 0, 0, 0, 0, 0), (536, .iaload, 537, 0, 0, 0, 0, 0, 0), (537, .invokevirtual 77, 540, 26, 1, 0, 0, 0, 0), (540, .aload_n 2, 541, 0, 0, 0, 0, 0, 0), (541, .aload_n 0, 542, 0, 0, 0, 0, 0, 0), (542, .iload_n 3, 543, 0, 0, 0, 0, 0, 0), (543, .iconst 1, 544, 0, 0, 0, 0, nI 1, 0), (544, .iadd, 545, 0, 0, 0, 0, 0, 0), (545, .iaload, 546, 0, 0, 0, 0, 0, 0), (546, .invokevirtual 80, 549, 150, 1, 10, 0, 0, 0), (549, .if_icmp .eq 454, 552, 1003, 0, 0, 0, 0, 0), (552, .iconst 0, 553, 0, 0, 0, 0, nI 0, 0), (553, .ireturn, 554, 1, 0, 0, 0, 0, 0), (554, .aload_n 1, 555, 0, 0, 0, 0, 0, 0), (555, .invokevirtual 81, 558, 27, 0, 0, 0, 0, 0), (558, .aload_n 2, 559, 0, 0, 0, 0, 0, 0), (559, .invokevirtual 84, 562, 159, 0, 10, 0, 0, 0), (562, .if_icmp .eq 441, 565, 1003, 0, 0, 0, 0, 0), (565, .iconst 0, 566, 0, 0, 0, 0, nI 0, 0), (566, .ireturn, 567, 1, 0, 0, 0, 0, 0), (567, .aload_n 1, 568, 0, 0, 0, 0, 0, 0), (568, .invokevirtual 85, 571, 28, 0, 0, 0, 0, 0), (571, .aload_n 2, 572, 0, 0, 0, 0, 0, 0), (572, .invokevirtual 88, 575, 160, 0, 10, 0, 0, 0), (575, .if_icmp .eq 428, 578, 1003, 0, 0, 0, 0, 0), (578, .iconst 0, 579, 0, 0, 0, 0, nI 0, 0), (579, .ireturn, 580, 1, 0, 0, 0, 0, 0), (580, .aload_n 1, 581, 0, 0, 0, 0, 0, 0), (581, .aload_n 0, 582, 0, 0, 0, 0, 0, 0), (582, .iload_n 3, 583, 0, 0, 0, 0, 0, 0), (583, .iconst 1, 584, 0, 0, 0, 0, nI 1, 0), (584, .iadd, 585, 0, 0, 0, 0, 0, 0), (585, .iaload, 586, 0, 0, 0, 0, 0, 0), (586, .invokevirtual 89, 589, 29, 1, 0, 0, 0, 0), (589, .aload_n 2, 590, 0, 0, 0, 0, 0, 0), (590, .aload_n 0, 591, 0, 0, 0, 0, 0, 0), (591, .iload_n 3, 592, 0, 0, 0, 0, 0, 0), (592, .iconst 1, 593, 0, 0, 0, 0, nI 1, 0), (593, .iadd, 594, 0, 0, 0, 0, 0, 0), (594, .iaload, 595, 0, 0, 0, 0, 0, 0), (595, .invokevirtual 92, 598, 161, 1, 10, 0, 0, 0), (598, .if_icmp .eq 405, 601, 1003, 0, 0, 0, 0, 0), (601, .iconst 0, 602, 0, 0, 0, 0, nI 0, 0), (602, .ireturn, 603, 1, 0, 0, 0, 0, 0), (603, .aload_n 1, 604, 0, 0, 0, 0, 0, 0), (604, .aload_n 0, 605, 0, 0, 0, 0, 0, 0), (605, .iload_n 3, 606, 0, 0, 0, 0, 0, 0), (606, .iconst 1, 607, 0, 0, 0, 0, nI 1, 0), (607, .iadd, 608, 0, 0, 0, 0, 0, 0), (608, .iaload, 609, 0, 0, 0, 0, 0, 0), (609, .aload_n 0, 610, 0, 0, 0, 0, 0, 0), (610, .iload_n 3, 611, 0, 0, 0, 0, 0, 0), (611, .iconst 2, 612, 0, 0, 0, 0, nI 2, 0), (612, .iadd, 613, 0, 0, 0, 0, 0, 0), (613, .iaload, 614, 0, 0, 0, 0, 0, 0), (614, .invokevirtual 93, 617, 31, 2, 0, 0, 0, 0), (617, .aload_n 2, 618, 0, 0, 0, 0, 0, 0), (618, .aload_n 0, 619, 0, 0, 0, 0, 0, 0), (619, .iload_n 3, 620, 0, 0, 0, 0, 0, 0), (620, .iconst 1, 621, 0, 0, 0, 0, nI 1, 0), (621, .iadd, 622, 0, 0, 0, 0, 0, 0), (622, .iaload, 623, 0, 0, 0, 0, 0, 0), (623, .aload_n 0, 624, 0, 0, 0, 0, 0, 0), (624, .iload_n 3, 625, 0, 0, 0, 0, 0, 0), (625, .iconst 2, 626, 0, 0, 0, 0, nI 2, 0), (626, .iadd, 627, 0, 0, 0, 0, 0, 0), (627, .iaload, 628, 0, 0, 0, 0, 0, 0), (628, .invokevirtual 96, 631, 162, 2, 10, 0, 0, 0), (631, .if_icmp .eq 372, 634, 1003, 0, 0, 0, 0, 0), (634, .iconst 0, 635, 0, 0, 0, 0, nI 0, 0), (635, .ireturn, 636, 1, 0, 0, 0, 0, 0), (636, .aload_n 1, 637, 0, 0, 0, 0, 0, 0), (637, .aload_n 0, 638, 0, 0, 0, 0, 0, 0), (638, .iload_n 3, 639, 0, 0, 0, 0, 0, 0), (639, .iconst 1, 640, 0, 0, 0, 0, nI 1, 0), (640, .iadd, 641, 0, 0, 0, 0, 0, 0), (641, .iaload, 642, 0, 0, 0, 0, 0, 0), (642, .aload_n 0, 643, 0, 0, 0, 0, 0, 0), (643, .iload_n 3, 644, 0, 0, 0, 0, 0, 0), (644, .iconst 2, 645, 0, 0, 0, 0, nI 2, 0), (645, .iadd, 646, 0, 0, 0, 0, 0, 0), (646, .iaload, 647, 0, 0, 0, 0, 0, 0), (647, .invokevirtual 97, 650, 32, 2, 0, 0, 0, 0), (650, .aload_n 2, 651, 0, 0, 0, 0, 0, 0), (651, .aload_n 0, 652, 0, 0, 0, 0, 0, 0), (652, .iload_n 3, 653, 0, 0, 0, 0, 0, 0), (653, .iconst 1, 654, 0, 0, 0, 0, nI 1, 0), (654, .iadd, 655, 0, 0, 0, 0, 0, 0), (655, .iaload, 656, 0, 0, 0, 0, 0, 0), (656, .aload_n 0, 657, 0, 0, 0, 0, 0, 0), (657, .iload_n 3, 658, 0, 0, 0, 0, 0, 0), (658, .iconst 2, 659, 0, 0, 0, 0, nI 2, 0), (659, .iadd, 660, 0, 0, 0, 0, 0, 0), (660, .iaload, 661, 0, 0, 0, 0, 0, 0), (661, .invokevirtual 100, 664, 163, 2, 10, 0, 0, 0), (664, .if_icmp .eq 339, 667, 1003, 0, 0, 0, 0, 0), (667, .iconst 0, 668, 0, 0, 0, 0, nI 0, 0), (668, .ireturn, 669, 1, 0, 0, 0, 0, 0), (669, .aload_n 1, 670, 0, 0, 0, 0, 0, 0), (670, .aload_n 0, 671, 0, 0, 0, 0, 0, 0), (671, .iload_n 3, 672, 0, 0, 0, 0, 0, 0), (672, .iconst 1, 673, 0, 0, 0, 0, nI 1, 0), (673, .iadd, 674, 0, 0, 0, 0, 0, 0), (674, .iaload, 675, 0, 0, 0, 0, 0, 0), (675, .aload_n 0, 676, 0, 0, 0, 0, 0, 0), (676, .iload_n 3, 677, 0, 0, 0, 0, 0, 0), (677, .iconst 2, 678, 0, 0, 0, 0, nI 2, 0), (678, .iadd, 679, 0, 0, 0, 0, 0, 0), (679, .iaload, 680, 0, 0, 0, 0, 0, 0), (680, .aload_n 0, 681, 0, 0, 0, 0, 0, 0), (681, .iload_n 3, 682, 0, 0, 0, 0, 0, 0), (682, .iconst 3, 683, 0, 0, 0, 0, nI 3, 0), (683, .iadd, 684, 0, 0, 0, 0, 0, 0), (684, .iaload, 685, 0, 0, 0, 0, 0, 0), (685, .invokevirtual 101, 688, 35, 3, 0, 0, 0, 0), (688, .aload_n 2, 689, 0, 0, 0, 0, 0, 0), (689, .aload_n 0, 690, 0, 0, 0, 0, 0, 0), (690, .iload_n 3, 691, 0, 0, 0, 0, 0, 0), (691, .iconst 1, 692, 0, 0, 0, 0, nI 1, 0), (692, .iadd, 693, 0, 0, 0, 0, 0, 0), (693, .iaload, 694, 0, 0, 0, 0, 0, 0), (694, .aload_n 0, 695, 0, 0, 0, 0, 0, 0), (695, .iload_n 3, 696, 0, 0, 0, 0, 0, 0), (696, .iconst 2, 697, 0, 0, 0, 0, nI 2, 0), (697, .iadd, 698, 0, 0, 0, 0, 0, 0), (698, .iaload, 699, 0, 0, 0, 0, 0, 0), (699, .aload_n 0, 700, 0, 0, 0, 0, 0, 0), (700, .iload_n 3, 701, 0, 0, 0, 0, 0, 0), (701, .iconst 3, 702, 0, 0, 0, 0, nI 3, 0), (702, .iadd, 703, 0, 0, 0, 0, 0, 0), (703, .iaload, 704, 0, 0, 0, 0, 0, 0), (704, .invokevirtual 104, 707, 165, 3, 10, 0, 0, 0), (707, .if_icmp .eq 296, 710, 1003, 0, 0, 0, 0, 0), (710, .iconst 0, 711, 0, 0, 0, 0, nI 0, 0), (711, .ireturn, 712, 1, 0, 0, 0, 0, 0), (712, .aload_n 1, 713, 0, 0, 0, 0, 0, 0), (713, .invokevirtual 105, 716, 37, 0, 0, 0, 0, 0), (716, .aload_n 2, 717, 0, 0, 0, 0, 0, 0), (717, .invokevirtual 108, 720, 166, 0, 10, 0, 0, 0), (720, .if_icmp .eq 283, 723, 1003, 0, 0, 0, 0, 0), (723, .iconst 0, 724, 0, 0, 0, 0, nI 0, 0), (724, .ireturn, 725, 1, 0, 0, 0, 0, 0), (725, .aload_n 1, 726, 0, 0, 0, 0, 0, 0), (726, .aload_n 0, 727, 0, 0, 0, 0, 0, 0), (727, .iload_n 3, 728, 0, 0, 0, 0, 0, 0), (728, .iconst 1, 729, 0, 0, 0, 0, nI 1, 0), (729, .iadd, 730, 0, 0, 0, 0, 0, 0), (730, .iaload, 731, 0, 0, 0, 0, 0, 0), (731, .invokevirtual 109, 734, 39, 1, 0, 0, 0, 0), (734, .aload_n 2, 735, 0, 0, 0, 0, 0, 0), (735, .aload_n 0, 736, 0, 0, 0, 0, 0, 0), (736, .iload_n 3, 737, 0, 0, 0, 0, 0, 0), (737, .iconst 1, 738, 0, 0, 0, 0, nI 1, 0), (738, .iadd, 739, 0, 0, 0, 0, 0, 0), (739, .iaload, 740, 0, 0, 0, 0, 0, 0), (740, .invokevirtual 113, 743, 167, 1, 10, 0, 0, 0), (743, .lcmp, 744, 0, 0, 0, 0, 0, 0), (744, .ifCond .eq 259, 747, 1003, 0, 0, 0, 0, 0), (747, .iconst 0, 748, 0, 0, 0, 0, nI 0, 0), (748, .ireturn, 749, 1, 0, 0, 0, 0, 0), (749, .aload_n 1, 750, 0, 0, 0, 0, 0, 0), (750, .aload_n 0, 751, 0, 0, 0, 0, 0, 0), (751, .iload_n 3, 752, 0, 0, 0, 0, 0, 0), (752, .iconst 1, 753, 0, 0, 0, 0, nI 1, 0), (753, .iadd, 754, 0, 0, 0, 0, 0, 0), (754, .iaload, 755, 0, 0, 0, 0, 0, 0), (755, .aload_n 0, 756, 0, 0, 0, 0, 0, 0), (756, .iload_n 3, 757, 0, 0, 0, 0, 0, 0), (757, .iconst 2, 758, 0, 0, 0, 0, nI 2, 0), (758, .iadd, 759, 0, 0, 0, 0, 0, 0), (759, .iaload, 760, 0, 0, 0, 0, 0, 0), (760, .aload_n 0, 761, 0, 0, 0, 0, 0, 0), (761, .iload_n 3, 762, 0, 0, 0, 0, 0, 0), (762, .iconst 3, 763, 0, 0, 0, 0, nI 3, 0), (763, .iadd, 764, 0, 0, 0, 0, 0, 0), (764, .iaload, 765, 0, 0, 0, 0, 0, 0), (765, .invokevirtual 114, 768, 40, 3, 0, 0, 0, 0), (768, .aload_n 2, 769, 0, 0, 0, 0, 0, 0), (769, .aload_n 0, 770, 0, 0, 0, 0, 0, 0), (770, .iload_n 3, 771, 0, 0, 0, 0, 0, 0), (771, .iconst 1, 772, 0, 0, 0, 0, nI 1, 0), (772, .iadd, 773, 0, 0, 0, 0, 0, 0), (773, .iaload, 774, 0, 0, 0, 0, 0, 0), (774, .aload_n 0, 775, 0, 0, 0, 0, 0, 0), (775, .iload_n 3, 776, 0, 0, 0, 0, 0, 0), (776, .iconst 2, 777, 0, 0, 0, 0, nI 2, 0), (777, .iadd, 778, 0, 0, 0, 0, 0, 0), (778, .iaload, 779, 0, 0, 0, 0, 0, 0), (779, .aload_n 0, 780, 0, 0, 0, 0, 0, 0), (780, .iload_n 3, 781, 0, 0, 0, 0, 0, 0), (781, .iconst 3, 782, 0, 0, 0, 0, nI 3, 0), (782, .iadd, 783, 0, 0, 0, 0, 0, 0), (783, .iaload, 784, 0, 0, 0, 0, 0, 0), (784, .invokevirtual 117, 787, 171, 3, 10, 0, 0, 0), (787, .if_icmp .eq 216, 790, 1003, 0, 0, 0, 0, 0), (790, .iconst 0, 791, 0, 0, 0, 0, nI 0, 0), (791, .ireturn, 792, 1, 0, 0, 0, 0, 0), (792, .aload_n 1, 793, 0, 0, 0, 0, 0, 0), (793, .aload_n 0, 794, 0, 0, 0, 0, 0, 0), (794, .iload_n 3, 795, 0, 0, 0, 0, 0, 0), (795, .iconst 1, 796, 0, 0, 0, 0, nI 1, 0), (796, .iadd, 797, 0, 0, 0, 0, 0, 0), (797, .iaload, 798, 0, 0, 0, 0, 0, 0), (798, .aload_n 0, 799, 0, 0, 0, 0, 0, 0), (799, .iload_n 3, 800, 0, 0, 0, 0, 0, 0), (800, .iconst 2, 801, 0, 0, 0, 0, nI 2, 0), (801, .iadd, 802, 0, 0, 0, 0, 0, 0), (802, .iaload, 803, 0, 0, 0, 0, 0, 0), (803, .aload_n 0, 804, 0, 0, 0, 0, 0, 0), (804, .iload_n 3, 805, 0, 0, 0, 0, 0, 0), (805, .iconst 3, 806, 0, 0, 0, 0, nI 3, 0), (806, .iadd, 807, 0, 0, 0, 0, 0, 0), (807, .iaload, 808, 0, 0, 0, 0, 0, 0), (808, .invokevirtual 118, 811, 41, 3, 0, 0, 0, 0), (811, .aload_n 2, 812, 0, 0, 0, 0, 0, 0), (812, .aload_n 0, 813, 0, 0, 0, 0, 0, 0), (813, .iload_n 3, 814, 0, 0, 0, 0, 0, 0), (814, .iconst 1, 815, 0, 0, 0, 0, nI 1, 0), (815, .iadd, 816, 0, 0, 0, 0, 0, 0), (816, .iaload, 817, 0, 0, 0, 0, 0, 0), (817, .aload_n 0, 818, 0, 0, 0, 0, 0, 0), (818, .iload_n 3, 819, 0, 0, 0, 0, 0, 0), (819, .iconst 2, 820, 0, 0, 0, 0, nI 2, 0), (820, .iadd, 821, 0, 0, 0, 0, 0, 0), (821, .iaload, 822, 0, 0, 0, 0, 0, 0), (822, .aload_n 0, 823, 0, 0, 0, 0, 0, 0), (823, .iload_n 3, 824, 0, 0, 0, 0, 0, 0), (824, .iconst 3, 825, 0, 0, 0, 0, nI 3, 0), (825, .iadd, 826, 0, 0, 0, 0, 0, 0), (826, .iaload, 827, 0, 0, 0, 0, 0, 0), (827, .invokevirtual 121, 830, 175, 3, 10, 0, 0, 0), (830, .if_icmp .eq 173, 833, 1003, 0, 0, 0, 0, 0), (833, .iconst 0, 834, 0, 0, 0, 0, nI 0, 0), (834, .ireturn, 835, 1, 0, 0, 0, 0, 0), (835, .aload_n 1, 836, 0, 0, 0, 0, 0, 0), (836, .invokevirtual 122, 839, 42, 0, 0, 0, 0, 0), (839, .aload_n 2, 840, 0, 0, 0, 0, 0, 0), (840, .invokevirtual 125, 843, 176, 0, 10, 0, 0, 0), (843, .if_icmp .eq 160, 846, 1003, 0, 0, 0, 0, 0), (846, .iconst 0, 847, 0, 0, 0, 0, nI 0, 0), (847, .ireturn, 848, 1, 0, 0, 0, 0, 0), (848, .aload_n 1, 849, 0, 0, 0, 0, 0, 0), (849, .aload_n 0, 850, 0, 0, 0, 0, 0, 0), (850, .iload_n 3, 851, 0, 0, 0, 0, 0, 0), (851, .iconst 1, 852, 0, 0, 0, 0, nI 1, 0), (852, .iadd, 853, 0, 0, 0, 0, 0, 0), (853, .iaload, 854, 0, 0, 0, 0, 0, 0), (854, .aload_n 0, 855, 0, 0, 0, 0, 0, 0), (855, .iload_n 3, 856, 0, 0, 0, 0, 0, 0), (856, .iconst 2, 857, 0, 0, 0, 0, nI 2, 0), (857, .iadd, 858, 0, 0, 0, 0, 0, 0), (858, .iaload, 859, 0, 0, 0, 0, 0, 0), (859, .invokevirtual 126, 862, 43, 2, 0, 0, 0, 0), (862, .aload_n 2, 863, 0, 0, 0, 0, 0, 0), (863, .aload_n 0, 864, 0, 0, 0, 0, 0, 0), (864, .iload_n 3, 865, 0, 0, 0, 0, 0, 0), (865, .iconst 1, 866, 0, 0, 0, 0, nI 1, 0), (866, .iadd, 867, 0, 0, 0, 0, 0, 0), (867, .iaload, 868, 0, 0, 0, 0, 0, 0), (868, .aload_n 0, 869, 0, 0, 0, 0, 0, 0), (869, .iload_n 3, 870, 0, 0, 0, 0, 0, 0), (870, .iconst 2, 871, 0, 0, 0, 0, nI 2, 0), (871, .iadd, 872, 0, 0, 0, 0, 0, 0), (872, .iaload, 873, 0, 0, 0, 0, 0, 0), (873, .invokevirtual 129, 876, 177, 2, 10, 0, 0, 0), (876, .if_icmp .eq 127, 879, 1003, 0, 0, 0, 0, 0), (879, .iconst 0, 880, 0, 0, 0, 0, nI 0, 0), (880, .ireturn, 881, 1, 0, 0, 0, 0, 0), (881, .aload_n 1, 882, 0, 0, 0, 0, 0, 0), (882, .aload_n 0, 883, 0, 0, 0, 0, 0, 0), (883, .iload_n 3, 884, 0, 0, 0, 0, 0, 0), (884, .iconst 1, 885, 0, 0, 0, 0, nI 1, 0), (885, .iadd, 886, 0, 0, 0, 0, 0, 0), (886, .iaload, 887, 0, 0, 0, 0, 0, 0), (887, .aload_n 0, 888, 0, 0, 0, 0, 0, 0), (888, .iload_n 3, 889, 0, 0, 0, 0, 0, 0), (889, .iconst 2, 890, 0, 0, 0, 0, nI 2, 0), (890, .iadd, 891, 0, 0, 0, 0, 0, 0), (891, .iaload, 892, 0, 0, 0, 0, 0, 0), (892, .aload_n 0, 893, 0, 0, 0, 0, 0, 0), (893, .iload_n 3, 894, 0, 0, 0, 0, 0, 0), (894, .iconst 3, 895, 0, 0, 0, 0, nI 3, 0), (895, .iadd, 896, 0, 0, 0, 0, 0, 0), (896, .iaload, 897, 0, 0, 0, 0, 0, 0), (897, .aload_n 0, 898, 0, 0, 0, 0, 0, 0), (898, .iload_n 3, 899, 0, 0, 0, 0, 0, 0), (899, .iconst 4, 900, 0, 0, 0, 0, nI 4, 0), (900, .iadd, 901, 0, 0, 0, 0, 0, 0), (901, .iaload, 902, 0, 0, 0, 0, 0, 0), (902, .invokevirtual 130, 905, 44, 4, 0, 0, 0, 0), (905, .aload_n 2, 906, 0, 0, 0, 0, 0, 0), (906, .aload_n 0, 907, 0, 0, 0, 0, 0, 0), (907, .iload_n 3, 908, 0, 0, 0, 0, 0, 0), (908, .iconst 1, 909, 0, 0, 0, 0, nI 1, 0), (909, .iadd, 910, 0, 0, 0, 0, 0, 0), (910, .iaload, 911, 0, 0, 0, 0, 0, 0), (911, .aload_n 0, 912, 0, 0, 0, 0, 0, 0), (912, .iload_n 3, 913, 0, 0, 0, 0, 0, 0), (913, .iconst 2, 914, 0, 0, 0, 0, nI 2, 0), (914, .iadd, 915, 0, 0, 0, 0, 0, 0), (915, .iaload, 916, 0, 0, 0, 0, 0, 0), (916, .aload_n 0, 917, 0, 0, 0, 0, 0, 0), (917, .iload_n 3, 918, 0, 0, 0, 0, 0, 0), (918, .iconst 3, 919, 0, 0, 0, 0, nI 3, 0), (919, .iadd, 920, 0, 0, 0, 0, 0, 0), (920, .iaload, 921, 0, 0, 0, 0, 0, 0), (921, .aload_n 0, 922, 0, 0, 0, 0, 0, 0), (922, .iload_n 3, 923, 0, 0, 0, 0, 0, 0), (923, .iconst 4, 924, 0, 0, 0, 0, nI 4, 0), (924, .iadd, 925, 0, 0, 0, 0, 0, 0), (925, .iaload, 926, 0, 0, 0, 0, 0, 0), (926, .invokevirtual 134, 929, 181, 4, 10, 0, 0, 0), (929, .if_icmp .eq 74, 932, 1003, 0, 0, 0, 0, 0), (932, .iconst 0, 933, 0, 0, 0, 0, nI 0, 0), (933, .ireturn, 934, 1, 0, 0, 0, 0, 0), (934, .aload_n 1, 935, 0, 0, 0, 0, 0, 0), (935, .aload_n 0, 936, 0, 0, 0, 0, 0, 0), (936, .iload_n 3, 937, 0, 0, 0, 0, 0, 0), (937, .iconst 1, 938, 0, 0, 0, 0, nI 1, 0), (938, .iadd, 939, 0, 0, 0, 0, 0, 0), (939, .iaload, 940, 0, 0, 0, 0, 0, 0), (940, .invokevirtual 135, 943, 47, 1, 0, 0, 0, 0), (943, .aload_n 2, 944, 0, 0, 0, 0, 0, 0), (944, .aload_n 0, 945, 0, 0, 0, 0, 0, 0), (945, .iload_n 3, 946, 0, 0, 0, 0, 0, 0), (946, .iconst 1, 947, 0, 0, 0, 0, nI 1, 0), (947, .iadd, 948, 0, 0, 0, 0, 0, 0), (948, .iaload, 949, 0, 0, 0, 0, 0, 0), (949, .invokevirtual 138, 952, 182, 1, 10, 0, 0, 0), (952, .if_icmp .eq 51, 955, 1003, 0, 0, 0, 0, 0), (955, .iconst 0, 956, 0, 0, 0, 0, nI 0, 0), (956, .ireturn, 957, 1, 0, 0, 0, 0, 0), (957, .aload_n 1, 958, 0, 0, 0, 0, 0, 0), (958, .aload_n 0, 959, 0, 0, 0, 0, 0, 0), (959, .iload_n 3, 960, 0, 0, 0, 0, 0, 0), (960, .iconst 1, 961, 0, 0, 0, 0, nI 1, 0), (961, .iadd, 962, 0, 0, 0, 0, 0, 0), (962, .iaload, 963, 0, 0, 0, 0, 0, 0), (963, .invokevirtual 139, 966, 49, 1, 0, 0, 0, 0), (966, .aload_n 2, 967, 0, 0, 0, 0, 0, 0), (967, .aload_n 0, 968, 0, 0, 0, 0, 0, 0), (968, .iload_n 3, 969, 0, 0, 0, 0, 0, 0), (969, .iconst 1, 970, 0, 0, 0, 0, nI 1, 0), (970, .iadd, 971, 0, 0, 0, 0, 0, 0), (971, .iaload, 972, 0, 0, 0, 0, 0, 0), (972, .invokevirtual 142, 975, 185, 1, 10, 0, 0, 0), (975, .if_icmp .eq 28, 978, 1003, 0, 0, 0, 0, 0), (978, .iconst 0, 979, 0, 0, 0, 0, nI 0, 0), (979, .ireturn, 980, 1, 0, 0, 0, 0, 0), (980, .aload_n 1, 981, 0, 0, 0, 0, 0, 0), (981, .aload_n 0, 982, 0, 0, 0, 0, 0, 0), (982, .iload_n 3, 983, 0, 0, 0, 0, 0, 0), (983, .iconst 1, 984, 0, 0, 0, 0, nI 1, 0), (984, .iadd, 985, 0, 0, 0, 0, 0, 0), (985, .iaload, 986, 0, 0, 0, 0, 0, 0), (986, .invokevirtual 143, 989, 50, 1, 0, 0, 0, 0), (989, .aload_n 2, 990, 0, 0, 0, 0, 0, 0), (990, .aload_n 0, 991, 0, 0, 0, 0, 0, 0), (991, .iload_n 3, 992, 0, 0, 0, 0, 0, 0), (992, .iconst 1, 993, 0, 0, 0, 0, nI 1, 0), (993, .iadd, 994, 0, 0, 0, 0, 0, 0), (994, .iaload, 995, 0, 0, 0, 0, 0, 0), (995, .invokevirtual 146, 998, 186, 1, 10, 0, 0, 0), (998, .if_icmp .eq 5, 1001, 1003, 0, 0, 0, 0, 0), (1001, .iconst 0, 1002, 0, 0, 0, 0, nI 0, 0), (1002, .ireturn, 1003, 1, 0, 0, 0, 0, 0), (1003, .iinc 3 5, 1006, 0, 0, 0, 0, nI 5, 0), (1006, .goto (-988), 1009, 18, 0, 0, 0, 0, 0), (1009, .iconst 1, 1010, 0, 0, 0, 0, nI 1, 0), (1010, .ireturn, 1011, 1, 0, 0, 0, 0, 0)]
def tx_Law_law : List Nat := [14, 0, 222, 0, 15, 0, 223, 0, 0, 0, 0, 0, 0, 0, 0, 0, 0, 0, 0, 0, 0, 0, 0, 0, 0, 0, 0, 0, 224, 0, 0, 0, 0, 0, 0, 225, 0, 0, 0, 0, 0, 0, 0, 0, 0, 226, 0, 0, 0, 0, 0, 0, 227, 0, 0, 0, 0, 228, 0, 229, 0, 0, 0, 0, 0, 0, 0, 0, 0, 230, 0, 0, 0, 0, 0, 0, 231, 0, 0, 0, 0, 0, 0, 0, 0, 0, 232, 0, 0, 0, 0, 0, 0, 233, 0, 0, 0, 0, 0, 0, 0, 0, 0, 0, 0, 0, 0, 0, 0, 0, 0, 0, 0, 234, 0, 0, 0, 0, 0, 0, 0, 0, 0, 0, 0, 0, 0, 0, 0, 0, 235, 0, 0, 0, 0, 0, 0, 0, 0, 0, 0, 0, 0, 0, 0, 236, 0, 0, 0, 0, 0, 0, 0, 0, 0, 0, 0, 237, 0, 0, 0, 0, 0, 0, 0, 0, 0, 0, 0, 0, 0, 0, 238, 0, 0, 0, 0, 0, 0, 0, 0, 0, 0, 0, 239, 0, 0, 0, 0, 240, 0, 241, 0, 0, 0, 0, 242, 0, 243, 0, 0, 0, 0, 244, 0, 245, 0, 0, 0, 0, 0, 0, 0, 0, 0, 0, 0, 0, 0, 0, 246, 0, 0, 0, 0, 0, 0, 0, 0, 0, 0, 0, 247, 0, 0, 0, 0, 248, 0, 249, 0, 0, 0, 0, 0, 0, 0, 0, 0, 250, 0, 0, 0, 0, 0, 0, 251, 0, 0, 0, 0, 0, 0, 0, 0, 0, 0, 0, 0, 0, 0, 252, 0, 0, 0, 0, 0, 0, 0, 0, 0, 0, 0, 253, 0, 0, 0, 0, 0, 0, 0, 0, 0, 254, 0, 0, 0, 0, 0, 0, 255, 0, 0, 0, 0, 256, 0, 257, 0, 0, 0, 0, 258, 0, 259, 0, 0, 0, 0, 0, 0, 0, 0, 0, 260, 0, 0, 0, 0, 0, 0, 261, 0, 0, 0, 0, 0, 0, 0, 0, 0, 0, 0, 0, 0, 0, 262, 0, 0, 0, 0, 0, 0, 0, 0, 0, 0, 0, 263, 0, 0, 0, 0, 0, 0, 0, 0, 0, 0, 0, 0, 0, 0, 264, 0, 0, 0, 0, 0, 0, 0, 0, 0, 0, 0, 265, 0, 0, 0, 0, 0, 0, 0, 0, 0, 0, 0, 0, 0, 0, 0, 0, 0, 0, 0, 266, 0, 0, 0, 0, 0, 0, 0, 0, 0, 0, 0, 0, 0, 0, 0, 0, 267, 0, 0, 0, 0, 268, 0, 269, 0, 0, 0, 0, 0, 0, 0, 0, 0, 270, 0, 0, 0, 0, 0, 0, 271, 0, 0, 0, 0, 0, 0, 0, 0, 0, 0, 0, 0, 0, 0, 0, 0, 0, 0, 0, 0, 272, 0, 0, 0, 0, 0, 0, 0, 0, 0, 0, 0, 0, 0, 0, 0, 0, 273, 0, 0, 0, 0, 0, 0, 0, 0, 0, 0, 0, 0, 0, 0, 0, 0, 0, 0, 0, 274, 0, 0, 0, 0, 0, 0, 0, 0, 0, 0, 0, 0, 0, 0, 0, 0, 275, 0, 0, 0, 0, 276, 0, 277, 0, 0, 0, 0, 0, 0, 0, 0, 0, 0, 0, 0, 0, 0, 278, 0, 0, 0, 0, 0, 0, 0, 0, 0, 0, 0, 279, 0, 0, 0, 0, 0, 0, 0, 0, 0, 0, 0, 0, 0, 0, 0, 0, 0, 0, 0, 0, 0, 0, 0, 0, 280, 0, 0, 0, 0, 0, 0, 0, 0, 0, 0, 0, 0, 0, 0, 0, 0, 0, 0, 0, 0, 0, 281, 0, 0, 0, 0, 0, 0, 0, 0, 0, 282, 0, 0, 0, 0, 0, 0, 283, 0, 0, 0, 0, 0, 0, 0, 0, 0, 284, 0, 0, 0, 0, 0, 0, 285, 0, 0, 0, 0, 0, 0, 0, 0, 0, 286, 0, 0, 0, 0, 0, 0, 287, 0, 0, 0, 0, 0, 0, 0]
def mi_RoundDance_init : Mi_ := (⟨"RoundDance", "<init>", "()V"⟩, prog_1_method_1_code, 1, none, tb_RoundDance_init)
def mi_RoundDance_places : Mi_ := (⟨"RoundDance", "places", "(I)I"⟩, prog_1_method_2_code, 3, some (FieldType.int), tb_RoundDance_places)
def mi_RoundDance_say : Mi_ := (⟨"RoundDance", "say", "(I)I"⟩, prog_1_method_3_code, 2, some (FieldType.int), tb_RoundDance_say)
def mi_RoundDance_wipe : Mi_ := (⟨"RoundDance", "wipe", "()I"⟩, prog_1_method_4_code, 2, some (FieldType.int), tb_RoundDance_wipe)
def mi_RoundDance_fault : Mi_ := (⟨"RoundDance", "fault", "(I)I"⟩, prog_1_method_5_code, 2, some (FieldType.int), tb_RoundDance_fault)
def mi_RoundDance_figureFault : Mi_ := (⟨"RoundDance", "figureFault", "()I"⟩, prog_1_method_36_code, 1, some (FieldType.int), tb_RoundDance_figureFault)
def mi_RoundDance_rowFault : Mi_ := (⟨"RoundDance", "rowFault", "()I"⟩, prog_1_method_37_code, 1, some (FieldType.int), tb_RoundDance_rowFault)
def mi_RoundDance_standingFault : Mi_ := (⟨"RoundDance", "standingFault", "()I"⟩, prog_1_method_38_code, 1, some (FieldType.int), tb_RoundDance_standingFault)
def mi_RoundDance_figure : Mi_ := (⟨"RoundDance", "figure", "(I)I"⟩, prog_1_method_6_code, 4, some (FieldType.int), tb_RoundDance_figure)
def mi_RoundDance_isFigure : Mi_ := (⟨"RoundDance", "isFigure", "(I)Z"⟩, prog_1_method_34_code, 1, some (FieldType.boolean), tb_RoundDance_isFigure)
def mi_RoundDance_goes : Mi_ := (⟨"RoundDance", "goes", "(III)I"⟩, prog_1_method_7_code, 5, some (FieldType.int), tb_RoundDance_goes)
def mi_RoundDance_isYesOrNo : Mi_ := (⟨"RoundDance", "isYesOrNo", "(I)Z"⟩, prog_1_method_35_code, 1, some (FieldType.boolean), tb_RoundDance_isYesOrNo)
def mi_RoundDance_set : Mi_ := (⟨"RoundDance", "set", "(II)I"⟩, prog_1_method_8_code, 3, some (FieldType.int), tb_RoundDance_set)
def mi_RoundDance_setLame : Mi_ := (⟨"RoundDance", "setLame", "(I)I"⟩, prog_1_method_39_code, 3, some (FieldType.int), tb_RoundDance_setLame)
def mi_RoundDance_setPlayed : Mi_ := (⟨"RoundDance", "setPlayed", "(I)I"⟩, prog_1_method_40_code, 3, some (FieldType.int), tb_RoundDance_setPlayed)
def mi_RoundDance_setLent : Mi_ := (⟨"RoundDance", "setLent", "(I)I"⟩, prog_1_method_41_code, 3, some (FieldType.int), tb_RoundDance_setLent)
def mi_RoundDance_music : Mi_ := (⟨"RoundDance", "music", "(II)I"⟩, prog_1_method_9_code, 4, some (FieldType.int), tb_RoundDance_music)
def mi_RoundDance_judge : Mi_ := (⟨"RoundDance", "judge", "()I"⟩, prog_1_method_10_code, 1, some (FieldType.int), tb_RoundDance_judge)
def mi_RoundDance_firstForbidden : Mi_ := (⟨"RoundDance", "firstForbidden", "()I"⟩, prog_1_method_42_code, 2, some (FieldType.int), tb_RoundDance_firstForbidden)
def mi_RoundDance_dance : Mi_ := (⟨"RoundDance", "dance", "()I"⟩, prog_1_method_11_code, 2, some (FieldType.int), tb_RoundDance_dance)
def mi_RoundDance_rowMap : Mi_ := (⟨"RoundDance", "rowMap", "()I"⟩, prog_1_method_43_code, 3, some (FieldType.int), tb_RoundDance_rowMap)
def mi_RoundDance_home : Mi_ := (⟨"RoundDance", "home", "()I"⟩, prog_1_method_12_code, 3, some (FieldType.int), tb_RoundDance_home)
def mi_RoundDance_where : Mi_ := (⟨"RoundDance", "where", "(II)I"⟩, prog_1_method_13_code, 3, some (FieldType.int), tb_RoundDance_where)
def mi_RoundDance_length : Mi_ := (⟨"RoundDance", "length", "()I"⟩, prog_1_method_14_code, 1, some (FieldType.int), tb_RoundDance_length)
def mi_RoundDance_sign : Mi_ := (⟨"RoundDance", "sign", "(I)I"⟩, prog_1_method_15_code, 2, some (FieldType.int), tb_RoundDance_sign)
def mi_RoundDance_want : Mi_ := (⟨"RoundDance", "want", "(II)I"⟩, prog_1_method_16_code, 4, some (FieldType.int), tb_RoundDance_want)
def mi_RoundDance_fewest : Mi_ := (⟨"RoundDance", "fewest", "(I)I"⟩, prog_1_method_17_code, 3, some (FieldType.int), tb_RoundDance_fewest)
def mi_RoundDance_standings : Mi_ := (⟨"RoundDance", "standings", "()I"⟩, prog_1_method_18_code, 1, some (FieldType.int), tb_RoundDance_standings)
def mi_RoundDance_canBe : Mi_ := (⟨"RoundDance", "canBe", "()I"⟩, prog_1_method_19_code, 3, some (FieldType.int), tb_RoundDance_canBe)
def mi_RoundDance_sure : Mi_ := (⟨"RoundDance", "sure", "(I)I"⟩, prog_1_method_20_code, 5, some (FieldType.int), tb_RoundDance_sure)
def mi_RoundDance_nextPlaces : Mi_ := (⟨"RoundDance", "nextPlaces", "(II)I"⟩, prog_1_method_44_code, 6, some (FieldType.int), tb_RoundDance_nextPlaces)
def mi_RoundDance_caller : Mi_ := (⟨"RoundDance", "caller", "(II)I"⟩, prog_1_method_21_code, 4, some (FieldType.int), tb_RoundDance_caller)
def mi_RoundDance_forced : Mi_ := (⟨"RoundDance", "forced", "(II)I"⟩, prog_1_method_22_code, 8, some (FieldType.int), tb_RoundDance_forced)
def mi_RoundDance_placesWithSome : Mi_ := (⟨"RoundDance", "placesWithSome", "(II)I"⟩, prog_1_method_45_code, 5, some (FieldType.int), tb_RoundDance_placesWithSome)
def mi_RoundDance_placesWithAll : Mi_ := (⟨"RoundDance", "placesWithAll", "(II)I"⟩, prog_1_method_46_code, 5, some (FieldType.int), tb_RoundDance_placesWithAll)
def mi_RoundDance_seen : Mi_ := (⟨"RoundDance", "seen", "(III)I"⟩, prog_1_method_23_code, 4, some (FieldType.int), tb_RoundDance_seen)
def mi_RoundDance_noteMore : Mi_ := (⟨"RoundDance", "noteMore", "(LRoundDance$Notes;III)I"⟩, prog_1_method_47_code, 4, some (FieldType.int), tb_RoundDance_noteMore)
def mi_RoundDance_forget : Mi_ := (⟨"RoundDance", "forget", "()I"⟩, prog_1_method_24_code, 1, some (FieldType.int), tb_RoundDance_forget)
def mi_RoundDance_noteNone : Mi_ := (⟨"RoundDance", "noteNone", "(LRoundDance$Notes;)I"⟩, prog_1_method_48_code, 2, some (FieldType.int), tb_RoundDance_noteNone)
def mi_RoundDance_rows : Mi_ := (⟨"RoundDance", "rows", "(I)J"⟩, prog_1_method_25_code, 2, some (FieldType.long), tb_RoundDance_rows)
def mi_RoundDance_came : Mi_ := (⟨"RoundDance", "came", "(III)I"⟩, prog_1_method_26_code, 4, some (FieldType.int), tb_RoundDance_came)
def mi_RoundDance_wish : Mi_ := (⟨"RoundDance", "wish", "(III)I"⟩, prog_1_method_27_code, 4, some (FieldType.int), tb_RoundDance_wish)
def mi_RoundDance_drop : Mi_ := (⟨"RoundDance", "drop", "()I"⟩, prog_1_method_28_code, 1, some (FieldType.int), tb_RoundDance_drop)
def mi_RoundDance_served : Mi_ := (⟨"RoundDance", "served", "(II)I"⟩, prog_1_method_29_code, 3, some (FieldType.int), tb_RoundDance_served)
def mi_RoundDance_night : Mi_ := (⟨"RoundDance", "night", "(IIII)I"⟩, prog_1_method_30_code, 10, some (FieldType.int), tb_RoundDance_night)
def mi_RoundDance_allowedMoves : Mi_ := (⟨"RoundDance", "allowedMoves", "()I"⟩, prog_1_method_49_code, 3, some (FieldType.int), tb_RoundDance_allowedMoves)
def mi_RoundDance_allowedMove : Mi_ := (⟨"RoundDance", "allowedMove", "(I)I"⟩, prog_1_method_50_code, 5, some (FieldType.int), tb_RoundDance_allowedMove)
def mi_RoundDance_image : Mi_ := (⟨"RoundDance", "image", "(I)I"⟩, prog_1_method_31_code, 2, some (FieldType.int), tb_RoundDance_image)
def mi_RoundDance_imageNumbered : Mi_ := (⟨"RoundDance", "imageNumbered", "(I)LRoundDance$Market;"⟩, prog_1_method_51_code, 2, some ((FieldType.object "RoundDance$Market")), tb_RoundDance_imageNumbered)
def mi_RoundDance_restore : Mi_ := (⟨"RoundDance", "restore", "(I)I"⟩, prog_1_method_32_code, 2, some (FieldType.int), tb_RoundDance_restore)
def mi_RoundDance_told : Mi_ := (⟨"RoundDance", "told", "(I)I"⟩, prog_1_method_33_code, 3, some (FieldType.int), tb_RoundDance_told)
def mi_RoundDance_toldOfAll : Mi_ := (⟨"RoundDance", "toldOfAll", "(I)I"⟩, prog_1_method_52_code, 2, some (FieldType.int), tb_RoundDance_toldOfAll)
def mi_Pad_init : Mi_ := (⟨"RoundDance$Pad", "<init>", "()V"⟩, prog_10_method_1_code, 1, none, tb_Pad_init)
def mi_Pad_write : Mi_ := (⟨"RoundDance$Pad", "write", "(I)V"⟩, prog_10_method_2_code, 2, none, tb_Pad_write)
def mi_Pad_clear : Mi_ := (⟨"RoundDance$Pad", "clear", "()V"⟩, prog_10_method_3_code, 1, none, tb_Pad_clear)
def mi_Pad_faultEachOnce : Mi_ := (⟨"RoundDance$Pad", "faultEachOnce", "(II)I"⟩, prog_10_method_5_code, 6, some (FieldType.int), tb_Pad_faultEachOnce)
def mi_Pad_signAt : Mi_ := (⟨"RoundDance$Pad", "signAt", "(I)I"⟩, prog_10_method_4_code, 2, some (FieldType.int), tb_Pad_signAt)
def mi_Pad_faultRow : Mi_ := (⟨"RoundDance$Pad", "faultRow", "(II)I"⟩, prog_10_method_6_code, 5, some (FieldType.int), tb_Pad_faultRow)
def mi_Market_init : Mi_ := (⟨"RoundDance$Market", "<init>", "()V"⟩, prog_6_method_1_code, 1, none, tb_Market_init)
def mi_Market_open : Mi_ := (⟨"RoundDance$Market", "open", "(I)V"⟩, prog_6_method_2_code, 2, none, tb_Market_open)
def mi_Market_has : Mi_ := (⟨"RoundDance$Market", "has", "(I)Z"⟩, prog_6_method_3_code, 2, some (FieldType.boolean), tb_Market_has)
def mi_Market_danced : Mi_ := (⟨"RoundDance$Market", "danced", "(I)I"⟩, prog_6_method_6_code, 2, some (FieldType.int), tb_Market_danced)
def mi_Market_may : Mi_ := (⟨"RoundDance$Market", "may", "(I)Z"⟩, prog_6_method_5_code, 2, some (FieldType.boolean), tb_Market_may)
def mi_Market_placeOf : Mi_ := (⟨"RoundDance$Market", "placeOf", "(I)I"⟩, prog_6_method_4_code, 2, some (FieldType.int), tb_Market_placeOf)
def mi_Market_isWantedByOther : Mi_ := (⟨"RoundDance$Market", "isWantedByOther", "(II)Z"⟩, prog_6_method_8_code, 4, some (FieldType.boolean), tb_Market_isWantedByOther)
def mi_Market_fillMoves : Mi_ := (⟨"RoundDance$Market", "fillMoves", "([I)V"⟩, prog_6_method_7_code, 3, none, tb_Market_fillMoves)
def mi_Market_take : Mi_ := (⟨"RoundDance$Market", "take", "(LRoundDance$Market;)V"⟩, prog_6_method_9_code, 2, none, tb_Market_take)
def mi_Notes_init : Mi_ := (⟨"RoundDance$Notes", "<init>", "()V"⟩, prog_8_method_1_code, 1, none, tb_Notes_init)
def mi_Notes_add : Mi_ := (⟨"RoundDance$Notes", "add", "(III)V"⟩, prog_8_method_2_code, 4, none, tb_Notes_add)
def mi_Notes_amount : Mi_ := (⟨"RoundDance$Notes", "amount", "(I)I"⟩, prog_8_method_4_code, 2, some (FieldType.int), tb_Notes_amount)
def mi_Notes_mark : Mi_ := (⟨"RoundDance$Notes", "mark", "(I)I"⟩, prog_8_method_3_code, 2, some (FieldType.int), tb_Notes_mark)
def mi_Notes_good : Mi_ := (⟨"RoundDance$Notes", "good", "(I)I"⟩, prog_8_method_5_code, 2, some (FieldType.int), tb_Notes_good)
def mi_Notes_place : Mi_ := (⟨"RoundDance$Notes", "place", "(I)I"⟩, prog_8_method_6_code, 2, some (FieldType.int), tb_Notes_place)
def mi_Notes_take : Mi_ := (⟨"RoundDance$Notes", "take", "(LRoundDance$Notes;)V"⟩, prog_8_method_7_code, 2, none, tb_Notes_take)
def mi_Group_init : Mi_ := (⟨"RoundDance$Group", "<init>", "()V"⟩, prog_4_method_1_code, 1, none, tb_Group_init)
def mi_Group_gather : Mi_ := (⟨"RoundDance$Group", "gather", "([I)V"⟩, prog_4_method_2_code, 6, none, tb_Group_gather)
def mi_Group_add : Mi_ := (⟨"RoundDance$Group", "add", "(I)V"⟩, prog_4_method_3_code, 4, none, tb_Group_add)
def mi_Group_sift : Mi_ := (⟨"RoundDance$Group", "sift", "(I)I"⟩, prog_4_method_4_code, 6, some (FieldType.int), tb_Group_sift)
def mi_Group_members : Mi_ := (⟨"RoundDance$Group", "members", "()I"⟩, prog_4_method_6_code, 5, some (FieldType.int), tb_Group_members)
def mi_Group_has : Mi_ := (⟨"RoundDance$Group", "has", "(I)Z"⟩, prog_4_method_5_code, 2, some (FieldType.boolean), tb_Group_has)
def mi_Shortest_init : Mi_ := (⟨"RoundDance$Shortest", "<init>", "()V"⟩, prog_12_method_1_code, 1, none, tb_Shortest_init)
def mi_Shortest_find : Mi_ := (⟨"RoundDance$Shortest", "find", "(LRoundDance$Market;[I)V"⟩, prog_12_method_2_code, 8, none, tb_Shortest_find)
def mi_Shortest_figuresTo : Mi_ := (⟨"RoundDance$Shortest", "figuresTo", "(I)I"⟩, prog_12_method_3_code, 4, some (FieldType.int), tb_Shortest_figuresTo)
def mi_Shortest_figureAt : Mi_ := (⟨"RoundDance$Shortest", "figureAt", "(I)I"⟩, prog_12_method_4_code, 4, some (FieldType.int), tb_Shortest_figureAt)
def mi_Orbit_init : Mi_ := (⟨"RoundDance$Orbit", "<init>", "(Z)V"⟩, prog_9_method_1_code, 2, none, tb_Orbit_init)
def mi_Orbit_explore : Mi_ := (⟨"RoundDance$Orbit", "explore", "(IIII[I)I"⟩, prog_9_method_2_code, 9, some (FieldType.int), tb_Orbit_explore)
def mi_Orbit_clear : Mi_ := (⟨"RoundDance$Orbit", "clear", "(II)V"⟩, prog_9_method_4_code, 5, none, tb_Orbit_clear)
def mi_Orbit_meet : Mi_ := (⟨"RoundDance$Orbit", "meet", "(II)I"⟩, prog_9_method_5_code, 6, some (FieldType.int), tb_Orbit_meet)
def mi_Orbit_rank : Mi_ := (⟨"RoundDance$Orbit", "rank", "(I)I"⟩, prog_9_method_7_code, 7, some (FieldType.int), tb_Orbit_rank)
def mi_Orbit_numberOf : Mi_ := (⟨"RoundDance$Orbit", "numberOf", "(I)I"⟩, prog_9_method_6_code, 2, some (FieldType.int), tb_Orbit_numberOf)
def mi_Orbit_stepBy : Mi_ := (⟨"RoundDance$Orbit", "stepBy", "(III)I"⟩, prog_9_method_3_code, 4, some (FieldType.int), tb_Orbit_stepBy)
def mi_Orbit_lying : Mi_ := (⟨"RoundDance$Orbit", "lying", "(I)I"⟩, prog_9_method_8_code, 2, some (FieldType.int), tb_Orbit_lying)
def mi_Orbit_previous : Mi_ := (⟨"RoundDance$Orbit", "previous", "(I)I"⟩, prog_9_method_9_code, 2, some (FieldType.int), tb_Orbit_previous)
def mi_Orbit_figureTo : Mi_ := (⟨"RoundDance$Orbit", "figureTo", "(I)I"⟩, prog_9_method_10_code, 2, some (FieldType.int), tb_Orbit_figureTo)
def mi_Orbit_step : Mi_ := (⟨"RoundDance$Orbit", "step", "(II)I"⟩, prog_9_method_11_code, 3, some (FieldType.int), tb_Orbit_step)
def mi_Memo_init : Mi_ := (⟨"RoundDance$Memo", "<init>", "()V"⟩, prog_7_method_1_code, 1, none, tb_Memo_init)
def mi_Memo_begin : Mi_ := (⟨"RoundDance$Memo", "begin", "()V"⟩, prog_7_method_2_code, 1, none, tb_Memo_begin)
def mi_Memo_partsOfRow : Mi_ := (⟨"RoundDance$Memo", "partsOfRow", "([I)V"⟩, prog_7_method_4_code, 3, none, tb_Memo_partsOfRow)
def mi_Memo_part : Mi_ := (⟨"RoundDance$Memo", "part", "(I)V"⟩, prog_7_method_3_code, 2, none, tb_Memo_part)
def mi_Memo_endsStale : Mi_ := (⟨"RoundDance$Memo", "endsStale", "()Z"⟩, prog_7_method_6_code, 2, some (FieldType.boolean), tb_Memo_endsStale)
def mi_Memo_partsOfNotes : Mi_ := (⟨"RoundDance$Memo", "partsOfNotes", "(LRoundDance$Notes;)V"⟩, prog_7_method_5_code, 3, none, tb_Memo_partsOfNotes)
def mi_Past_init : Mi_ := (⟨"RoundDance$Past", "<init>", "()V"⟩, prog_11_method_1_code, 1, none, tb_Past_init)
def mi_Past_look : Mi_ := (⟨"RoundDance$Past", "look", "(LRoundDance$Market;[II)V"⟩, prog_11_method_2_code, 4, none, tb_Past_look)
def mi_Past_takeSights : Mi_ := (⟨"RoundDance$Past", "takeSights", "(LRoundDance$Notes;I)V"⟩, prog_11_method_3_code, 4, none, tb_Past_takeSights)
def mi_Past_explore : Mi_ := (⟨"RoundDance$Past", "explore", "(I[I)V"⟩, prog_11_method_4_code, 5, none, tb_Past_explore)
def mi_Past_slotOf : Mi_ := (⟨"RoundDance$Past", "slotOf", "(I)I"⟩, prog_11_method_5_code, 2, some (FieldType.int), tb_Past_slotOf)
def mi_Past_countRows : Mi_ := (⟨"RoundDance$Past", "countRows", "(I)V"⟩, prog_11_method_7_code, 7, none, tb_Past_countRows)
def mi_Past_fits : Mi_ := (⟨"RoundDance$Past", "fits", "(II)Z"⟩, prog_11_method_6_code, 4, some (FieldType.boolean), tb_Past_fits)
def mi_Past_sumAfter : Mi_ := (⟨"RoundDance$Past", "sumAfter", "(I)J"⟩, prog_11_method_8_code, 5, some (FieldType.long), tb_Past_sumAfter)
def mi_Past_gatherCandidates : Mi_ := (⟨"RoundDance$Past", "gatherCandidates", "(I)V"⟩, prog_11_method_10_code, 5, none, tb_Past_gatherCandidates)
def mi_Past_isFitting : Mi_ := (⟨"RoundDance$Past", "isFitting", "(II)Z"⟩, prog_11_method_9_code, 3, some (FieldType.boolean), tb_Past_isFitting)
def mi_Past_figuresOn : Mi_ := (⟨"RoundDance$Past", "figuresOn", "(II)I"⟩, prog_11_method_11_code, 6, some (FieldType.int), tb_Past_figuresOn)
def mi_Past_findFirstRow : Mi_ := (⟨"RoundDance$Past", "findFirstRow", "(I)V"⟩, prog_11_method_12_code, 5, none, tb_Past_findFirstRow)
def mi_Past_firstFigureOn : Mi_ := (⟨"RoundDance$Past", "firstFigureOn", "(II)I"⟩, prog_11_method_13_code, 4, some (FieldType.int), tb_Past_firstFigureOn)
def mi_Evening_init : Mi_ := (⟨"RoundDance$Evening", "<init>", "()V"⟩, prog_3_method_1_code, 1, none, tb_Evening_init)
def mi_Evening_serve : Mi_ := (⟨"RoundDance$Evening", "serve", "(LRoundDance$Market;[II)V"⟩, prog_3_method_2_code, 4, none, tb_Evening_serve)
def mi_Evening_takeMoves : Mi_ := (⟨"RoundDance$Evening", "takeMoves", "([I)V"⟩, prog_3_method_3_code, 5, none, tb_Evening_takeMoves)
def mi_Evening_worth : Mi_ := (⟨"RoundDance$Evening", "worth", "(I)I"⟩, prog_3_method_7_code, 4, some (FieldType.int), tb_Evening_worth)
def mi_Evening_tryRows : Mi_ := (⟨"RoundDance$Evening", "tryRows", "(LRoundDance$Evening;IIII)V"⟩, prog_3_method_4_code, 8, none, tb_Evening_tryRows)
def mi_Evening_holding : Mi_ := (⟨"RoundDance$Evening", "holding", "(I)I"⟩, prog_3_method_6_code, 4, some (FieldType.int), tb_Evening_holding)
def mi_Evening_compare : Mi_ := (⟨"RoundDance$Evening", "compare", "(II)V"⟩, prog_3_method_5_code, 3, none, tb_Evening_compare)
def mi_Ref_init : Mi_ := (⟨"RoundDanceModel", "<init>", "()V"⟩, prog_14_method_1_code, 2, none, tb_Ref_init)
def mi_Ref_begin : Mi_ := (⟨"RoundDanceModel", "begin", "(I)V"⟩, prog_14_method_5_code, 4, none, tb_Ref_begin)
def mi_Ref_places : Mi_ := (⟨"RoundDanceModel", "places", "(I)I"⟩, prog_14_method_6_code, 3, some (FieldType.int), tb_Ref_places)
def mi_Ref_in : Mi_ := (⟨"RoundDanceModel", "in", "(JJJ)Z"⟩, prog_14_method_3_code, 6, some (FieldType.boolean), tb_Ref_in)
def mi_Ref_say : Mi_ := (⟨"RoundDanceModel", "say", "(I)I"⟩, prog_14_method_9_code, 2, some (FieldType.int), tb_Ref_say)
def mi_Ref_wipe : Mi_ := (⟨"RoundDanceModel", "wipe", "()I"⟩, prog_14_method_10_code, 2, some (FieldType.int), tb_Ref_wipe)
def mi_Ref_fault : Mi_ := (⟨"RoundDanceModel", "fault", "(I)I"⟩, prog_14_method_13_code, 2, some (FieldType.int), tb_Ref_fault)
def mi_Ref_faultOfOrder : Mi_ := (⟨"RoundDanceModel", "faultOfOrder", "(I)I"⟩, prog_14_method_11_code, 5, some (FieldType.int), tb_Ref_faultOfOrder)
def mi_Ref_isPlace : Mi_ := (⟨"RoundDanceModel", "isPlace", "(I)Z"⟩, prog_14_method_7_code, 2, some (FieldType.boolean), tb_Ref_isPlace)
def mi_Ref_faultOfRow : Mi_ := (⟨"RoundDanceModel", "faultOfRow", "()I"⟩, prog_14_method_12_code, 2, some (FieldType.int), tb_Ref_faultOfRow)
def mi_Ref_isFigure : Mi_ := (⟨"RoundDanceModel", "isFigure", "(I)Z"⟩, prog_14_method_8_code, 1, some (FieldType.boolean), tb_Ref_isFigure)
def mi_Ref_figure : Mi_ := (⟨"RoundDanceModel", "figure", "(I)I"⟩, prog_14_method_14_code, 3, some (FieldType.int), tb_Ref_figure)
def mi_Ref_goes : Mi_ := (⟨"RoundDanceModel", "goes", "(III)I"⟩, prog_14_method_18_code, 4, some (FieldType.int), tb_Ref_goes)
def mi_Ref_findGoes : Mi_ := (⟨"RoundDanceModel", "findGoes", "()V"⟩, prog_14_method_16_code, 4, none, tb_Ref_findGoes)
def mi_Ref_isLame : Mi_ := (⟨"RoundDanceModel", "isLame", "(I)Z"⟩, prog_14_method_15_code, 2, some (FieldType.boolean), tb_Ref_isLame)
def mi_Ref_set : Mi_ := (⟨"RoundDanceModel", "set", "(II)I"⟩, prog_14_method_19_code, 4, some (FieldType.int), tb_Ref_set)
def mi_Ref_music : Mi_ := (⟨"RoundDanceModel", "music", "(II)I"⟩, prog_14_method_20_code, 4, some (FieldType.int), tb_Ref_music)
def mi_Ref_judge : Mi_ := (⟨"RoundDanceModel", "judge", "()I"⟩, prog_14_method_22_code, 1, some (FieldType.int), tb_Ref_judge)
def mi_Ref_badFigure : Mi_ := (⟨"RoundDanceModel", "badFigure", "()I"⟩, prog_14_method_21_code, 2, some (FieldType.int), tb_Ref_badFigure)
def mi_Ref_may : Mi_ := (⟨"RoundDanceModel", "may", "(I)Z"⟩, prog_14_method_17_code, 2, some (FieldType.boolean), tb_Ref_may)
def mi_Ref_dance : Mi_ := (⟨"RoundDanceModel", "dance", "()I"⟩, prog_14_method_23_code, 4, some (FieldType.int), tb_Ref_dance)
def mi_Ref_home : Mi_ := (⟨"RoundDanceModel", "home", "()I"⟩, prog_14_method_24_code, 3, some (FieldType.int), tb_Ref_home)
def mi_Ref_where : Mi_ := (⟨"RoundDanceModel", "where", "(II)I"⟩, prog_14_method_26_code, 3, some (FieldType.int), tb_Ref_where)
def mi_Ref_placeOf : Mi_ := (⟨"RoundDanceModel", "placeOf", "(I)I"⟩, prog_14_method_25_code, 3, some (FieldType.int), tb_Ref_placeOf)
def mi_Ref_length : Mi_ := (⟨"RoundDanceModel", "length", "()I"⟩, prog_14_method_29_code, 4, some (FieldType.int), tb_Ref_length)
def mi_Ref_lengthOfMoved : Mi_ := (⟨"RoundDanceModel", "lengthOfMoved", "()I"⟩, prog_14_method_28_code, 6, some (FieldType.int), tb_Ref_lengthOfMoved)
def mi_Ref_common : Mi_ := (⟨"RoundDanceModel", "common", "(II)I"⟩, prog_14_method_27_code, 5, some (FieldType.int), tb_Ref_common)
def mi_Ref_sign : Mi_ := (⟨"RoundDanceModel", "sign", "(I)I"⟩, prog_14_method_30_code, 3, some (FieldType.int), tb_Ref_sign)
def mi_Ref_want : Mi_ := (⟨"RoundDanceModel", "want", "(II)I"⟩, prog_14_method_37_code, 4, some (FieldType.int), tb_Ref_want)
def mi_Ref_fewest : Mi_ := (⟨"RoundDanceModel", "fewest", "(I)I"⟩, prog_14_method_39_code, 4, some (FieldType.int), tb_Ref_fewest)
def mi_Ref_goAll : Mi_ := (⟨"RoundDanceModel", "goAll", "()V"⟩, prog_14_method_36_code, 6, none, tb_Ref_goAll)
def mi_Ref_findNext : Mi_ := (⟨"RoundDanceModel", "findNext", "()V"⟩, prog_14_method_34_code, 3, none, tb_Ref_findNext)
def mi_Ref_codeBy : Mi_ := (⟨"RoundDanceModel", "codeBy", "(I)I"⟩, prog_14_method_32_code, 8, some (FieldType.int), tb_Ref_codeBy)
def mi_Ref_danced : Mi_ := (⟨"RoundDanceModel", "danced", "(II)I"⟩, prog_14_method_33_code, 5, some (FieldType.int), tb_Ref_danced)
def mi_Ref_numberOf : Mi_ := (⟨"RoundDanceModel", "numberOf", "(I)I"⟩, prog_14_method_31_code, 6, some (FieldType.int), tb_Ref_numberOf)
def mi_Ref_ones : Mi_ := (⟨"RoundDanceModel", "ones", "(I)I"⟩, prog_14_method_4_code, 3, some (FieldType.int), tb_Ref_ones)
def mi_Ref_codeNow : Mi_ := (⟨"RoundDanceModel", "codeNow", "()I"⟩, prog_14_method_35_code, 3, some (FieldType.int), tb_Ref_codeNow)
def mi_Ref_isWanted : Mi_ := (⟨"RoundDanceModel", "isWanted", "(I)Z"⟩, prog_14_method_38_code, 4, some (FieldType.boolean), tb_Ref_isWanted)
def mi_Ref_standings : Mi_ := (⟨"RoundDanceModel", "standings", "()I"⟩, prog_14_method_40_code, 1, some (FieldType.int), tb_Ref_standings)
def mi_Ref_canBe : Mi_ := (⟨"RoundDanceModel", "canBe", "()I"⟩, prog_14_method_41_code, 3, some (FieldType.int), tb_Ref_canBe)
def mi_Ref_sure : Mi_ := (⟨"RoundDanceModel", "sure", "(I)I"⟩, prog_14_method_42_code, 6, some (FieldType.int), tb_Ref_sure)
def mi_Ref_caller : Mi_ := (⟨"RoundDanceModel", "caller", "(II)I"⟩, prog_14_method_43_code, 4, some (FieldType.int), tb_Ref_caller)
def mi_Ref_forced : Mi_ := (⟨"RoundDanceModel", "forced", "(II)I"⟩, prog_14_method_45_code, 5, some (FieldType.int), tb_Ref_forced)
def mi_Ref_needsOf : Mi_ := (⟨"RoundDanceModel", "needsOf", "(II)I"⟩, prog_14_method_44_code, 7, some (FieldType.int), tb_Ref_needsOf)
def mi_Ref_seen : Mi_ := (⟨"RoundDanceModel", "seen", "(III)I"⟩, prog_14_method_46_code, 4, some (FieldType.int), tb_Ref_seen)
def mi_Ref_forget : Mi_ := (⟨"RoundDanceModel", "forget", "()I"⟩, prog_14_method_47_code, 2, some (FieldType.int), tb_Ref_forget)
def mi_Ref_rows : Mi_ := (⟨"RoundDanceModel", "rows", "(I)J"⟩, prog_14_method_51_code, 2, some (FieldType.long), tb_Ref_rows)
def mi_Ref_findRows : Mi_ := (⟨"RoundDanceModel", "findRows", "(I)V"⟩, prog_14_method_50_code, 8, none, tb_Ref_findRows)
def mi_Ref_onFrom : Mi_ := (⟨"RoundDanceModel", "onFrom", "(II)J"⟩, prog_14_method_49_code, 3, some (FieldType.long), tb_Ref_onFrom)
def mi_Ref_fits : Mi_ := (⟨"RoundDanceModel", "fits", "(II)Z"⟩, prog_14_method_48_code, 5, some (FieldType.boolean), tb_Ref_fits)
def mi_Ref_came : Mi_ := (⟨"RoundDanceModel", "came", "(III)I"⟩, prog_14_method_55_code, 4, some (FieldType.int), tb_Ref_came)
def mi_Ref_firstAt : Mi_ := (⟨"RoundDanceModel", "firstAt", "(I)I"⟩, prog_14_method_53_code, 4, some (FieldType.int), tb_Ref_firstAt)
def mi_Ref_firstFrom : Mi_ := (⟨"RoundDanceModel", "firstFrom", "(II)I"⟩, prog_14_method_52_code, 5, some (FieldType.int), tb_Ref_firstFrom)
def mi_Ref_bitsAt : Mi_ := (⟨"RoundDanceModel", "bitsAt", "(I)I"⟩, prog_14_method_54_code, 7, some (FieldType.int), tb_Ref_bitsAt)
def mi_Ref_wish : Mi_ := (⟨"RoundDanceModel", "wish", "(III)I"⟩, prog_14_method_56_code, 4, some (FieldType.int), tb_Ref_wish)
def mi_Ref_drop : Mi_ := (⟨"RoundDanceModel", "drop", "()I"⟩, prog_14_method_57_code, 2, some (FieldType.int), tb_Ref_drop)
def mi_Ref_served : Mi_ := (⟨"RoundDanceModel", "served", "(II)I"⟩, prog_14_method_61_code, 8, some (FieldType.int), tb_Ref_served)
def mi_Ref_findMay : Mi_ := (⟨"RoundDanceModel", "findMay", "()V"⟩, prog_14_method_58_code, 2, none, tb_Ref_findMay)
def mi_Ref_worthOf : Mi_ := (⟨"RoundDanceModel", "worthOf", "(III)I"⟩, prog_14_method_60_code, 10, some (FieldType.int), tb_Ref_worthOf)
def mi_Ref_holding : Mi_ := (⟨"RoundDanceModel", "holding", "(I)I"⟩, prog_14_method_59_code, 4, some (FieldType.int), tb_Ref_holding)
def mi_Ref_night : Mi_ := (⟨"RoundDanceModel", "night", "(IIII)I"⟩, prog_14_method_62_code, 9, some (FieldType.int), tb_Ref_night)
def mi_Ref_image : Mi_ := (⟨"RoundDanceModel", "image", "(I)I"⟩, prog_14_method_65_code, 2, some (FieldType.int), tb_Ref_image)
def mi_Ref_passAll : Mi_ := (⟨"RoundDanceModel", "passAll", "()V"⟩, prog_14_method_64_code, 2, none, tb_Ref_passAll)
def mi_Ref_pass : Mi_ := (⟨"RoundDanceModel", "pass", "(I)I"⟩, prog_14_method_63_code, 3, some (FieldType.int), tb_Ref_pass)
def mi_Ref_restore : Mi_ := (⟨"RoundDanceModel", "restore", "(I)I"⟩, prog_14_method_66_code, 2, some (FieldType.int), tb_Ref_restore)
def mi_Ref_told : Mi_ := (⟨"RoundDanceModel", "told", "(I)I"⟩, prog_14_method_67_code, 2, some (FieldType.int), tb_Ref_told)
def mi_Cells_fill : Mi_ := (⟨"RoundDance$Cells", "fill", "([II)V"⟩, prog_2_method_7_code, 3, none, tb_Cells_fill)
def mi_Cells_put : Mi_ := (⟨"RoundDance$Cells", "put", "([III)V"⟩, prog_2_method_3_code, 3, none, tb_Cells_put)
def mi_Cells_at : Mi_ := (⟨"RoundDance$Cells", "at", "([II)I"⟩, prog_2_method_2_code, 2, some (FieldType.int), tb_Cells_at)
def mi_Cells_isIn : Mi_ := (⟨"RoundDance$Cells", "isIn", "(II)Z"⟩, prog_2_method_6_code, 2, some (FieldType.boolean), tb_Cells_isIn)
def mi_Cells_grown : Mi_ := (⟨"RoundDance$Cells", "grown", "([II)[I"⟩, prog_2_method_9_code, 2, some ((FieldType.array FieldType.int)), tb_Cells_grown)
def mi_Cells_grownLong : Mi_ := (⟨"RoundDance$Cells", "grownLong", "([JI)[J"⟩, prog_2_method_10_code, 2, some ((FieldType.array FieldType.long)), tb_Cells_grownLong)
def mi_Cells_longAt : Mi_ := (⟨"RoundDance$Cells", "longAt", "([JI)J"⟩, prog_2_method_4_code, 2, some (FieldType.long), tb_Cells_longAt)
def mi_Cells_putLong : Mi_ := (⟨"RoundDance$Cells", "putLong", "([JIJ)V"⟩, prog_2_method_5_code, 4, none, tb_Cells_putLong)
def mi_Cells_copy : Mi_ := (⟨"RoundDance$Cells", "copy", "([I[I)V"⟩, prog_2_method_8_code, 3, none, tb_Cells_copy)
def mi_Maps_with : Mi_ := (⟨"RoundDance$Maps", "with", "(III)I"⟩, prog_5_method_3_code, 3, some (FieldType.int), tb_Maps_with)
def mi_Maps_passing : Mi_ := (⟨"RoundDance$Maps", "passing", "(II)I"⟩, prog_5_method_7_code, 4, some (FieldType.int), tb_Maps_passing)
def mi_Maps_to : Mi_ := (⟨"RoundDance$Maps", "to", "(II)I"⟩, prog_5_method_2_code, 2, some (FieldType.int), tb_Maps_to)
def mi_Maps_firstNotLame : Mi_ := (⟨"RoundDance$Maps", "firstNotLame", "(III)I"⟩, prog_5_method_8_code, 5, some (FieldType.int), tb_Maps_firstNotLame)
def mi_Maps_then : Mi_ := (⟨"RoundDance$Maps", "then", "(II)I"⟩, prog_5_method_4_code, 2, some (FieldType.int), tb_Maps_then)
def mi_Maps_thenOf : Mi_ := (⟨"RoundDance$Maps", "thenOf", "(III)I"⟩, prog_5_method_5_code, 5, some (FieldType.int), tb_Maps_thenOf)
def mi_Maps_undone : Mi_ := (⟨"RoundDance$Maps", "undone", "(I)I"⟩, prog_5_method_6_code, 3, some (FieldType.int), tb_Maps_undone)
def mi_Maps_timesTillStays : Mi_ := (⟨"RoundDance$Maps", "timesTillStays", "(I)I"⟩, prog_5_method_9_code, 3, some (FieldType.int), tb_Maps_timesTillStays)
def mi_Maps_isEven : Mi_ := (⟨"RoundDance$Maps", "isEven", "(I)Z"⟩, prog_5_method_10_code, 4, some (FieldType.boolean), tb_Maps_isEven)
def mi_Integer_bitCount : Mi_ := (⟨"java/lang/Integer", "bitCount", "(I)I"⟩, prog_15_method_49_code, 1, some (FieldType.int), tb_Integer_bitCount)
def tt_ml : List Mi_ := [mi_RoundDance_init, mi_RoundDance_places, mi_RoundDance_say, mi_RoundDance_wipe, mi_RoundDance_fault, mi_RoundDance_figureFault, mi_RoundDance_rowFault, mi_RoundDance_standingFault, mi_RoundDance_figure, mi_RoundDance_isFigure, mi_RoundDance_goes, mi_RoundDance_isYesOrNo, mi_RoundDance_set, mi_RoundDance_setLame, mi_RoundDance_setPlayed, mi_RoundDance_setLent, mi_RoundDance_music, mi_RoundDance_judge, mi_RoundDance_firstForbidden, mi_RoundDance_dance, mi_RoundDance_rowMap, mi_RoundDance_home, mi_RoundDance_where, mi_RoundDance_length, mi_RoundDance_sign, mi_RoundDance_want, mi_RoundDance_fewest, mi_RoundDance_standings, mi_RoundDance_canBe, mi_RoundDance_sure, mi_RoundDance_nextPlaces, mi_RoundDance_caller, mi_RoundDance_forced, mi_RoundDance_placesWithSome, mi_RoundDance_placesWithAll, mi_RoundDance_seen, mi_RoundDance_noteMore, mi_RoundDance_forget, mi_RoundDance_noteNone, mi_RoundDance_rows, mi_RoundDance_came, mi_RoundDance_wish, mi_RoundDance_drop, mi_RoundDance_served, mi_RoundDance_night, mi_RoundDance_allowedMoves, mi_RoundDance_allowedMove, mi_RoundDance_image, mi_RoundDance_imageNumbered, mi_RoundDance_restore, mi_RoundDance_told, mi_RoundDance_toldOfAll, mi_Pad_init, mi_Pad_write, mi_Pad_clear, mi_Pad_faultEachOnce, mi_Pad_signAt, mi_Pad_faultRow, mi_Market_init, mi_Market_open, mi_Market_has, mi_Market_danced, mi_Market_may, mi_Market_placeOf, mi_Market_isWantedByOther, mi_Market_fillMoves, mi_Market_take, mi_Notes_init, mi_Notes_add, mi_Notes_amount, mi_Notes_mark, mi_Notes_good, mi_Notes_place, mi_Notes_take, mi_Group_init, mi_Group_gather, mi_Group_add, mi_Group_sift, mi_Group_members, mi_Group_has, mi_Shortest_init, mi_Shortest_find, mi_Shortest_figuresTo, mi_Shortest_figureAt, mi_Orbit_init, mi_Orbit_explore, mi_Orbit_clear, mi_Orbit_meet, mi_Orbit_rank, mi_Orbit_numberOf, mi_Orbit_stepBy, mi_Orbit_lying, mi_Orbit_previous, mi_Orbit_figureTo, mi_Orbit_step, mi_Memo_init, mi_Memo_begin, mi_Memo_partsOfRow, mi_Memo_part, mi_Memo_endsStale, mi_Memo_partsOfNotes, mi_Past_init, mi_Past_look, mi_Past_takeSights, mi_Past_explore, mi_Past_slotOf, mi_Past_countRows, mi_Past_fits, mi_Past_sumAfter, mi_Past_gatherCandidates, mi_Past_isFitting, mi_Past_figuresOn, mi_Past_findFirstRow, mi_Past_firstFigureOn, mi_Evening_init, mi_Evening_serve, mi_Evening_takeMoves, mi_Evening_worth, mi_Evening_tryRows, mi_Evening_holding, mi_Evening_compare, mi_Ref_init, mi_Ref_begin, mi_Ref_places, mi_Ref_in, mi_Ref_say, mi_Ref_wipe, mi_Ref_fault, mi_Ref_faultOfOrder, mi_Ref_isPlace, mi_Ref_faultOfRow, mi_Ref_isFigure, mi_Ref_figure, mi_Ref_goes, mi_Ref_findGoes, mi_Ref_isLame, mi_Ref_set, mi_Ref_music, mi_Ref_judge, mi_Ref_badFigure, mi_Ref_may, mi_Ref_dance, mi_Ref_home, mi_Ref_where, mi_Ref_placeOf, mi_Ref_length, mi_Ref_lengthOfMoved, mi_Ref_common, mi_Ref_sign, mi_Ref_want, mi_Ref_fewest, mi_Ref_goAll, mi_Ref_findNext, mi_Ref_codeBy, mi_Ref_danced, mi_Ref_numberOf, mi_Ref_ones, mi_Ref_codeNow, mi_Ref_isWanted, mi_Ref_standings, mi_Ref_canBe, mi_Ref_sure, mi_Ref_caller, mi_Ref_forced, mi_Ref_needsOf, mi_Ref_seen, mi_Ref_forget, mi_Ref_rows, mi_Ref_findRows, mi_Ref_onFrom, mi_Ref_fits, mi_Ref_came, mi_Ref_firstAt, mi_Ref_firstFrom, mi_Ref_bitsAt, mi_Ref_wish, mi_Ref_drop, mi_Ref_served, mi_Ref_findMay, mi_Ref_worthOf, mi_Ref_holding, mi_Ref_night, mi_Ref_image, mi_Ref_passAll, mi_Ref_pass, mi_Ref_restore, mi_Ref_told, mi_Cells_fill, mi_Cells_put, mi_Cells_at, mi_Cells_isIn, mi_Cells_grown, mi_Cells_grownLong, mi_Cells_longAt, mi_Cells_putLong, mi_Cells_copy, mi_Maps_with, mi_Maps_passing, mi_Maps_to, mi_Maps_firstNotLame, mi_Maps_then, mi_Maps_thenOf, mi_Maps_undone, mi_Maps_timesTillStays, mi_Maps_isEven, mi_Integer_bitCount]
def tt_xl : List (List Nat) := [tx_RoundDance_init, tx_RoundDance_places, tx_RoundDance_say, tx_RoundDance_wipe, tx_RoundDance_fault, tx_RoundDance_figureFault, tx_RoundDance_rowFault, tx_RoundDance_standingFault, tx_RoundDance_figure, tx_RoundDance_isFigure, tx_RoundDance_goes, tx_RoundDance_isYesOrNo, tx_RoundDance_set, tx_RoundDance_setLame, tx_RoundDance_setPlayed, tx_RoundDance_setLent, tx_RoundDance_music, tx_RoundDance_judge, tx_RoundDance_firstForbidden, tx_RoundDance_dance, tx_RoundDance_rowMap, tx_RoundDance_home, tx_RoundDance_where, tx_RoundDance_length, tx_RoundDance_sign, tx_RoundDance_want, tx_RoundDance_fewest, tx_RoundDance_standings, tx_RoundDance_canBe, tx_RoundDance_sure, tx_RoundDance_nextPlaces, tx_RoundDance_caller, tx_RoundDance_forced, tx_RoundDance_placesWithSome, tx_RoundDance_placesWithAll, tx_RoundDance_seen, tx_RoundDance_noteMore, tx_RoundDance_forget, tx_RoundDance_noteNone, tx_RoundDance_rows, tx_RoundDance_came, tx_RoundDance_wish, tx_RoundDance_drop, tx_RoundDance_served, tx_RoundDance_night, tx_RoundDance_allowedMoves, tx_RoundDance_allowedMove, tx_RoundDance_image, tx_RoundDance_imageNumbered, tx_RoundDance_restore, tx_RoundDance_told, tx_RoundDance_toldOfAll, tx_Pad_init, tx_Pad_write, tx_Pad_clear, tx_Pad_faultEachOnce, tx_Pad_signAt, tx_Pad_faultRow, tx_Market_init, tx_Market_open, tx_Market_has, tx_Market_danced, tx_Market_may, tx_Market_placeOf, tx_Market_isWantedByOther, tx_Market_fillMoves, tx_Market_take, tx_Notes_init, tx_Notes_add, tx_Notes_amount, tx_Notes_mark, tx_Notes_good, tx_Notes_place, tx_Notes_take, tx_Group_init, tx_Group_gather, tx_Group_add, tx_Group_sift, tx_Group_members, tx_Group_has, tx_Shortest_init, tx_Shortest_find, tx_Shortest_figuresTo, tx_Shortest_figureAt, tx_Orbit_init, tx_Orbit_explore, tx_Orbit_clear, tx_Orbit_meet, tx_Orbit_rank, tx_Orbit_numberOf, tx_Orbit_stepBy, tx_Orbit_lying, tx_Orbit_previous, tx_Orbit_figureTo, tx_Orbit_step, tx_Memo_init, tx_Memo_begin, tx_Memo_partsOfRow, tx_Memo_part, tx_Memo_endsStale, tx_Memo_partsOfNotes, tx_Past_init, tx_Past_look, tx_Past_takeSights, tx_Past_explore, tx_Past_slotOf, tx_Past_countRows, tx_Past_fits, tx_Past_sumAfter, tx_Past_gatherCandidates, tx_Past_isFitting, tx_Past_figuresOn, tx_Past_findFirstRow, tx_Past_firstFigureOn, tx_Evening_init, tx_Evening_serve, tx_Evening_takeMoves, tx_Evening_worth, tx_Evening_tryRows, tx_Evening_holding, tx_Evening_compare, tx_Ref_init, tx_Ref_begin, tx_Ref_places, tx_Ref_in, tx_Ref_say, tx_Ref_wipe, tx_Ref_fault, tx_Ref_faultOfOrder, tx_Ref_isPlace, tx_Ref_faultOfRow, tx_Ref_isFigure, tx_Ref_figure, tx_Ref_goes, tx_Ref_findGoes, tx_Ref_isLame, tx_Ref_set, tx_Ref_music, tx_Ref_judge, tx_Ref_badFigure, tx_Ref_may, tx_Ref_dance, tx_Ref_home, tx_Ref_where, tx_Ref_placeOf, tx_Ref_length, tx_Ref_lengthOfMoved, tx_Ref_common, tx_Ref_sign, tx_Ref_want, tx_Ref_fewest, tx_Ref_goAll, tx_Ref_findNext, tx_Ref_codeBy, tx_Ref_danced, tx_Ref_numberOf, tx_Ref_ones, tx_Ref_codeNow, tx_Ref_isWanted, tx_Ref_standings, tx_Ref_canBe, tx_Ref_sure, tx_Ref_caller, tx_Ref_forced, tx_Ref_needsOf, tx_Ref_seen, tx_Ref_forget, tx_Ref_rows, tx_Ref_findRows, tx_Ref_onFrom, tx_Ref_fits, tx_Ref_came, tx_Ref_firstAt, tx_Ref_firstFrom, tx_Ref_bitsAt, tx_Ref_wish, tx_Ref_drop, tx_Ref_served, tx_Ref_findMay, tx_Ref_worthOf, tx_Ref_holding, tx_Ref_night, tx_Ref_image, tx_Ref_passAll, tx_Ref_pass, tx_Ref_restore, tx_Ref_told, tx_Cells_fill, tx_Cells_put, tx_Cells_at, tx_Cells_isIn, tx_Cells_grown, tx_Cells_grownLong, tx_Cells_longAt, tx_Cells_putLong, tx_Cells_copy, tx_Maps_with, tx_Maps_passing, tx_Maps_to, tx_Maps_firstNotLame, tx_Maps_then, tx_Maps_thenOf, tx_Maps_undone, tx_Maps_timesTillStays, tx_Maps_isEven, tx_Integer_bitCount]
/-- own number, place of the code word, of initialized, of static or instanceMethod, of selects (or 0), plain -/
def tt_mw : List (Nat × Nat × Nat × Bool × Nat × Nat) := [(0, 122, 104, false, 121, 0), (0, 430, 104, false, 428, 429), (0, 435, 104, false, 433, 434), (0, 446, 104, false, 444, 445), (0, 454, 104, false, 452, 453), (0, 458, 104, false, 457, 3), (0, 476, 104, false, 475, 6), (0, 484, 104, false, 483, 8), (0, 488, 104, false, 486, 487), (0, 491, 104, true, 490, 0), (0, 501, 104, false, 499, 500), (0, 508, 104, true, 507, 0), (0, 531, 104, false, 529, 530), (0, 535, 104, false, 534, 11), (0, 539, 104, false, 538, 12), (0, 543, 104, false, 542, 13), (0, 547, 104, false, 545, 546), (0, 551, 104, false, 549, 550), (0, 555, 104, false, 554, 14), (0, 564, 104, false, 562, 563), (0, 568, 104, false, 567, 16), (0, 578, 104, false, 576, 577), (0, 587, 104, false, 585, 586), (0, 594, 104, false, 592, 593), (0, 603, 104, false, 601, 602), (0, 610, 104, false, 608, 609), (0, 618, 104, false, 616, 617), (0, 713, 104, false, 711, 712), (0, 739, 104, false, 737, 738), (0, 748, 104, false, 746, 747), (0, 753, 104, false, 752, 41), (0, 757, 104, false, 755, 756), (0, 761, 104, false, 759, 760), (0, 765, 104, false, 764, 42), (0, 769, 104, false, 768, 43), (0, 773, 104, false, 771, 772), (0, 776, 104, true, 775, 0), (0, 785, 104, false, 783, 784), (0, 788, 104, true, 787, 0), (0, 792, 104, false, 790, 791), (0, 895, 104, false, 893, 894), (0, 899, 104, false, 897, 898), (0, 903, 104, false, 901, 902), (0, 907, 104, false, 905, 906), (0, 955, 104, false, 953, 954), (0, 959, 104, false, 958, 69), (0, 964, 104, false, 963, 70), (0, 968, 104, false, 966, 967), (0, 972, 104, false, 971, 71), (0, 982, 104, false, 980, 981), (0, 986, 104, false, 984, 985), (0, 990, 104, false, 989, 73), (1, 130, 105, false, 129, 0), (1, 439, 105, false, 438, 1), (1, 450, 105, false, 449, 2), (1, 462, 105, false, 461, 4), (1, 466, 105, false, 465, 5), (1, 480, 105, false, 479, 7), (2, 145, 106, false, 144, 0), (2, 171, 106, false, 170, 0), (2, 505, 106, false, 504, 9), (2, 512, 106, false, 511, 10), (2, 559, 106, false, 558, 15), (2, 582, 106, false, 581, 17), (2, 614, 106, false, 613, 18), (2, 622, 106, false, 621, 19), (2, 976, 106, false, 975, 72), (3, 151, 107, false, 150, 0), (3, 780, 107, false, 779, 44), (3, 805, 107, false, 804, 47), (3, 809, 107, false, 808, 48), (3, 814, 107, false, 813, 49), (3, 818, 107, false, 817, 50), (3, 926, 107, false, 925, 65), (4, 228, 109, false, 227, 0), (4, 717, 109, false, 716, 36), (4, 722, 109, false, 721, 37), (4, 726, 109, false, 725, 38), (4, 735, 109, false, 734, 39), (4, 743, 109, false, 742, 40), (5, 244, 110, false, 243, 0), (5, 629, 110, false, 628, 20), (5, 697, 110, false, 696, 32), (5, 705, 110, false, 704, 34), (6, 250, 111, false, 249, 0), (6, 655, 111, false, 654, 25), (6, 659, 111, false, 658, 26), (6, 667, 111, false, 666, 27), (6, 671, 111, false, 670, 28), (6, 684, 111, false, 683, 29), (6, 688, 111, false, 687, 30), (6, 692, 111, false, 691, 31), (6, 701, 111, false, 700, 33), (6, 709, 111, false, 708, 35), (6, 863, 111, false, 862, 57), (7, 283, 112, false, 282, 0), (7, 636, 112, false, 635, 21), (7, 640, 112, false, 639, 22), (7, 644, 112, false, 643, 23), (7, 651, 112, false, 650, 24), (7, 826, 112, false, 825, 51), (8, 313, 113, false, 312, 0), (8, 797, 113, false, 796, 45), (8, 801, 113, false, 800, 46), (8, 832, 113, false, 831, 52), (8, 837, 113, false, 836, 53), (8, 849, 113, false, 848, 54), (8, 854, 113, false, 853, 55), (8, 859, 113, false, 858, 56), (8, 875, 113, false, 874, 58), (8, 879, 113, false, 878, 59), (8, 883, 113, false, 882, 60), (8, 887, 113, false, 886, 61), (8, 891, 113, false, 890, 62), (9, 366, 114, false, 365, 0), (9, 911, 114, false, 910, 63), (9, 920, 114, false, 919, 64), (9, 933, 114, false, 932, 66), (9, 938, 114, true, 937, 0), (9, 942, 114, false, 941, 67), (9, 949, 114, false, 948, 68), (10, 995, 115, false, 994, 0), (10, 1003, 115, false, 1002, 74), (10, 1132, 115, false, 1130, 1131), (10, 1137, 115, true, 1136, 0), (10, 1141, 115, false, 1139, 1140), (10, 1147, 115, false, 1145, 1146), (10, 1151, 115, false, 1149, 1150), (10, 1155, 115, false, 1154, 75), (10, 1159, 115, false, 1158, 76), (10, 1163, 115, false, 1162, 77), (10, 1166, 115, true, 1165, 0), (10, 1171, 115, false, 1169, 1170), (10, 1175, 115, false, 1173, 1174), (10, 1179, 115, false, 1178, 78), (10, 1183, 115, false, 1182, 79), (10, 1187, 115, false, 1185, 1186), (10, 1193, 115, false, 1191, 1192), (10, 1197, 115, false, 1195, 1196), (10, 1201, 115, false, 1200, 80), (10, 1205, 115, false, 1204, 81), (10, 1209, 115, false, 1207, 1208), (10, 1213, 115, false, 1211, 1212), (10, 1217, 115, false, 1215, 1216), (10, 1221, 115, false, 1220, 82), (10, 1225, 115, false, 1223, 1224), (10, 1229, 115, false, 1228, 83), (10, 1232, 115, true, 1231, 0), (10, 1236, 115, false, 1234, 1235), (10, 1240, 115, false, 1238, 1239), (10, 1244, 115, false, 1242, 1243), (10, 1248, 115, false, 1247, 84), (10, 1252, 115, false, 1251, 85), (10, 1256, 115, false, 1255, 86), (10, 1260, 115, false, 1259, 87), (10, 1264, 115, false, 1263, 88), (10, 1267, 115, true, 1266, 0), (10, 1271, 115, false, 1270, 89), (10, 1275, 115, false, 1274, 90), (10, 1279, 115, false, 1277, 1278), (10, 1283, 115, false, 1281, 1282), (10, 1287, 115, false, 1285, 1286), (10, 1291, 115, false, 1289, 1290), (10, 1295, 115, false, 1293, 1294), (10, 1299, 115, false, 1298, 91), (10, 1303, 115, false, 1301, 1302), (10, 1308, 115, false, 1306, 1307), (10, 1312, 115, false, 1310, 1311), (10, 1317, 115, false, 1316, 92), (10, 1321, 115, false, 1320, 93), (10, 1325, 115, false, 1324, 94), (10, 1329, 115, false, 1327, 1328), (10, 1333, 115, false, 1332, 95), (10, 1337, 115, false, 1336, 96), (10, 1341, 115, false, 1340, 97), (10, 1345, 115, false, 1343, 1344), (10, 1350, 115, false, 1348, 1349), (10, 1354, 115, false, 1352, 1353), (10, 1359, 115, false, 1358, 98), (10, 1363, 115, false, 1362, 99), (10, 1367, 115, false, 1366, 100), (10, 1371, 115, false, 1369, 1370), (10, 1379, 115, false, 1377, 1378), (10, 1383, 115, false, 1382, 101), (10, 1387, 115, false, 1386, 102), (10, 1391, 115, false, 1389, 1390), (10, 1395, 115, false, 1393, 1394), (11, 167, 108, true, 166, 0), (11, 442, 108, true, 441, 0), (11, 469, 108, true, 468, 0), (11, 472, 108, true, 471, 0), (11, 662, 108, true, 661, 0), (11, 843, 108, true, 842, 0), (11, 866, 108, true, 865, 0), (11, 869, 108, true, 868, 0), (11, 929, 108, true, 928, 0), (12, 496, 116, true, 495, 0), (12, 516, 116, true, 515, 0), (12, 521, 116, true, 520, 0), (12, 524, 116, true, 523, 0), (12, 571, 116, true, 570, 0), (12, 574, 116, true, 573, 0), (12, 590, 116, true, 589, 0), (12, 597, 116, true, 596, 0), (12, 606, 116, true, 605, 0), (13, 675, 117, true, 674, 0)]
def tt_ms (y : Nat) : Option Mi_ := tt_ml[y]?
/-- places of the words of the fields of each class -/
def tt_lay : List (List Nat) := [[406, 408, 410, 412, 414, 416, 418, 420, 422, 424], [135, 137], [201, 203, 205, 207, 209, 211, 213, 215, 217, 219, 221], [160, 162], [233, 235, 237], [300, 302, 304, 306], [262, 264, 266, 268, 270, 272, 274, 276], [288, 290, 292], [336, 338, 340, 342, 344, 346, 348, 350, 352, 354, 356, 358], [381, 383, 385, 387, 389, 391, 393], [1045, 1047, 1049, 1051, 1053, 1055, 1057, 1059, 1061, 1063, 1065, 1067, 1069, 1071, 1073, 1075, 1077, 1079, 1081, 1083, 1085, 1087, 1089, 1091, 1093, 1095, 1097, 1099, 1101, 1103, 1105, 1107, 1109, 1111, 1113, 1115, 1117, 1119, 1121, 1123, 1125]]
/-- instantiable, initialized of each class -/
def tt_cw : List (Nat × Nat) := [(119, 104), (127, 105), (142, 106), (148, 107), (225, 109), (241, 110), (247, 111), (280, 112), (310, 113), (363, 114), (992, 115)]
abbrev mn_RoundDance_init : Nat := 0
abbrev mn_RoundDance_places : Nat := 1
abbrev mn_RoundDance_say : Nat := 2
abbrev mn_RoundDance_wipe : Nat := 3
abbrev mn_RoundDance_fault : Nat := 4
abbrev mn_RoundDance_figureFault : Nat := 5
abbrev mn_RoundDance_rowFault : Nat := 6
abbrev mn_RoundDance_standingFault : Nat := 7
abbrev mn_RoundDance_figure : Nat := 8
abbrev mn_RoundDance_isFigure : Nat := 9
abbrev mn_RoundDance_goes : Nat := 10
abbrev mn_RoundDance_isYesOrNo : Nat := 11
abbrev mn_RoundDance_set : Nat := 12
abbrev mn_RoundDance_setLame : Nat := 13
abbrev mn_RoundDance_setPlayed : Nat := 14
abbrev mn_RoundDance_setLent : Nat := 15
abbrev mn_RoundDance_music : Nat := 16
abbrev mn_RoundDance_judge : Nat := 17
abbrev mn_RoundDance_firstForbidden : Nat := 18
abbrev mn_RoundDance_dance : Nat := 19
abbrev mn_RoundDance_rowMap : Nat := 20
abbrev mn_RoundDance_home : Nat := 21
abbrev mn_RoundDance_where : Nat := 22
abbrev mn_RoundDance_length : Nat := 23
abbrev mn_RoundDance_sign : Nat := 24
abbrev mn_RoundDance_want : Nat := 25
abbrev mn_RoundDance_fewest : Nat := 26
abbrev mn_RoundDance_standings : Nat := 27
abbrev mn_RoundDance_canBe : Nat := 28
abbrev mn_RoundDance_sure : Nat := 29
abbrev mn_RoundDance_nextPlaces : Nat := 30
abbrev mn_RoundDance_caller : Nat := 31
abbrev mn_RoundDance_forced : Nat := 32
abbrev mn_RoundDance_placesWithSome : Nat := 33
abbrev mn_RoundDance_placesWithAll : Nat := 34
abbrev mn_RoundDance_seen : Nat := 35
abbrev mn_RoundDance_noteMore : Nat := 36
abbrev mn_RoundDance_forget : Nat := 37
abbrev mn_RoundDance_noteNone : Nat := 38
abbrev mn_RoundDance_rows : Nat := 39
abbrev mn_RoundDance_came : Nat := 40
abbrev mn_RoundDance_wish : Nat := 41
abbrev mn_RoundDance_drop : Nat := 42
abbrev mn_RoundDance_served : Nat := 43
abbrev mn_RoundDance_night : Nat := 44
abbrev mn_RoundDance_allowedMoves : Nat := 45
abbrev mn_RoundDance_allowedMove : Nat := 46
abbrev mn_RoundDance_image : Nat := 47
abbrev mn_RoundDance_imageNumbered : Nat := 48
abbrev mn_RoundDance_restore : Nat := 49
abbrev mn_RoundDance_told : Nat := 50
abbrev mn_RoundDance_toldOfAll : Nat := 51
abbrev mn_Pad_init : Nat := 52
abbrev mn_Pad_write : Nat := 53
abbrev mn_Pad_clear : Nat := 54
abbrev mn_Pad_faultEachOnce : Nat := 55
abbrev mn_Pad_signAt : Nat := 56
abbrev mn_Pad_faultRow : Nat := 57
abbrev mn_Market_init : Nat := 58
abbrev mn_Market_open : Nat := 59
abbrev mn_Market_has : Nat := 60
abbrev mn_Market_danced : Nat := 61
abbrev mn_Market_may : Nat := 62
abbrev mn_Market_placeOf : Nat := 63
abbrev mn_Market_isWantedByOther : Nat := 64
abbrev mn_Market_fillMoves : Nat := 65
abbrev mn_Market_take : Nat := 66
abbrev mn_Notes_init : Nat := 67
abbrev mn_Notes_add : Nat := 68
abbrev mn_Notes_amount : Nat := 69
abbrev mn_Notes_mark : Nat := 70
abbrev mn_Notes_good : Nat := 71
abbrev mn_Notes_place : Nat := 72
abbrev mn_Notes_take : Nat := 73
abbrev mn_Group_init : Nat := 74
abbrev mn_Group_gather : Nat := 75
abbrev mn_Group_add : Nat := 76
abbrev mn_Group_sift : Nat := 77
abbrev mn_Group_members : Nat := 78
abbrev mn_Group_has : Nat := 79
abbrev mn_Shortest_init : Nat := 80
abbrev mn_Shortest_find : Nat := 81
abbrev mn_Shortest_figuresTo : Nat := 82
abbrev mn_Shortest_figureAt : Nat := 83
abbrev mn_Orbit_init : Nat := 84
abbrev mn_Orbit_explore : Nat := 85
abbrev mn_Orbit_clear : Nat := 86
abbrev mn_Orbit_meet : Nat := 87
abbrev mn_Orbit_rank : Nat := 88
abbrev mn_Orbit_numberOf : Nat := 89
abbrev mn_Orbit_stepBy : Nat := 90
abbrev mn_Orbit_lying : Nat := 91
abbrev mn_Orbit_previous : Nat := 92
abbrev mn_Orbit_figureTo : Nat := 93
abbrev mn_Orbit_step : Nat := 94
abbrev mn_Memo_init : Nat := 95
abbrev mn_Memo_begin : Nat := 96
abbrev mn_Memo_partsOfRow : Nat := 97
abbrev mn_Memo_part : Nat := 98
abbrev mn_Memo_endsStale : Nat := 99
abbrev mn_Memo_partsOfNotes : Nat := 100
abbrev mn_Past_init : Nat := 101
abbrev mn_Past_look : Nat := 102
abbrev mn_Past_takeSights : Nat := 103
abbrev mn_Past_explore : Nat := 104
abbrev mn_Past_slotOf : Nat := 105
abbrev mn_Past_countRows : Nat := 106
abbrev mn_Past_fits : Nat := 107
abbrev mn_Past_sumAfter : Nat := 108
abbrev mn_Past_gatherCandidates : Nat := 109
abbrev mn_Past_isFitting : Nat := 110
abbrev mn_Past_figuresOn : Nat := 111
abbrev mn_Past_findFirstRow : Nat := 112
abbrev mn_Past_firstFigureOn : Nat := 113
abbrev mn_Evening_init : Nat := 114
abbrev mn_Evening_serve : Nat := 115
abbrev mn_Evening_takeMoves : Nat := 116
abbrev mn_Evening_worth : Nat := 117
abbrev mn_Evening_tryRows : Nat := 118
abbrev mn_Evening_holding : Nat := 119
abbrev mn_Evening_compare : Nat := 120
abbrev mn_Ref_init : Nat := 121
abbrev mn_Ref_begin : Nat := 122
abbrev mn_Ref_places : Nat := 123
abbrev mn_Ref_in : Nat := 124
abbrev mn_Ref_say : Nat := 125
abbrev mn_Ref_wipe : Nat := 126
abbrev mn_Ref_fault : Nat := 127
abbrev mn_Ref_faultOfOrder : Nat := 128
abbrev mn_Ref_isPlace : Nat := 129
abbrev mn_Ref_faultOfRow : Nat := 130
abbrev mn_Ref_isFigure : Nat := 131
abbrev mn_Ref_figure : Nat := 132
abbrev mn_Ref_goes : Nat := 133
abbrev mn_Ref_findGoes : Nat := 134
abbrev mn_Ref_isLame : Nat := 135
abbrev mn_Ref_set : Nat := 136
abbrev mn_Ref_music : Nat := 137
abbrev mn_Ref_judge : Nat := 138
abbrev mn_Ref_badFigure : Nat := 139
abbrev mn_Ref_may : Nat := 140
abbrev mn_Ref_dance : Nat := 141
abbrev mn_Ref_home : Nat := 142
abbrev mn_Ref_where : Nat := 143
abbrev mn_Ref_placeOf : Nat := 144
abbrev mn_Ref_length : Nat := 145
abbrev mn_Ref_lengthOfMoved : Nat := 146
abbrev mn_Ref_common : Nat := 147
abbrev mn_Ref_sign : Nat := 148
abbrev mn_Ref_want : Nat := 149
abbrev mn_Ref_fewest : Nat := 150
abbrev mn_Ref_goAll : Nat := 151
abbrev mn_Ref_findNext : Nat := 152
abbrev mn_Ref_codeBy : Nat := 153
abbrev mn_Ref_danced : Nat := 154
abbrev mn_Ref_numberOf : Nat := 155
abbrev mn_Ref_ones : Nat := 156
abbrev mn_Ref_codeNow : Nat := 157
abbrev mn_Ref_isWanted : Nat := 158
abbrev mn_Ref_standings : Nat := 159
abbrev mn_Ref_canBe : Nat := 160
abbrev mn_Ref_sure : Nat := 161
abbrev mn_Ref_caller : Nat := 162
abbrev mn_Ref_forced : Nat := 163
abbrev mn_Ref_needsOf : Nat := 164
abbrev mn_Ref_seen : Nat := 165
abbrev mn_Ref_forget : Nat := 166
abbrev mn_Ref_rows : Nat := 167
abbrev mn_Ref_findRows : Nat := 168
abbrev mn_Ref_onFrom : Nat := 169
abbrev mn_Ref_fits : Nat := 170
abbrev mn_Ref_came : Nat := 171
abbrev mn_Ref_firstAt : Nat := 172
abbrev mn_Ref_firstFrom : Nat := 173
abbrev mn_Ref_bitsAt : Nat := 174
abbrev mn_Ref_wish : Nat := 175
abbrev mn_Ref_drop : Nat := 176
abbrev mn_Ref_served : Nat := 177
abbrev mn_Ref_findMay : Nat := 178
abbrev mn_Ref_worthOf : Nat := 179
abbrev mn_Ref_holding : Nat := 180
abbrev mn_Ref_night : Nat := 181
abbrev mn_Ref_image : Nat := 182
abbrev mn_Ref_passAll : Nat := 183
abbrev mn_Ref_pass : Nat := 184
abbrev mn_Ref_restore : Nat := 185
abbrev mn_Ref_told : Nat := 186
abbrev mn_Cells_fill : Nat := 187
abbrev mn_Cells_put : Nat := 188
abbrev mn_Cells_at : Nat := 189
abbrev mn_Cells_isIn : Nat := 190
abbrev mn_Cells_grown : Nat := 191
abbrev mn_Cells_grownLong : Nat := 192
abbrev mn_Cells_longAt : Nat := 193
abbrev mn_Cells_putLong : Nat := 194
abbrev mn_Cells_copy : Nat := 195
abbrev mn_Maps_with : Nat := 196
abbrev mn_Maps_passing : Nat := 197
abbrev mn_Maps_to : Nat := 198
abbrev mn_Maps_firstNotLame : Nat := 199
abbrev mn_Maps_then : Nat := 200
abbrev mn_Maps_thenOf : Nat := 201
abbrev mn_Maps_undone : Nat := 202
abbrev mn_Maps_timesTillStays : Nat := 203
abbrev mn_Maps_isEven : Nat := 204
abbrev mn_Integer_bitCount : Nat := 205
abbrev tt_obj : Nat × Nat := (125, 124)
abbrev tt_arr : Nat × Nat × Nat := (140, 361, 1128)
end
section
-- ===== CHECKS of the tables, by the kernel =====
def sd_WS : List Cond := lw_tbl.filter goodWord
theorem sd_in {k : Nat} {w : Cond} (h : (decide (lw_tbl[k]? = some w) && goodWord w) = true) : w ∈ sd_WS := by
  rw [Bool.and_eq_true, decide_eq_true_eq] at h
  exact List.mem_filter.mpr ⟨List.mem_of_getElem? h.1, h.2⟩
def tt_name (o : Nat) : String := tt_own.getD o ""
def tt_c (a : Nat) : vw_C := tt_cls.getD a ("", fun _ => ("", "", "", false), 0)
def tt_t (a : Nat) : Nat → FieldType := tt_tys.getD a (fun _ => .int)
def tt_k (a b : Nat) : Nat := (tt_tg.getD a []).getD b 0
def sd_wF (r : Nat × Nat × Nat × Nat × Nat × Nat) : Cond := match r with
  | (o, idx, a, b, d, _) => if d = 0 then .fieldLink (tt_name o) idx (tt_c a).1 ((tt_c a).2.1 b).2.1 ((tt_c a).2.1 b).2.2.1 else .fieldLinkNest (tt_name o) idx (tt_c a).1 ((tt_c a).2.1 b).2.1 ((tt_c a).2.1 b).2.2.1 "RoundDance"
def sd_y (m : Nat) : MethodName := if h : m < tt_ml.length then (tt_ml[m]).1 else ⟨"", "", ""⟩
def sd_wM (r : Nat × Nat × Nat × Nat × Nat) : Cond := match r with
  | (o, idx, m, d, _) => if d = 2 then .methodLink (tt_name o) idx objectInit else if d = 0 then .methodLink (tt_name o) idx (sd_y m) else .methodLinkNest (tt_name o) idx (sd_y m) "RoundDance"
set_option maxRecDepth 100000 in
theorem sd_okF : tt_rF.all (fun r => decide (lw_tbl[r.2.2.2.2.2]? = some (sd_wF r)) && (decide (r.2.2.2.2.1 ≠ 0) || goodWord (sd_wF r)) && decide (r.2.2.2.1 < (tt_c r.2.2.1).2.2) && decide (r.2.2.1 < 11)) = true := by decide +kernel
set_option maxRecDepth 100000 in
theorem sd_okM : tt_rM.all (fun r => decide (lw_tbl[r.2.2.2.2]? = some (sd_wM r)) && (decide (r.2.2.2.1 = 1) || goodWord (sd_wM r))) = true := by decide +kernel
set_option maxRecDepth 100000 in
theorem sd_okC : tt_rC.all (fun r => decide (lw_tbl[r.2.2.2]? = some (.classLink (tt_name r.1) r.2.1 (tt_c r.2.2.1).1)) && goodWord (.classLink (tt_name r.1) r.2.1 (tt_c r.2.2.1).1)) = true := by decide +kernel
set_option maxRecDepth 100000 in
theorem sd_okK : tt_rK.all (fun r => decide (lw_tbl[r.2.2.2]? = some (.constant (tt_name r.1) r.2.1 r.2.2.1)) && goodWord (.constant (tt_name r.1) r.2.1 r.2.2.1)) = true := by decide +kernel
set_option maxRecDepth 100000 in
theorem sd_okL : tt_rL.all (fun r => decide (lw_tbl[r.2.2.2]? = some (.constantLong (tt_name r.1) r.2.1 r.2.2.1)) && goodWord (.constantLong (tt_name r.1) r.2.1 r.2.2.1)) = true := by decide +kernel
/-- classes: the words of the fields, instantiable, initialized; types and tags of the fields; names apart -/
def sd_tag (ty : FieldType) : Nat := match ty with | .int => 0 | .boolean => 0 | .long => 1 | _ => 2
def sd_ckC (a : Nat) : Bool :=
  (List.range (tt_c a).2.2).all (fun b => decide (lw_tbl[(tt_lay.getD a []).getD b 0]? = some (u_lay (tt_c a).1 (tt_c a).2.1 b)) && goodWord (u_lay (tt_c a).1 (tt_c a).2.1 b)
    && decide (parseFieldDescriptor ((tt_c a).2.1 b).2.2.1 = some (tt_t a b)) && decide (sd_tag (tt_t a b) = tt_k a b) && decide (((tt_c a).2.1 b).1 = (tt_c a).1)
    && (List.range b).all (fun b2 => decide (((tt_c a).2.1 b).2.1 ≠ ((tt_c a).2.1 b2).2.1)))
  && (decide (lw_tbl[(tt_cw.getD a (0, 0)).1]? = some (.instantiable (tt_c a).1 (tt_c a).2.2)) && goodWord (.instantiable (tt_c a).1 (tt_c a).2.2))
  && (decide (lw_tbl[(tt_cw.getD a (0, 0)).2]? = some (.initialized (tt_c a).1)) && goodWord (.initialized (tt_c a).1))
set_option maxRecDepth 100000 in
theorem sd_okcl : (List.range 11).all sd_ckC = true := by decide +kernel
/-- methods: the code's word, initialized, static or instanceMethod, selects; the class -/
def sd_ckM (m : Nat) : Bool := match tt_ml[m]?, tt_mw[m]? with
  | some (y, b, nL, ret, _), some (o, k1, k2, st, k3, k4) =>
    decide (y.cls = tt_name o) && plainName y.cls && decide (y.cls ≠ "java/lang/invoke/MethodHandle") && decide (y.cls ≠ "java/lang/invoke/VarHandle") && decide (nL ≤ 30)
    && (decide (lw_tbl[k1]? = some (.code y b nL ret)) && goodWord (.code y b nL ret))
    && (decide (lw_tbl[k2]? = some (.initialized y.cls)) && goodWord (.initialized y.cls))
    && (if st then (decide (lw_tbl[k3]? = some (.static y)) && goodWord (.static y)) else ((decide (lw_tbl[k3]? = some (.instanceMethod y)) && goodWord (.instanceMethod y)) && (decide (y.name = "<init>") || (decide (lw_tbl[k4]? = some (.selects y.cls y y)) && goodWord (.selects y.cls y y)))))
  | _, _ => false
set_option maxRecDepth 100000 in
theorem sd_okobj : (decide (lw_tbl[tt_obj.1]? = some (.code objectInit ⟨#[0xb1]⟩ 1 none)) && goodWord (.code objectInit ⟨#[0xb1]⟩ 1 none) && (decide (lw_tbl[tt_obj.2]? = some (.instanceMethod objectInit)) && goodWord (.instanceMethod objectInit))
  && (decide (lw_tbl[tt_arr.1]? = some (.arrayClass .int)) && goodWord (.arrayClass .int)) && (decide (lw_tbl[tt_arr.2.1]? = some (.arrayClass .long)) && goodWord (.arrayClass .long)) && (decide (lw_tbl[tt_arr.2.2]? = some (.arrayClass .boolean)) && goodWord (.arrayClass .boolean))) = true := by decide +kernel
/-- the length of an instruction; 0: any -/
def sd_len (i : Instr) : Nat := match i with
  | .aload _ => 2 | .iload _ => 2 | .lload _ => 2 | .istore _ => 2 | .astore _ => 2 | .lstore _ => 2 | .bipush _ => 2 | .ldc _ => 2 | .newarray _ => 2
  | .sipush _ => 3 | .ldc_w _ => 3 | .ldc2_w _ => 3 | .iinc _ _ => 3 | .goto _ => 3 | .ifCond _ _ => 3 | .if_icmp _ _ => 3 | .getfield _ => 3 | .putfield _ => 3 | .new _ => 3 | .invokevirtual _ => 3 | .invokestatic _ => 3 | .invokespecial _ => 3
  | .tableswitch _ _ _ _ => 0
  | _ => 1
/-- an entry of a method's table: own class o, is it a constructor, what it answers -/
def sd_ckE (o : Nat) (ini : Bool) (cc : ByteArray) (ret : Option FieldType) (pc : Nat) (e : Ent_) (x : Nat) : Bool := match e with
  | (i, n, a, b, c, d, v, w) => decide (pc ≤ n) && decide (sd_len i = 0 ∨ n = pc + sd_len i) && decide (decode cc pc = .ok (i, n - pc)) && (match i with
    | .iconst k => decide (Int32.ofInt k = v)
    | .bipush k => decide ((Int8.ofInt k).toInt32 = v)
    | .sipush k => decide ((Int16.ofInt k).toInt32 = v)
    | .ldc k => (match tt_rK[x]? with | some r => decide (r.1 = o ∧ r.2.1 = k ∧ r.2.2.1 = v) | none => false)
    | .ldc_w k => (match tt_rK[x]? with | some r => decide (r.1 = o ∧ r.2.1 = k ∧ r.2.2.1 = v) | none => false)
    | .lconst k => decide (Int64.ofNat (k : Nat) = w)
    | .ldc2_w k => (match tt_rL[x]? with | some r => decide (r.1 = o ∧ r.2.1 = k ∧ r.2.2.1 = w) | none => false)
    | .iinc _ k => decide (Int32.ofInt k = v)
    | .goto off => decide ((pc : Int) + off = (a : Int))
    | .ifCond _ off => decide ((pc : Int) + off = (a : Int))
    | .if_icmp _ off => decide ((pc : Int) + off = (a : Int))
    | .tableswitch df _ _ _ => decide ((pc : Int) + df = (a : Int))
    | .getfield k => (match tt_rF[x]? with | some r => decide (r.1 = o ∧ r.2.1 = k ∧ r.2.2.1 = a ∧ r.2.2.2.1 = b ∧ r.2.2.2.2.1 = d) && decide ((match tt_t a b with | .int => 0 | .boolean => 1 | .long => 2 | _ => 3) = c) | none => false)
    | .putfield k => (match tt_rF[x]? with | some r => decide (r.1 = o ∧ r.2.1 = k ∧ r.2.2.1 = a ∧ r.2.2.2.1 = b ∧ r.2.2.2.2.1 = d) && decide ((match tt_t a b with | .int => 0 | .boolean => 1 | .long => 2 | _ => 3) = c) && (!((tt_c a).2.1 b).2.2.2 || (ini && decide (d = 0) && decide (tt_name o = (tt_c a).1))) | none => false)
    | .new k => (match tt_rC[x]? with | some r => decide (r.1 = o ∧ r.2.1 = k ∧ r.2.2.1 = a) && decide (a < 11) && decide (b = (tt_c a).2.2) | none => false)
    | .newarray t => decide (a = (match t with | .int => 1 | .long => 2 | .boolean => 3 | _ => 0)) && decide (a ≠ 0)
    | .invokevirtual k => (match tt_rM[x]?, tt_ml[a]?, tt_mw[a]? with | some r, some y, some z => decide (r.1 = o ∧ r.2.1 = k ∧ r.2.2.1 = a ∧ r.2.2.2.1 = d ∧ d ≤ 1) && decide ((parseMethodDescriptor y.1.desc).map (fun q => q.parameters.length) = some b) && !z.2.2.2.1 && decide (y.1.cls = (tt_c c).1) && decide (y.1.name ≠ "<init>") && decide (c < 11) | _, _, _ => false)
    | .invokestatic k => (match tt_rM[x]?, tt_ml[a]?, tt_mw[a]? with | some r, some y, some z => decide (r.1 = o ∧ r.2.1 = k ∧ r.2.2.1 = a ∧ r.2.2.2.1 = d ∧ d ≤ 1) && decide ((parseMethodDescriptor y.1.desc).map (fun q => q.parameters.length) = some b) && z.2.2.2.1 | _, _, _ => false)
    | .invokespecial k => (match tt_rM[x]? with
      | some r => decide (r.1 = o ∧ r.2.1 = k ∧ r.2.2.2.1 = d ∧ d ≤ 2) && (decide (d = 2) || (match tt_ml[a]?, tt_mw[a]? with | some y, some z => decide (r.2.2.1 = a) && decide ((parseMethodDescriptor y.1.desc).map (fun q => q.parameters.length) = some b) && !z.2.2.2.1 && decide (y.1.cls = (tt_c c).1) && decide (y.1.name = "<init>") && decide (y.2.2.2.1 = none) && decide (c < 11) | _, _ => false))
      | _ => false)
    | .ireturn => decide ((a = 0 ∧ ret = some .int) ∨ (a = 1 ∧ ret = some .boolean))
    | .lreturn => decide (ret = some .long)
    | .areturn => (match ret with | some (.object _) => true | some (.array _) => true | _ => false)
    | .return_ => decide (ret = none)
    | _ => true)
def sd_ckT (o : Nat) (ini : Bool) (cc : ByteArray) (ret : Option FieldType) (t : Tab_) (xs : List Nat) : Bool := decide (t.length = xs.length) && (t.zip xs).all (fun q => sd_ckE o ini cc ret q.1.1 q.1.2 q.2)
def sd_ckm (m : Nat) : Bool := match tt_ml[m]?, tt_mw[m]?, tt_xl[m]? with
  | some (y, b, _, ret, t), some (o, _), some xs => sd_ckT o (decide (y.name = "<init>")) b ret t xs
  | _, _, _ => false
end
section
-- ===== the methods' words =====
set_option maxRecDepth 100000 in
theorem sd_okml0 : (List.range' 0 13).all sd_ckM = true := by decide +kernel
set_option maxRecDepth 100000 in
theorem sd_okml1 : (List.range' 13 13).all sd_ckM = true := by decide +kernel
set_option maxRecDepth 100000 in
theorem sd_okml2 : (List.range' 26 13).all sd_ckM = true := by decide +kernel
set_option maxRecDepth 100000 in
theorem sd_okml3 : (List.range' 39 13).all sd_ckM = true := by decide +kernel
set_option maxRecDepth 100000 in
theorem sd_okml4 : (List.range' 52 13).all sd_ckM = true := by decide +kernel
set_option maxRecDepth 100000 in
theorem sd_okml5 : (List.range' 65 13).all sd_ckM = true := by decide +kernel
set_option maxRecDepth 100000 in
theorem sd_okml6 : (List.range' 78 13).all sd_ckM = true := by decide +kernel
set_option maxRecDepth 100000 in
theorem sd_okml7 : (List.range' 91 13).all sd_ckM = true := by decide +kernel
set_option maxRecDepth 100000 in
theorem sd_okml8 : (List.range' 104 13).all sd_ckM = true := by decide +kernel
set_option maxRecDepth 100000 in
theorem sd_okml9 : (List.range' 117 13).all sd_ckM = true := by decide +kernel
set_option maxRecDepth 100000 in
theorem sd_okml10 : (List.range' 130 13).all sd_ckM = true := by decide +kernel
set_option maxRecDepth 100000 in
theorem sd_okml11 : (List.range' 143 13).all sd_ckM = true := by decide +kernel
set_option maxRecDepth 100000 in
theorem sd_okml12 : (List.range' 156 13).all sd_ckM = true := by decide +kernel
set_option maxRecDepth 100000 in
theorem sd_okml13 : (List.range' 169 13).all sd_ckM = true := by decide +kernel
set_option maxRecDepth 100000 in
theorem sd_okml14 : (List.range' 182 13).all sd_ckM = true := by decide +kernel
set_option maxRecDepth 100000 in
theorem sd_okml15 : (List.range' 195 11).all sd_ckM = true := by decide +kernel
end
section
-- ===== the methods' tables, 1 =====
set_option maxRecDepth 100000 in
theorem sd_okT0 : (List.range' 0 13).all sd_ckm = true := by decide +kernel
set_option maxRecDepth 100000 in
theorem sd_okT1 : (List.range' 13 13).all sd_ckm = true := by decide +kernel
set_option maxRecDepth 100000 in
theorem sd_okT2 : (List.range' 26 13).all sd_ckm = true := by decide +kernel
set_option maxRecDepth 100000 in
theorem sd_okT3 : (List.range' 39 13).all sd_ckm = true := by decide +kernel
set_option maxRecDepth 100000 in
theorem sd_okT4 : (List.range' 52 13).all sd_ckm = true := by decide +kernel
set_option maxRecDepth 100000 in
theorem sd_okT5 : (List.range' 65 13).all sd_ckm = true := by decide +kernel
set_option maxRecDepth 100000 in
theorem sd_okT6 : (List.range' 78 13).all sd_ckm = true := by decide +kernel
set_option maxRecDepth 100000 in
theorem sd_okT7 : (List.range' 91 13).all sd_ckm = true := by decide +kernel
end
section
-- ===== the methods' tables, 2 =====
set_option maxRecDepth 100000 in
theorem sd_okU0 : (List.range' 104 13).all sd_ckm = true := by decide +kernel
set_option maxRecDepth 100000 in
theorem sd_okU1 : (List.range' 117 13).all sd_ckm = true := by decide +kernel
set_option maxRecDepth 100000 in
theorem sd_okU2 : (List.range' 130 13).all sd_ckm = true := by decide +kernel
set_option maxRecDepth 100000 in
theorem sd_okU3 : (List.range' 143 13).all sd_ckm = true := by decide +kernel
set_option maxRecDepth 100000 in
theorem sd_okU4 : (List.range' 156 13).all sd_ckm = true := by decide +kernel
set_option maxRecDepth 100000 in
theorem sd_okU5 : (List.range' 169 13).all sd_ckm = true := by decide +kernel
set_option maxRecDepth 100000 in
theorem sd_okU6 : (List.range' 182 13).all sd_ckm = true := by decide +kernel
set_option maxRecDepth 100000 in
theorem sd_okU7 : (List.range' 195 11).all sd_ckm = true := by decide +kernel
end
section
-- ===== the law's table =====
set_option maxRecDepth 100000 in
theorem sd_okL0 : (((tb_Law_law.drop 0).take 40).zip ((tx_Law_law.drop 0).take 40)).all (fun q => sd_ckE 14 false code ret q.1.1 q.1.2 q.2) = true := by decide +kernel
set_option maxRecDepth 100000 in
theorem sd_okL1 : (((tb_Law_law.drop 40).take 40).zip ((tx_Law_law.drop 40).take 40)).all (fun q => sd_ckE 14 false code ret q.1.1 q.1.2 q.2) = true := by decide +kernel
set_option maxRecDepth 100000 in
theorem sd_okL2 : (((tb_Law_law.drop 80).take 40).zip ((tx_Law_law.drop 80).take 40)).all (fun q => sd_ckE 14 false code ret q.1.1 q.1.2 q.2) = true := by decide +kernel
set_option maxRecDepth 100000 in
theorem sd_okL3 : (((tb_Law_law.drop 120).take 40).zip ((tx_Law_law.drop 120).take 40)).all (fun q => sd_ckE 14 false code ret q.1.1 q.1.2 q.2) = true := by decide +kernel
set_option maxRecDepth 100000 in
theorem sd_okL4 : (((tb_Law_law.drop 160).take 40).zip ((tx_Law_law.drop 160).take 40)).all (fun q => sd_ckE 14 false code ret q.1.1 q.1.2 q.2) = true := by decide +kernel
set_option maxRecDepth 100000 in
theorem sd_okL5 : (((tb_Law_law.drop 200).take 40).zip ((tx_Law_law.drop 200).take 40)).all (fun q => sd_ckE 14 false code ret q.1.1 q.1.2 q.2) = true := by decide +kernel
set_option maxRecDepth 100000 in
theorem sd_okL6 : (((tb_Law_law.drop 240).take 40).zip ((tx_Law_law.drop 240).take 40)).all (fun q => sd_ckE 14 false code ret q.1.1 q.1.2 q.2) = true := by decide +kernel
set_option maxRecDepth 100000 in
theorem sd_okL7 : (((tb_Law_law.drop 280).take 40).zip ((tx_Law_law.drop 280).take 40)).all (fun q => sd_ckE 14 false code ret q.1.1 q.1.2 q.2) = true := by decide +kernel
set_option maxRecDepth 100000 in
theorem sd_okL8 : (((tb_Law_law.drop 320).take 40).zip ((tx_Law_law.drop 320).take 40)).all (fun q => sd_ckE 14 false code ret q.1.1 q.1.2 q.2) = true := by decide +kernel
set_option maxRecDepth 100000 in
theorem sd_okL9 : (((tb_Law_law.drop 360).take 40).zip ((tx_Law_law.drop 360).take 40)).all (fun q => sd_ckE 14 false code ret q.1.1 q.1.2 q.2) = true := by decide +kernel
set_option maxRecDepth 100000 in
theorem sd_okL10 : (((tb_Law_law.drop 400).take 40).zip ((tx_Law_law.drop 400).take 40)).all (fun q => sd_ckE 14 false code ret q.1.1 q.1.2 q.2) = true := by decide +kernel
set_option maxRecDepth 100000 in
theorem sd_okL11 : (((tb_Law_law.drop 440).take 40).zip ((tx_Law_law.drop 440).take 40)).all (fun q => sd_ckE 14 false code ret q.1.1 q.1.2 q.2) = true := by decide +kernel
set_option maxRecDepth 100000 in
theorem sd_okL12 : (((tb_Law_law.drop 480).take 40).zip ((tx_Law_law.drop 480).take 40)).all (fun q => sd_ckE 14 false code ret q.1.1 q.1.2 q.2) = true := by decide +kernel
set_option maxRecDepth 100000 in
theorem sd_okL13 : (((tb_Law_law.drop 520).take 40).zip ((tx_Law_law.drop 520).take 40)).all (fun q => sd_ckE 14 false code ret q.1.1 q.1.2 q.2) = true := by decide +kernel
set_option maxRecDepth 100000 in
theorem sd_okL14 : (((tb_Law_law.drop 560).take 40).zip ((tx_Law_law.drop 560).take 40)).all (fun q => sd_ckE 14 false code ret q.1.1 q.1.2 q.2) = true := by decide +kernel
set_option maxRecDepth 100000 in
theorem sd_okL15 : (((tb_Law_law.drop 600).take 40).zip ((tx_Law_law.drop 600).take 40)).all (fun q => sd_ckE 14 false code ret q.1.1 q.1.2 q.2) = true := by decide +kernel
set_option maxRecDepth 100000 in
theorem sd_okL16 : (((tb_Law_law.drop 640).take 40).zip ((tx_Law_law.drop 640).take 40)).all (fun q => sd_ckE 14 false code ret q.1.1 q.1.2 q.2) = true := by decide +kernel
end
section
-- ===== WHAT THE PURE MACHINE SAYS IS SO: the relation between its states and the real ones =====
def sd_re (ad : Nat → Nat) (v : Value) : Value := match v with
  | .ref i => .ref (ad i)
  | v => v
def sd_fv (h : Hp_) (ad : Nat → Nat) (o k t : Nat) : Value := if t = 0 then .int (hp_I h o k) else if t = 1 then .long (hp_J h o k) else if hp_R h o k = 0 then .null else .ref (ad (hp_R h o k))
def sd_fs (h : Hp_) (ad : Nat → Nat) (o a : Nat) : List Value := (List.range (tt_c a).2.2).map (fun k => sd_fv h ad o k (tt_k a k))
def sd_ce (cy : Nat → ClassId) (h : Hp_) (ad : Nat → Nat) (o : Nat) : va_E :=
  if hp_kd h o = 1 ∨ hp_kd h o = 3 then .inl (cy (hp_kd h o), hp_ln h o, .inl (hp_I h o))
  else if hp_kd h o = 2 then .inl (cy 2, hp_ln h o, .inr (.inl (hp_J h o)))
  else .inr (hp_kd h o - 10, sd_fs h ad o (hp_kd h o - 10))
def sd_w (cy : Nat → ClassId) (h : Hp_) (ad : Nat → Nat) : va_W := (List.range (hp_nx h)).map (fun k => (ad (k + 1), sd_ce cy h ad (k + 1)))
def sd_wf (h : Hp_) : Prop := (∀ c k, hp_R h c k ≤ hp_nx h) ∧ (∀ c, hp_kd h c ≠ 0 → 1 ≤ c ∧ c ≤ hp_nx h)
def sd_vf (n : Nat) (v : Value) : Prop := match v with
  | .ref i => i ≤ n
  | _ => True
def sd_as (ad : Nat → Nat) (L : Lc_) : List (Nat × Value) := (List.range L.length).filterMap (fun k => match L[k]? with
  | some (some v) => some (k, sd_re ad v)
  | _ => none)
def sd_tys (cy : Nat → ClassId) : List (ClassId × FieldType) := [(cy 1, .int), (cy 2, .long), (cy 3, .boolean)]
/-- the words of nest mates -/
def sd_NW (U : State) : Prop := (∀ r ∈ tt_rF, r.2.2.2.2.1 ≠ 0 → va_Nw (sd_wF r) U) ∧ ∀ r ∈ tt_rM, r.2.2.2.1 = 1 → va_Nw (sd_wM r) U
theorem sd_NW.warm {s U : State} (hW : s.WarmedH U.vm) (h : sd_NW s) : sd_NW U := by
  refine ⟨fun r hr hd => ?_, fun r hr hd => ?_⟩
  · have h1 := h.1 r hr hd
    obtain ⟨o, idx, a, b, d, k⟩ := r
    simp only [sd_wF] at hd h1 ⊢
    rw [if_neg hd] at h1 ⊢
    exact va_Nw.warmF hW h1
  · have h1 := h.2 r hr hd
    obtain ⟨o, idx, a, d, k⟩ := r
    simp only [sd_wM] at hd h1 ⊢
    subst hd
    exact va_Nw.warmM hW h1
theorem sd_NW.same {u U : State} (hv : u.vm = U.vm) (h : sd_NW u) : sd_NW U := by
  refine ⟨fun r hr hd => ?_, fun r hr hd => ?_⟩
  · have h1 := h.1 r hr hd
    obtain ⟨o, idx, a, b, d, k⟩ := r
    simp only [sd_wF] at hd h1 ⊢
    rw [if_neg hd] at h1 ⊢
    exact va_Nw.same rfl hv h1
  · have h1 := h.2 r hr hd
    obtain ⟨o, idx, a, d, k⟩ := r
    simp only [sd_wM] at hd h1 ⊢
    subst hd
    exact va_Nw.same rfl hv h1
def sd_Fix (p : Program) (s : State) (m : MethodId) (args : Array Value) (meth : Method) (c : Code) (cc : ByteArray) (nL o : Nat) (ini : Bool) (D : va_G) (cy : Nat → ClassId) : Prop :=
  p.tables.exec = Jvm.exec ∧ c.code = cc ∧ c.maxLocals = nL ∧ s.vm.findClass (tt_name o) = some m.cls ∧ (∀ w ∈ sd_WS, w.before args s = true) ∧ sd_NW s ∧ va_K D tt_cls (sd_tys cy) s ∧ (ini = true → meth.name = "<init>")
def sd_Sc (sc : Sc_) (A : Nat → Prop) (H0 : Heap) (s : State) (b : Nat) : Prop := match sc with
  | none => True
  | some (z, f) => va_X b z f s H0 ∧ b < H0.size ∧ ¬ A b
def sd_Rel (D : va_G) (cy : Nat → ClassId) (ad0 : Nat → Nat) (n0 s0 : Nat) (A : Nat → Prop) (H0 : Heap) (nL : Nat) (L : Lc_) (st : List Value) (h : Hp_) (ad : Nat → Nat) (H : Heap) (locs : List Loc) (ls : Array Slot) : Prop :=
  sd_wf h ∧ (∀ v, some v ∈ L → sd_vf (hp_nx h) v) ∧ (∀ v ∈ st, sd_vf (hp_nx h) v) ∧ n0 ≤ hp_nx h ∧ s0 ≤ hp_sl h ∧ (∀ i, i ≤ n0 → ad i = ad0 i) ∧ va_P D tt_cls (sd_w cy h ad) H ∧ va_D A (sd_w cy h ad) ∧ va_S A H0 H locs ∧ L.length = nL ∧ lv_has ls nL (sd_as ad L)
section SDG
variable {p : Program} {l : Launch} {e : Env} {R : Room} {s : State} {m : MethodId} {args : Array Value} {below : List Frame} {meth : Method} {c : Code} {Q : State → Prop}
/-- from every real state that stands for this one, the goal is come to -/
def sd_G (p : Program) (l : Launch) (e : Env) (R : Room) (s : State) (m : MethodId) (args : Array Value) (below : List Frame) (meth : Method) (c : Code) (Q : State → Prop) (D : va_G) (cy : Nat → ClassId) (ad0 : Nat → Nat) (n0 s0 : Nat) (A : Nat → Prop) (H0 : Heap) (nL : Nat) (pc : Nat) (L : Lc_) (st : List Value) (h : Hp_) : Prop :=
  ∀ (ad : Nat → Nat) (H : Heap) (locs : List Loc) (ls : Array Slot), sd_Rel D cy ad0 n0 s0 A H0 nL L st h ad H locs ls → W p l e R s m args below meth c H locs (hp_nx h - n0) (hp_sl h - s0) Q (F0 m pc ls (st.map (sd_re ad)))
end SDG
-- ---- pure facts
theorem sd_as_mem {ad : Nat → Nat} {L : Lc_} {k : Nat} {v : Value} (h : L[k]? = some (some v)) : (k, sd_re ad v) ∈ sd_as ad L := by
  refine List.mem_filterMap.mpr ⟨k, List.mem_range.mpr ?_, ?_⟩
  · exact (List.getElem?_eq_some_iff.mp h).1
  · rw [h]
theorem sd_as_of {ad : Nat → Nat} {L : Lc_} {q : Nat × Value} (h : q ∈ sd_as ad L) : ∃ v, L[q.1]? = some (some v) ∧ q.2 = sd_re ad v := by
  obtain ⟨k, -, hk⟩ := List.mem_filterMap.mp h
  revert hk
  split
  · rename_i v hv
    intro hk
    cases hk
    exact ⟨v, hv, rfl⟩
  · intro hk
    cases hk
theorem sd_at {ad : Nat → Nat} {ls : Array Slot} {nL : Nat} {L : Lc_} {k : Nat} {v : Value} (hl : lv_has ls nL (sd_as ad L)) (h : L[k]? = some (some v)) : ls[k]? = some (.val (sd_re ad v)) := hl.2.2 _ (sd_as_mem h)
theorem sd_has {ls : Array Slot} {nL : Nat} {l l' : List (Nat × Value)} (h : lv_has ls nL l) (hs : ∀ q ∈ l', q ∈ l) : lv_has ls nL l' := ⟨h.1, h.2.1, fun q hq => h.2.2 q (hs q hq)⟩
theorem sd_re_cat (ad : Nat → Nat) (v : Value) : (sd_re ad v).category = v.category := by cases v <;> rfl
theorem sd_kill_get {L : Lc_} {i k : Nat} {v : Value} (h : (pm_kill L i)[k]? = some (some v)) : L[k]? = some (some v) ∧ ¬ (k + 1 = i ∧ v.category = 2) := by
  unfold pm_kill at h
  cases i with
  | zero => exact ⟨h, fun z => by omega⟩
  | succ j =>
    dsimp only at h
    split at h
    · rename_i x hx
      split at h
      · by_cases hk : j = k
        · subst hk
          rw [List.getElem?_set_self (List.getElem?_eq_some_iff.mp hx).1] at h
          cases h
        · rw [List.getElem?_set_ne hk] at h
          exact ⟨h, fun z => hk (by omega)⟩
      · rename_i hn
        refine ⟨h, fun z => ?_⟩
        have hkj : k = j := by omega
        subst hkj
        rw [hx] at h
        cases h
        exact hn z.2
    · rename_i hn
      refine ⟨h, fun z => ?_⟩
      have hkj : k = j := by omega
      subst hkj
      exact hn v h
theorem sd_kill_len (L : Lc_) (i : Nat) : (pm_kill L i).length = L.length := by
  unfold pm_kill
  split
  · rfl
  · split
    · split
      · exact List.length_set
      · rfl
    · rfl
theorem sd_st_len (L : Lc_) (i : Nat) (v : Value) : (pm_st L i v).length = L.length := by rw [pm_st, List.length_set, sd_kill_len]
theorem sd_stJ_len (L : Lc_) (i : Nat) (v : Value) : (pm_stJ L i v).length = L.length := by rw [pm_stJ, List.length_set, List.length_set, sd_kill_len]
theorem sd_kill_mem {L : Lc_} {i : Nat} {v : Value} (h : some v ∈ pm_kill L i) : some v ∈ L := by
  obtain ⟨k, hk⟩ := List.getElem?_of_mem h
  exact List.mem_of_getElem? (sd_kill_get hk).1
theorem sd_set_mem {L : Lc_} {i : Nat} {v w : Value} (h : some v ∈ L.set i (some w)) : v = w ∨ some v ∈ L := by
  rcases List.mem_or_eq_of_mem_set h with h | h
  · exact Or.inr h
  · exact Or.inl (Option.some.inj h)
theorem sd_setn_mem {L : Lc_} {i : Nat} {v : Value} (h : some v ∈ L.set i none) : some v ∈ L := by
  rcases List.mem_or_eq_of_mem_set h with h | h
  · exact h
  · cases h
/-- a word put into the locals -/
theorem sd_put {ad : Nat → Nat} {ls : Array Slot} {nL i : Nat} {L : Lc_} {v : Value} (hl : lv_has ls nL ((i, sd_re ad v) :: (sd_as ad L).filter (fun q => !(q.1 == i) && !(q.1 + 1 == i && q.2.category == 2)))) : lv_has ls nL (sd_as ad (pm_st L i v)) := by
  refine sd_has hl (fun q hq => ?_)
  obtain ⟨w, h1, h2⟩ := sd_as_of hq
  rw [pm_st, List.getElem?_set] at h1
  split at h1
  · rename_i hi
    split at h1
    · cases h1
      refine List.mem_cons.mpr (Or.inl ?_)
      rw [← h2, hi]
    · cases h1
  · rename_i hi
    obtain ⟨h3, h4⟩ := sd_kill_get h1
    refine List.mem_cons.mpr (Or.inr (List.mem_filter.mpr ⟨?_, ?_⟩))
    · have := sd_as_mem (ad := ad) h3
      rw [← h2] at this
      exact this
    · have h5 : ¬ (q.1 == i) = true := by simp; exact fun z => hi z.symm
      have h6 : ¬ (q.1 + 1 == i && q.2.category == 2) = true := by
        rw [h2, sd_re_cat]
        simp
        exact fun z1 z2 => h4 ⟨z1, z2⟩
      simp only [Bool.not_eq_true] at h5 h6
      rw [h5, h6]
      rfl
theorem sd_putJ {ad : Nat → Nat} {ls : Array Slot} {nL i : Nat} {L : Lc_} {v : Value} (hl : lv_has ls nL ((i, sd_re ad v) :: (sd_as ad L).filter (fun q => !(q.1 == i) && (!(q.1 == i + 1) && !(q.1 + 1 == i && q.2.category == 2))))) : lv_has ls nL (sd_as ad (pm_stJ L i v)) := by
  refine sd_has hl (fun q hq => ?_)
  obtain ⟨w, h1, h2⟩ := sd_as_of hq
  rw [pm_stJ, List.getElem?_set] at h1
  split at h1
  · split at h1 <;> cases h1
  · rename_i hi1
    rw [List.getElem?_set] at h1
    split at h1
    · rename_i hi
      split at h1
      · cases h1
        refine List.mem_cons.mpr (Or.inl ?_)
        rw [← h2, hi]
      · cases h1
    · rename_i hi
      obtain ⟨h3, h4⟩ := sd_kill_get h1
      refine List.mem_cons.mpr (Or.inr (List.mem_filter.mpr ⟨?_, ?_⟩))
      · have := sd_as_mem (ad := ad) h3
        rw [← h2] at this
        exact this
      · have h5 : ¬ (q.1 == i) = true := by simp; exact fun z => hi z.symm
        have h7 : ¬ (q.1 == i + 1) = true := by simp; exact fun z => hi1 z.symm
        have h6 : ¬ (q.1 + 1 == i && q.2.category == 2) = true := by
          rw [h2, sd_re_cat]
          simp
          exact fun z1 z2 => h4 ⟨z1, z2⟩
        simp only [Bool.not_eq_true] at h5 h6 h7
        rw [h5, h6, h7]
        rfl
-- ---- the world
theorem sd_w_at {cy : Nat → ClassId} {h : Hp_} {ad : Nat → Nat} {o : Nat} (h1 : 1 ≤ o) (h2 : o ≤ hp_nx h) : (sd_w cy h ad)[o - 1]? = some (ad o, sd_ce cy h ad o) := by
  unfold sd_w
  rw [List.getElem?_map, List.getElem?_range (by omega)]
  simp only [Option.map_some]
  rw [Nat.sub_add_cancel h1]
theorem sd_w_of {cy : Nat → ClassId} {h : Hp_} {ad : Nat → Nat} {k : Nat} {q : Nat × va_E} (hk : (sd_w cy h ad)[k]? = some q) : k < hp_nx h ∧ q = (ad (k + 1), sd_ce cy h ad (k + 1)) := by
  unfold sd_w at hk
  rw [List.getElem?_map] at hk
  cases hr : (List.range (hp_nx h))[k]? with
  | none => rw [hr] at hk; cases hk
  | some j =>
    rw [hr] at hk
    obtain ⟨h1, h2⟩ := List.getElem?_eq_some_iff.mp hr
    rw [List.length_range] at h1
    rw [List.getElem_range] at h2
    cases h2
    cases hk
    exact ⟨h1, rfl⟩
theorem sd_w_len (cy : Nat → ClassId) (h : Hp_) (ad : Nat → Nat) : (sd_w cy h ad).length = hp_nx h := by simp [sd_w]
theorem sd_ceO {cy : Nat → ClassId} {h : Hp_} {ad : Nat → Nat} {o a : Nat} (hk : hp_kd h o = a + 10) : sd_ce cy h ad o = .inr (a, sd_fs h ad o a) := by
  unfold sd_ce
  rw [hk, if_neg (by omega), if_neg (by omega), Nat.add_sub_cancel]
theorem sd_ceI {cy : Nat → ClassId} {h : Hp_} {ad : Nat → Nat} {o : Nat} (hk : hp_kd h o = 1) : sd_ce cy h ad o = .inl (cy 1, hp_ln h o, .inl (hp_I h o)) := by
  unfold sd_ce
  rw [hk, if_pos (Or.inl rfl)]
theorem sd_ceZ {cy : Nat → ClassId} {h : Hp_} {ad : Nat → Nat} {o : Nat} (hk : hp_kd h o = 3) : sd_ce cy h ad o = .inl (cy 3, hp_ln h o, .inl (hp_I h o)) := by
  unfold sd_ce
  rw [hk, if_pos (Or.inr rfl)]
theorem sd_ceJ {cy : Nat → ClassId} {h : Hp_} {ad : Nat → Nat} {o : Nat} (hk : hp_kd h o = 2) : sd_ce cy h ad o = .inl (cy 2, hp_ln h o, .inr (.inl (hp_J h o))) := by
  unfold sd_ce
  rw [hk, if_neg (by omega), if_pos rfl]
/-- one cell's contents changed -/
theorem sd_w_set {cy : Nat → ClassId} {h h' : Hp_} {ad : Nat → Nat} {o : Nat} (h1 : 1 ≤ o) (hn : hp_nx h' = hp_nx h) (hother : ∀ q, q ≠ o → sd_ce cy h' ad q = sd_ce cy h ad q) : (sd_w cy h ad).set (o - 1) (ad o, sd_ce cy h' ad o) = sd_w cy h' ad := by
  refine List.ext_getElem? (fun k => ?_)
  rw [List.getElem?_set]
  by_cases hk : o - 1 = k
  · rw [if_pos hk, sd_w_len]
    by_cases hl : o - 1 < hp_nx h
    · rw [if_pos hl, ← hk]
      exact (sd_w_at h1 (by omega)).symm
    · rw [if_neg hl]
      refine (List.getElem?_eq_none ?_).symm
      rw [sd_w_len]
      omega
  · rw [if_neg hk]
    by_cases hl : k < hp_nx h
    · have e1 := sd_w_at (cy := cy) (h := h) (ad := ad) (o := k + 1) (by omega) (by omega)
      have e2 := sd_w_at (cy := cy) (h := h') (ad := ad) (o := k + 1) (by omega) (by omega)
      rw [Nat.add_sub_cancel] at e1 e2
      rw [e1, e2, hother (k + 1) (by omega)]
    · rw [List.getElem?_eq_none (by rw [sd_w_len]; omega), List.getElem?_eq_none (by rw [sd_w_len]; omega)]
end
section
-- ===== A STEP of the pure machine is a step of the real one =====
section SDS
variable {p : Program} {l : Launch} {e : Env} {R : Room} {s : State} {m : MethodId} {args : Array Value} {below : List Frame} {meth : Method} {c : Code} {Q : State → Prop} {D : va_G} {cy : Nat → ClassId} {ad0 : Nat → Nat} {n0 s0 : Nat} {A : Nat → Prop} {H0 : Heap} {nL o : Nat} {cc : ByteArray} {ini : Bool} {pc pc' n : Nat} {L L' : Lc_} {st st' : List Value} {h h' : Hp_}
theorem sdi_iload_n {k : Fin 4} (F : sd_Fix p s m args meth c cc nL o ini D cy) (hd : decode cc pc = .ok (.iload_n k, 1)) (hn : n = pc + 1) (hs : pm_ldI k n L st h = some (.inl (pc', L', st', h'))) (kk : sd_G p l e R s m args below meth c Q D cy ad0 n0 s0 A H0 nL pc' L' st' h') : sd_G p l e R s m args below meth c Q D cy ad0 n0 s0 A H0 nL pc L st h := by
  unfold pm_ldI at hs
  split at hs
  · rename_i x hx
    cases hs
    intro ad H locs ls ⟨r1, r2, r3, r4, r5, r6, r7, r8, r9, r10, r11⟩
    subst hn
    exact lv_iload_n F.1 F.2.1 hd rfl (sd_at r11 hx) (kk ad H locs ls ⟨r1, r2, fun v hv => by
      rcases List.mem_cons.mp hv with rfl | hv
      · trivial
      · exact r3 v hv, r4, r5, r6, r7, r8, r9, r10, r11⟩)
  · cases hs
theorem sdi_iload {k : Nat} (F : sd_Fix p s m args meth c cc nL o ini D cy) (hd : decode cc pc = .ok (.iload k, 2)) (hn : n = pc + 2) (hs : pm_ldI k n L st h = some (.inl (pc', L', st', h'))) (kk : sd_G p l e R s m args below meth c Q D cy ad0 n0 s0 A H0 nL pc' L' st' h') : sd_G p l e R s m args below meth c Q D cy ad0 n0 s0 A H0 nL pc L st h := by
  unfold pm_ldI at hs
  split at hs
  · rename_i x hx
    cases hs
    intro ad H locs ls ⟨r1, r2, r3, r4, r5, r6, r7, r8, r9, r10, r11⟩
    subst hn
    exact lv_iload F.1 F.2.1 hd (sd_at r11 hx) (kk ad H locs ls ⟨r1, r2, fun v hv => by
      rcases List.mem_cons.mp hv with rfl | hv
      · trivial
      · exact r3 v hv, r4, r5, r6, r7, r8, r9, r10, r11⟩)
  · cases hs
theorem sdi_lload_n {k : Fin 4} (F : sd_Fix p s m args meth c cc nL o ini D cy) (hd : decode cc pc = .ok (.lload_n k, 1)) (hn : n = pc + 1) (hs : pm_ldJ k n L st h = some (.inl (pc', L', st', h'))) (kk : sd_G p l e R s m args below meth c Q D cy ad0 n0 s0 A H0 nL pc' L' st' h') : sd_G p l e R s m args below meth c Q D cy ad0 n0 s0 A H0 nL pc L st h := by
  unfold pm_ldJ at hs
  split at hs
  · rename_i x hx
    cases hs
    intro ad H locs ls ⟨r1, r2, r3, r4, r5, r6, r7, r8, r9, r10, r11⟩
    subst hn
    exact lv_lload_n F.1 F.2.1 hd rfl (sd_at r11 hx) (kk ad H locs ls ⟨r1, r2, fun v hv => by
      rcases List.mem_cons.mp hv with rfl | hv
      · trivial
      · exact r3 v hv, r4, r5, r6, r7, r8, r9, r10, r11⟩)
  · cases hs
theorem sdi_lload {k : Nat} (F : sd_Fix p s m args meth c cc nL o ini D cy) (hd : decode cc pc = .ok (.lload k, 2)) (hn : n = pc + 2) (hs : pm_ldJ k n L st h = some (.inl (pc', L', st', h'))) (kk : sd_G p l e R s m args below meth c Q D cy ad0 n0 s0 A H0 nL pc' L' st' h') : sd_G p l e R s m args below meth c Q D cy ad0 n0 s0 A H0 nL pc L st h := by
  unfold pm_ldJ at hs
  split at hs
  · rename_i x hx
    cases hs
    intro ad H locs ls ⟨r1, r2, r3, r4, r5, r6, r7, r8, r9, r10, r11⟩
    subst hn
    exact lv_lload F.1 F.2.1 hd (sd_at r11 hx) (kk ad H locs ls ⟨r1, r2, fun v hv => by
      rcases List.mem_cons.mp hv with rfl | hv
      · trivial
      · exact r3 v hv, r4, r5, r6, r7, r8, r9, r10, r11⟩)
  · cases hs
theorem sdi_aload_n {k : Fin 4} (F : sd_Fix p s m args meth c cc nL o ini D cy) (hd : decode cc pc = .ok (.aload_n k, 1)) (hn : n = pc + 1) (hs : pm_ldA k n L st h = some (.inl (pc', L', st', h'))) (kk : sd_G p l e R s m args below meth c Q D cy ad0 n0 s0 A H0 nL pc' L' st' h') : sd_G p l e R s m args below meth c Q D cy ad0 n0 s0 A H0 nL pc L st h := by
  unfold pm_ldA at hs
  split at hs
  · rename_i x hx
    cases hs
    intro ad H locs ls ⟨r1, r2, r3, r4, r5, r6, r7, r8, r9, r10, r11⟩
    subst hn
    exact lv_aload_n F.1 F.2.1 hd rfl (sd_at r11 hx) (kk ad H locs ls ⟨r1, r2, fun v hv => by
      rcases List.mem_cons.mp hv with rfl | hv
      · exact r2 _ (List.mem_of_getElem? hx)
      · exact r3 v hv, r4, r5, r6, r7, r8, r9, r10, r11⟩)
  · cases hs
theorem sdi_aload {k : Nat} (F : sd_Fix p s m args meth c cc nL o ini D cy) (hd : decode cc pc = .ok (.aload k, 2)) (hn : n = pc + 2) (hs : pm_ldA k n L st h = some (.inl (pc', L', st', h'))) (kk : sd_G p l e R s m args below meth c Q D cy ad0 n0 s0 A H0 nL pc' L' st' h') : sd_G p l e R s m args below meth c Q D cy ad0 n0 s0 A H0 nL pc L st h := by
  unfold pm_ldA at hs
  split at hs
  · rename_i x hx
    cases hs
    intro ad H locs ls ⟨r1, r2, r3, r4, r5, r6, r7, r8, r9, r10, r11⟩
    subst hn
    exact lv_aload F.1 F.2.1 hd (sd_at r11 hx) (kk ad H locs ls ⟨r1, r2, fun v hv => by
      rcases List.mem_cons.mp hv with rfl | hv
      · exact r2 _ (List.mem_of_getElem? hx)
      · exact r3 v hv, r4, r5, r6, r7, r8, r9, r10, r11⟩)
  · cases hs
theorem sdi_istore_n {k : Fin 4} (F : sd_Fix p s m args meth c cc nL o ini D cy) (hd : decode cc pc = .ok (.istore_n k, 1)) (hn : n = pc + 1) (hs : pm_stI k n L st h = some (.inl (pc', L', st', h'))) (kk : sd_G p l e R s m args below meth c Q D cy ad0 n0 s0 A H0 nL pc' L' st' h') : sd_G p l e R s m args below meth c Q D cy ad0 n0 s0 A H0 nL pc L st h := by
  unfold pm_stI at hs
  split at hs
  · rename_i x r
    split at hs
    · rename_i hk
      cases hs
      intro ad H locs ls ⟨r1, r2, r3, r4, r5, r6, r7, r8, r9, r10, r11⟩
      subst hn
      rw [r10] at hk
      refine lv_istore_n F.1 F.2.1 hd rfl r11 hk rfl (fun ls' hl => ?_)
      exact kk ad H locs ls' ⟨r1, fun v hv => by
        rcases sd_set_mem hv with h1 | h1
        · subst h1; trivial
        · exact r2 v (sd_kill_mem h1), fun v hv => r3 v (List.mem_cons_of_mem _ hv), r4, r5, r6, r7, r8, r9, by rw [sd_st_len]; exact r10, sd_put (v := (Value.int x)) hl⟩
    · cases hs
  · cases hs
theorem sdi_istore {k : Nat} (F : sd_Fix p s m args meth c cc nL o ini D cy) (hd : decode cc pc = .ok (.istore k, 2)) (hn : n = pc + 2) (hs : pm_stI k n L st h = some (.inl (pc', L', st', h'))) (kk : sd_G p l e R s m args below meth c Q D cy ad0 n0 s0 A H0 nL pc' L' st' h') : sd_G p l e R s m args below meth c Q D cy ad0 n0 s0 A H0 nL pc L st h := by
  unfold pm_stI at hs
  split at hs
  · rename_i x r
    split at hs
    · rename_i hk
      cases hs
      intro ad H locs ls ⟨r1, r2, r3, r4, r5, r6, r7, r8, r9, r10, r11⟩
      subst hn
      rw [r10] at hk
      refine lv_istore F.1 F.2.1 hd r11 hk rfl (fun ls' hl => ?_)
      exact kk ad H locs ls' ⟨r1, fun v hv => by
        rcases sd_set_mem hv with h1 | h1
        · subst h1; trivial
        · exact r2 v (sd_kill_mem h1), fun v hv => r3 v (List.mem_cons_of_mem _ hv), r4, r5, r6, r7, r8, r9, by rw [sd_st_len]; exact r10, sd_put (v := (Value.int x)) hl⟩
    · cases hs
  · cases hs
theorem sdi_astore_n {k : Fin 4} (F : sd_Fix p s m args meth c cc nL o ini D cy) (hd : decode cc pc = .ok (.astore_n k, 1)) (hn : n = pc + 1) (hs : pm_stA k n L st h = some (.inl (pc', L', st', h'))) (kk : sd_G p l e R s m args below meth c Q D cy ad0 n0 s0 A H0 nL pc' L' st' h') : sd_G p l e R s m args below meth c Q D cy ad0 n0 s0 A H0 nL pc L st h := by
  unfold pm_stA at hs
  split at hs
  · rename_i x r
    split at hs
    · rename_i hk
      cases hs
      intro ad H locs ls ⟨r1, r2, r3, r4, r5, r6, r7, r8, r9, r10, r11⟩
      subst hn
      rw [r10] at hk
      refine lv_astore_n F.1 F.2.1 hd rfl r11 hk rfl (fun ls' hl => ?_)
      exact kk ad H locs ls' ⟨r1, fun v hv => by
        rcases sd_set_mem hv with h1 | h1
        · subst h1; exact r3 _ List.mem_cons_self
        · exact r2 v (sd_kill_mem h1), fun v hv => r3 v (List.mem_cons_of_mem _ hv), r4, r5, r6, r7, r8, r9, by rw [sd_st_len]; exact r10, sd_put (v := (Value.ref x)) hl⟩
    · cases hs
  · cases hs
theorem sdi_astore {k : Nat} (F : sd_Fix p s m args meth c cc nL o ini D cy) (hd : decode cc pc = .ok (.astore k, 2)) (hn : n = pc + 2) (hs : pm_stA k n L st h = some (.inl (pc', L', st', h'))) (kk : sd_G p l e R s m args below meth c Q D cy ad0 n0 s0 A H0 nL pc' L' st' h') : sd_G p l e R s m args below meth c Q D cy ad0 n0 s0 A H0 nL pc L st h := by
  unfold pm_stA at hs
  split at hs
  · rename_i x r
    split at hs
    · rename_i hk
      cases hs
      intro ad H locs ls ⟨r1, r2, r3, r4, r5, r6, r7, r8, r9, r10, r11⟩
      subst hn
      rw [r10] at hk
      refine lv_astore F.1 F.2.1 hd r11 hk rfl (fun ls' hl => ?_)
      exact kk ad H locs ls' ⟨r1, fun v hv => by
        rcases sd_set_mem hv with h1 | h1
        · subst h1; exact r3 _ List.mem_cons_self
        · exact r2 v (sd_kill_mem h1), fun v hv => r3 v (List.mem_cons_of_mem _ hv), r4, r5, r6, r7, r8, r9, by rw [sd_st_len]; exact r10, sd_put (v := (Value.ref x)) hl⟩
    · cases hs
  · cases hs
theorem sdi_lstore_n {k : Fin 4} (F : sd_Fix p s m args meth c cc nL o ini D cy) (hd : decode cc pc = .ok (.lstore_n k, 1)) (hn : n = pc + 1) (hs : pm_stL k n L st h = some (.inl (pc', L', st', h'))) (kk : sd_G p l e R s m args below meth c Q D cy ad0 n0 s0 A H0 nL pc' L' st' h') : sd_G p l e R s m args below meth c Q D cy ad0 n0 s0 A H0 nL pc L st h := by
  unfold pm_stL at hs
  split at hs
  · rename_i x r
    split at hs
    · rename_i hk
      cases hs
      intro ad H locs ls ⟨r1, r2, r3, r4, r5, r6, r7, r8, r9, r10, r11⟩
      subst hn
      rw [r10] at hk
      refine lv_lstore_n F.1 F.2.1 hd rfl r11 hk rfl (fun ls' hl => ?_)
      exact kk ad H locs ls' ⟨r1, fun v hv => by
        rcases sd_set_mem (sd_setn_mem hv) with h1 | h1
        · subst h1; trivial
        · exact r2 v (sd_kill_mem h1), fun v hv => r3 v (List.mem_cons_of_mem _ hv), r4, r5, r6, r7, r8, r9, by rw [sd_stJ_len]; exact r10, sd_putJ (v := (Value.long x)) hl⟩
    · cases hs
  · cases hs
theorem sdi_lstore {k : Nat} (F : sd_Fix p s m args meth c cc nL o ini D cy) (hd : decode cc pc = .ok (.lstore k, 2)) (hn : n = pc + 2) (hs : pm_stL k n L st h = some (.inl (pc', L', st', h'))) (kk : sd_G p l e R s m args below meth c Q D cy ad0 n0 s0 A H0 nL pc' L' st' h') : sd_G p l e R s m args below meth c Q D cy ad0 n0 s0 A H0 nL pc L st h := by
  unfold pm_stL at hs
  split at hs
  · rename_i x r
    split at hs
    · rename_i hk
      cases hs
      intro ad H locs ls ⟨r1, r2, r3, r4, r5, r6, r7, r8, r9, r10, r11⟩
      subst hn
      rw [r10] at hk
      refine lv_lstore F.1 F.2.1 hd r11 hk rfl (fun ls' hl => ?_)
      exact kk ad H locs ls' ⟨r1, fun v hv => by
        rcases sd_set_mem (sd_setn_mem hv) with h1 | h1
        · subst h1; trivial
        · exact r2 v (sd_kill_mem h1), fun v hv => r3 v (List.mem_cons_of_mem _ hv), r4, r5, r6, r7, r8, r9, by rw [sd_stJ_len]; exact r10, sd_putJ (v := (Value.long x)) hl⟩
    · cases hs
  · cases hs
theorem sdi_iconst {k : Int} {v : Int32} (hv : Int32.ofInt k = v) (F : sd_Fix p s m args meth c cc nL o ini D cy) (hd : decode cc pc = .ok (.iconst k, 1)) (hn : n = pc + 1) (kk : sd_G p l e R s m args below meth c Q D cy ad0 n0 s0 A H0 nL n L (.int v :: st) h) : sd_G p l e R s m args below meth c Q D cy ad0 n0 s0 A H0 nL pc L st h := by
  intro ad H locs ls ⟨r1, r2, r3, r4, r5, r6, r7, r8, r9, r10, r11⟩
  subst hn
  exact lv_iconst F.1 F.2.1 hd hv (kk ad H locs ls ⟨r1, r2, fun v hv => by
      rcases List.mem_cons.mp hv with rfl | hv
      · trivial
      · exact r3 v hv, r4, r5, r6, r7, r8, r9, r10, r11⟩)
theorem sdi_bipush {k : Int} {v : Int32} (hv : (Int8.ofInt k).toInt32 = v) (F : sd_Fix p s m args meth c cc nL o ini D cy) (hd : decode cc pc = .ok (.bipush k, 2)) (hn : n = pc + 2) (kk : sd_G p l e R s m args below meth c Q D cy ad0 n0 s0 A H0 nL n L (.int v :: st) h) : sd_G p l e R s m args below meth c Q D cy ad0 n0 s0 A H0 nL pc L st h := by
  intro ad H locs ls ⟨r1, r2, r3, r4, r5, r6, r7, r8, r9, r10, r11⟩
  subst hn
  exact lv_bipush F.1 F.2.1 hd hv (kk ad H locs ls ⟨r1, r2, fun v hv => by
      rcases List.mem_cons.mp hv with rfl | hv
      · trivial
      · exact r3 v hv, r4, r5, r6, r7, r8, r9, r10, r11⟩)
theorem sdi_sipush {k : Int} {v : Int32} (hv : (Int16.ofInt k).toInt32 = v) (F : sd_Fix p s m args meth c cc nL o ini D cy) (hd : decode cc pc = .ok (.sipush k, 3)) (hn : n = pc + 3) (kk : sd_G p l e R s m args below meth c Q D cy ad0 n0 s0 A H0 nL n L (.int v :: st) h) : sd_G p l e R s m args below meth c Q D cy ad0 n0 s0 A H0 nL pc L st h := by
  intro ad H locs ls ⟨r1, r2, r3, r4, r5, r6, r7, r8, r9, r10, r11⟩
  subst hn
  exact lv_sipush F.1 F.2.1 hd hv (kk ad H locs ls ⟨r1, r2, fun v hv => by
      rcases List.mem_cons.mp hv with rfl | hv
      · trivial
      · exact r3 v hv, r4, r5, r6, r7, r8, r9, r10, r11⟩)
theorem sdi_lconst {k : Fin 2} {v : Int64} (hv : Int64.ofNat (k : Nat) = v) (F : sd_Fix p s m args meth c cc nL o ini D cy) (hd : decode cc pc = .ok (.lconst k, 1)) (hn : n = pc + 1) (kk : sd_G p l e R s m args below meth c Q D cy ad0 n0 s0 A H0 nL n L (.long v :: st) h) : sd_G p l e R s m args below meth c Q D cy ad0 n0 s0 A H0 nL pc L st h := by
  intro ad H locs ls ⟨r1, r2, r3, r4, r5, r6, r7, r8, r9, r10, r11⟩
  subst hn
  exact lv_lconst F.1 F.2.1 hd hv (kk ad H locs ls ⟨r1, r2, fun v hv => by
      rcases List.mem_cons.mp hv with rfl | hv
      · trivial
      · exact r3 v hv, r4, r5, r6, r7, r8, r9, r10, r11⟩)
theorem sdi_ldc {k : Nat} {v : Int32} (hv : Cond.constant (tt_name o) k v ∈ sd_WS) (F : sd_Fix p s m args meth c cc nL o ini D cy) (hd : decode cc pc = .ok (.ldc k, 2)) (hn : n = pc + 2) (kk : sd_G p l e R s m args below meth c Q D cy ad0 n0 s0 A H0 nL n L (.int v :: st) h) : sd_G p l e R s m args below meth c Q D cy ad0 n0 s0 A H0 nL pc L st h := by
  intro ad H locs ls ⟨r1, r2, r3, r4, r5, r6, r7, r8, r9, r10, r11⟩
  subst hn
  exact lv_ldc F.1 F.2.1 F.2.2.2.1 (F.2.2.2.2.1 _ hv) hd (kk ad H locs ls ⟨r1, r2, fun v hv => by
      rcases List.mem_cons.mp hv with rfl | hv
      · trivial
      · exact r3 v hv, r4, r5, r6, r7, r8, r9, r10, r11⟩)
theorem sdi_ldcw {k : Nat} {v : Int32} (hv : Cond.constant (tt_name o) k v ∈ sd_WS) (F : sd_Fix p s m args meth c cc nL o ini D cy) (hd : decode cc pc = .ok (.ldc_w k, 3)) (hn : n = pc + 3) (kk : sd_G p l e R s m args below meth c Q D cy ad0 n0 s0 A H0 nL n L (.int v :: st) h) : sd_G p l e R s m args below meth c Q D cy ad0 n0 s0 A H0 nL pc L st h := by
  intro ad H locs ls ⟨r1, r2, r3, r4, r5, r6, r7, r8, r9, r10, r11⟩
  subst hn
  exact lv_ldcw F.1 F.2.1 F.2.2.2.1 (F.2.2.2.2.1 _ hv) hd (kk ad H locs ls ⟨r1, r2, fun v hv => by
      rcases List.mem_cons.mp hv with rfl | hv
      · trivial
      · exact r3 v hv, r4, r5, r6, r7, r8, r9, r10, r11⟩)
theorem sdi_ldc2 {k : Nat} {v : Int64} (hv : Cond.constantLong (tt_name o) k v ∈ sd_WS) (F : sd_Fix p s m args meth c cc nL o ini D cy) (hd : decode cc pc = .ok (.ldc2_w k, 3)) (hn : n = pc + 3) (kk : sd_G p l e R s m args below meth c Q D cy ad0 n0 s0 A H0 nL n L (.long v :: st) h) : sd_G p l e R s m args below meth c Q D cy ad0 n0 s0 A H0 nL pc L st h := by
  intro ad H locs ls ⟨r1, r2, r3, r4, r5, r6, r7, r8, r9, r10, r11⟩
  subst hn
  exact lv_ldc2 F.1 F.2.1 F.2.2.2.1 (F.2.2.2.2.1 _ hv) hd (kk ad H locs ls ⟨r1, r2, fun v hv => by
      rcases List.mem_cons.mp hv with rfl | hv
      · trivial
      · exact r3 v hv, r4, r5, r6, r7, r8, r9, r10, r11⟩)
theorem sdi_iinc {k : Nat} {w : Int} {v : Int32} (hv : Int32.ofInt w = v) (F : sd_Fix p s m args meth c cc nL o ini D cy) (hd : decode cc pc = .ok (.iinc k w, 3)) (hn : n = pc + 3) (hs : pm_inc k v n L st h = some (.inl (pc', L', st', h'))) (kk : sd_G p l e R s m args below meth c Q D cy ad0 n0 s0 A H0 nL pc' L' st' h') : sd_G p l e R s m args below meth c Q D cy ad0 n0 s0 A H0 nL pc L st h := by
  unfold pm_inc at hs
  split at hs
  · rename_i x hx
    cases hs
    intro ad H locs ls ⟨r1, r2, r3, r4, r5, r6, r7, r8, r9, r10, r11⟩
    subst hn
    obtain ⟨j, hj⟩ := List.getElem?_of_mem (sd_as_mem (ad := ad) hx)
    have hk : k < nL := by rw [← r10]; exact (List.getElem?_eq_some_iff.mp hx).1
    refine lv_iinc (v := x + v) F.1 F.2.1 hd r11 hj (by rw [hv]) hk rfl (fun ls' hl => ?_)
    exact kk ad H locs ls' ⟨r1, fun v hv => by
        rcases sd_set_mem hv with h1 | h1
        · subst h1; trivial
        · exact r2 v (sd_kill_mem h1), r3, r4, r5, r6, r7, r8, r9, by rw [sd_st_len]; exact r10, sd_put (v := Value.int _) hl⟩
  · cases hs
theorem sdi_iadd  (F : sd_Fix p s m args meth c cc nL o ini D cy) (hd : decode cc pc = .ok (.iadd, 1)) (hn : n = pc + 1) (hs : pm_bin (fun x y => x + y) n L st h = some (.inl (pc', L', st', h'))) (kk : sd_G p l e R s m args below meth c Q D cy ad0 n0 s0 A H0 nL pc' L' st' h') : sd_G p l e R s m args below meth c Q D cy ad0 n0 s0 A H0 nL pc L st h := by
  unfold pm_bin at hs
  split at hs
  · rename_i y x r
    cases hs
    intro ad H locs ls ⟨r1, r2, r3, r4, r5, r6, r7, r8, r9, r10, r11⟩
    subst hn
    exact lv_iadd F.1 F.2.1 hd (kk ad H locs ls ⟨r1, r2, fun v hv => by
      rcases List.mem_cons.mp hv with rfl | hv
      · trivial
      · exact r3 v (List.mem_cons_of_mem _ (List.mem_cons_of_mem _ hv)), r4, r5, r6, r7, r8, r9, r10, r11⟩)
  · cases hs
theorem sdi_isub  (F : sd_Fix p s m args meth c cc nL o ini D cy) (hd : decode cc pc = .ok (.isub, 1)) (hn : n = pc + 1) (hs : pm_bin (fun x y => x - y) n L st h = some (.inl (pc', L', st', h'))) (kk : sd_G p l e R s m args below meth c Q D cy ad0 n0 s0 A H0 nL pc' L' st' h') : sd_G p l e R s m args below meth c Q D cy ad0 n0 s0 A H0 nL pc L st h := by
  unfold pm_bin at hs
  split at hs
  · rename_i y x r
    cases hs
    intro ad H locs ls ⟨r1, r2, r3, r4, r5, r6, r7, r8, r9, r10, r11⟩
    subst hn
    exact lv_isub F.1 F.2.1 hd (kk ad H locs ls ⟨r1, r2, fun v hv => by
      rcases List.mem_cons.mp hv with rfl | hv
      · trivial
      · exact r3 v (List.mem_cons_of_mem _ (List.mem_cons_of_mem _ hv)), r4, r5, r6, r7, r8, r9, r10, r11⟩)
  · cases hs
theorem sdi_imul  (F : sd_Fix p s m args meth c cc nL o ini D cy) (hd : decode cc pc = .ok (.imul, 1)) (hn : n = pc + 1) (hs : pm_bin (fun x y => x * y) n L st h = some (.inl (pc', L', st', h'))) (kk : sd_G p l e R s m args below meth c Q D cy ad0 n0 s0 A H0 nL pc' L' st' h') : sd_G p l e R s m args below meth c Q D cy ad0 n0 s0 A H0 nL pc L st h := by
  unfold pm_bin at hs
  split at hs
  · rename_i y x r
    cases hs
    intro ad H locs ls ⟨r1, r2, r3, r4, r5, r6, r7, r8, r9, r10, r11⟩
    subst hn
    exact lv_imul F.1 F.2.1 hd (kk ad H locs ls ⟨r1, r2, fun v hv => by
      rcases List.mem_cons.mp hv with rfl | hv
      · trivial
      · exact r3 v (List.mem_cons_of_mem _ (List.mem_cons_of_mem _ hv)), r4, r5, r6, r7, r8, r9, r10, r11⟩)
  · cases hs
theorem sdi_iand  (F : sd_Fix p s m args meth c cc nL o ini D cy) (hd : decode cc pc = .ok (.iand, 1)) (hn : n = pc + 1) (hs : pm_bin (fun x y => x &&& y) n L st h = some (.inl (pc', L', st', h'))) (kk : sd_G p l e R s m args below meth c Q D cy ad0 n0 s0 A H0 nL pc' L' st' h') : sd_G p l e R s m args below meth c Q D cy ad0 n0 s0 A H0 nL pc L st h := by
  unfold pm_bin at hs
  split at hs
  · rename_i y x r
    cases hs
    intro ad H locs ls ⟨r1, r2, r3, r4, r5, r6, r7, r8, r9, r10, r11⟩
    subst hn
    exact lv_iand F.1 F.2.1 hd (kk ad H locs ls ⟨r1, r2, fun v hv => by
      rcases List.mem_cons.mp hv with rfl | hv
      · trivial
      · exact r3 v (List.mem_cons_of_mem _ (List.mem_cons_of_mem _ hv)), r4, r5, r6, r7, r8, r9, r10, r11⟩)
  · cases hs
theorem sdi_ior  (F : sd_Fix p s m args meth c cc nL o ini D cy) (hd : decode cc pc = .ok (.ior, 1)) (hn : n = pc + 1) (hs : pm_bin (fun x y => x ||| y) n L st h = some (.inl (pc', L', st', h'))) (kk : sd_G p l e R s m args below meth c Q D cy ad0 n0 s0 A H0 nL pc' L' st' h') : sd_G p l e R s m args below meth c Q D cy ad0 n0 s0 A H0 nL pc L st h := by
  unfold pm_bin at hs
  split at hs
  · rename_i y x r
    cases hs
    intro ad H locs ls ⟨r1, r2, r3, r4, r5, r6, r7, r8, r9, r10, r11⟩
    subst hn
    exact lv_ior F.1 F.2.1 hd (kk ad H locs ls ⟨r1, r2, fun v hv => by
      rcases List.mem_cons.mp hv with rfl | hv
      · trivial
      · exact r3 v (List.mem_cons_of_mem _ (List.mem_cons_of_mem _ hv)), r4, r5, r6, r7, r8, r9, r10, r11⟩)
  · cases hs
theorem sdi_ixor  (F : sd_Fix p s m args meth c cc nL o ini D cy) (hd : decode cc pc = .ok (.ixor, 1)) (hn : n = pc + 1) (hs : pm_bin (fun x y => x ^^^ y) n L st h = some (.inl (pc', L', st', h'))) (kk : sd_G p l e R s m args below meth c Q D cy ad0 n0 s0 A H0 nL pc' L' st' h') : sd_G p l e R s m args below meth c Q D cy ad0 n0 s0 A H0 nL pc L st h := by
  unfold pm_bin at hs
  split at hs
  · rename_i y x r
    cases hs
    intro ad H locs ls ⟨r1, r2, r3, r4, r5, r6, r7, r8, r9, r10, r11⟩
    subst hn
    exact lv_ixor F.1 F.2.1 hd (kk ad H locs ls ⟨r1, r2, fun v hv => by
      rcases List.mem_cons.mp hv with rfl | hv
      · trivial
      · exact r3 v (List.mem_cons_of_mem _ (List.mem_cons_of_mem _ hv)), r4, r5, r6, r7, r8, r9, r10, r11⟩)
  · cases hs
theorem sdi_ishl  (F : sd_Fix p s m args meth c cc nL o ini D cy) (hd : decode cc pc = .ok (.ishl, 1)) (hn : n = pc + 1) (hs : pm_bin (fun x y => x <<< (y &&& 31)) n L st h = some (.inl (pc', L', st', h'))) (kk : sd_G p l e R s m args below meth c Q D cy ad0 n0 s0 A H0 nL pc' L' st' h') : sd_G p l e R s m args below meth c Q D cy ad0 n0 s0 A H0 nL pc L st h := by
  unfold pm_bin at hs
  split at hs
  · rename_i y x r
    cases hs
    intro ad H locs ls ⟨r1, r2, r3, r4, r5, r6, r7, r8, r9, r10, r11⟩
    subst hn
    exact lv_ishl F.1 F.2.1 hd (kk ad H locs ls ⟨r1, r2, fun v hv => by
      rcases List.mem_cons.mp hv with rfl | hv
      · trivial
      · exact r3 v (List.mem_cons_of_mem _ (List.mem_cons_of_mem _ hv)), r4, r5, r6, r7, r8, r9, r10, r11⟩)
  · cases hs
theorem sdi_ishr  (F : sd_Fix p s m args meth c cc nL o ini D cy) (hd : decode cc pc = .ok (.ishr, 1)) (hn : n = pc + 1) (hs : pm_bin (fun x y => x >>> (y &&& 31)) n L st h = some (.inl (pc', L', st', h'))) (kk : sd_G p l e R s m args below meth c Q D cy ad0 n0 s0 A H0 nL pc' L' st' h') : sd_G p l e R s m args below meth c Q D cy ad0 n0 s0 A H0 nL pc L st h := by
  unfold pm_bin at hs
  split at hs
  · rename_i y x r
    cases hs
    intro ad H locs ls ⟨r1, r2, r3, r4, r5, r6, r7, r8, r9, r10, r11⟩
    subst hn
    exact lv_ishr F.1 F.2.1 hd (kk ad H locs ls ⟨r1, r2, fun v hv => by
      rcases List.mem_cons.mp hv with rfl | hv
      · trivial
      · exact r3 v (List.mem_cons_of_mem _ (List.mem_cons_of_mem _ hv)), r4, r5, r6, r7, r8, r9, r10, r11⟩)
  · cases hs
theorem sdi_iushr  (F : sd_Fix p s m args meth c cc nL o ini D cy) (hd : decode cc pc = .ok (.iushr, 1)) (hn : n = pc + 1) (hs : pm_bin (fun x y => (x.toUInt32 >>> (y.toUInt32 &&& Int32.toUInt32 31)).toInt32) n L st h = some (.inl (pc', L', st', h'))) (kk : sd_G p l e R s m args below meth c Q D cy ad0 n0 s0 A H0 nL pc' L' st' h') : sd_G p l e R s m args below meth c Q D cy ad0 n0 s0 A H0 nL pc L st h := by
  unfold pm_bin at hs
  split at hs
  · rename_i y x r
    cases hs
    intro ad H locs ls ⟨r1, r2, r3, r4, r5, r6, r7, r8, r9, r10, r11⟩
    subst hn
    exact lv_iushr F.1 F.2.1 hd rfl (kk ad H locs ls ⟨r1, r2, fun v hv => by
      rcases List.mem_cons.mp hv with rfl | hv
      · trivial
      · exact r3 v (List.mem_cons_of_mem _ (List.mem_cons_of_mem _ hv)), r4, r5, r6, r7, r8, r9, r10, r11⟩)
  · cases hs
theorem sdi_ladd  (F : sd_Fix p s m args meth c cc nL o ini D cy) (hd : decode cc pc = .ok (.ladd, 1)) (hn : n = pc + 1) (hs : pm_binL (fun x y => x + y) n L st h = some (.inl (pc', L', st', h'))) (kk : sd_G p l e R s m args below meth c Q D cy ad0 n0 s0 A H0 nL pc' L' st' h') : sd_G p l e R s m args below meth c Q D cy ad0 n0 s0 A H0 nL pc L st h := by
  unfold pm_binL at hs
  split at hs
  · rename_i y x r
    cases hs
    intro ad H locs ls ⟨r1, r2, r3, r4, r5, r6, r7, r8, r9, r10, r11⟩
    subst hn
    exact lv_ladd F.1 F.2.1 hd (kk ad H locs ls ⟨r1, r2, fun v hv => by
      rcases List.mem_cons.mp hv with rfl | hv
      · trivial
      · exact r3 v (List.mem_cons_of_mem _ (List.mem_cons_of_mem _ hv)), r4, r5, r6, r7, r8, r9, r10, r11⟩)
  · cases hs
theorem sdi_lmul  (F : sd_Fix p s m args meth c cc nL o ini D cy) (hd : decode cc pc = .ok (.lmul, 1)) (hn : n = pc + 1) (hs : pm_binL (fun x y => x * y) n L st h = some (.inl (pc', L', st', h'))) (kk : sd_G p l e R s m args below meth c Q D cy ad0 n0 s0 A H0 nL pc' L' st' h') : sd_G p l e R s m args below meth c Q D cy ad0 n0 s0 A H0 nL pc L st h := by
  unfold pm_binL at hs
  split at hs
  · rename_i y x r
    cases hs
    intro ad H locs ls ⟨r1, r2, r3, r4, r5, r6, r7, r8, r9, r10, r11⟩
    subst hn
    exact lv_lmul F.1 F.2.1 hd (kk ad H locs ls ⟨r1, r2, fun v hv => by
      rcases List.mem_cons.mp hv with rfl | hv
      · trivial
      · exact r3 v (List.mem_cons_of_mem _ (List.mem_cons_of_mem _ hv)), r4, r5, r6, r7, r8, r9, r10, r11⟩)
  · cases hs
theorem sdi_idiv  (F : sd_Fix p s m args meth c cc nL o ini D cy) (hd : decode cc pc = .ok (.idiv, 1)) (hn : n = pc + 1) (hs : pm_div (fun x y => x / y) n L st h = some (.inl (pc', L', st', h'))) (kk : sd_G p l e R s m args below meth c Q D cy ad0 n0 s0 A H0 nL pc' L' st' h') : sd_G p l e R s m args below meth c Q D cy ad0 n0 s0 A H0 nL pc L st h := by
  unfold pm_div at hs
  split at hs
  · rename_i y x r
    split at hs
    · cases hs
    · rename_i hz
      cases hs
      intro ad H locs ls ⟨r1, r2, r3, r4, r5, r6, r7, r8, r9, r10, r11⟩
      subst hn
      exact lv_idiv F.1 F.2.1 hd hz (kk ad H locs ls ⟨r1, r2, fun v hv => by
        rcases List.mem_cons.mp hv with rfl | hv
        · trivial
        · exact r3 v (List.mem_cons_of_mem _ (List.mem_cons_of_mem _ hv)), r4, r5, r6, r7, r8, r9, r10, r11⟩)
  · cases hs
theorem sdi_irem  (F : sd_Fix p s m args meth c cc nL o ini D cy) (hd : decode cc pc = .ok (.irem, 1)) (hn : n = pc + 1) (hs : pm_div (fun x y => x - x / y * y) n L st h = some (.inl (pc', L', st', h'))) (kk : sd_G p l e R s m args below meth c Q D cy ad0 n0 s0 A H0 nL pc' L' st' h') : sd_G p l e R s m args below meth c Q D cy ad0 n0 s0 A H0 nL pc L st h := by
  unfold pm_div at hs
  split at hs
  · rename_i y x r
    split at hs
    · cases hs
    · rename_i hz
      cases hs
      intro ad H locs ls ⟨r1, r2, r3, r4, r5, r6, r7, r8, r9, r10, r11⟩
      subst hn
      exact lv_irem F.1 F.2.1 hd hz (kk ad H locs ls ⟨r1, r2, fun v hv => by
        rcases List.mem_cons.mp hv with rfl | hv
        · trivial
        · exact r3 v (List.mem_cons_of_mem _ (List.mem_cons_of_mem _ hv)), r4, r5, r6, r7, r8, r9, r10, r11⟩)
  · cases hs
theorem sdi_lrem  (F : sd_Fix p s m args meth c cc nL o ini D cy) (hd : decode cc pc = .ok (.lrem, 1)) (hn : n = pc + 1) (hs : pm_divL (fun x y => x - x / y * y) n L st h = some (.inl (pc', L', st', h'))) (kk : sd_G p l e R s m args below meth c Q D cy ad0 n0 s0 A H0 nL pc' L' st' h') : sd_G p l e R s m args below meth c Q D cy ad0 n0 s0 A H0 nL pc L st h := by
  unfold pm_divL at hs
  split at hs
  · rename_i y x r
    split at hs
    · cases hs
    · rename_i hz
      cases hs
      intro ad H locs ls ⟨r1, r2, r3, r4, r5, r6, r7, r8, r9, r10, r11⟩
      subst hn
      exact lv_lrem F.1 F.2.1 hd hz (kk ad H locs ls ⟨r1, r2, fun v hv => by
        rcases List.mem_cons.mp hv with rfl | hv
        · trivial
        · exact r3 v (List.mem_cons_of_mem _ (List.mem_cons_of_mem _ hv)), r4, r5, r6, r7, r8, r9, r10, r11⟩)
  · cases hs
theorem sdi_lcmp  (F : sd_Fix p s m args meth c cc nL o ini D cy) (hd : decode cc pc = .ok (.lcmp, 1)) (hn : n = pc + 1) (hs : pm_cmpL n L st h = some (.inl (pc', L', st', h'))) (kk : sd_G p l e R s m args below meth c Q D cy ad0 n0 s0 A H0 nL pc' L' st' h') : sd_G p l e R s m args below meth c Q D cy ad0 n0 s0 A H0 nL pc L st h := by
  unfold pm_cmpL at hs
  split at hs
  · cases hs
    intro ad H locs ls ⟨r1, r2, r3, r4, r5, r6, r7, r8, r9, r10, r11⟩
    subst hn
    exact W.lcmp F.1 F.2.1 hd (kk ad H locs ls ⟨r1, r2, fun v hv => by
      rcases List.mem_cons.mp hv with rfl | hv
      · trivial
      · exact r3 v (List.mem_cons_of_mem _ (List.mem_cons_of_mem _ hv)), r4, r5, r6, r7, r8, r9, r10, r11⟩)
  · cases hs
theorem sdi_i2l  (F : sd_Fix p s m args meth c cc nL o ini D cy) (hd : decode cc pc = .ok (.i2l, 1)) (hn : n = pc + 1) (hs : pm_i2l n L st h = some (.inl (pc', L', st', h'))) (kk : sd_G p l e R s m args below meth c Q D cy ad0 n0 s0 A H0 nL pc' L' st' h') : sd_G p l e R s m args below meth c Q D cy ad0 n0 s0 A H0 nL pc L st h := by
  unfold pm_i2l at hs
  split at hs
  · cases hs
    intro ad H locs ls ⟨r1, r2, r3, r4, r5, r6, r7, r8, r9, r10, r11⟩
    subst hn
    exact lv_i2l F.1 F.2.1 hd rfl (kk ad H locs ls ⟨r1, r2, fun v hv => by
      rcases List.mem_cons.mp hv with rfl | hv
      · trivial
      · exact r3 v (List.mem_cons_of_mem _ hv), r4, r5, r6, r7, r8, r9, r10, r11⟩)
  · cases hs
theorem sdi_l2i  (F : sd_Fix p s m args meth c cc nL o ini D cy) (hd : decode cc pc = .ok (.l2i, 1)) (hn : n = pc + 1) (hs : pm_l2i n L st h = some (.inl (pc', L', st', h'))) (kk : sd_G p l e R s m args below meth c Q D cy ad0 n0 s0 A H0 nL pc' L' st' h') : sd_G p l e R s m args below meth c Q D cy ad0 n0 s0 A H0 nL pc L st h := by
  unfold pm_l2i at hs
  split at hs
  · cases hs
    intro ad H locs ls ⟨r1, r2, r3, r4, r5, r6, r7, r8, r9, r10, r11⟩
    subst hn
    exact lv_l2i F.1 F.2.1 hd rfl (kk ad H locs ls ⟨r1, r2, fun v hv => by
      rcases List.mem_cons.mp hv with rfl | hv
      · trivial
      · exact r3 v (List.mem_cons_of_mem _ hv), r4, r5, r6, r7, r8, r9, r10, r11⟩)
  · cases hs
theorem sdi_dup  (F : sd_Fix p s m args meth c cc nL o ini D cy) (hd : decode cc pc = .ok (.dup, 1)) (hn : n = pc + 1) (hs : pm_dup n L st h = some (.inl (pc', L', st', h'))) (kk : sd_G p l e R s m args below meth c Q D cy ad0 n0 s0 A H0 nL pc' L' st' h') : sd_G p l e R s m args below meth c Q D cy ad0 n0 s0 A H0 nL pc L st h := by
  unfold pm_dup at hs
  split at hs
  · cases hs
    intro ad H locs ls ⟨r1, r2, r3, r4, r5, r6, r7, r8, r9, r10, r11⟩
    subst hn
    exact lv_dup F.1 F.2.1 hd rfl (kk ad H locs ls ⟨r1, r2, fun v hv => by
      rcases List.mem_cons.mp hv with rfl | hv
      · trivial
      · exact r3 v hv, r4, r5, r6, r7, r8, r9, r10, r11⟩)
  · cases hs
    intro ad H locs ls ⟨r1, r2, r3, r4, r5, r6, r7, r8, r9, r10, r11⟩
    subst hn
    exact lv_dup F.1 F.2.1 hd rfl (kk ad H locs ls ⟨r1, r2, fun v hv => by
      rcases List.mem_cons.mp hv with rfl | hv
      · exact r3 _ List.mem_cons_self
      · exact r3 v hv, r4, r5, r6, r7, r8, r9, r10, r11⟩)
  · cases hs
theorem sdi_pop  (F : sd_Fix p s m args meth c cc nL o ini D cy) (hd : decode cc pc = .ok (.pop, 1)) (hn : n = pc + 1) (hs : pm_pop n L st h = some (.inl (pc', L', st', h'))) (kk : sd_G p l e R s m args below meth c Q D cy ad0 n0 s0 A H0 nL pc' L' st' h') : sd_G p l e R s m args below meth c Q D cy ad0 n0 s0 A H0 nL pc L st h := by
  unfold pm_pop at hs
  split at hs
  · cases hs
    intro ad H locs ls ⟨r1, r2, r3, r4, r5, r6, r7, r8, r9, r10, r11⟩
    subst hn
    exact lv_pop F.1 F.2.1 hd rfl (kk ad H locs ls ⟨r1, r2, fun v hv => r3 v (List.mem_cons_of_mem _ hv), r4, r5, r6, r7, r8, r9, r10, r11⟩)
  · cases hs
    intro ad H locs ls ⟨r1, r2, r3, r4, r5, r6, r7, r8, r9, r10, r11⟩
    subst hn
    exact lv_pop F.1 F.2.1 hd rfl (kk ad H locs ls ⟨r1, r2, fun v hv => r3 v (List.mem_cons_of_mem _ hv), r4, r5, r6, r7, r8, r9, r10, r11⟩)
  · cases hs
theorem sdi_goto {off : Int} {a : Nat} (F : sd_Fix p s m args meth c cc nL o ini D cy) (hd : decode cc pc = .ok (.goto off, 3)) (ha : (pc : Int) + off = (a : Int)) (kk : sd_G p l e R s m args below meth c Q D cy ad0 n0 s0 A H0 nL a L st h) : sd_G p l e R s m args below meth c Q D cy ad0 n0 s0 A H0 nL pc L st h := by
  intro ad H locs ls r
  exact lv_goto F.1 F.2.1 hd ha (kk ad H locs ls r)
theorem sdi_if {k : ClassFile.Cond} {off : Int} {a : Nat} (ha : (pc : Int) + off = (a : Int)) (F : sd_Fix p s m args meth c cc nL o ini D cy) (hd : decode cc pc = .ok (.ifCond k off, 3)) (hn : n = pc + 3) (hs : pm_if k a n L st h = some (.inl (pc', L', st', h'))) (kk : sd_G p l e R s m args below meth c Q D cy ad0 n0 s0 A H0 nL pc' L' st' h') : sd_G p l e R s m args below meth c Q D cy ad0 n0 s0 A H0 nL pc L st h := by
  unfold pm_if at hs
  split at hs
  · rename_i x r
    cases hs
    intro ad H locs ls ⟨r1, r2, r3, r4, r5, r6, r7, r8, r9, r10, r11⟩
    subst hn
    have kk1 := fun hr : 0 = 0 => kk ad H locs ls ⟨r1, r2, fun v hv => r3 v (List.mem_cons_of_mem _ hv), r4, r5, r6, r7, r8, r9, r10, r11⟩
    have kk1 := kk1 rfl
    cases k
    · simp only [pm_rel, decide_eq_true_eq, ne_eq] at kk1
      exact lv_if_eq F.1 F.2.1 hd ha (fun q => by rw [if_pos q] at kk1; exact kk1) (fun q => by first | (rw [if_neg q] at kk1; exact kk1) | (rw [if_neg (fun z => z q)] at kk1; exact kk1))
    · simp only [pm_rel, decide_eq_true_eq, ne_eq] at kk1
      exact lv_if_ne F.1 F.2.1 hd ha (fun q => by rw [if_pos q] at kk1; exact kk1) (fun q => by first | (rw [if_neg q] at kk1; exact kk1) | (rw [if_neg (fun z => z q)] at kk1; exact kk1))
    · simp only [pm_rel, decide_eq_true_eq, ne_eq] at kk1
      exact lv_if_lt F.1 F.2.1 hd ha (fun q => by rw [if_pos q] at kk1; exact kk1) (fun q => by first | (rw [if_neg q] at kk1; exact kk1) | (rw [if_neg (fun z => z q)] at kk1; exact kk1))
    · simp only [pm_rel, decide_eq_true_eq, ne_eq] at kk1
      exact lv_if_ge F.1 F.2.1 hd ha (fun q => by rw [if_pos q] at kk1; exact kk1) (fun q => by first | (rw [if_neg q] at kk1; exact kk1) | (rw [if_neg (fun z => z q)] at kk1; exact kk1))
    · simp only [pm_rel, decide_eq_true_eq, ne_eq] at kk1
      exact lv_if_gt F.1 F.2.1 hd ha (fun q => by rw [if_pos q] at kk1; exact kk1) (fun q => by first | (rw [if_neg q] at kk1; exact kk1) | (rw [if_neg (fun z => z q)] at kk1; exact kk1))
    · simp only [pm_rel, decide_eq_true_eq, ne_eq] at kk1
      exact lv_if_le F.1 F.2.1 hd ha (fun q => by rw [if_pos q] at kk1; exact kk1) (fun q => by first | (rw [if_neg q] at kk1; exact kk1) | (rw [if_neg (fun z => z q)] at kk1; exact kk1))
  · cases hs
theorem sdi_icmp {k : ClassFile.Cond} {off : Int} {a : Nat} (ha : (pc : Int) + off = (a : Int)) (F : sd_Fix p s m args meth c cc nL o ini D cy) (hd : decode cc pc = .ok (.if_icmp k off, 3)) (hn : n = pc + 3) (hs : pm_icmp k a n L st h = some (.inl (pc', L', st', h'))) (kk : sd_G p l e R s m args below meth c Q D cy ad0 n0 s0 A H0 nL pc' L' st' h') : sd_G p l e R s m args below meth c Q D cy ad0 n0 s0 A H0 nL pc L st h := by
  unfold pm_icmp at hs
  split at hs
  · rename_i y x r
    cases hs
    intro ad H locs ls ⟨r1, r2, r3, r4, r5, r6, r7, r8, r9, r10, r11⟩
    subst hn
    have kk1 := fun hr : 0 = 0 => kk ad H locs ls ⟨r1, r2, fun v hv => r3 v (List.mem_cons_of_mem _ (List.mem_cons_of_mem _ hv)), r4, r5, r6, r7, r8, r9, r10, r11⟩
    have kk1 := kk1 rfl
    cases k
    · simp only [pm_rel, decide_eq_true_eq, ne_eq] at kk1
      exact lv_icmp_eq F.1 F.2.1 hd ha (fun q => by rw [if_pos q] at kk1; exact kk1) (fun q => by first | (rw [if_neg q] at kk1; exact kk1) | (rw [if_neg (fun z => z q)] at kk1; exact kk1))
    · simp only [pm_rel, decide_eq_true_eq, ne_eq] at kk1
      exact lv_icmp_ne F.1 F.2.1 hd ha (fun q => by rw [if_pos q] at kk1; exact kk1) (fun q => by first | (rw [if_neg q] at kk1; exact kk1) | (rw [if_neg (fun z => z q)] at kk1; exact kk1))
    · simp only [pm_rel, decide_eq_true_eq, ne_eq] at kk1
      exact lv_icmp_lt F.1 F.2.1 hd ha (fun q => by rw [if_pos q] at kk1; exact kk1) (fun q => by first | (rw [if_neg q] at kk1; exact kk1) | (rw [if_neg (fun z => z q)] at kk1; exact kk1))
    · simp only [pm_rel, decide_eq_true_eq, ne_eq] at kk1
      exact lv_icmp_ge F.1 F.2.1 hd ha (fun q => by rw [if_pos q] at kk1; exact kk1) (fun q => by first | (rw [if_neg q] at kk1; exact kk1) | (rw [if_neg (fun z => z q)] at kk1; exact kk1))
    · simp only [pm_rel, decide_eq_true_eq, ne_eq] at kk1
      exact lv_icmp_gt F.1 F.2.1 hd ha (fun q => by rw [if_pos q] at kk1; exact kk1) (fun q => by first | (rw [if_neg q] at kk1; exact kk1) | (rw [if_neg (fun z => z q)] at kk1; exact kk1))
    · simp only [pm_rel, decide_eq_true_eq, ne_eq] at kk1
      exact lv_icmp_le F.1 F.2.1 hd ha (fun q => by rw [if_pos q] at kk1; exact kk1) (fun q => by first | (rw [if_neg q] at kk1; exact kk1) | (rw [if_neg (fun z => z q)] at kk1; exact kk1))
  · cases hs
theorem sdi_sw {df lo hi : Int} {offs : Array Int} {len a : Nat} (F : sd_Fix p s m args meth c cc nL o ini D cy) (hd : decode cc pc = .ok (.tableswitch df lo hi offs, len)) (ha : (pc : Int) + df = (a : Int)) (hs : pm_sw lo hi offs pc a n L st h = some (.inl (pc', L', st', h'))) (kk : sd_G p l e R s m args below meth c Q D cy ad0 n0 s0 A H0 nL pc' L' st' h') : sd_G p l e R s m args below meth c Q D cy ad0 n0 s0 A H0 nL pc L st h := by
  unfold pm_sw at hs
  split at hs
  · rename_i x r
    split at hs
    · rename_i hx
      cases hs
      intro ad H locs ls ⟨r1, r2, r3, r4, r5, r6, r7, r8, r9, r10, r11⟩
      exact lv_tableOut F.1 F.2.1 hd hx ha (kk ad H locs ls ⟨r1, r2, fun v hv => r3 v (List.mem_cons_of_mem _ hv), r4, r5, r6, r7, r8, r9, r10, r11⟩)
    · rename_i hx
      split at hs
      · rename_i off ho
        split at hs
        · rename_i hz
          cases hs
          intro ad H locs ls ⟨r1, r2, r3, r4, r5, r6, r7, r8, r9, r10, r11⟩
          exact lv_tableIn F.1 F.2.1 hd (fun z => hx (Or.inl z)) (fun z => hx (Or.inr z)) ho (Int.toNat_of_nonneg hz).symm (kk ad H locs ls ⟨r1, r2, fun v hv => r3 v (List.mem_cons_of_mem _ hv), r4, r5, r6, r7, r8, r9, r10, r11⟩)
        · cases hs
      · cases hs
  · cases hs
end SDS
end
section
-- ===== A STEP over the heap =====
def sd_okty (ty : FieldType) : Bool := match ty with | .int => true | .boolean => true | .long => true | .object _ => true | .array _ => true | _ => false
theorem sd_okty_all : (List.range 11).all (fun a => (List.range (tt_c a).2.2).all (fun b => sd_okty (tt_t a b))) = true := by decide +kernel
theorem sd_cls_at : ∀ a, a < 11 → tt_cls[a]? = some (tt_c a) := by
  intro a ha
  have hl : a < tt_cls.length := ha
  unfold tt_c
  rw [List.getD_eq_getElem?_getD, List.getElem?_eq_getElem hl]
  rfl
theorem sd_C {a : Nat} (ha : a < 11) : sd_ckC a = true := List.all_eq_true.mp sd_okcl a (List.mem_range.mpr ha)
theorem sd_Cf {a b : Nat} (ha : a < 11) (hb : b < (tt_c a).2.2) : u_lay (tt_c a).1 (tt_c a).2.1 b ∈ sd_WS ∧ parseFieldDescriptor ((tt_c a).2.1 b).2.2.1 = some (tt_t a b) ∧ sd_tag (tt_t a b) = tt_k a b ∧ ((tt_c a).2.1 b).1 = (tt_c a).1 ∧ (∀ b2, b2 < b → ((tt_c a).2.1 b).2.1 ≠ ((tt_c a).2.1 b2).2.1) ∧ sd_okty (tt_t a b) = true := by
  have h := sd_C ha
  unfold sd_ckC at h
  rw [Bool.and_eq_true, Bool.and_eq_true] at h
  have h1 := List.all_eq_true.mp h.1.1 b (List.mem_range.mpr hb)
  simp only [Bool.and_eq_true, decide_eq_true_eq] at h1
  obtain ⟨⟨⟨⟨⟨h2, h2'⟩, h3⟩, h4⟩, h5⟩, h6⟩ := h1
  refine ⟨sd_in (by rw [Bool.and_eq_true, decide_eq_true_eq]; exact ⟨h2, h2'⟩), h3, h4, h5, fun b2 hb2 => ?_, ?_⟩
  · have := List.all_eq_true.mp h6 b2 (List.mem_range.mpr hb2)
    exact of_decide_eq_true this
  · exact List.all_eq_true.mp (List.all_eq_true.mp sd_okty_all a (List.mem_range.mpr ha)) b (List.mem_range.mpr hb)
theorem sd_Cw {a : Nat} (ha : a < 11) : ∀ w ∈ u_ws (tt_c a).1 (tt_c a).2.1 (tt_c a).2.2, w ∈ sd_WS := by
  intro w hw
  obtain ⟨k, hk, rfl⟩ := List.mem_map.mp hw
  exact (sd_Cf ha (List.mem_range.mp hk)).1
theorem sd_Ci {a : Nat} (ha : a < 11) : Cond.instantiable (tt_c a).1 (tt_c a).2.2 ∈ sd_WS ∧ Cond.initialized (tt_c a).1 ∈ sd_WS := by
  have h := sd_C ha
  unfold sd_ckC at h
  rw [Bool.and_eq_true, Bool.and_eq_true] at h
  exact ⟨sd_in h.1.2, sd_in h.2⟩
theorem sd_Cn {a : Nat} (ha : a < 11) : ∀ x, x < (tt_c a).2.2 → ∀ y, y < (tt_c a).2.2 → x ≠ y → ((tt_c a).2.1 x).2.1 ≠ ((tt_c a).2.1 y).2.1 := by
  intro x hx y hy hn
  rcases Nat.lt_or_gt_of_ne hn with q | q
  · exact Ne.symm ((sd_Cf ha hy).2.2.2.2.1 x q)
  · exact (sd_Cf ha hx).2.2.2.2.1 y q
theorem sd_Fr {x : Nat} {r : Nat × Nat × Nat × Nat × Nat × Nat} (hx : tt_rF[x]? = some r) : r ∈ tt_rF ∧ r.2.2.2.1 < (tt_c r.2.2.1).2.2 ∧ r.2.2.1 < 11 ∧ (r.2.2.2.2.1 = 0 → sd_wF r ∈ sd_WS) := by
  have hm := List.mem_of_getElem? hx
  have h := List.all_eq_true.mp sd_okF r hm
  simp only [Bool.and_eq_true, Bool.or_eq_true, decide_eq_true_eq] at h
  refine ⟨hm, h.1.2, h.2, fun hd => ?_⟩
  rcases h.1.1.2 with q | q
  · exact absurd hd q
  · exact sd_in (by rw [Bool.and_eq_true, decide_eq_true_eq]; exact ⟨h.1.1.1, q⟩)
/-- an element of the fields -/
theorem sd_fs_at {h : Hp_} {ad : Nat → Nat} {o a b : Nat} (hb : b < (tt_c a).2.2) : (sd_fs h ad o a)[b]? = some (sd_fv h ad o b (tt_k a b)) := by
  unfold sd_fs
  rw [List.getElem?_map, List.getElem?_range hb]
  rfl
theorem sd_fs_len (h : Hp_) (ad : Nat → Nat) (o a : Nat) : (sd_fs h ad o a).length = (tt_c a).2.2 := by simp [sd_fs]
theorem sd_fs_set {h h' : Hp_} {ad : Nat → Nat} {o a b : Nat} (hb : b < (tt_c a).2.2) (ho : ∀ k, k ≠ b → sd_fv h' ad o k (tt_k a k) = sd_fv h ad o k (tt_k a k)) : (sd_fs h ad o a).set b (sd_fv h' ad o b (tt_k a b)) = sd_fs h' ad o a := by
  refine List.ext_getElem? (fun k => ?_)
  rw [List.getElem?_set]
  by_cases hk : b = k
  · subst hk
    rw [if_pos rfl, if_pos (by rw [sd_fs_len]; exact hb), sd_fs_at hb]
  · rw [if_neg hk]
    by_cases hl : k < (tt_c a).2.2
    · rw [sd_fs_at hl, sd_fs_at hl, ho k (fun z => hk z.symm)]
    · rw [List.getElem?_eq_none (by rw [sd_fs_len]; omega), List.getElem?_eq_none (by rw [sd_fs_len]; omega)]
theorem sd_tag_c {a b c : Nat} (ha : a < 11) (hb : b < (tt_c a).2.2) (hc : (match tt_t a b with | .int => 0 | .boolean => 1 | .long => 2 | _ => 3) = c) : (c = 0 ∧ tt_t a b = .int ∧ tt_k a b = 0) ∨ (c = 1 ∧ tt_t a b = .boolean ∧ tt_k a b = 0) ∨ (c = 2 ∧ tt_t a b = .long ∧ tt_k a b = 1) ∨ (c = 3 ∧ ((∃ n, tt_t a b = .object n) ∨ ∃ n, tt_t a b = .array n) ∧ tt_k a b = 2) := by
  obtain ⟨-, -, h3, -, -, h6⟩ := sd_Cf ha hb
  rw [← h3]
  cases ht : tt_t a b <;> rw [ht] at hc h6 <;> simp_all [sd_tag, sd_okty]
theorem sd_ce_eq {cy : Nat → ClassId} {h h' : Hp_} {ad ad' : Nat → Nat} {q : Nat} (e1 : hp_kd h' q = hp_kd h q) (e2 : hp_ln h' q = hp_ln h q) (e3 : hp_I h' q = hp_I h q) (e4 : hp_J h' q = hp_J h q) (e5 : hp_R h' q = hp_R h q) (e6 : ∀ k, ad' (hp_R h q k) = ad (hp_R h q k) ∨ hp_R h q k = 0) : sd_ce cy h' ad' q = sd_ce cy h ad q := by
  have e : ∀ a, sd_fs h' ad' q a = sd_fs h ad q a := by
    intro a
    unfold sd_fs
    refine List.map_congr_left (fun k _ => ?_)
    unfold sd_fv
    rw [e3, e4, e5]
    rcases e6 k with z | z
    · rw [z]
    · rw [if_pos z, if_pos z]
  unfold sd_ce
  rw [e1, e2, e3, e4, e]
theorem sd_rI_ne {h : Hp_} {c q : Nat} {f : Nat → Int32} (hq : q ≠ c) : hp_I (hp_rI h c f) q = hp_I h q := by
  show va_up _ c f q = _
  unfold va_up
  rw [if_neg hq]
  rfl
theorem sd_rI_eq {h : Hp_} {c : Nat} {f : Nat → Int32} : hp_I (hp_rI h c f) c = f := by
  show va_up _ c f c = _
  unfold va_up
  rw [if_pos rfl]
theorem sd_rJ_ne {h : Hp_} {c q : Nat} {f : Nat → Int64} (hq : q ≠ c) : hp_J (hp_rJ h c f) q = hp_J h q := by
  show va_up _ c f q = _
  unfold va_up
  rw [if_neg hq]
  rfl
theorem sd_rJ_eq {h : Hp_} {c : Nat} {f : Nat → Int64} : hp_J (hp_rJ h c f) c = f := by
  show va_up _ c f c = _
  unfold va_up
  rw [if_pos rfl]
theorem sd_rR_ne {h : Hp_} {c q : Nat} {f : Nat → Nat} (hq : q ≠ c) : hp_R (hp_rR h c f) q = hp_R h q := by
  show va_up _ c f q = _
  unfold va_up
  rw [if_neg hq]
  rfl
theorem sd_rR_eq {h : Hp_} {c : Nat} {f : Nat → Nat} : hp_R (hp_rR h c f) c = f := by
  show va_up _ c f c = _
  unfold va_up
  rw [if_pos rfl]
theorem sd_up_ne {α : Type} {f : Nat → α} {k j : Nat} {v : α} (h : j ≠ k) : va_up f k v j = f j := by unfold va_up; rw [if_neg h]
theorem sd_up_eq {α : Type} {f : Nat → α} {k : Nat} {v : α} : va_up f k v k = v := by unfold va_up; rw [if_pos rfl]

section SDH
variable {p : Program} {l : Launch} {e : Env} {R : Room} {s : State} {m : MethodId} {args : Array Value} {below : List Frame} {meth : Method} {c : Code} {Q : State → Prop} {D : va_G} {cy : Nat → ClassId} {ad0 : Nat → Nat} {n0 s0 : Nat} {A : Nat → Prop} {H0 : Heap} {nL o : Nat} {cc : ByteArray} {ini : Bool} {pc pc' n : Nat} {L L' : Lc_} {st st' : List Value} {h h' : Hp_}
theorem sdi_getf {idx a b t3 : Nat} {r : Nat × Nat × Nat × Nat × Nat × Nat} (hrm : r ∈ tt_rF) (hrb : b < (tt_c a).2.2) (hra : a < 11) (hr0 : r.2.2.2.2.1 = 0 → sd_wF r ∈ sd_WS) (hr : r.1 = o ∧ r.2.1 = idx ∧ r.2.2.1 = a ∧ r.2.2.2.1 = b) (F : sd_Fix p s m args meth c cc nL o ini D cy) (hd : decode cc pc = .ok (.getfield idx, 3)) (hn : n = pc + 3) (hc : (match tt_t a b with | .int => 0 | .boolean => 1 | .long => 2 | _ => 3) = t3) (hs : pm_getf a b t3 n L st h = some (.inl (pc', L', st', h'))) (kk : sd_G p l e R s m args below meth c Q D cy ad0 n0 s0 A H0 nL pc' L' st' h') : sd_G p l e R s m args below meth c Q D cy ad0 n0 s0 A H0 nL pc L st h := by
  have hwd : (r.2.2.2.2.1 = 0 ∧ (Cond.fieldLink (tt_name o) idx (tt_c a).1 ((tt_c a).2.1 b).2.1 ((tt_c a).2.1 b).2.2.1).before args s = true) ∨ (Cond.fieldLinkNest (tt_name o) idx (tt_c a).1 ((tt_c a).2.1 b).2.1 ((tt_c a).2.1 b).2.2.1 "RoundDance").before args s = true := by
    obtain ⟨o', idx', a', b', d', w'⟩ := r
    obtain ⟨e1, e2, e3, e4⟩ := hr
    dsimp only at e1 e2 e3 e4
    subst e1; subst e2; subst e3; subst e4
    by_cases hd0 : d' = 0
    · have := F.2.2.2.2.1 _ (hr0 hd0)
      simp only [sd_wF] at this
      rw [if_pos hd0] at this
      exact Or.inl ⟨hd0, this⟩
    · have := F.2.2.2.2.2.1.1 _ hrm hd0
      simp only [sd_wF] at this
      rw [if_neg hd0] at this
      exact Or.inr (va_Nw.use rfl this)
  have hsame : ∀ x, s.fieldFound? ((tt_c a).2.1 b).1 ((tt_c a).2.1 b).2.1 ((tt_c a).2.1 b).2.2.1 = some x → s.fieldFound? (tt_c a).1 ((tt_c a).2.1 b).2.1 ((tt_c a).2.1 b).2.2.1 = some x := by
    rw [(sd_Cf hra hrb).2.2.2.1]
    exact fun _ z => z
  unfold pm_getf at hs
  split at hs
  · rename_i x rr
    split at hs
    · rename_i hkd
      have key : ∀ (v : Value), (∀ ad : Nat → Nat, sd_re ad v = sd_fv h ad x b (tt_k a b)) → (sd_wf h → sd_vf (hp_nx h) v) → sd_G p l e R s m args below meth c Q D cy ad0 n0 s0 A H0 nL n L (v :: rr) h → sd_G p l e R s m args below meth c Q D cy ad0 n0 s0 A H0 nL pc L (.ref x :: rr) h := by
        intro v hv hvf kk ad H locs ls ⟨r1, r2, r3, r4, r5, r6, r7, r8, r9, r10, r11⟩
        subst hn
        have hx0 := r1.2 x (by rw [hkd]; omega)
        have he := sd_w_at (cy := cy) (ad := ad) hx0.1 hx0.2
        rw [sd_ceO hkd] at he
        have hvv : (sd_fs h ad x a)[b]? = some (sd_re ad v) := by rw [sd_fs_at hrb, hv ad]
        have kkk := kk ad H locs ls ⟨r1, r2, fun w hw => by
          rcases List.mem_cons.mp hw with rfl | hw
          · exact hvf r1
          · exact r3 w (List.mem_cons_of_mem _ hw), r4, r5, r6, r7, r8, r9, r10, r11⟩
        rcases hwd with ⟨-, hwd⟩ | hwd
        · exact va_get F.1 F.2.1 F.2.2.2.2.1 (sd_Cw hra) F.2.2.2.1 F.2.2.2.2.2.2.1 r7 (x - 1) he (sd_cls_at a hra) b hrb hwd hsame hvv hd kkk
        · exact va_getN F.1 F.2.1 F.2.2.2.2.1 (sd_Cw hra) F.2.2.2.1 F.2.2.2.2.2.2.1 r7 (x - 1) he (sd_cls_at a hra) b hrb hwd hsame hvv hd kkk
      rcases sd_tag_c hra hrb hc with ⟨rfl, -, ek⟩ | ⟨rfl, -, ek⟩ | ⟨rfl, -, ek⟩ | ⟨rfl, -, ek⟩
      · cases hs
        exact key (.int (hp_I h x b)) (fun ad => by rw [ek]; rfl) (fun _ => trivial) kk
      · cases hs
        exact key (.int (hp_I h x b)) (fun ad => by rw [ek]; rfl) (fun _ => trivial) kk
      · cases hs
        exact key (.long (hp_J h x b)) (fun ad => by rw [ek]; rfl) (fun _ => trivial) kk
      · change (if hp_R h x b = 0 then none else some (Sum.inl (n, L, Value.ref (hp_R h x b) :: rr, h))) = some (Sum.inl (pc', L', st', h')) at hs
        split at hs
        · cases hs
        · rename_i hz
          cases hs
          exact key (.ref (hp_R h x b)) (fun ad => by rw [ek]; simp only [sd_fv, sd_re]; rw [if_neg (by decide), if_neg (by decide), if_neg hz]) (fun w => w.1 x b) kk
    · cases hs
  · cases hs
theorem sdi_putf {idx a b t3 : Nat} {r : Nat × Nat × Nat × Nat × Nat × Nat} (hrm : r ∈ tt_rF) (hrb : b < (tt_c a).2.2) (hra : a < 11) (hr0 : r.2.2.2.2.1 = 0 → sd_wF r ∈ sd_WS) (hr : r.1 = o ∧ r.2.1 = idx ∧ r.2.2.1 = a ∧ r.2.2.2.1 = b) (F : sd_Fix p s m args meth c cc nL o ini D cy) (hd : decode cc pc = .ok (.putfield idx, 3)) (hn : n = pc + 3) (hc : (match tt_t a b with | .int => 0 | .boolean => 1 | .long => 2 | _ => 3) = t3) (hfin : ((tt_c a).2.1 b).2.2.2 = false ∨ (ini = true ∧ r.2.2.2.2.1 = 0 ∧ tt_name o = (tt_c a).1)) (hs : pm_putf a b t3 n L st h = some (.inl (pc', L', st', h'))) (kk : sd_G p l e R s m args below meth c Q D cy ad0 n0 s0 A H0 nL pc' L' st' h') : sd_G p l e R s m args below meth c Q D cy ad0 n0 s0 A H0 nL pc L st h := by
  have hwd : (r.2.2.2.2.1 = 0 ∧ (Cond.fieldLink (tt_name o) idx (tt_c a).1 ((tt_c a).2.1 b).2.1 ((tt_c a).2.1 b).2.2.1).before args s = true) ∨ (r.2.2.2.2.1 ≠ 0 ∧ (Cond.fieldLinkNest (tt_name o) idx (tt_c a).1 ((tt_c a).2.1 b).2.1 ((tt_c a).2.1 b).2.2.1 "RoundDance").before args s = true) := by
    obtain ⟨o', idx', a', b', d', w'⟩ := r
    obtain ⟨e1, e2, e3, e4⟩ := hr
    dsimp only at e1 e2 e3 e4
    subst e1; subst e2; subst e3; subst e4
    by_cases hd0 : d' = 0
    · have := F.2.2.2.2.1 _ (hr0 hd0)
      simp only [sd_wF] at this
      rw [if_pos hd0] at this
      exact Or.inl ⟨hd0, this⟩
    · have := F.2.2.2.2.2.1.1 _ hrm hd0
      simp only [sd_wF] at this
      rw [if_neg hd0] at this
      exact Or.inr ⟨hd0, va_Nw.use rfl this⟩
  have hsame : ∀ x, s.fieldFound? ((tt_c a).2.1 b).1 ((tt_c a).2.1 b).2.1 ((tt_c a).2.1 b).2.2.1 = some x → s.fieldFound? (tt_c a).1 ((tt_c a).2.1 b).2.1 ((tt_c a).2.1 b).2.2.1 = some x := by
    rw [(sd_Cf hra hrb).2.2.2.1]
    exact fun _ z => z
  have key : ∀ (v : Value) (x : Nat) (rr : List Value), hp_kd h x = a + 10 → st = v :: .ref x :: rr → hp_kd h' = hp_kd h → hp_nx h' = hp_nx h → hp_sl h' = hp_sl h → (∀ ad : Nat → Nat, sd_re ad v = sd_fv h' ad x b (tt_k a b)) → (∀ (ad : Nat → Nat) (k : Nat), k ≠ b → sd_fv h' ad x k (tt_k a k) = sd_fv h ad x k (tt_k a k)) → (∀ (ad : Nat → Nat) (q : Nat), q ≠ x → sd_ce cy h' ad q = sd_ce cy h ad q) → (sd_wf h → (∀ v ∈ st, sd_vf (hp_nx h) v) → sd_wf h') → (∀ ad : Nat → Nat, narrow (tt_t a b) (sd_re ad v) = sd_re ad v ∧ fits (tt_t a b) (sd_re ad v) = true) → sd_G p l e R s m args below meth c Q D cy ad0 n0 s0 A H0 nL n L rr h' → sd_G p l e R s m args below meth c Q D cy ad0 n0 s0 A H0 nL pc L st h := by
    intro v x rr hkd hst ekd enx esl hv hoth hcell hwf hfit kk ad H locs ls ⟨r1, r2, r3, r4, r5, r6, r7, r8, r9, r10, r11⟩
    subst hn
    subst hst
    have hx0 := r1.2 x (by rw [hkd]; omega)
    have he := sd_w_at (cy := cy) (ad := ad) hx0.1 hx0.2
    rw [sd_ceO hkd] at he
    have hw1 : ∀ (hnew : (sd_w cy h ad).set (x - 1) (ad x, .inr (a, (sd_fs h ad x a).set b (sd_re ad v))) = sd_w cy h' ad) (H1 : Heap) (locs1 : List Loc), va_P D tt_cls ((sd_w cy h ad).set (x - 1) (ad x, .inr (a, (sd_fs h ad x a).set b (sd_re ad v)))) H1 → va_D A ((sd_w cy h ad).set (x - 1) (ad x, .inr (a, (sd_fs h ad x a).set b (sd_re ad v)))) → va_S A H0 H1 locs1 → W p l e R s m args below meth c H1 locs1 (hp_nx h - n0) (hp_sl h - s0) Q (F0 m (pc + 3) ls (rr.map (sd_re ad))) := by
      intro hnew H1 locs1 hP1 hD1 hS1
      rw [hnew] at hP1 hD1
      rw [← enx, ← esl]
      exact kk ad H1 locs1 ls ⟨hwf r1 r3, by rw [enx]; exact r2, fun w hw => by rw [enx]; exact r3 w (List.mem_cons_of_mem _ (List.mem_cons_of_mem _ hw)), by rw [enx]; exact r4, by rw [esl]; exact r5, r6, hP1, hD1, hS1, r10, r11⟩
    have hnew : (sd_w cy h ad).set (x - 1) (ad x, .inr (a, (sd_fs h ad x a).set b (sd_re ad v))) = sd_w cy h' ad := by
      rw [hv ad, sd_fs_set hrb (hoth ad), ← sd_ceO (cy := cy) (show hp_kd h' x = a + 10 by rw [ekd]; exact hkd)]
      exact sd_w_set hx0.1 enx (hcell ad)
    have hlen : b < (sd_fs h ad x a).length := by rw [sd_fs_len]; exact hrb
    by_cases hfl : ((tt_c a).2.1 b).2.2.2 = false
    · rcases hwd with ⟨-, hwd⟩ | ⟨-, hwd⟩
      · exact va_put F.1 F.2.1 F.2.2.2.2.1 (sd_Cw hra) (tt_t a) (fun k hk => (sd_Cf hra hk).2.1) (sd_Cn hra) F.2.2.2.1 F.2.2.2.2.2.2.1 r7 r8 r9 (x - 1) he (sd_cls_at a hra) b hrb hwd hsame hfl (sd_Cf hra hrb).2.1 (hfit ad).1 (hfit ad).2 hlen hd (hw1 hnew)
      · exact va_putN F.1 F.2.1 F.2.2.2.2.1 (sd_Cw hra) (tt_t a) (fun k hk => (sd_Cf hra hk).2.1) (sd_Cn hra) F.2.2.2.1 F.2.2.2.2.2.2.1 r7 r8 r9 (x - 1) he (sd_cls_at a hra) b hrb hwd hsame hfl (sd_Cf hra hrb).2.1 (hfit ad).1 (hfit ad).2 hlen hd (hw1 hnew)
    · rcases hfin with q | ⟨q1, q2, q3⟩
      · exact absurd q hfl
      · rcases hwd with ⟨-, hwd⟩ | ⟨hdn, hwd⟩
        · exact va_putF F.1 F.2.1 F.2.2.2.2.1 (sd_Cw hra) (tt_t a) (fun k hk => (sd_Cf hra hk).2.1) (sd_Cn hra) F.2.2.2.1 F.2.2.2.2.2.2.1 r7 r8 r9 (x - 1) he (sd_cls_at a hra) b hrb hwd hsame (by simpa using hfl) (F.2.2.2.2.2.2.2 q1) (by rw [(sd_Cf hra hrb).2.2.2.1, q3]) (sd_Cf hra hrb).2.1 (hfit ad).1 (hfit ad).2 hlen hd (hw1 hnew)
        · exact absurd q2 hdn
  unfold pm_putf at hs
  split at hs
  · rename_i v x rr
    split at hs
    · rename_i hkd
      rcases sd_tag_c hra hrb hc with ⟨rfl, et, ek⟩ | ⟨rfl, et, ek⟩ | ⟨rfl, et, ek⟩ | ⟨rfl, et, ek⟩
      · cases hs
        exact key _ x _ hkd rfl rfl rfl rfl (fun ad => by rw [ek]; simp only [sd_fv, sd_re, sd_rI_eq, sd_up_eq]; rfl) (fun ad k hk => by simp only [sd_fv, sd_rI_eq]; rw [sd_up_ne hk]; rfl) (fun ad q hq => sd_ce_eq rfl rfl (sd_rI_ne hq) rfl rfl (fun _ => Or.inl rfl)) (fun w _ => w) (fun ad => by rw [et]; exact ⟨rfl, rfl⟩) kk
      · change (if v = 0 ∨ v = 1 then some (Sum.inl (n, L, rr, hp_rI h x (va_up (hp_I h x) b v))) else none) = some (Sum.inl (pc', L', st', h')) at hs
        split at hs
        · rename_i hz
          cases hs
          exact key _ x _ hkd rfl rfl rfl rfl (fun ad => by rw [ek]; simp only [sd_fv, sd_re, sd_rI_eq, sd_up_eq]; rfl) (fun ad k hk => by simp only [sd_fv, sd_rI_eq]; rw [sd_up_ne hk]; rfl) (fun ad q hq => sd_ce_eq rfl rfl (sd_rI_ne hq) rfl rfl (fun _ => Or.inl rfl)) (fun w _ => w) (fun ad => by
            rw [et]
            rcases hz with rfl | rfl
            · exact ⟨rfl, rfl⟩
            · exact ⟨rfl, rfl⟩) kk
        · cases hs
      · cases hs
      · cases hs
    · cases hs
  · rename_i v x rr
    split at hs
    · rename_i hkd
      obtain ⟨hkd, hc2⟩ := hkd
      rcases sd_tag_c hra hrb hc with ⟨e, et, ek⟩ | ⟨e, et, ek⟩ | ⟨e, et, ek⟩ | ⟨e, et, ek⟩
      · omega
      · omega
      · cases hs
        exact key _ x _ hkd rfl rfl rfl rfl (fun ad => by rw [ek]; simp only [sd_fv, sd_re, sd_rJ_eq, sd_up_eq]; rfl) (fun ad k hk => by simp only [sd_fv, sd_rJ_eq]; rw [sd_up_ne hk]; rfl) (fun ad q hq => sd_ce_eq rfl rfl rfl (sd_rJ_ne hq) rfl (fun _ => Or.inl rfl)) (fun w _ => w) (fun ad => by rw [et]; exact ⟨rfl, rfl⟩) kk
      · omega
    · cases hs
  · rename_i v x rr
    split at hs
    · rename_i hkd
      obtain ⟨hkd, hc2, hv0⟩ := hkd
      rcases sd_tag_c hra hrb hc with ⟨e, et, ek⟩ | ⟨e, et, ek⟩ | ⟨e, et, ek⟩ | ⟨e, et, ek⟩
      · omega
      · omega
      · omega
      · cases hs
        exact key _ x _ hkd rfl rfl rfl rfl (fun ad => by rw [ek]; simp only [sd_fv, sd_re, sd_rR_eq, sd_up_eq]; rw [if_neg (by decide), if_neg (by decide), if_neg hv0]) (fun ad k hk => by simp only [sd_fv, sd_rR_eq]; rw [sd_up_ne hk]; rfl) (fun ad q hq => sd_ce_eq rfl rfl rfl rfl (sd_rR_ne hq) (fun _ => Or.inl rfl)) (fun w hvs => ⟨fun q k => by
            by_cases hq : q = x
            · subst hq
              rw [sd_rR_eq]
              by_cases hk : k = b
              · subst hk
                rw [sd_up_eq]
                exact hvs (.ref v) List.mem_cons_self
              · rw [sd_up_ne hk]
                exact w.1 q k
            · rw [sd_rR_ne hq]
              exact w.1 q k, w.2⟩) (fun ad => by
            rcases et with ⟨nm, et⟩ | ⟨nm, et⟩
            · rw [et]; exact ⟨rfl, rfl⟩
            · rw [et]; exact ⟨rfl, rfl⟩) kk
    · cases hs
  · cases hs
end SDH
end
section
-- ===== A STEP that makes a cell, or reads or writes an array =====
theorem sd_al_ne {h : Hp_} {t n z q : Nat} (hq : q ≠ hp_nx h + 1) : hp_kd (hp_al h t n z) q = hp_kd h q ∧ hp_ln (hp_al h t n z) q = hp_ln h q ∧ hp_I (hp_al h t n z) q = hp_I h q ∧ hp_J (hp_al h t n z) q = hp_J h q ∧ hp_R (hp_al h t n z) q = hp_R h q := by
  refine ⟨?_, ?_, ?_, ?_, ?_⟩ <;> exact sd_up_ne hq
theorem sd_al_eq {h : Hp_} {t n z : Nat} : hp_kd (hp_al h t n z) (hp_nx h + 1) = t ∧ hp_ln (hp_al h t n z) (hp_nx h + 1) = n ∧ hp_I (hp_al h t n z) (hp_nx h + 1) = (fun _ => 0) ∧ hp_J (hp_al h t n z) (hp_nx h + 1) = (fun _ => 0) ∧ hp_R (hp_al h t n z) (hp_nx h + 1) = (fun _ => 0) := by
  refine ⟨?_, ?_, ?_, ?_, ?_⟩ <;> exact sd_up_eq
theorem sd_al_wf {h : Hp_} {t n z : Nat} (w : sd_wf h) : sd_wf (hp_al h t n z) := by
  refine ⟨fun c k => ?_, fun c hc => ?_⟩
  · by_cases hq : c = hp_nx h + 1
    · subst hq
      rw [sd_al_eq.2.2.2.2]
      exact Nat.zero_le _
    · rw [(sd_al_ne hq).2.2.2.2]
      exact Nat.le_succ_of_le (w.1 c k)
  · by_cases hq : c = hp_nx h + 1
    · exact ⟨by omega, Nat.le_of_eq hq⟩
    · rw [(sd_al_ne hq).1] at hc
      exact ⟨(w.2 c hc).1, Nat.le_succ_of_le (w.2 c hc).2⟩
theorem sd_vf_mono {n m : Nat} {v : Value} (h : n ≤ m) (hv : sd_vf n v) : sd_vf m v := by
  cases v <;> first | trivial | exact Nat.le_trans hv h
theorem sd_re_eq {ad ad' : Nat → Nat} {n : Nat} {v : Value} (hv : sd_vf n v) (ha : ∀ i, i ≤ n → ad' i = ad i) : sd_re ad' v = sd_re ad v := by
  cases v <;> first | rfl | exact congrArg Value.ref (ha _ hv)
theorem sd_st_eq {ad ad' : Nat → Nat} {n : Nat} {st : List Value} (hv : ∀ v ∈ st, sd_vf n v) (ha : ∀ i, i ≤ n → ad' i = ad i) : st.map (sd_re ad') = st.map (sd_re ad) := List.map_congr_left (fun v h => sd_re_eq (hv v h) ha)
theorem sd_as_eq {ad ad' : Nat → Nat} {n : Nat} {L : Lc_} (hv : ∀ v, some v ∈ L → sd_vf n v) (ha : ∀ i, i ≤ n → ad' i = ad i) : sd_as ad' L = sd_as ad L := by
  unfold sd_as
  refine congrArg (fun f => List.filterMap f (List.range L.length)) (funext fun k => ?_)
  split
  · rename_i v hk
    rw [sd_re_eq (hv v (List.mem_of_getElem? hk)) ha]
  · rfl
/-- the world with one cell more -/
theorem sd_w_al {cy : Nat → ClassId} {h : Hp_} {ad : Nat → Nat} {t n z q : Nat} (w : sd_wf h) : sd_w cy (hp_al h t n z) (va_up ad (hp_nx h + 1) q) = sd_w cy h ad ++ [(q, sd_ce cy (hp_al h t n z) (va_up ad (hp_nx h + 1) q) (hp_nx h + 1))] := by
  have hn : hp_nx (hp_al h t n z) = hp_nx h + 1 := rfl
  unfold sd_w
  rw [hn, List.range_succ, List.map_append, List.map_singleton, sd_up_eq]
  congr 1
  refine List.map_congr_left (fun k hk => ?_)
  have hk2 := List.mem_range.mp hk
  have hne : k + 1 ≠ hp_nx h + 1 := by omega
  obtain ⟨e1, e2, e3, e4, e5⟩ := sd_al_ne (t := t) (n := n) (z := z) hne
  rw [sd_up_ne hne, sd_ce_eq e1 e2 e3 e4 e5 (fun j => Or.inl (sd_up_ne (by have := w.1 (k + 1) j; omega)))]

theorem sd_arr : Cond.arrayClass .int ∈ sd_WS ∧ Cond.arrayClass .long ∈ sd_WS ∧ Cond.arrayClass .boolean ∈ sd_WS ∧ Cond.code objectInit ⟨#[0xb1]⟩ 1 none ∈ sd_WS ∧ Cond.instanceMethod objectInit ∈ sd_WS := by
  have h := sd_okobj
  simp only [Bool.and_eq_true, decide_eq_true_eq] at h
  obtain ⟨⟨⟨⟨⟨a1, a2⟩, a3, a4⟩, a5, a6⟩, a7, a8⟩, a9, a10⟩ := h
  exact ⟨sd_in (by rw [Bool.and_eq_true, decide_eq_true_eq]; exact ⟨a5, a6⟩), sd_in (by rw [Bool.and_eq_true, decide_eq_true_eq]; exact ⟨a7, a8⟩), sd_in (by rw [Bool.and_eq_true, decide_eq_true_eq]; exact ⟨a9, a10⟩), sd_in (by rw [Bool.and_eq_true, decide_eq_true_eq]; exact ⟨a1, a2⟩), sd_in (by rw [Bool.and_eq_true, decide_eq_true_eq]; exact ⟨a3, a4⟩)⟩
section SDA
variable {p : Program} {l : Launch} {e : Env} {R : Room} {s : State} {m : MethodId} {args : Array Value} {below : List Frame} {meth : Method} {c : Code} {Q : State → Prop} {D : va_G} {cy : Nat → ClassId} {ad0 : Nat → Nat} {n0 s0 : Nat} {A : Nat → Prop} {H0 : Heap} {nL o : Nat} {cc : ByteArray} {ini : Bool} {pc pc' n : Nat} {L L' : Lc_} {st st' : List Value} {h h' : Hp_}
theorem sdi_new {idx a b x : Nat} (ha11 : a < 11) (hb : b = (tt_c a).2.2) (hcw : Cond.classLink (tt_name o) idx (tt_c a).1 ∈ sd_WS) (hA : ∀ q, H0.size ≤ q → A q) (F : sd_Fix p s m args meth c cc nL o ini D cy) (hd : decode cc pc = .ok (.new idx, 3)) (hn : n = pc + 3) (hs : pm_new a b n L st h = some (.inl (pc', L', st', h'))) (hcr : hp_nx h' - n0 ≤ R.cells) (hsr : hp_sl h' - s0 ≤ R.slots) (kk : sd_G p l e R s m args below meth c Q D cy ad0 n0 s0 A H0 nL pc' L' st' h') : sd_G p l e R s m args below meth c Q D cy ad0 n0 s0 A H0 nL pc L st h := by
  unfold pm_new at hs
  cases hs
  intro ad H locs ls ⟨r1, r2, r3, r4, r5, r6, r7, r8, r9, r10, r11⟩
  subst hn
  have hnx : hp_nx (hp_al h (a + 10) 0 b) = hp_nx h + 1 := rfl
  have hsl : hp_sl (hp_al h (a + 10) 0 b) = hp_sl h + b := rfl
  rw [hnx] at hcr
  rw [hsl] at hsr
  obtain ⟨ek, el, eI, eJ, eR⟩ := sd_al_eq (h := h) (t := a + 10) (n := 0) (z := b)
  refine va_new (ci := a) (fs := (List.range (tt_c a).2.2).map (fun j => defaultValue (tt_t a j))) (ty := tt_t a) F.1 F.2.1 F.2.2.2.2.1 (sd_Cw ha11) (fun k hk => (sd_Cf ha11 hk).2.1) F.2.2.2.1 (F.2.2.2.2.1 _ hcw) (F.2.2.2.2.1 _ (sd_Ci ha11).1) (F.2.2.2.2.1 _ (sd_Ci ha11).2) F.2.2.2.2.2.2.1 r7 r8 r9 hA (sd_cls_at a ha11) (fun j hj => ?_) (by omega) (by rw [← hb]; omega) hd (fun q H1 hP hD hS => ?_)
  · unfold vp_V
    rw [List.getD_eq_getElem?_getD, List.getElem?_map, List.getElem?_range hj]
    rfl
  · have hce : sd_ce cy (hp_al h (a + 10) 0 b) (va_up ad (hp_nx h + 1) q) (hp_nx h + 1) = .inr (a, (List.range (tt_c a).2.2).map (fun j => defaultValue (tt_t a j))) := by
      rw [sd_ceO ek]
      unfold sd_fs
      refine congrArg (fun z => Sum.inr (a, z)) (List.map_congr_left (fun j hj => ?_))
      have hj := List.mem_range.mp hj
      obtain ⟨-, -, h3, -, -, h6⟩ := sd_Cf ha11 hj
      rw [← h3]
      unfold sd_fv
      rw [eI, eJ, eR]
      cases ht : tt_t a j <;> rw [ht] at h6 <;> first | rfl | (simp [sd_okty] at h6)
    have hww := sd_w_al (cy := cy) (ad := ad) (t := a + 10) (n := 0) (z := b) (q := q) r1
    rw [hce] at hww
    rw [← hww] at hP hD
    have ha : ∀ i, i ≤ hp_nx h → va_up ad (hp_nx h + 1) q i = ad i := fun i hi => sd_up_ne (by omega)
    have hstm : ∀ r : List Value, (∀ v ∈ r, sd_vf (hp_nx h) v) → r.map (sd_re (va_up ad (hp_nx h + 1) q)) = r.map (sd_re ad) := fun r hr => sd_st_eq hr ha
    have e1 : hp_nx h - n0 + 1 = hp_nx (hp_al h (a + 10) 0 b) - n0 := by rw [hnx]; omega
    have e2 : hp_sl h - s0 + (tt_c a).2.2 = hp_sl (hp_al h (a + 10) 0 b) - s0 := by rw [hsl, hb]; omega
    rw [e1, e2]
    have kkk := kk (va_up ad (hp_nx h + 1) q) H1 locs ls ⟨sd_al_wf r1, fun v hv => sd_vf_mono (Nat.le_succ _) (r2 v hv), fun v hv => by
      rcases List.mem_cons.mp hv with rfl | hv
      · exact Nat.le_refl _
      · exact sd_vf_mono (Nat.le_succ _) (r3 v hv), by rw [hnx]; omega, by rw [hsl]; omega, fun i hi => by rw [ha i (by omega)]; exact r6 i hi, hP, hD, hS, r10, by rw [sd_as_eq r2 ha]; exact r11⟩
    rw [List.map_cons, hstm _ r3] at kkk
    have e3 : sd_re (va_up ad (hp_nx h + 1) q) (.ref (hp_nx h + 1)) = .ref q := by
      show Value.ref _ = _
      rw [sd_up_eq]
    rw [e3] at kkk
    exact kkk
theorem sdi_newa1 (hA : ∀ q, H0.size ≤ q → A q) (F : sd_Fix p s m args meth c cc nL o ini D cy) (hd : decode cc pc = .ok (.newarray .int, 2)) (hn : n = pc + 2) (hs : pm_newa 1 n L st h = some (.inl (pc', L', st', h'))) (hcr : hp_nx h' - n0 ≤ R.cells) (hsr : hp_sl h' - s0 ≤ R.slots) (kk : sd_G p l e R s m args below meth c Q D cy ad0 n0 s0 A H0 nL pc' L' st' h') : sd_G p l e R s m args below meth c Q D cy ad0 n0 s0 A H0 nL pc L st h := by
  unfold pm_newa at hs
  split at hs
  · rename_i x r
    split at hs
    · rename_i hx
      cases hs
      intro ad H locs ls ⟨r1, r2, r3, r4, r5, r6, r7, r8, r9, r10, r11⟩
      subst hn
      have hnx : hp_nx (hp_al h 1 x.toNatClampNeg x.toNatClampNeg) = hp_nx h + 1 := rfl
      have hsl : hp_sl (hp_al h 1 x.toNatClampNeg x.toNatClampNeg) = hp_sl h + x.toNatClampNeg := rfl
      rw [hnx] at hcr
      rw [hsl] at hsr
      have harr : Cond.arrayClass .int ∈ sd_WS := sd_arr.1
      obtain ⟨ek, el, eI, eJ, eR⟩ := sd_al_eq (h := h) (t := 1) (n := x.toNatClampNeg) (z := x.toNatClampNeg)
      refine va_newa (atype := .int) (ty := .int) (N' := x.toNatClampNeg) (a0 := (x.toNatClampNeg, .inl (fun _ => 0))) F.1 F.2.1 (F.2.2.2.2.1 _ harr) rfl F.2.2.2.2.2.2.1 r7 r8 r9 hA (fun cA => rfl) hx.1 rfl (Nat.le_trans (Nat.mul_le_mul hx.2 (show componentBytes .int ≤ 8 by decide)) (by decide)) (by omega) (by omega) hd (fun q cA H1 hK hP hD hS => ?_)
      have hcA : cA = cy 1 := by
        have e1 := (hK.2 3 _ rfl).2
        have e2 := (hK.2 0 _ rfl).2
        exact Option.some.inj (e1.symm.trans e2)
      subst hcA
      have hce : sd_ce cy (hp_al h 1 x.toNatClampNeg x.toNatClampNeg) (va_up ad (hp_nx h + 1) q) (hp_nx h + 1) = .inl (cy 1, x.toNatClampNeg, .inl (fun _ => 0)) := by
        rw [sd_ceI ek, el, eI]
      have hww := sd_w_al (cy := cy) (ad := ad) (t := 1) (n := x.toNatClampNeg) (z := x.toNatClampNeg) (q := q) r1
      rw [hce] at hww
      rw [← hww] at hP hD
      have ha : ∀ i, i ≤ hp_nx h → va_up ad (hp_nx h + 1) q i = ad i := fun i hi => sd_up_ne (by omega)
      have r3' : ∀ v ∈ r, sd_vf (hp_nx h) v := fun v hv => r3 v (List.mem_cons_of_mem _ hv)
      have e1 : hp_nx h - n0 + 1 = hp_nx (hp_al h 1 x.toNatClampNeg x.toNatClampNeg) - n0 := by rw [hnx]; omega
      have e2 : hp_sl h - s0 + x.toNatClampNeg = hp_sl (hp_al h 1 x.toNatClampNeg x.toNatClampNeg) - s0 := by rw [hsl]; omega
      rw [e1, e2]
      have kkk := kk (va_up ad (hp_nx h + 1) q) H1 locs ls ⟨sd_al_wf r1, fun v hv => sd_vf_mono (Nat.le_succ _) (r2 v hv), fun v hv => by
        rcases List.mem_cons.mp hv with rfl | hv
        · exact Nat.le_refl _
        · exact sd_vf_mono (Nat.le_succ _) (r3' v hv), by rw [hnx]; omega, by rw [hsl]; omega, fun i hi => by rw [ha i (by omega)]; exact r6 i hi, hP, hD, hS, r10, by rw [sd_as_eq r2 ha]; exact r11⟩
      rw [List.map_cons, sd_st_eq r3' ha] at kkk
      have e3 : sd_re (va_up ad (hp_nx h + 1) q) (.ref (hp_nx h + 1)) = .ref q := by
        show Value.ref _ = _
        rw [sd_up_eq]
      rw [e3] at kkk
      exact kkk
    · cases hs
  · cases hs
theorem sdi_newa2 (hA : ∀ q, H0.size ≤ q → A q) (F : sd_Fix p s m args meth c cc nL o ini D cy) (hd : decode cc pc = .ok (.newarray .long, 2)) (hn : n = pc + 2) (hs : pm_newa 2 n L st h = some (.inl (pc', L', st', h'))) (hcr : hp_nx h' - n0 ≤ R.cells) (hsr : hp_sl h' - s0 ≤ R.slots) (kk : sd_G p l e R s m args below meth c Q D cy ad0 n0 s0 A H0 nL pc' L' st' h') : sd_G p l e R s m args below meth c Q D cy ad0 n0 s0 A H0 nL pc L st h := by
  unfold pm_newa at hs
  split at hs
  · rename_i x r
    split at hs
    · rename_i hx
      cases hs
      intro ad H locs ls ⟨r1, r2, r3, r4, r5, r6, r7, r8, r9, r10, r11⟩
      subst hn
      have hnx : hp_nx (hp_al h 2 x.toNatClampNeg x.toNatClampNeg) = hp_nx h + 1 := rfl
      have hsl : hp_sl (hp_al h 2 x.toNatClampNeg x.toNatClampNeg) = hp_sl h + x.toNatClampNeg := rfl
      rw [hnx] at hcr
      rw [hsl] at hsr
      have harr : Cond.arrayClass .long ∈ sd_WS := sd_arr.2.1
      obtain ⟨ek, el, eI, eJ, eR⟩ := sd_al_eq (h := h) (t := 2) (n := x.toNatClampNeg) (z := x.toNatClampNeg)
      refine va_newa (atype := .long) (ty := .long) (N' := x.toNatClampNeg) (a0 := (x.toNatClampNeg, .inr (.inl (fun _ => 0)))) F.1 F.2.1 (F.2.2.2.2.1 _ harr) rfl F.2.2.2.2.2.2.1 r7 r8 r9 hA (fun cA => rfl) hx.1 rfl (Nat.le_trans (Nat.mul_le_mul hx.2 (show componentBytes .long ≤ 8 by decide)) (by decide)) (by omega) (by omega) hd (fun q cA H1 hK hP hD hS => ?_)
      have hcA : cA = cy 2 := by
        have e1 := (hK.2 3 _ rfl).2
        have e2 := (hK.2 1 _ rfl).2
        exact Option.some.inj (e1.symm.trans e2)
      subst hcA
      have hce : sd_ce cy (hp_al h 2 x.toNatClampNeg x.toNatClampNeg) (va_up ad (hp_nx h + 1) q) (hp_nx h + 1) = .inl (cy 2, x.toNatClampNeg, .inr (.inl (fun _ => 0))) := by
        rw [sd_ceJ ek, el, eJ]
      have hww := sd_w_al (cy := cy) (ad := ad) (t := 2) (n := x.toNatClampNeg) (z := x.toNatClampNeg) (q := q) r1
      rw [hce] at hww
      rw [← hww] at hP hD
      have ha : ∀ i, i ≤ hp_nx h → va_up ad (hp_nx h + 1) q i = ad i := fun i hi => sd_up_ne (by omega)
      have r3' : ∀ v ∈ r, sd_vf (hp_nx h) v := fun v hv => r3 v (List.mem_cons_of_mem _ hv)
      have e1 : hp_nx h - n0 + 1 = hp_nx (hp_al h 2 x.toNatClampNeg x.toNatClampNeg) - n0 := by rw [hnx]; omega
      have e2 : hp_sl h - s0 + x.toNatClampNeg = hp_sl (hp_al h 2 x.toNatClampNeg x.toNatClampNeg) - s0 := by rw [hsl]; omega
      rw [e1, e2]
      have kkk := kk (va_up ad (hp_nx h + 1) q) H1 locs ls ⟨sd_al_wf r1, fun v hv => sd_vf_mono (Nat.le_succ _) (r2 v hv), fun v hv => by
        rcases List.mem_cons.mp hv with rfl | hv
        · exact Nat.le_refl _
        · exact sd_vf_mono (Nat.le_succ _) (r3' v hv), by rw [hnx]; omega, by rw [hsl]; omega, fun i hi => by rw [ha i (by omega)]; exact r6 i hi, hP, hD, hS, r10, by rw [sd_as_eq r2 ha]; exact r11⟩
      rw [List.map_cons, sd_st_eq r3' ha] at kkk
      have e3 : sd_re (va_up ad (hp_nx h + 1) q) (.ref (hp_nx h + 1)) = .ref q := by
        show Value.ref _ = _
        rw [sd_up_eq]
      rw [e3] at kkk
      exact kkk
    · cases hs
  · cases hs
theorem sdi_newa3 (hA : ∀ q, H0.size ≤ q → A q) (F : sd_Fix p s m args meth c cc nL o ini D cy) (hd : decode cc pc = .ok (.newarray .boolean, 2)) (hn : n = pc + 2) (hs : pm_newa 3 n L st h = some (.inl (pc', L', st', h'))) (hcr : hp_nx h' - n0 ≤ R.cells) (hsr : hp_sl h' - s0 ≤ R.slots) (kk : sd_G p l e R s m args below meth c Q D cy ad0 n0 s0 A H0 nL pc' L' st' h') : sd_G p l e R s m args below meth c Q D cy ad0 n0 s0 A H0 nL pc L st h := by
  unfold pm_newa at hs
  split at hs
  · rename_i x r
    split at hs
    · rename_i hx
      cases hs
      intro ad H locs ls ⟨r1, r2, r3, r4, r5, r6, r7, r8, r9, r10, r11⟩
      subst hn
      have hnx : hp_nx (hp_al h 3 x.toNatClampNeg x.toNatClampNeg) = hp_nx h + 1 := rfl
      have hsl : hp_sl (hp_al h 3 x.toNatClampNeg x.toNatClampNeg) = hp_sl h + x.toNatClampNeg := rfl
      rw [hnx] at hcr
      rw [hsl] at hsr
      have harr : Cond.arrayClass .boolean ∈ sd_WS := sd_arr.2.2.1
      obtain ⟨ek, el, eI, eJ, eR⟩ := sd_al_eq (h := h) (t := 3) (n := x.toNatClampNeg) (z := x.toNatClampNeg)
      refine va_newa (atype := .boolean) (ty := .boolean) (N' := x.toNatClampNeg) (a0 := (x.toNatClampNeg, .inl (fun _ => 0))) F.1 F.2.1 (F.2.2.2.2.1 _ harr) rfl F.2.2.2.2.2.2.1 r7 r8 r9 hA (fun cA => rfl) hx.1 rfl (Nat.le_trans (Nat.mul_le_mul hx.2 (show componentBytes .boolean ≤ 8 by decide)) (by decide)) (by omega) (by omega) hd (fun q cA H1 hK hP hD hS => ?_)
      have hcA : cA = cy 3 := by
        have e1 := (hK.2 3 _ rfl).2
        have e2 := (hK.2 2 _ rfl).2
        exact Option.some.inj (e1.symm.trans e2)
      subst hcA
      have hce : sd_ce cy (hp_al h 3 x.toNatClampNeg x.toNatClampNeg) (va_up ad (hp_nx h + 1) q) (hp_nx h + 1) = .inl (cy 3, x.toNatClampNeg, .inl (fun _ => 0)) := by
        rw [sd_ceZ ek, el, eI]
      have hww := sd_w_al (cy := cy) (ad := ad) (t := 3) (n := x.toNatClampNeg) (z := x.toNatClampNeg) (q := q) r1
      rw [hce] at hww
      rw [← hww] at hP hD
      have ha : ∀ i, i ≤ hp_nx h → va_up ad (hp_nx h + 1) q i = ad i := fun i hi => sd_up_ne (by omega)
      have r3' : ∀ v ∈ r, sd_vf (hp_nx h) v := fun v hv => r3 v (List.mem_cons_of_mem _ hv)
      have e1 : hp_nx h - n0 + 1 = hp_nx (hp_al h 3 x.toNatClampNeg x.toNatClampNeg) - n0 := by rw [hnx]; omega
      have e2 : hp_sl h - s0 + x.toNatClampNeg = hp_sl (hp_al h 3 x.toNatClampNeg x.toNatClampNeg) - s0 := by rw [hsl]; omega
      rw [e1, e2]
      have kkk := kk (va_up ad (hp_nx h + 1) q) H1 locs ls ⟨sd_al_wf r1, fun v hv => sd_vf_mono (Nat.le_succ _) (r2 v hv), fun v hv => by
        rcases List.mem_cons.mp hv with rfl | hv
        · exact Nat.le_refl _
        · exact sd_vf_mono (Nat.le_succ _) (r3' v hv), by rw [hnx]; omega, by rw [hsl]; omega, fun i hi => by rw [ha i (by omega)]; exact r6 i hi, hP, hD, hS, r10, by rw [sd_as_eq r2 ha]; exact r11⟩
      rw [List.map_cons, sd_st_eq r3' ha] at kkk
      have e3 : sd_re (va_up ad (hp_nx h + 1) q) (.ref (hp_nx h + 1)) = .ref q := by
        show Value.ref _ = _
        rw [sd_up_eq]
      rw [e3] at kkk
      exact kkk
    · cases hs
  · cases hs
theorem sdi_iald {sc : Sc_} (hsc : sd_Sc sc A H0 s (ad0 0)) (F0x : True) (F : sd_Fix p s m args meth c cc nL o ini D cy) (hd : decode cc pc = .ok (.iaload, 1)) (hn : n = pc + 1) (hs : pm_iald sc n L st h = some (.inl (pc', L', st', h'))) (kk : sd_G p l e R s m args below meth c Q D cy ad0 n0 s0 A H0 nL pc' L' st' h') : sd_G p l e R s m args below meth c Q D cy ad0 n0 s0 A H0 nL pc L st h := by
  unfold pm_iald at hs
  split at hs
  · rename_i i x r
    split at hs
    · rename_i hx
      subst hx
      split at hs
      · rename_i z f
        split at hs
        · cases hs
        · rename_i hin
          cases hs
          intro ad H locs ls ⟨r1, r2, r3, r4, r5, r6, r7, r8, r9, r10, r11⟩
          subst hn
          have kkk := kk ad H locs ls ⟨r1, r2, fun v hv => by
            rcases List.mem_cons.mp hv with rfl | hv
            · trivial
            · exact r3 v (List.mem_cons_of_mem _ (List.mem_cons_of_mem _ hv)), r4, r5, r6, r7, r8, r9, r10, r11⟩
          have e0 : ad 0 = ad0 0 := r6 0 (Nat.zero_le _)
          show W p l e R s m args below meth c H locs _ _ Q (F0 m pc ls (.int i :: .ref (ad 0) :: r.map (sd_re ad)))
          rw [e0]
          exact va_sld F.1 F.2.1 hsc.1 hsc.2.1 hsc.2.2 r9 hin hd kkk
      · cases hs
    · skip
      split at hs
      · rename_i hkd
        split at hs
        · cases hs
        · rename_i hin
          cases hs
          intro ad H locs ls ⟨r1, r2, r3, r4, r5, r6, r7, r8, r9, r10, r11⟩
          subst hn
          have hx0 := r1.2 x (by rw [hkd]; omega)
          have he := sd_w_at (cy := cy) (ad := ad) hx0.1 hx0.2
          rw [sd_ceI hkd] at he
          exact va_iald F.1 F.2.1 F.2.2.2.2.2.2.1 r7 (x - 1) 0 he rfl hin hd (kk ad H locs ls ⟨r1, r2, fun v hv => by
            rcases List.mem_cons.mp hv with rfl | hv
            · trivial
            · exact r3 v (List.mem_cons_of_mem _ (List.mem_cons_of_mem _ hv)), r4, r5, r6, r7, r8, r9, r10, r11⟩)
      · cases hs
  · cases hs
theorem sdi_zald (F0x : True) (F : sd_Fix p s m args meth c cc nL o ini D cy) (hd : decode cc pc = .ok (.baload, 1)) (hn : n = pc + 1) (hs : pm_zald n L st h = some (.inl (pc', L', st', h'))) (kk : sd_G p l e R s m args below meth c Q D cy ad0 n0 s0 A H0 nL pc' L' st' h') : sd_G p l e R s m args below meth c Q D cy ad0 n0 s0 A H0 nL pc L st h := by
  unfold pm_zald at hs
  split at hs
  · rename_i i x r
    split at hs
    · rename_i hkd
      split at hs
      · cases hs
      · rename_i hin
        cases hs
        intro ad H locs ls ⟨r1, r2, r3, r4, r5, r6, r7, r8, r9, r10, r11⟩
        subst hn
        have hx0 := r1.2 x (by rw [hkd]; omega)
        have he := sd_w_at (cy := cy) (ad := ad) hx0.1 hx0.2
        rw [sd_ceZ hkd] at he
        exact va_zald F.1 F.2.1 F.2.2.2.2.2.2.1 r7 (x - 1) 2 he rfl hin hd (kk ad H locs ls ⟨r1, r2, fun v hv => by
          rcases List.mem_cons.mp hv with rfl | hv
          · trivial
          · exact r3 v (List.mem_cons_of_mem _ (List.mem_cons_of_mem _ hv)), r4, r5, r6, r7, r8, r9, r10, r11⟩)
    · cases hs
  · cases hs
theorem sdi_lald (F0x : True) (F : sd_Fix p s m args meth c cc nL o ini D cy) (hd : decode cc pc = .ok (.laload, 1)) (hn : n = pc + 1) (hs : pm_lald n L st h = some (.inl (pc', L', st', h'))) (kk : sd_G p l e R s m args below meth c Q D cy ad0 n0 s0 A H0 nL pc' L' st' h') : sd_G p l e R s m args below meth c Q D cy ad0 n0 s0 A H0 nL pc L st h := by
  unfold pm_lald at hs
  split at hs
  · rename_i i x r
    split at hs
    · rename_i hkd
      split at hs
      · cases hs
      · rename_i hin
        cases hs
        intro ad H locs ls ⟨r1, r2, r3, r4, r5, r6, r7, r8, r9, r10, r11⟩
        subst hn
        have hx0 := r1.2 x (by rw [hkd]; omega)
        have he := sd_w_at (cy := cy) (ad := ad) hx0.1 hx0.2
        rw [sd_ceJ hkd] at he
        exact va_lald F.1 F.2.1 F.2.2.2.2.2.2.1 r7 (x - 1) 1 he rfl hin hd (kk ad H locs ls ⟨r1, r2, fun v hv => by
          rcases List.mem_cons.mp hv with rfl | hv
          · trivial
          · exact r3 v (List.mem_cons_of_mem _ (List.mem_cons_of_mem _ hv)), r4, r5, r6, r7, r8, r9, r10, r11⟩)
    · cases hs
  · cases hs
theorem sdi_alen {sc : Sc_} (hsc : sd_Sc sc A H0 s (ad0 0)) (F : sd_Fix p s m args meth c cc nL o ini D cy) (hd : decode cc pc = .ok (.arraylength, 1)) (hn : n = pc + 1) (hs : pm_alen sc n L st h = some (.inl (pc', L', st', h'))) (kk : sd_G p l e R s m args below meth c Q D cy ad0 n0 s0 A H0 nL pc' L' st' h') : sd_G p l e R s m args below meth c Q D cy ad0 n0 s0 A H0 nL pc L st h := by
  unfold pm_alen at hs
  split at hs
  · rename_i x r
    split at hs
    · rename_i hx
      subst hx
      split at hs
      · rename_i z f
        cases hs
        intro ad H locs ls ⟨r1, r2, r3, r4, r5, r6, r7, r8, r9, r10, r11⟩
        subst hn
        have kkk := kk ad H locs ls ⟨r1, r2, fun v hv => by
          rcases List.mem_cons.mp hv with rfl | hv
          · trivial
          · exact r3 v (List.mem_cons_of_mem _ hv), r4, r5, r6, r7, r8, r9, r10, r11⟩
        have e0 : ad 0 = ad0 0 := r6 0 (Nat.zero_le _)
        show W p l e R s m args below meth c H locs _ _ Q (F0 m pc ls (.ref (ad 0) :: r.map (sd_re ad)))
        rw [e0]
        exact va_slen F.1 F.2.1 hsc.1 hsc.2.1 hsc.2.2 r9 hd kkk
      · cases hs
    · split at hs
      · rename_i hkd
        cases hs
        intro ad H locs ls ⟨r1, r2, r3, r4, r5, r6, r7, r8, r9, r10, r11⟩
        subst hn
        have hx0 := r1.2 x (by omega)
        have he := sd_w_at (cy := cy) (ad := ad) hx0.1 hx0.2
        have kkk := kk ad H locs ls ⟨r1, r2, fun v hv => by
          rcases List.mem_cons.mp hv with rfl | hv
          · trivial
          · exact r3 v (List.mem_cons_of_mem _ hv), r4, r5, r6, r7, r8, r9, r10, r11⟩
        rcases hkd with hkd | hkd | hkd
        · rw [sd_ceI hkd] at he
          exact va_alen (v := nI (hp_ln h x)) F.1 F.2.1 F.2.2.2.2.2.2.1 r7 (x - 1) 0 he (ty := .int) rfl rfl hd kkk
        · rw [sd_ceJ hkd] at he
          exact va_alen (v := nI (hp_ln h x)) F.1 F.2.1 F.2.2.2.2.2.2.1 r7 (x - 1) 1 he (ty := .long) rfl rfl hd kkk
        · rw [sd_ceZ hkd] at he
          exact va_alen (v := nI (hp_ln h x)) F.1 F.2.1 F.2.2.2.2.2.2.1 r7 (x - 1) 2 he (ty := .boolean) rfl rfl hd kkk
      · cases hs
  · cases hs
theorem sdi_iast (F : sd_Fix p s m args meth c cc nL o ini D cy) (hd : decode cc pc = .ok (.iastore, 1)) (hn : n = pc + 1) (hs : pm_iast n L st h = some (.inl (pc', L', st', h'))) (kk : sd_G p l e R s m args below meth c Q D cy ad0 n0 s0 A H0 nL pc' L' st' h') : sd_G p l e R s m args below meth c Q D cy ad0 n0 s0 A H0 nL pc L st h := by
  unfold pm_iast at hs
  split at hs
  · rename_i v i x r
    split at hs
    · rename_i hkd
      split at hs
      · cases hs
      · rename_i hin
        cases hs
        intro ad H locs ls ⟨r1, r2, r3, r4, r5, r6, r7, r8, r9, r10, r11⟩
        subst hn
        have hx0 := r1.2 x (by rw [hkd]; omega)
        have he := sd_w_at (cy := cy) (ad := ad) hx0.1 hx0.2
        rw [sd_ceI hkd] at he
        refine va_iast F.1 F.2.1 F.2.2.2.2.2.2.1 r7 r8 r9 (x - 1) 0 he rfl hin hd (fun H1 locs1 hP1 hD1 hS1 => ?_)
        have hnew : (sd_w cy h ad).set (x - 1) (ad x, .inl (cy 1, hp_ln h x, .inl (upd (hp_I h x) i.toNatClampNeg v))) = sd_w cy (hp_rI h x (va_up (hp_I h x) i.toNatClampNeg v)) ad := by
          have e1 : sd_ce cy (hp_rI h x (va_up (hp_I h x) i.toNatClampNeg v)) ad x = .inl (cy 1, hp_ln h x, .inl (upd (hp_I h x) i.toNatClampNeg v)) := by
            rw [sd_ceI (show hp_kd (hp_rI h x (va_up (hp_I h x) i.toNatClampNeg v)) x = 1 from hkd)]
            simp only [sd_rI_eq]
            rfl
          rw [← e1]
          exact sd_w_set hx0.1 rfl (fun q hq => sd_ce_eq rfl rfl (sd_rI_ne hq) rfl rfl (fun _ => Or.inl rfl))
        rw [hnew] at hP1 hD1
        exact kk ad H1 locs1 ls ⟨r1, r2, fun w hw => r3 w (List.mem_cons_of_mem _ (List.mem_cons_of_mem _ (List.mem_cons_of_mem _ hw))), r4, r5, r6, hP1, hD1, hS1, r10, r11⟩
    · cases hs
  · cases hs
theorem sdi_zast (F : sd_Fix p s m args meth c cc nL o ini D cy) (hd : decode cc pc = .ok (.bastore, 1)) (hn : n = pc + 1) (hs : pm_zast n L st h = some (.inl (pc', L', st', h'))) (kk : sd_G p l e R s m args below meth c Q D cy ad0 n0 s0 A H0 nL pc' L' st' h') : sd_G p l e R s m args below meth c Q D cy ad0 n0 s0 A H0 nL pc L st h := by
  unfold pm_zast at hs
  split at hs
  · rename_i v i x r
    split at hs
    · rename_i hkd
      obtain ⟨hkd, hv⟩ := hkd
      split at hs
      · cases hs
      · rename_i hin
        cases hs
        intro ad H locs ls ⟨r1, r2, r3, r4, r5, r6, r7, r8, r9, r10, r11⟩
        subst hn
        have hx0 := r1.2 x (by rw [hkd]; omega)
        have he := sd_w_at (cy := cy) (ad := ad) hx0.1 hx0.2
        rw [sd_ceZ hkd] at he
        refine va_zast F.1 F.2.1 F.2.2.2.2.2.2.1 r7 r8 r9 (x - 1) 2 he rfl hin hd (fun H1 locs1 hP1 hD1 hS1 => ?_)
        have hnew : (sd_w cy h ad).set (x - 1) (ad x, .inl (cy 3, hp_ln h x, .inl (upd (hp_I h x) i.toNatClampNeg (vp_nar .boolean v)))) = sd_w cy (hp_rI h x (va_up (hp_I h x) i.toNatClampNeg v)) ad := by
          have e1 : sd_ce cy (hp_rI h x (va_up (hp_I h x) i.toNatClampNeg v)) ad x = .inl (cy 3, hp_ln h x, .inl (upd (hp_I h x) i.toNatClampNeg (vp_nar .boolean v))) := by
            rw [sd_ceZ (show hp_kd (hp_rI h x (va_up (hp_I h x) i.toNatClampNeg v)) x = 3 from hkd)]
            simp only [sd_rI_eq]
            rcases hv with rfl | rfl <;> rfl
          rw [← e1]
          exact sd_w_set hx0.1 rfl (fun q hq => sd_ce_eq rfl rfl (sd_rI_ne hq) rfl rfl (fun _ => Or.inl rfl))
        rw [hnew] at hP1 hD1
        exact kk ad H1 locs1 ls ⟨r1, r2, fun w hw => r3 w (List.mem_cons_of_mem _ (List.mem_cons_of_mem _ (List.mem_cons_of_mem _ hw))), r4, r5, r6, hP1, hD1, hS1, r10, r11⟩
    · cases hs
  · cases hs
theorem sdi_last (F : sd_Fix p s m args meth c cc nL o ini D cy) (hd : decode cc pc = .ok (.lastore, 1)) (hn : n = pc + 1) (hs : pm_last n L st h = some (.inl (pc', L', st', h'))) (kk : sd_G p l e R s m args below meth c Q D cy ad0 n0 s0 A H0 nL pc' L' st' h') : sd_G p l e R s m args below meth c Q D cy ad0 n0 s0 A H0 nL pc L st h := by
  unfold pm_last at hs
  split at hs
  · rename_i v i x r
    split at hs
    · rename_i hkd
      split at hs
      · cases hs
      · rename_i hin
        cases hs
        intro ad H locs ls ⟨r1, r2, r3, r4, r5, r6, r7, r8, r9, r10, r11⟩
        subst hn
        have hx0 := r1.2 x (by rw [hkd]; omega)
        have he := sd_w_at (cy := cy) (ad := ad) hx0.1 hx0.2
        rw [sd_ceJ hkd] at he
        refine va_last F.1 F.2.1 F.2.2.2.2.2.2.1 r7 r8 r9 (x - 1) 1 he rfl hin hd (fun H1 locs1 hP1 hD1 hS1 => ?_)
        have hnew : (sd_w cy h ad).set (x - 1) (ad x, .inl (cy 2, hp_ln h x, .inr (.inl (vp_updL (hp_J h x) i.toNatClampNeg v)))) = sd_w cy (hp_rJ h x (va_up (hp_J h x) i.toNatClampNeg v)) ad := by
          have e1 : sd_ce cy (hp_rJ h x (va_up (hp_J h x) i.toNatClampNeg v)) ad x = .inl (cy 2, hp_ln h x, .inr (.inl (vp_updL (hp_J h x) i.toNatClampNeg v))) := by
            rw [sd_ceJ (show hp_kd (hp_rJ h x (va_up (hp_J h x) i.toNatClampNeg v)) x = 2 from hkd)]
            simp only [sd_rJ_eq]
            rfl
          rw [← e1]
          exact sd_w_set hx0.1 rfl (fun q hq => sd_ce_eq rfl rfl rfl (sd_rJ_ne hq) rfl (fun _ => Or.inl rfl))
        rw [hnew] at hP1 hD1
        exact kk ad H1 locs1 ls ⟨r1, r2, fun w hw => r3 w (List.mem_cons_of_mem _ (List.mem_cons_of_mem _ (List.mem_cons_of_mem _ hw))), r4, r5, r6, hP1, hD1, hS1, r10, r11⟩
    · cases hs
  · cases hs
end SDA
end
section
-- ===== CALLS, RUNS: the pure machine's runs are the real ones =====
def sd_ws (q : Mi_) : List Cond := Cond.code q.1 q.2.1 q.2.2.1 q.2.2.2.1 :: sd_WS
def sd_rm (d k n : Nat) : Room := { frames := d, cells := k, slots := n, locals := 50 * d }
def sd_Pc (D : va_G) (cy : Nat → ClassId) (h : Hp_) (ad : Nat → Nat) (as : List Value) (sz : Nat) : Array Value → State → Prop := va_Pc (as.map (sd_re ad)) (fun U => U.heap.size = sz ∧ va_P D tt_cls (sd_w cy h ad) U.heap ∧ va_K D tt_cls (sd_tys cy) U ∧ va_D (fun _ => True) (sd_w cy h ad) ∧ sd_NW U ∧ sd_wf h ∧ ∀ v ∈ as, sd_vf (hp_nx h) v)
def sd_Qc (D : va_G) (cy : Nat → ClassId) (h : Hp_) (ad : Nat → Nat) (h' : Hp_) (r : Option Value) (sz : Nat) : Array Value → State → Outcome → State → Prop := fun _ st oc t => (∃ ad' : Nat → Nat, (∀ i, i ≤ hp_nx h → ad' i = ad i) ∧ oc = .returned (r.map (sd_re ad')) ∧ va_P D tt_cls (sd_w cy h' ad') t.heap ∧ va_D (va_A (sd_w cy h ad) sz) (sd_w cy h' ad') ∧ sd_wf h' ∧ (∀ v, r = some v → sd_vf (hp_nx h') v)) ∧ va_F (va_A (sd_w cy h ad) sz) st t
def sd_Met (l : Launch) (d : Nat) (D : va_G) (cy : Nat → ClassId) (q : Mi_) (h : Hp_) (ad : Nat → Nat) (as : List Value) (h' : Hp_) (r : Option Value) (sz : Nat) : Prop :=
  Met l q.1 (sd_ws q) (sd_rm d (hp_nx h' - hp_nx h) (hp_sl h' - hp_sl h)) (sd_Pc D cy h ad as sz) (sd_Qc D cy h ad h' r sz) (hp_nx h' - hp_nx h) (hp_sl h' - hp_sl h) (va_A (sd_w cy h ad) sz)
theorem sd_Pc_blind {D : va_G} {cy : Nat → ClassId} {h : Hp_} {ad : Nat → Nat} {as : List Value} {sz : Nat} : FrameBlind (sd_Pc D cy h ad as sz) := by
  intro a U g mk q
  obtain ⟨q1, q2, qP, qK, qD, qN, qW⟩ := q
  exact ⟨q1, q2, qP, va_K.moved (u := U) (U := U.calling g mk a) (Vm.Alike.refl U.vm) qK, qD, sd_NW.same (u := U) (U := U.calling g mk a) rfl qN, qW⟩
/-- what the tables say of a method -/
theorem sd_ml_ck {m : Nat} (hm : m < 206) : sd_ckM m = true ∧ sd_ckm m = true := by
  have key : ∀ (f : Nat → Bool) (lo n : Nat), (List.range' lo n).all f = true → lo ≤ m → m < lo + n → f m = true := by
    intro f lo n h h1 h2
    exact List.all_eq_true.mp h m (List.mem_range'_1.mpr ⟨h1, h2⟩)
  refine ⟨?_, ?_⟩
  · by_cases h : m < 13
    · exact key _ _ _ sd_okml0 (by omega) (by omega)
    by_cases h : m < 26
    · exact key _ _ _ sd_okml1 (by omega) (by omega)
    by_cases h : m < 39
    · exact key _ _ _ sd_okml2 (by omega) (by omega)
    by_cases h : m < 52
    · exact key _ _ _ sd_okml3 (by omega) (by omega)
    by_cases h : m < 65
    · exact key _ _ _ sd_okml4 (by omega) (by omega)
    by_cases h : m < 78
    · exact key _ _ _ sd_okml5 (by omega) (by omega)
    by_cases h : m < 91
    · exact key _ _ _ sd_okml6 (by omega) (by omega)
    by_cases h : m < 104
    · exact key _ _ _ sd_okml7 (by omega) (by omega)
    by_cases h : m < 117
    · exact key _ _ _ sd_okml8 (by omega) (by omega)
    by_cases h : m < 130
    · exact key _ _ _ sd_okml9 (by omega) (by omega)
    by_cases h : m < 143
    · exact key _ _ _ sd_okml10 (by omega) (by omega)
    by_cases h : m < 156
    · exact key _ _ _ sd_okml11 (by omega) (by omega)
    by_cases h : m < 169
    · exact key _ _ _ sd_okml12 (by omega) (by omega)
    by_cases h : m < 182
    · exact key _ _ _ sd_okml13 (by omega) (by omega)
    by_cases h : m < 195
    · exact key _ _ _ sd_okml14 (by omega) (by omega)
    · exact key _ _ _ sd_okml15 (by omega) (by omega)
  · by_cases h : m < 13
    · exact key _ _ _ sd_okT0 (by omega) (by omega)
    by_cases h : m < 26
    · exact key _ _ _ sd_okT1 (by omega) (by omega)
    by_cases h : m < 39
    · exact key _ _ _ sd_okT2 (by omega) (by omega)
    by_cases h : m < 52
    · exact key _ _ _ sd_okT3 (by omega) (by omega)
    by_cases h : m < 65
    · exact key _ _ _ sd_okT4 (by omega) (by omega)
    by_cases h : m < 78
    · exact key _ _ _ sd_okT5 (by omega) (by omega)
    by_cases h : m < 91
    · exact key _ _ _ sd_okT6 (by omega) (by omega)
    by_cases h : m < 104
    · exact key _ _ _ sd_okT7 (by omega) (by omega)
    by_cases h : m < 117
    · exact key _ _ _ sd_okU0 (by omega) (by omega)
    by_cases h : m < 130
    · exact key _ _ _ sd_okU1 (by omega) (by omega)
    by_cases h : m < 143
    · exact key _ _ _ sd_okU2 (by omega) (by omega)
    by_cases h : m < 156
    · exact key _ _ _ sd_okU3 (by omega) (by omega)
    by_cases h : m < 169
    · exact key _ _ _ sd_okU4 (by omega) (by omega)
    by_cases h : m < 182
    · exact key _ _ _ sd_okU5 (by omega) (by omega)
    by_cases h : m < 195
    · exact key _ _ _ sd_okU6 (by omega) (by omega)
    · exact key _ _ _ sd_okU7 (by omega) (by omega)
theorem sd_ml_len : tt_ml.length = 206 := by decide +kernel
theorem sd_mw_len : tt_mw.length = 206 := by decide +kernel
theorem sd_xl_len : tt_xl.length = 206 := by decide +kernel
theorem sd_M {m : Nat} {q : Mi_} (hq : tt_ml[m]? = some q) : m < 206 := by rw [← sd_ml_len]; exact (List.getElem?_eq_some_iff.mp hq).1
/-- words of a method: own class, code, initialized, static or (instance, selects) -/
theorem sd_Mw {m : Nat} {q : Mi_} (hq : tt_ml[m]? = some q) : ∃ z, tt_mw[m]? = some z ∧ q.1.cls = tt_name z.1 ∧ plainName q.1.cls = true ∧ (q.1.cls ≠ "java/lang/invoke/MethodHandle" ∧ q.1.cls ≠ "java/lang/invoke/VarHandle") ∧ q.2.2.1 ≤ 30 ∧ Cond.code q.1 q.2.1 q.2.2.1 q.2.2.2.1 ∈ sd_WS ∧ Cond.initialized q.1.cls ∈ sd_WS ∧ (z.2.2.2.1 = true → Cond.static q.1 ∈ sd_WS) ∧ (z.2.2.2.1 = false → Cond.instanceMethod q.1 ∈ sd_WS ∧ (q.1.name ≠ "<init>" → Cond.selects q.1.cls q.1 q.1 ∈ sd_WS)) := by
  have hm := sd_M hq
  have h := (sd_ml_ck hm).1
  unfold sd_ckM at h
  rw [hq] at h
  obtain ⟨z, hz⟩ : ∃ z, tt_mw[m]? = some z := ⟨_, List.getElem?_eq_getElem (by rw [sd_mw_len]; exact hm)⟩
  rw [hz] at h
  obtain ⟨y, b, nL, ret, t⟩ := q
  obtain ⟨o, k1, k2, st, k3, k4⟩ := z
  simp only [Bool.and_eq_true, decide_eq_true_eq] at h
  obtain ⟨⟨⟨⟨⟨⟨⟨h1, h2⟩, h3⟩, h4⟩, h5⟩, h6⟩, h7⟩, h8⟩ := h
  refine ⟨_, hz, h1, h2, ⟨h3, h4⟩, h5, sd_in (by rw [Bool.and_eq_true, decide_eq_true_eq]; exact h6), sd_in (by rw [Bool.and_eq_true, decide_eq_true_eq]; exact h7), fun hst => ?_, fun hst => ?_⟩
  · dsimp only at hst
    subst hst
    simp only [if_true] at h8
    exact sd_in h8
  · dsimp only at hst
    subst hst
    rw [if_neg Bool.false_ne_true, Bool.and_eq_true] at h8
    refine ⟨sd_in h8.1, fun hn => ?_⟩
    rcases Bool.or_eq_true _ _ ▸ h8.2 with z | z
    · exact absurd (of_decide_eq_true z) hn
    · exact sd_in z
theorem sd_lk_zip {t : Tab_} {xs : List Nat} {f : (Nat × Ent_) × Nat → Bool} {pc : Nat} {e : Ent_} (hl : t.length = xs.length) (h : (t.zip xs).all f = true) (he : pm_lk t pc = some e) : ∃ x, f ((pc, e), x) = true := by
  induction t generalizing xs with
  | nil => cases he
  | cons a r ih =>
    obtain ⟨k, e0⟩ := a
    cases xs with
    | nil => cases hl
    | cons x xs =>
      rw [List.zip_cons_cons, List.all_cons, Bool.and_eq_true] at h
      unfold pm_lk at he
      split at he
      · rename_i hk
        cases he
        subst hk
        exact ⟨x, h.1⟩
      · exact ih (by simpa using hl) h.2 he
/-- every entry of a method's table has been looked at -/
theorem sd_Mt {m : Nat} {q : Mi_} (hq : tt_ml[m]? = some q) {z} (hz : tt_mw[m]? = some z) : ∀ pc e, pm_lk q.2.2.2.2 pc = some e → ∃ x, sd_ckE z.1 (decide (q.1.name = "<init>")) q.2.1 q.2.2.2.1 pc e x = true := by
  intro pc e he
  have hm := sd_M hq
  have h := (sd_ml_ck hm).2
  unfold sd_ckm at h
  obtain ⟨xs, hx⟩ : ∃ xs, tt_xl[m]? = some xs := ⟨_, List.getElem?_eq_getElem (by rw [sd_xl_len]; exact hm)⟩
  rw [hq, hz, hx] at h
  obtain ⟨y, b, nL, ret, t⟩ := q
  obtain ⟨o, z2⟩ := z
  unfold sd_ckT at h
  rw [Bool.and_eq_true, decide_eq_true_eq] at h
  exact sd_lk_zip h.1 h.2 he
theorem sd_rM_of {x : Nat} {r : Nat × Nat × Nat × Nat × Nat} (hx : tt_rM[x]? = some r) : r ∈ tt_rM ∧ (r.2.2.2.1 ≠ 1 → sd_wM r ∈ sd_WS) := by
  have hm := List.mem_of_getElem? hx
  have h := List.all_eq_true.mp sd_okM r hm
  simp only [Bool.and_eq_true, Bool.or_eq_true, decide_eq_true_eq] at h
  refine ⟨hm, fun hd => ?_⟩
  rcases h.2 with q | q
  · exact absurd q hd
  · exact sd_in (by rw [Bool.and_eq_true, decide_eq_true_eq]; exact ⟨h.1, q⟩)
theorem sd_y_of {m : Nat} {q : Mi_} (hq : tt_ml[m]? = some q) : sd_y m = q.1 := by
  obtain ⟨h1, h2⟩ := List.getElem?_eq_some_iff.mp hq
  unfold sd_y
  rw [dif_pos h1, h2]
end
section
-- ===== growth; a call; a run =====
set_option maxHeartbeats 4000000 in
theorem sd_mono {sc : Sc_} {pc : Nat} {e : Ent_} {L : Lc_} {st : List Value} {h : Hp_} {pc' : Nat} {L' : Lc_} {st' : List Value} {h' : Hp_} (hs : pm_sem sc pc e L st h = some (.inl (pc', L', st', h'))) : hp_nx h ≤ hp_nx h' ∧ hp_sl h ≤ hp_sl h' := by
  obtain ⟨i, n, a, b, c, d, v, w⟩ := e
  cases i <;> simp only [pm_sem, pm_ldA, pm_ldI, pm_ldJ, pm_stI, pm_stA, pm_stL, pm_inc, pm_bin, pm_div, pm_binL, pm_divL, pm_cmpL, pm_i2l, pm_l2i, pm_dup, pm_pop, pm_if, pm_icmp, pm_sw, pm_getf, pm_putf, pm_new, pm_newa, pm_alen, pm_iald, pm_zald, pm_lald, pm_iast, pm_zast, pm_last, pm_callV, pm_callS, pm_callI, pm_iret, pm_lret, pm_aret, pm_vret, reduceCtorEq] at hs <;> (repeat' split at hs) <;> cases hs <;> first | exact ⟨Nat.le_refl _, Nat.le_refl _⟩ | exact ⟨Nat.le_succ _, Nat.le_add_right _ _⟩
/-- with a call that grows, a run grows -/
def sd_Cm (call : Nat → List Value → Hp_ → Option (Option Value × Hp_)) : Prop := ∀ y as h r h', call y as h = some (r, h') → hp_nx h ≤ hp_nx h' ∧ hp_sl h ≤ hp_sl h'
set_option maxHeartbeats 4000000 in
theorem sd_ret_eq {sc : Sc_} {pc : Nat} {e : Ent_} {L : Lc_} {st : List Value} {h : Hp_} {r : Option Value} {h' : Hp_} (hs : pm_sem sc pc e L st h = some (.inr (.inl (r, h')))) : h' = h := by
  obtain ⟨i, n, a, b, c, d, v, w⟩ := e
  cases i <;> simp only [pm_sem, pm_ldA, pm_ldI, pm_ldJ, pm_stI, pm_stA, pm_stL, pm_inc, pm_bin, pm_div, pm_binL, pm_divL, pm_cmpL, pm_i2l, pm_l2i, pm_dup, pm_pop, pm_if, pm_icmp, pm_sw, pm_getf, pm_putf, pm_new, pm_newa, pm_alen, pm_iald, pm_zald, pm_lald, pm_iast, pm_zast, pm_last, pm_callV, pm_callS, pm_callI, pm_iret, pm_lret, pm_aret, pm_vret, reduceCtorEq] at hs <;> (repeat' split at hs) <;> cases hs <;> rfl
theorem sd_ex_mono {call : Nat → List Value → Hp_ → Option (Option Value × Hp_)} (hc : sd_Cm call) {tab : Tab_} {sc : Sc_} : ∀ (N pc : Nat) (L : Lc_) (st : List Value) (h : Hp_) (r : Option Value) (h' : Hp_), pm_ex call tab sc N pc L st h = some (r, h') → hp_nx h ≤ hp_nx h' ∧ hp_sl h ≤ hp_sl h' := by
  intro N
  induction N with
  | zero => intro pc L st h r h' hs; cases hs
  | succ N ih =>
    intro pc L st h r h' hs
    rw [pm_ex] at hs
    split at hs
    · cases hs
    · rename_i e he
      split at hs
      · cases hs
      · rename_i pc1 L1 st1 h1 hs1
        have h1' := sd_mono hs1
        have h2' := ih _ _ _ _ _ _ hs
        exact ⟨Nat.le_trans h1'.1 h2'.1, Nat.le_trans h1'.2 h2'.2⟩
      · rename_i r1 hs1
        cases hs
        rw [sd_ret_eq hs1]
        exact ⟨Nat.le_refl _, Nat.le_refl _⟩
      · rename_i y as pc1 L1 st1 hs1
        split at hs
        · cases hs
        · rename_i r1 h1 hcl
          have h1' := hc _ _ _ _ _ hcl
          have h2' := ih _ _ _ _ _ _ hs
          exact ⟨Nat.le_trans h1'.1 h2'.1, Nat.le_trans h1'.2 h2'.2⟩
theorem sd_call_mono (ms : Nat → Option Mi_) (N : Nat) : ∀ d, sd_Cm (pm_call ms d N) := by
  intro d
  induction d with
  | zero => intro y as h r h' hs; cases hs
  | succ d ih =>
    intro y as h r h' hs
    rw [pm_call] at hs
    split at hs
    · cases hs
    · split at hs
      · exact sd_ex_mono ih _ _ _ _ _ _ _ hs
      · cases hs
section SDC
variable {p : Program} {l : Launch} {e : Env} {R : Room} {s : State} {m : MethodId} {args : Array Value} {below : List Frame} {meth : Method} {c : Code} {Q : State → Prop} {D : va_G} {cy : Nat → ClassId} {ad0 : Nat → Nat} {n0 s0 : Nat} {A : Nat → Prop} {H0 : Heap} {nL o : Nat} {cc : ByteArray} {ini : Bool} {pc pc' n : Nat} {L L' : Lc_} {st st' : List Value} {h h' : Hp_}
/-- behind a call -/
theorem sd_after {H : Heap} {locs : List Loc} {ls : Array Slot} {ad : Nat → Nat} {r : Option Value} {aa : Array Value} {st0 : List Value} {cells slots mc ms : Nat} (hA : ∀ q, H0.size ≤ q → A q)
    (hrel : sd_wf h ∧ (∀ v, some v ∈ L → sd_vf (hp_nx h) v) ∧ (∀ v ∈ st', sd_vf (hp_nx h) v) ∧ n0 ≤ hp_nx h ∧ s0 ≤ hp_sl h ∧ (∀ i, i ≤ n0 → ad i = ad0 i) ∧ va_P D tt_cls (sd_w cy h ad) H ∧ va_D A (sd_w cy h ad) ∧ va_S A H0 H locs ∧ L.length = nL ∧ lv_has ls nL (sd_as ad L))
    (hgr : hp_nx h ≤ hp_nx h' ∧ hp_sl h ≤ hp_sl h') (hc1 : cells + mc = hp_nx h' - n0) (hc2 : slots + ms = hp_sl h' - s0)
    (hr : va_Run p l e R s m args below meth c H locs cells slots mc ms (F0 m pc ls st0) (st'.map (sd_re ad)) (sd_Qc D cy h ad h' r H.size aa) (va_A (sd_w cy h ad) H.size))
    (kk : sd_G p l e R s m args below meth c Q D cy ad0 n0 s0 A H0 nL (pc + 3) L (r.toList ++ st') h') : W p l e R s m args below meth c H locs cells slots Q (F0 m pc ls st0) := by
  obtain ⟨r1, r2, r3, r4, r5, r6, r7, r8, r9, r10, r11⟩ := hrel
  have hfr : ∀ q, va_A (sd_w cy h ad) H.size q → A q := by
    intro q hq
    rcases hq with ⟨k, e, hk⟩ | hq
    · exact r8.2 k (q, e) hk
    · exact hA q (Nat.le_trans r9.1 hq)
  intro T hT X
  obtain ⟨v, st₀, t, T', Lx, h0, X', hL, e1, e2, ⟨⟨ad', ha, hv, hP, hD, hwf, hvf⟩, hz, hk⟩, stp⟩ := hr T hT X
  cases hv
  rw [h0] at hz hk
  have hS : va_S A H0 T'.heap (locs ++ Lx) := ⟨Nat.le_trans r9.1 (by rw [e1]; exact hz), fun q h1 h2 => by
      rw [e1, hk q (Nat.lt_of_lt_of_le h1 r9.1) (fun z => h2 (hfr q z))]
      exact r9.2.1 q h1 h2, fun q hq => by
      rcases List.mem_append.mp hq with z | z
      · exact r9.2.2 q z
      · exact hfr _ (hL q z)⟩
  have hrel' : sd_Rel D cy ad0 n0 s0 A H0 nL L (r.toList ++ st') h' ad' T'.heap (locs ++ Lx) ls := ⟨hwf, fun v hv => sd_vf_mono hgr.1 (r2 v hv), fun v hv => by
      rcases List.mem_append.mp hv with z | z
      · exact hvf v (by cases r with | none => cases z | some x => simp only [Option.toList, List.mem_singleton] at z; rw [z])
      · exact sd_vf_mono hgr.1 (r3 v z), Nat.le_trans r4 hgr.1, Nat.le_trans r5 hgr.2, fun i hi => by rw [ha i (Nat.le_trans hi r4)]; exact r6 i hi, by rw [e1]; exact hP, hD.weaken (fun k q _ z => hfr q.1 z), hS, r10, by rw [sd_as_eq r2 ha]; exact r11⟩
  have kkk := kk ad' T'.heap (locs ++ Lx) ls hrel'
  rw [← hc1, ← hc2] at kkk
  have est : (r.toList ++ st').map (sd_re ad') = (r.map (sd_re ad')).toList ++ st'.map (sd_re ad) := by
    rw [List.map_append, sd_st_eq r3 ha]
    cases r <;> rfl
  rw [est] at kkk
  obtain ⟨t2, a1, b1⟩ := kkk T' rfl X'
  exact ⟨t2, stp t2 a1, b1⟩
end SDC
end
section
-- ===== the call instructions =====
theorem sd_sum_le (l : List Value) : (l.map (fun v => v.category)).sum ≤ 2 * l.length := by
  induction l with
  | nil => exact Nat.le_refl _
  | cons v t ih =>
    have hv : v.category ≤ 2 := by cases v <;> simp [Value.category]
    simp only [List.map_cons, List.sum_cons, List.length_cons]
    omega
theorem sd_sum_re (ad : Nat → Nat) (l : List Value) : ((l.map (sd_re ad)).map (fun v => v.category)).sum ≤ 2 * l.length := by
  have := sd_sum_le (l.map (sd_re ad))
  rw [List.length_map] at this
  exact this
theorem sd_split {st : List Value} {b : Nat} {v : Value} (h : st[b]? = some v) : st = st.take b ++ v :: st.drop (b + 1) := by
  obtain ⟨h1, h2⟩ := List.getElem?_eq_some_iff.mp h
  rw [← h2, List.getElem_cons_drop, List.take_append_drop]
section SDK
variable {p : Program} {l : Launch} {e : Env} {R : Room} {s : State} {m : MethodId} {args : Array Value} {below : List Frame} {meth : Method} {c : Code} {Q : State → Prop} {D : va_G} {cy : Nat → ClassId} {ad0 : Nat → Nat} {n0 s0 : Nat} {A : Nat → Prop} {H0 : Heap} {nL o : Nat} {cc : ByteArray} {ini : Bool} {pc pc' n : Nat} {L L' : Lc_} {st st' : List Value} {h h' : Hp_}
theorem sd_link {x idx a d : Nat} {r : Nat × Nat × Nat × Nat × Nat} {q : Mi_} (F : sd_Fix p s m args meth c cc nL o ini D cy) (hx : tt_rM[x]? = some r) (hr : r.1 = o ∧ r.2.1 = idx ∧ r.2.2.1 = a ∧ r.2.2.2.1 = d) (hq : tt_ml[a]? = some q) : (d = 0 → (Cond.methodLink (tt_name o) idx q.1).before args s = true) ∧ (d = 1 → (Cond.methodLinkNest (tt_name o) idx q.1 "RoundDance").before args s = true) := by
  obtain ⟨hm, hw⟩ := sd_rM_of hx
  obtain ⟨o', idx', a', d', k⟩ := r
  obtain ⟨e1, e2, e3, e4⟩ := hr
  dsimp only at e1 e2 e3 e4
  subst e1; subst e2; subst e3; subst e4
  have hy := sd_y_of hq
  refine ⟨fun hd => ?_, fun hd => ?_⟩
  · subst hd
    have := F.2.2.2.2.1 _ (hw (fun z => by cases z))
    simpa [sd_wM, hy] using this
  · have := F.2.2.2.2.2.1.2 _ hm hd
    subst hd
    have this : va_Nw (.methodLinkNest (tt_name o') idx' q.1 "RoundDance") s := by simpa [sd_wM, hy] using this
    exact va_Nw.use rfl this
theorem sd_link2 {x idx : Nat} {r : Nat × Nat × Nat × Nat × Nat} (F : sd_Fix p s m args meth c cc nL o ini D cy) (hx : tt_rM[x]? = some r) (hr : r.1 = o ∧ r.2.1 = idx ∧ r.2.2.2.1 = 2) : (Cond.methodLink (tt_name o) idx objectInit).before args s = true := by
  obtain ⟨hm, hw⟩ := sd_rM_of hx
  obtain ⟨o', idx', a', d', k⟩ := r
  obtain ⟨e1, e2, e3⟩ := hr
  dsimp only at e1 e2 e3
  subst e1; subst e2; subst e3
  have := F.2.2.2.2.1 _ (hw (fun z => by cases z))
  simpa [sd_wM] using this
/-- the callee's words, in the caller's -/
theorem sd_pay {q : Mi_} (F : sd_Fix p s m args meth c cc nL o ini D cy) (hc : Cond.code q.1 q.2.1 q.2.2.1 q.2.2.2.1 ∈ sd_WS) : ∀ w ∈ sd_ws q, ∀ (a' : Array Value) (U : State), s.WarmedH U.vm → w.before a' U = true := by
  have hg : GoodIn sd_WS (sd_ws q) := by
    intro w hw
    have hw2 : w ∈ sd_WS := by
      rcases List.mem_cons.mp hw with rfl | z
      · exact hc
      · exact z
    exact ⟨hw2, good_of_word (List.mem_filter.mp hw2).2⟩
  exact pay_in F.2.2.2.2.1 hg
theorem sd_Pc_of {H : Heap} {ad : Nat → Nat} {as : List Value} (F : sd_Fix p s m args meth c cc nL o ini D cy) (hP : va_P D tt_cls (sd_w cy h ad) H) (hD : va_D A (sd_w cy h ad)) (hwf : sd_wf h) (hvf : ∀ v ∈ as, sd_vf (hp_nx h) v) : ∀ U : State, U.heap = H → s.WarmedH U.vm → sd_Pc D cy h ad as H.size (as.map (sd_re ad)).toArray U :=
  fun U hU hW => ⟨rfl, by rw [hU], by rw [hU]; exact hP, va_K.moved hW.alike F.2.2.2.2.2.2.1, hD.weaken (fun _ _ _ _ => trivial), sd_NW.warm hW F.2.2.2.2.2.1, hwf, hvf⟩
theorem sdi_callV {x idx a b cl d : Nat} {r : Nat × Nat × Nat × Nat × Nat} {q : Mi_} (F : sd_Fix p s m args meth c cc nL o ini D cy) (hd : decode cc pc = .ok (.invokevirtual idx, 3)) (hn : n = pc + 3) (hx : tt_rM[x]? = some r) (hr : r.1 = o ∧ r.2.1 = idx ∧ r.2.2.1 = a ∧ r.2.2.2.1 = d) (hd1 : d ≤ 1) (hq : tt_ml[a]? = some q) (hst : ∀ z, tt_mw[a]? = some z → z.2.2.2.1 = false) (hnp : (parseMethodDescriptor q.1.desc).map (fun q => q.parameters.length) = some b) (hC : q.1.cls = (tt_c cl).1) (hcl : cl < 11) (hnm : q.1.name ≠ "<init>") {d1 : Nat} (hA : ∀ q, H0.size ≤ q → A q) (hRf : d1 + 1 ≤ R.frames) (hRl : 50 * (d1 + 1) ≤ R.locals) (hgr : hp_nx h ≤ hp_nx h' ∧ hp_sl h ≤ hp_sl h') (hcr : hp_nx h' - n0 ≤ R.cells) (hsr : hp_sl h' - s0 ≤ R.slots) {rv : Option Value} {as : List Value} (hs : pm_callV a b cl n L st h = some (.inr (.inr (a, as, pc', L', st')))) (hM : ∀ (ad : Nat → Nat) (sz : Nat), sd_Met l d1 D cy q h ad as h' rv sz) (kk : sd_G p l e R s m args below meth c Q D cy ad0 n0 s0 A H0 nL pc' L' (rv.toList ++ st') h') : sd_G p l e R s m args below meth c Q D cy ad0 n0 s0 A H0 nL pc L st h := by
  unfold pm_callV at hs
  split at hs
  · split at hs
    · rename_i ob hob
      split at hs
      · rename_i hk
        cases hs
        intro ad H locs ls ⟨r1, r2, r3, r4, r5, r6, r7, r8, r9, r10, r11⟩
        subst hn
        obtain ⟨z, hz, hcls, -, hcn, hnl, hcode, hini, -, hins⟩ := sd_Mw hq
        have hins := hins (hst z hz)
        have hsp := sd_split hob
        have hx0 := r1.2 ob (by rw [hk.1]; omega)
        have he := sd_w_at (cy := cy) (ad := ad) hx0.1 hx0.2
        rw [sd_ceO hk.1] at he
        have hstk : st.map (sd_re ad) = (((st.take b).reverse).map (sd_re ad)).reverse ++ .ref (ad ob) :: (st.drop (b + 1)).map (sd_re ad) := by
          rw [← List.map_reverse, List.reverse_reverse]
          conv => lhs; rw [hsp]
          rw [List.map_append]
          rfl
        have hlen : (((st.take b).reverse).map (sd_re ad)).length = b := by
          rw [List.length_map, List.length_reverse, List.length_take]
          have := (List.getElem?_eq_some_iff.mp hob).1
          omega
        have hroom := sd_sum_re ad (st.drop (b + 1))
        have hpl : ∀ sig, parseMethodDescriptor q.1.desc = some sig → b = sig.parameters.length := by
          intro sig hsig
          rw [hsig] at hnp
          exact (Option.some.inj hnp).symm
        have hrel : sd_wf h ∧ (∀ v, some v ∈ L → sd_vf (hp_nx h) v) ∧ (∀ v ∈ st.drop (b + 1), sd_vf (hp_nx h) v) ∧ n0 ≤ hp_nx h ∧ s0 ≤ hp_sl h ∧ (∀ i, i ≤ n0 → ad i = ad0 i) ∧ va_P D tt_cls (sd_w cy h ad) H ∧ va_D A (sd_w cy h ad) ∧ va_S A H0 H locs ∧ L.length = nL ∧ lv_has ls nL (sd_as ad L) := ⟨r1, r2, fun v hv => r3 v (List.mem_of_mem_drop hv), r4, r5, r6, r7, r8, r9, r10, r11⟩
        have hb3 : 8 + (q.2.2.1 + 11) + (sd_rm d1 (hp_nx h' - hp_nx h) (hp_sl h' - hp_sl h)).locals ≤ R.locals := by show 8 + (q.2.2.1 + 11) + 50 * d1 ≤ _; omega
        have hcells : hp_nx h - n0 + (hp_nx h' - hp_nx h) = hp_nx h' - n0 := by omega
        have hslots : hp_sl h - s0 + (hp_sl h' - hp_sl h) = hp_sl h' - s0 := by omega
        have hf : hp_nx h - n0 + (hp_nx h' - hp_nx h) ≤ R.cells ∧ hp_sl h - s0 + (hp_sl h' - hp_sl h) ≤ R.slots := ⟨by omega, by omega⟩
        have hrm : 2 * (F0 m pc ls (st.map (sd_re ad))).monitorRoom + (((st.drop (b + 1)).map (sd_re ad)).map fun v => v.category).sum ≤ 8 := lv_room (by have := hk.2; omega)
        have hlk := sd_link F hx hr hq
        have hasv : ∀ v ∈ Value.ref ob :: (st.take b).reverse, sd_vf (hp_nx h) v := by
          intro v hv
          rcases List.mem_cons.mp hv with rfl | hv
          · exact r3 _ (List.mem_of_getElem? hob)
          · exact r3 v (List.mem_of_mem_take (List.mem_reverse.mp hv))
        rcases Nat.lt_or_ge d 1 with hd1 | hd1
        · have hlk := hlk.1 (by omega)
          exact sd_after hA hrel hgr hcells hslots (va_runV (C := (tt_c cl).1) ⟨F.1, F.2.1, F.2.2.1, F.2.2.2.1, F.2.2.2.2.1⟩ (hM ad H.size) ⟨⟨rfl, rfl, hRf, hb3, sd_pay F hcode, List.mem_cons_self, F.2.2.2.2.1 _ hcode, F.2.2.2.2.1 _ hini, hcn, hpl, hlk⟩, F.2.2.2.2.1 _ hins.1, by rw [← hC]; exact F.2.2.2.2.1 _ (hins.2 hnm)⟩ ⟨sd_Pc_blind, va_recv F.2.2.2.2.2.2.1 r7 (sd_cls_at cl hcl) he, sd_Pc_of F r7 r8 r1 hasv⟩ rfl hlen r11.1 hstk hrm hd hf) kk
        · have hlk := hlk.2 (by omega)
          exact sd_after hA hrel hgr hcells hslots (va_runVN (C := (tt_c cl).1) ⟨F.1, F.2.1, F.2.2.1, F.2.2.2.1, F.2.2.2.2.1⟩ (hM ad H.size) ⟨⟨⟨rfl, rfl, hRf, hb3, sd_pay F hcode, List.mem_cons_self⟩, F.2.2.2.2.1 _ hcode, F.2.2.2.2.1 _ hini, hcn, hpl, hlk⟩, F.2.2.2.2.1 _ hins.1, by rw [← hC]; exact F.2.2.2.2.1 _ (hins.2 hnm)⟩ ⟨sd_Pc_blind, va_recv F.2.2.2.2.2.2.1 r7 (sd_cls_at cl hcl) he, sd_Pc_of F r7 r8 r1 hasv⟩ rfl hlen r11.1 hstk hrm hd hf) kk
      · cases hs
    · cases hs
  · cases hs
theorem sdi_callI {x idx a b cl d : Nat} {r : Nat × Nat × Nat × Nat × Nat} {q : Mi_} (F : sd_Fix p s m args meth c cc nL o ini D cy) (hd : decode cc pc = .ok (.invokespecial idx, 3)) (hn : n = pc + 3) (hx : tt_rM[x]? = some r) (hr : r.1 = o ∧ r.2.1 = idx ∧ r.2.2.1 = a ∧ r.2.2.2.1 = d) (hd1 : d ≤ 1) (hq : tt_ml[a]? = some q) (hst : ∀ z, tt_mw[a]? = some z → z.2.2.2.1 = false) (hnp : (parseMethodDescriptor q.1.desc).map (fun q => q.parameters.length) = some b) (hrn : q.2.2.2.1 = none) (hnm : q.1.name = "<init>") {d1 : Nat} (hA : ∀ q, H0.size ≤ q → A q) (hRf : d1 + 1 ≤ R.frames) (hRl : 50 * (d1 + 1) ≤ R.locals) (hgr : hp_nx h ≤ hp_nx h' ∧ hp_sl h ≤ hp_sl h') (hcr : hp_nx h' - n0 ≤ R.cells) (hsr : hp_sl h' - s0 ≤ R.slots) {rv : Option Value} {as : List Value} (hs : pm_callV a b cl n L st h = some (.inr (.inr (a, as, pc', L', st')))) (hM : ∀ (ad : Nat → Nat) (sz : Nat), sd_Met l d1 D cy q h ad as h' rv sz) (kk : sd_G p l e R s m args below meth c Q D cy ad0 n0 s0 A H0 nL pc' L' (rv.toList ++ st') h') : sd_G p l e R s m args below meth c Q D cy ad0 n0 s0 A H0 nL pc L st h := by
  unfold pm_callV at hs
  split at hs
  · split at hs
    · rename_i ob hob
      split at hs
      · rename_i hk
        cases hs
        intro ad H locs ls ⟨r1, r2, r3, r4, r5, r6, r7, r8, r9, r10, r11⟩
        subst hn
        obtain ⟨z, hz, hcls, -, hcn, hnl, hcode, hini, -, hins⟩ := sd_Mw hq
        have hins := hins (hst z hz)
        have hsp := sd_split hob
        have hx0 := r1.2 ob (by rw [hk.1]; omega)
        have he := sd_w_at (cy := cy) (ad := ad) hx0.1 hx0.2
        rw [sd_ceO hk.1] at he
        have hstk : st.map (sd_re ad) = (((st.take b).reverse).map (sd_re ad)).reverse ++ .ref (ad ob) :: (st.drop (b + 1)).map (sd_re ad) := by
          rw [← List.map_reverse, List.reverse_reverse]
          conv => lhs; rw [hsp]
          rw [List.map_append]
          rfl
        have hlen : (((st.take b).reverse).map (sd_re ad)).length = b := by
          rw [List.length_map, List.length_reverse, List.length_take]
          have := (List.getElem?_eq_some_iff.mp hob).1
          omega
        have hroom := sd_sum_re ad (st.drop (b + 1))
        have hpl : ∀ sig, parseMethodDescriptor q.1.desc = some sig → b = sig.parameters.length := by
          intro sig hsig
          rw [hsig] at hnp
          exact (Option.some.inj hnp).symm
        have hrel : sd_wf h ∧ (∀ v, some v ∈ L → sd_vf (hp_nx h) v) ∧ (∀ v ∈ st.drop (b + 1), sd_vf (hp_nx h) v) ∧ n0 ≤ hp_nx h ∧ s0 ≤ hp_sl h ∧ (∀ i, i ≤ n0 → ad i = ad0 i) ∧ va_P D tt_cls (sd_w cy h ad) H ∧ va_D A (sd_w cy h ad) ∧ va_S A H0 H locs ∧ L.length = nL ∧ lv_has ls nL (sd_as ad L) := ⟨r1, r2, fun v hv => r3 v (List.mem_of_mem_drop hv), r4, r5, r6, r7, r8, r9, r10, r11⟩
        have hb3 : 8 + (q.2.2.1 + 11) + (sd_rm d1 (hp_nx h' - hp_nx h) (hp_sl h' - hp_sl h)).locals ≤ R.locals := by show 8 + (q.2.2.1 + 11) + 50 * d1 ≤ _; omega
        have hcells : hp_nx h - n0 + (hp_nx h' - hp_nx h) = hp_nx h' - n0 := by omega
        have hslots : hp_sl h - s0 + (hp_sl h' - hp_sl h) = hp_sl h' - s0 := by omega
        have hf : hp_nx h - n0 + (hp_nx h' - hp_nx h) ≤ R.cells ∧ hp_sl h - s0 + (hp_sl h' - hp_sl h) ≤ R.slots := ⟨by omega, by omega⟩
        have hrm : 2 * (F0 m pc ls (st.map (sd_re ad))).monitorRoom + (((st.drop (b + 1)).map (sd_re ad)).map fun v => v.category).sum ≤ 8 := lv_room (by have := hk.2; omega)
        have hlk := sd_link F hx hr hq
        have hasv : ∀ v ∈ Value.ref ob :: (st.take b).reverse, sd_vf (hp_nx h) v := by
          intro v hv
          rcases List.mem_cons.mp hv with rfl | hv
          · exact r3 _ (List.mem_of_getElem? hob)
          · exact r3 v (List.mem_of_mem_take (List.mem_reverse.mp hv))
        have hcode2 : Cond.code q.1 q.2.1 q.2.2.1 none ∈ sd_ws q := by
          have : Cond.code q.1 q.2.1 q.2.2.1 q.2.2.2.1 ∈ sd_ws q := List.mem_cons_self
          rw [hrn] at this
          exact this
        have hcode3 : (Cond.code q.1 q.2.1 q.2.2.1 none).before args s = true := by
          have := F.2.2.2.2.1 _ hcode
          rw [hrn] at this
          exact this
        rcases Nat.lt_or_ge d 1 with hd1 | hd1
        · have hlk := hlk.1 (by omega)
          exact sd_after hA hrel hgr hcells hslots (va_runI ⟨F.1, F.2.1, F.2.2.1, F.2.2.2.1, F.2.2.2.2.1⟩ (hM ad H.size) ⟨⟨rfl, rfl, hRf, hb3, sd_pay F hcode, hcode2, hcode3, F.2.2.2.2.1 _ hini, hcn, hpl, hlk⟩, hnm, F.2.2.2.2.1 _ hins.1⟩ ⟨sd_Pc_blind, sd_Pc_of F r7 r8 r1 hasv⟩ rfl hlen r11.1 hstk hrm hd hf) kk
        · have hlk := hlk.2 (by omega)
          exact sd_after hA hrel hgr hcells hslots (va_runIN ⟨F.1, F.2.1, F.2.2.1, F.2.2.2.1, F.2.2.2.2.1⟩ (hM ad H.size) ⟨⟨⟨rfl, rfl, hRf, hb3, sd_pay F hcode, hcode2⟩, hcode3, F.2.2.2.2.1 _ hini, hcn, hpl, hlk⟩, hnm, F.2.2.2.2.1 _ hins.1⟩ ⟨sd_Pc_blind, sd_Pc_of F r7 r8 r1 hasv⟩ rfl hlen r11.1 hstk hrm hd hf) kk
      · cases hs
    · cases hs
  · cases hs
theorem sdi_callS {x idx a b d : Nat} {r : Nat × Nat × Nat × Nat × Nat} {q : Mi_} (F : sd_Fix p s m args meth c cc nL o ini D cy) (hd : decode cc pc = .ok (.invokestatic idx, 3)) (hn : n = pc + 3) (hx : tt_rM[x]? = some r) (hr : r.1 = o ∧ r.2.1 = idx ∧ r.2.2.1 = a ∧ r.2.2.2.1 = d) (hd1 : d ≤ 1) (hq : tt_ml[a]? = some q) (hst : ∀ z, tt_mw[a]? = some z → z.2.2.2.1 = true) (hnp : (parseMethodDescriptor q.1.desc).map (fun q => q.parameters.length) = some b) {d1 : Nat} (hA : ∀ q, H0.size ≤ q → A q) (hRf : d1 + 1 ≤ R.frames) (hRl : 50 * (d1 + 1) ≤ R.locals) (hgr : hp_nx h ≤ hp_nx h' ∧ hp_sl h ≤ hp_sl h') (hcr : hp_nx h' - n0 ≤ R.cells) (hsr : hp_sl h' - s0 ≤ R.slots) {rv : Option Value} {as : List Value} (hs : pm_callS a b n L st h = some (.inr (.inr (a, as, pc', L', st')))) (hM : ∀ (ad : Nat → Nat) (sz : Nat), sd_Met l d1 D cy q h ad as h' rv sz) (kk : sd_G p l e R s m args below meth c Q D cy ad0 n0 s0 A H0 nL pc' L' (rv.toList ++ st') h') : sd_G p l e R s m args below meth c Q D cy ad0 n0 s0 A H0 nL pc L st h := by
  unfold pm_callS at hs
  split at hs
  · rename_i hk
    cases hs
    intro ad H locs ls ⟨r1, r2, r3, r4, r5, r6, r7, r8, r9, r10, r11⟩
    subst hn
    obtain ⟨z, hz, hcls, -, hcn, hnl, hcode, hini, hstt, -⟩ := sd_Mw hq
    have hstt := hstt (hst z hz)
    have hstk : st.map (sd_re ad) = (((st.take b).reverse).map (sd_re ad)).reverse ++ (st.drop b).map (sd_re ad) := by
      rw [← List.map_reverse, List.reverse_reverse, ← List.map_append, List.take_append_drop]
    have hlen : (((st.take b).reverse).map (sd_re ad)).length = b := by
      rw [List.length_map, List.length_reverse, List.length_take]
      have := hk.1
      omega
    have hroom := sd_sum_re ad (st.drop b)
    have hpl : ∀ sig, parseMethodDescriptor q.1.desc = some sig → b = sig.parameters.length := by
      intro sig hsig
      rw [hsig] at hnp
      exact (Option.some.inj hnp).symm
    have hrel : sd_wf h ∧ (∀ v, some v ∈ L → sd_vf (hp_nx h) v) ∧ (∀ v ∈ st.drop b, sd_vf (hp_nx h) v) ∧ n0 ≤ hp_nx h ∧ s0 ≤ hp_sl h ∧ (∀ i, i ≤ n0 → ad i = ad0 i) ∧ va_P D tt_cls (sd_w cy h ad) H ∧ va_D A (sd_w cy h ad) ∧ va_S A H0 H locs ∧ L.length = nL ∧ lv_has ls nL (sd_as ad L) := ⟨r1, r2, fun v hv => r3 v (List.mem_of_mem_drop hv), r4, r5, r6, r7, r8, r9, r10, r11⟩
    have hb3 : 8 + (q.2.2.1 + 11) + (sd_rm d1 (hp_nx h' - hp_nx h) (hp_sl h' - hp_sl h)).locals ≤ R.locals := by show 8 + (q.2.2.1 + 11) + 50 * d1 ≤ _; omega
    have hcells : hp_nx h - n0 + (hp_nx h' - hp_nx h) = hp_nx h' - n0 := by omega
    have hslots : hp_sl h - s0 + (hp_sl h' - hp_sl h) = hp_sl h' - s0 := by omega
    have hf : hp_nx h - n0 + (hp_nx h' - hp_nx h) ≤ R.cells ∧ hp_sl h - s0 + (hp_sl h' - hp_sl h) ≤ R.slots := ⟨by omega, by omega⟩
    have hrm : 2 * (F0 m pc ls (st.map (sd_re ad))).monitorRoom + (((st.drop b).map (sd_re ad)).map fun v => v.category).sum ≤ 8 := lv_room (by have := hk.2; omega)
    have hlk := sd_link F hx hr hq
    have hasv : ∀ v ∈ (st.take b).reverse, sd_vf (hp_nx h) v := fun v hv => r3 v (List.mem_of_mem_take (List.mem_reverse.mp hv))
    rcases Nat.lt_or_ge d 1 with hd1 | hd1
    · have hlk := hlk.1 (by omega)
      exact sd_after hA hrel hgr hcells hslots (va_runS ⟨F.1, F.2.1, F.2.2.1, F.2.2.2.1, F.2.2.2.2.1⟩ (hM ad H.size) ⟨⟨rfl, rfl, hRf, hb3, sd_pay F hcode, List.mem_cons_self, F.2.2.2.2.1 _ hcode, F.2.2.2.2.1 _ hini, hcn, hpl, hlk⟩, F.2.2.2.2.1 _ hstt⟩ ⟨sd_Pc_blind, sd_Pc_of F r7 r8 r1 hasv⟩ rfl hlen r11.1 hstk hrm hd hf) kk
    · have hlk := hlk.2 (by omega)
      exact sd_after hA hrel hgr hcells hslots (va_runSN ⟨F.1, F.2.1, F.2.2.1, F.2.2.2.1, F.2.2.2.2.1⟩ (hM ad H.size) ⟨⟨⟨rfl, rfl, hRf, hb3, sd_pay F hcode, List.mem_cons_self⟩, F.2.2.2.2.1 _ hcode, F.2.2.2.2.1 _ hini, hcn, hpl, hlk⟩, F.2.2.2.2.1 _ hstt, trivial⟩ ⟨sd_Pc_blind, sd_Pc_of F r7 r8 r1 hasv⟩ rfl hlen r11.1 hstk hrm hd hf) kk
  · cases hs
theorem sdi_objI {x idx a b cl d : Nat} {r : Nat × Nat × Nat × Nat × Nat} (F : sd_Fix p s m args meth c cc nL o ini D cy) (hd : decode cc pc = .ok (.invokespecial idx, 3)) (hn : n = pc + 3) (hx : tt_rM[x]? = some r) (hr : r.1 = o ∧ r.2.1 = idx ∧ r.2.2.2.1 = 2) (hRf : 1 ≤ R.frames) (hRl : 50 ≤ R.locals) (hd2 : d = 2) (hs : pm_callI a b cl d n L st h = some (.inl (pc', L', st', h'))) (kk : sd_G p l e R s m args below meth c Q D cy ad0 n0 s0 A H0 nL pc' L' st' h') : sd_G p l e R s m args below meth c Q D cy ad0 n0 s0 A H0 nL pc L st h := by
  unfold pm_callI at hs
  rw [if_pos hd2] at hs
  split at hs
  · rename_i ob rr
    split at hs
    · rename_i hk
      cases hs
      intro ad H locs ls ⟨r1, r2, r3, r4, r5, r6, r7, r8, r9, r10, r11⟩
      subst hn
      have hroom := sd_sum_re ad st'
      refine W.objInit F.1 F.2.1 F.2.2.2.1 (sd_link2 F hx hr) (F.2.2.2.2.1 _ sd_arr.2.2.2.2) (F.2.2.2.2.1 _ sd_arr.2.2.2.1) rfl (by rw [F.2.2.1]; exact r11.1) rfl hd hRf (by have := hk.2; show 2 * 0 + _ + 12 ≤ _; omega) ?_
      exact kk ad H locs ls ⟨r1, r2, fun v hv => r3 v (List.mem_cons_of_mem _ hv), r4, r5, r6, r7, r8, r9, r10, r11⟩
    · cases hs
  · cases hs
end SDK
end
section
-- ===== a step, a run, a method: all together =====
theorem sd_dec {cc : ByteArray} {pc n k : Nat} {i : Instr} (hlen : sd_len i = 0 ∨ n = pc + sd_len i) (hk : sd_len i = k) (h0 : k ≠ 0) (hdec : decode cc pc = .ok (i, n - pc)) : n = pc + k ∧ decode cc pc = .ok (i, k) := by
  subst hk
  rcases hlen with z | z
  · exact absurd z h0
  · refine ⟨z, ?_⟩
    rw [hdec, z, Nat.add_sub_cancel_left]
section SDM
variable {p : Program} {l : Launch} {e : Env} {R : Room} {s : State} {m : MethodId} {args : Array Value} {below : List Frame} {meth : Method} {c : Code} {Q : State → Prop} {D : va_G} {cy : Nat → ClassId} {ad0 : Nat → Nat} {n0 s0 : Nat} {A : Nat → Prop} {H0 : Heap} {nL o : Nat} {cc : ByteArray} {ini : Bool} {pc pc' n : Nat} {L L' : Lc_} {st st' : List Value} {h h' : Hp_}
set_option maxHeartbeats 4000000 in
theorem sd_step {sc : Sc_} {ret0 : Option FieldType} {en : Ent_} {x d1 : Nat} (F : sd_Fix p s m args meth c cc nL o ini D cy) (hsc : sd_Sc sc A H0 s (ad0 0)) (hA : ∀ q, H0.size ≤ q → A q) (hRf : d1 + 1 ≤ R.frames) (hRl : 50 * (d1 + 1) ≤ R.locals) (ck : sd_ckE o ini cc ret0 pc en x = true) (hs : pm_sem sc pc en L st h = some (.inl (pc', L', st', h'))) (hcr : hp_nx h' - n0 ≤ R.cells) (hsr : hp_sl h' - s0 ≤ R.slots) (kk : sd_G p l e R s m args below meth c Q D cy ad0 n0 s0 A H0 nL pc' L' st' h') : sd_G p l e R s m args below meth c Q D cy ad0 n0 s0 A H0 nL pc L st h := by
  obtain ⟨i, n, a, b, c3, d, v, w⟩ := en
  unfold sd_ckE at ck
  rw [Bool.and_eq_true, Bool.and_eq_true, Bool.and_eq_true, decide_eq_true_eq, decide_eq_true_eq, decide_eq_true_eq] at ck
  obtain ⟨⟨⟨hpn, hlen⟩, hdec⟩, hk⟩ := ck
  cases i with
  | iload_n k =>
    obtain ⟨hn, hd⟩ := sd_dec hlen (k := 1) rfl (by decide) hdec
    exact sdi_iload_n F hd hn hs kk
  | iload k =>
    obtain ⟨hn, hd⟩ := sd_dec hlen (k := 2) rfl (by decide) hdec
    exact sdi_iload F hd hn hs kk
  | lload_n k =>
    obtain ⟨hn, hd⟩ := sd_dec hlen (k := 1) rfl (by decide) hdec
    exact sdi_lload_n F hd hn hs kk
  | lload k =>
    obtain ⟨hn, hd⟩ := sd_dec hlen (k := 2) rfl (by decide) hdec
    exact sdi_lload F hd hn hs kk
  | aload_n k =>
    obtain ⟨hn, hd⟩ := sd_dec hlen (k := 1) rfl (by decide) hdec
    exact sdi_aload_n F hd hn hs kk
  | aload k =>
    obtain ⟨hn, hd⟩ := sd_dec hlen (k := 2) rfl (by decide) hdec
    exact sdi_aload F hd hn hs kk
  | istore_n k =>
    obtain ⟨hn, hd⟩ := sd_dec hlen (k := 1) rfl (by decide) hdec
    exact sdi_istore_n F hd hn hs kk
  | istore k =>
    obtain ⟨hn, hd⟩ := sd_dec hlen (k := 2) rfl (by decide) hdec
    exact sdi_istore F hd hn hs kk
  | astore_n k =>
    obtain ⟨hn, hd⟩ := sd_dec hlen (k := 1) rfl (by decide) hdec
    exact sdi_astore_n F hd hn hs kk
  | astore k =>
    obtain ⟨hn, hd⟩ := sd_dec hlen (k := 2) rfl (by decide) hdec
    exact sdi_astore F hd hn hs kk
  | lstore_n k =>
    obtain ⟨hn, hd⟩ := sd_dec hlen (k := 1) rfl (by decide) hdec
    exact sdi_lstore_n F hd hn hs kk
  | lstore k =>
    obtain ⟨hn, hd⟩ := sd_dec hlen (k := 2) rfl (by decide) hdec
    exact sdi_lstore F hd hn hs kk
  | iadd =>
    obtain ⟨hn, hd⟩ := sd_dec hlen (k := 1) rfl (by decide) hdec
    exact sdi_iadd F hd hn hs kk
  | isub =>
    obtain ⟨hn, hd⟩ := sd_dec hlen (k := 1) rfl (by decide) hdec
    exact sdi_isub F hd hn hs kk
  | imul =>
    obtain ⟨hn, hd⟩ := sd_dec hlen (k := 1) rfl (by decide) hdec
    exact sdi_imul F hd hn hs kk
  | iand =>
    obtain ⟨hn, hd⟩ := sd_dec hlen (k := 1) rfl (by decide) hdec
    exact sdi_iand F hd hn hs kk
  | ior =>
    obtain ⟨hn, hd⟩ := sd_dec hlen (k := 1) rfl (by decide) hdec
    exact sdi_ior F hd hn hs kk
  | ixor =>
    obtain ⟨hn, hd⟩ := sd_dec hlen (k := 1) rfl (by decide) hdec
    exact sdi_ixor F hd hn hs kk
  | ishl =>
    obtain ⟨hn, hd⟩ := sd_dec hlen (k := 1) rfl (by decide) hdec
    exact sdi_ishl F hd hn hs kk
  | ishr =>
    obtain ⟨hn, hd⟩ := sd_dec hlen (k := 1) rfl (by decide) hdec
    exact sdi_ishr F hd hn hs kk
  | iushr =>
    obtain ⟨hn, hd⟩ := sd_dec hlen (k := 1) rfl (by decide) hdec
    exact sdi_iushr F hd hn hs kk
  | ladd =>
    obtain ⟨hn, hd⟩ := sd_dec hlen (k := 1) rfl (by decide) hdec
    exact sdi_ladd F hd hn hs kk
  | lmul =>
    obtain ⟨hn, hd⟩ := sd_dec hlen (k := 1) rfl (by decide) hdec
    exact sdi_lmul F hd hn hs kk
  | idiv =>
    obtain ⟨hn, hd⟩ := sd_dec hlen (k := 1) rfl (by decide) hdec
    exact sdi_idiv F hd hn hs kk
  | irem =>
    obtain ⟨hn, hd⟩ := sd_dec hlen (k := 1) rfl (by decide) hdec
    exact sdi_irem F hd hn hs kk
  | lrem =>
    obtain ⟨hn, hd⟩ := sd_dec hlen (k := 1) rfl (by decide) hdec
    exact sdi_lrem F hd hn hs kk
  | lcmp =>
    obtain ⟨hn, hd⟩ := sd_dec hlen (k := 1) rfl (by decide) hdec
    exact sdi_lcmp F hd hn hs kk
  | i2l =>
    obtain ⟨hn, hd⟩ := sd_dec hlen (k := 1) rfl (by decide) hdec
    exact sdi_i2l F hd hn hs kk
  | l2i =>
    obtain ⟨hn, hd⟩ := sd_dec hlen (k := 1) rfl (by decide) hdec
    exact sdi_l2i F hd hn hs kk
  | dup =>
    obtain ⟨hn, hd⟩ := sd_dec hlen (k := 1) rfl (by decide) hdec
    exact sdi_dup F hd hn hs kk
  | pop =>
    obtain ⟨hn, hd⟩ := sd_dec hlen (k := 1) rfl (by decide) hdec
    exact sdi_pop F hd hn hs kk
  | iconst k =>
    obtain ⟨hn, hd⟩ := sd_dec hlen (k := 1) rfl (by decide) hdec
    have hk : decide (Int32.ofInt k = v) = true := hk
    cases (show some (Sum.inl (n, L, Value.int v :: st, h)) = some (Sum.inl (pc', L', st', h')) from hs)
    exact sdi_iconst (of_decide_eq_true hk) F hd hn kk
  | bipush k =>
    obtain ⟨hn, hd⟩ := sd_dec hlen (k := 2) rfl (by decide) hdec
    have hk : decide ((Int8.ofInt k).toInt32 = v) = true := hk
    cases (show some (Sum.inl (n, L, Value.int v :: st, h)) = some (Sum.inl (pc', L', st', h')) from hs)
    exact sdi_bipush (of_decide_eq_true hk) F hd hn kk
  | sipush k =>
    obtain ⟨hn, hd⟩ := sd_dec hlen (k := 3) rfl (by decide) hdec
    have hk : decide ((Int16.ofInt k).toInt32 = v) = true := hk
    cases (show some (Sum.inl (n, L, Value.int v :: st, h)) = some (Sum.inl (pc', L', st', h')) from hs)
    exact sdi_sipush (of_decide_eq_true hk) F hd hn kk
  | lconst k =>
    obtain ⟨hn, hd⟩ := sd_dec hlen (k := 1) rfl (by decide) hdec
    have hk : decide (Int64.ofNat (k : Nat) = w) = true := hk
    cases (show some (Sum.inl (n, L, Value.long w :: st, h)) = some (Sum.inl (pc', L', st', h')) from hs)
    exact sdi_lconst (of_decide_eq_true hk) F hd hn kk
  | ldc k =>
    obtain ⟨hn, hd⟩ := sd_dec hlen (k := 2) rfl (by decide) hdec
    have hk : (match tt_rK[x]? with | some r => decide (r.1 = o ∧ r.2.1 = k ∧ r.2.2.1 = v) | none => false) = true := hk
    cases (show some (Sum.inl (n, L, Value.int v :: st, h)) = some (Sum.inl (pc', L', st', h')) from hs)
    cases hx : tt_rK[x]? with
    | none => rw [hx] at hk; cases hk
    | some r =>
      rw [hx] at hk
      obtain ⟨e1, e2, e3⟩ := of_decide_eq_true hk
      have := List.all_eq_true.mp sd_okK r (List.mem_of_getElem? hx)
      have hw := sd_in this
      rw [e1, e2, e3] at hw
      exact sdi_ldc hw F hd hn kk
  | ldc_w k =>
    obtain ⟨hn, hd⟩ := sd_dec hlen (k := 3) rfl (by decide) hdec
    have hk : (match tt_rK[x]? with | some r => decide (r.1 = o ∧ r.2.1 = k ∧ r.2.2.1 = v) | none => false) = true := hk
    cases (show some (Sum.inl (n, L, Value.int v :: st, h)) = some (Sum.inl (pc', L', st', h')) from hs)
    cases hx : tt_rK[x]? with
    | none => rw [hx] at hk; cases hk
    | some r =>
      rw [hx] at hk
      obtain ⟨e1, e2, e3⟩ := of_decide_eq_true hk
      have := List.all_eq_true.mp sd_okK r (List.mem_of_getElem? hx)
      have hw := sd_in this
      rw [e1, e2, e3] at hw
      exact sdi_ldcw hw F hd hn kk
  | ldc2_w k =>
    obtain ⟨hn, hd⟩ := sd_dec hlen (k := 3) rfl (by decide) hdec
    have hk : (match tt_rL[x]? with | some r => decide (r.1 = o ∧ r.2.1 = k ∧ r.2.2.1 = w) | none => false) = true := hk
    cases (show some (Sum.inl (n, L, Value.long w :: st, h)) = some (Sum.inl (pc', L', st', h')) from hs)
    cases hx : tt_rL[x]? with
    | none => rw [hx] at hk; cases hk
    | some r =>
      rw [hx] at hk
      obtain ⟨e1, e2, e3⟩ := of_decide_eq_true hk
      have := List.all_eq_true.mp sd_okL r (List.mem_of_getElem? hx)
      have hw := sd_in this
      rw [e1, e2, e3] at hw
      exact sdi_ldc2 hw F hd hn kk
  | iinc k w1 =>
    obtain ⟨hn, hd⟩ := sd_dec hlen (k := 3) rfl (by decide) hdec
    have hk : decide (Int32.ofInt w1 = v) = true := hk
    exact sdi_iinc (of_decide_eq_true hk) F hd hn hs kk
  | goto off =>
    obtain ⟨hn, hd⟩ := sd_dec hlen (k := 3) rfl (by decide) hdec
    have hk : decide ((pc : Int) + off = (a : Int)) = true := hk
    cases (show some (Sum.inl (a, L, st, h)) = some (Sum.inl (pc', L', st', h')) from hs)
    exact sdi_goto F hd (of_decide_eq_true hk) kk
  | ifCond k off =>
    obtain ⟨hn, hd⟩ := sd_dec hlen (k := 3) rfl (by decide) hdec
    have hk : decide ((pc : Int) + off = (a : Int)) = true := hk
    exact sdi_if (of_decide_eq_true hk) F hd hn hs kk
  | if_icmp k off =>
    obtain ⟨hn, hd⟩ := sd_dec hlen (k := 3) rfl (by decide) hdec
    have hk : decide ((pc : Int) + off = (a : Int)) = true := hk
    exact sdi_icmp (of_decide_eq_true hk) F hd hn hs kk
  | tableswitch df lo hi offs =>
    have hk : decide ((pc : Int) + df = (a : Int)) = true := hk
    exact sdi_sw (n := n) F hdec (of_decide_eq_true hk) hs kk
  | getfield k =>
    obtain ⟨hn, hd⟩ := sd_dec hlen (k := 3) rfl (by decide) hdec
    have hk : (match tt_rF[x]? with | some r => decide (r.1 = o ∧ r.2.1 = k ∧ r.2.2.1 = a ∧ r.2.2.2.1 = b ∧ r.2.2.2.2.1 = d) && decide ((match tt_t a b with | .int => 0 | .boolean => 1 | .long => 2 | _ => 3) = c3) | none => false) = true := hk
    cases hx : tt_rF[x]? with
    | none => rw [hx] at hk; cases hk
    | some r =>
      rw [hx] at hk
      simp only [Bool.and_eq_true, decide_eq_true_eq] at hk
      obtain ⟨⟨e1, e2, e3, e4, e5⟩, e6⟩ := hk
      obtain ⟨hm, hb, ha, h0⟩ := sd_Fr hx
      rw [e3, e4] at hb
      rw [e3] at ha
      exact sdi_getf hm hb ha h0 ⟨e1, e2, e3, e4⟩ F hd hn e6 hs kk
  | putfield k =>
    obtain ⟨hn, hd⟩ := sd_dec hlen (k := 3) rfl (by decide) hdec
    have hk : (match tt_rF[x]? with | some r => decide (r.1 = o ∧ r.2.1 = k ∧ r.2.2.1 = a ∧ r.2.2.2.1 = b ∧ r.2.2.2.2.1 = d) && decide ((match tt_t a b with | .int => 0 | .boolean => 1 | .long => 2 | _ => 3) = c3) && (!((tt_c a).2.1 b).2.2.2 || (ini && decide (d = 0) && decide (tt_name o = (tt_c a).1))) | none => false) = true := hk
    cases hx : tt_rF[x]? with
    | none => rw [hx] at hk; cases hk
    | some r =>
      rw [hx] at hk
      simp only [Bool.and_eq_true, Bool.or_eq_true, decide_eq_true_eq] at hk
      obtain ⟨⟨⟨e1, e2, e3, e4, e5⟩, e6⟩, e7⟩ := hk
      obtain ⟨hm, hb, ha, h0⟩ := sd_Fr hx
      rw [e3, e4] at hb
      rw [e3] at ha
      refine sdi_putf hm hb ha h0 ⟨e1, e2, e3, e4⟩ F hd hn e6 ?_ hs kk
      rcases e7 with z | ⟨⟨z1, z2⟩, z3⟩
      · exact Or.inl (by simpa using z)
      · exact Or.inr ⟨z1, by rw [e5]; exact z2, z3⟩
  | new k =>
    obtain ⟨hn, hd⟩ := sd_dec hlen (k := 3) rfl (by decide) hdec
    have hk : (match tt_rC[x]? with | some r => decide (r.1 = o ∧ r.2.1 = k ∧ r.2.2.1 = a) && decide (a < 11) && decide (b = (tt_c a).2.2) | none => false) = true := hk
    cases hx : tt_rC[x]? with
    | none => rw [hx] at hk; cases hk
    | some r =>
      rw [hx] at hk
      simp only [Bool.and_eq_true, decide_eq_true_eq] at hk
      obtain ⟨⟨⟨e1, e2, e3⟩, e4⟩, e5⟩ := hk
      have hw := sd_in (List.all_eq_true.mp sd_okC r (List.mem_of_getElem? hx))
      rw [e1, e2, e3] at hw
      exact sdi_new (x := x) e4 e5 hw hA F hd hn hs hcr hsr kk
  | newarray t =>
    obtain ⟨hn, hd⟩ := sd_dec hlen (k := 2) rfl (by decide) hdec
    cases t with
    | int =>
      have hk : (decide (a = 1) && decide (a ≠ 0)) = true := hk
      rw [Bool.and_eq_true, decide_eq_true_eq] at hk
      obtain ⟨rfl, -⟩ := hk
      exact sdi_newa1 hA F hd hn hs hcr hsr kk
    | long =>
      have hk : (decide (a = 2) && decide (a ≠ 0)) = true := hk
      rw [Bool.and_eq_true, decide_eq_true_eq] at hk
      obtain ⟨rfl, -⟩ := hk
      exact sdi_newa2 hA F hd hn hs hcr hsr kk
    | boolean =>
      have hk : (decide (a = 3) && decide (a ≠ 0)) = true := hk
      rw [Bool.and_eq_true, decide_eq_true_eq] at hk
      obtain ⟨rfl, -⟩ := hk
      exact sdi_newa3 hA F hd hn hs hcr hsr kk
    | _ =>
      have hk : (decide (a = 0) && decide (a ≠ 0)) = true := hk
      rw [Bool.and_eq_true, decide_eq_true_eq, decide_eq_true_eq] at hk
      exact absurd hk.1 hk.2
  | arraylength =>
    obtain ⟨hn, hd⟩ := sd_dec hlen (k := 1) rfl (by decide) hdec
    exact sdi_alen hsc F hd hn hs kk
  | iaload =>
    obtain ⟨hn, hd⟩ := sd_dec hlen (k := 1) rfl (by decide) hdec
    exact sdi_iald hsc trivial F hd hn hs kk
  | baload =>
    obtain ⟨hn, hd⟩ := sd_dec hlen (k := 1) rfl (by decide) hdec
    exact sdi_zald trivial F hd hn hs kk
  | laload =>
    obtain ⟨hn, hd⟩ := sd_dec hlen (k := 1) rfl (by decide) hdec
    exact sdi_lald trivial F hd hn hs kk
  | iastore =>
    obtain ⟨hn, hd⟩ := sd_dec hlen (k := 1) rfl (by decide) hdec
    exact sdi_iast F hd hn hs kk
  | bastore =>
    obtain ⟨hn, hd⟩ := sd_dec hlen (k := 1) rfl (by decide) hdec
    exact sdi_zast F hd hn hs kk
  | lastore =>
    obtain ⟨hn, hd⟩ := sd_dec hlen (k := 1) rfl (by decide) hdec
    exact sdi_last F hd hn hs kk
  | invokespecial k =>
    obtain ⟨hn, hd⟩ := sd_dec hlen (k := 3) rfl (by decide) hdec
    have hs : pm_callI a b c3 d n L st h = some (.inl (pc', L', st', h')) := hs
    have hk : (match tt_rM[x]? with
      | some r => decide (r.1 = o ∧ r.2.1 = k ∧ r.2.2.2.1 = d ∧ d ≤ 2) && (decide (d = 2) || (match tt_ml[a]?, tt_mw[a]? with | some y, some z => decide (r.2.2.1 = a) && decide ((parseMethodDescriptor y.1.desc).map (fun q => q.parameters.length) = some b) && !z.2.2.2.1 && decide (y.1.cls = (tt_c c3).1) && decide (y.1.name = "<init>") && decide (y.2.2.2.1 = none) && decide (c3 < 11) | _, _ => false))
      | _ => false) = true := hk
    by_cases hd2 : d = 2
    · cases hx : tt_rM[x]? with
      | none => rw [hx] at hk; cases hk
      | some r =>
        rw [hx] at hk
        simp only [Bool.and_eq_true, decide_eq_true_eq] at hk
        obtain ⟨⟨e1, e2, e3, e4⟩, -⟩ := hk
        exact sdi_objI F hd hn hx ⟨e1, e2, by rw [e3, hd2]⟩ (by omega) (by omega) hd2 hs kk
    · exfalso
      unfold pm_callI at hs
      rw [if_neg hd2] at hs
      unfold pm_callV at hs
      (repeat' split at hs) <;> cases hs
  | invokevirtual k =>
    obtain ⟨hn, hd⟩ := sd_dec hlen (k := 3) rfl (by decide) hdec
    exfalso
    simp only [pm_sem, pm_callV] at hs
    (repeat' split at hs) <;> cases hs
  | invokestatic k =>
    obtain ⟨hn, hd⟩ := sd_dec hlen (k := 3) rfl (by decide) hdec
    exfalso
    simp only [pm_sem, pm_callS] at hs
    (repeat' split at hs) <;> cases hs
  | ireturn =>
    obtain ⟨hn, hd⟩ := sd_dec hlen (k := 1) rfl (by decide) hdec
    exfalso
    simp only [pm_sem, pm_iret] at hs
    (repeat' split at hs) <;> cases hs
  | lreturn =>
    obtain ⟨hn, hd⟩ := sd_dec hlen (k := 1) rfl (by decide) hdec
    exfalso
    simp only [pm_sem, pm_lret] at hs
    (repeat' split at hs) <;> cases hs
  | areturn =>
    obtain ⟨hn, hd⟩ := sd_dec hlen (k := 1) rfl (by decide) hdec
    exfalso
    simp only [pm_sem, pm_aret] at hs
    (repeat' split at hs) <;> cases hs
  | return_ =>
    obtain ⟨hn, hd⟩ := sd_dec hlen (k := 1) rfl (by decide) hdec
    exfalso
    simp only [pm_sem, pm_vret] at hs
    (repeat' split at hs) <;> cases hs
  | _ => simp only [pm_sem, reduceCtorEq] at hs
set_option maxHeartbeats 4000000 in
theorem sd_cstep {sc : Sc_} {ret0 : Option FieldType} {en : Ent_} {x d1 y : Nat} {as : List Value} {rv : Option Value} {q : Mi_} (F : sd_Fix p s m args meth c cc nL o ini D cy) (hA : ∀ q, H0.size ≤ q → A q) (hRf : d1 + 1 ≤ R.frames) (hRl : 50 * (d1 + 1) ≤ R.locals) (ck : sd_ckE o ini cc ret0 pc en x = true) (hs : pm_sem sc pc en L st h = some (.inr (.inr (y, as, pc', L', st')))) (hq : tt_ml[y]? = some q) (hM : ∀ (ad : Nat → Nat) (sz : Nat), sd_Met l d1 D cy q h ad as h' rv sz) (hgr : hp_nx h ≤ hp_nx h' ∧ hp_sl h ≤ hp_sl h') (hcr : hp_nx h' - n0 ≤ R.cells) (hsr : hp_sl h' - s0 ≤ R.slots) (kk : sd_G p l e R s m args below meth c Q D cy ad0 n0 s0 A H0 nL pc' L' (rv.toList ++ st') h') : sd_G p l e R s m args below meth c Q D cy ad0 n0 s0 A H0 nL pc L st h := by
  obtain ⟨i, n, a, b, c3, d, v, w⟩ := en
  unfold sd_ckE at ck
  rw [Bool.and_eq_true, Bool.and_eq_true, Bool.and_eq_true, decide_eq_true_eq, decide_eq_true_eq, decide_eq_true_eq] at ck
  obtain ⟨⟨⟨hpn, hlen⟩, hdec⟩, hk⟩ := ck
  cases i with
  | invokevirtual k =>
    obtain ⟨hn, hd⟩ := sd_dec hlen (k := 3) rfl (by decide) hdec
    have hs : pm_callV a b c3 n L st h = some (.inr (.inr (y, as, pc', L', st'))) := hs
    have hya : y = a := by
      unfold pm_callV at hs
      (repeat' split at hs) <;> cases hs
      rfl
    subst hya
    have hk : (match tt_rM[x]?, tt_ml[y]?, tt_mw[y]? with | some r, some y, some z => decide (r.1 = o ∧ r.2.1 = k ∧ r.2.2.1 = _ ∧ r.2.2.2.1 = d ∧ d ≤ 1) && decide ((parseMethodDescriptor y.1.desc).map (fun q => q.parameters.length) = some b) && !z.2.2.2.1 && decide (y.1.cls = (tt_c c3).1) && decide (y.1.name ≠ "<init>") && decide (c3 < 11) | _, _, _ => false) = true := hk
    obtain ⟨z, hz, -⟩ := sd_Mw hq
    cases hx : tt_rM[x]? with
    | none => rw [hx] at hk; cases hk
    | some r =>
      rw [hx, hq, hz] at hk
      simp only [Bool.and_eq_true, decide_eq_true_eq, Bool.not_eq_true'] at hk
      obtain ⟨⟨⟨⟨⟨⟨e1, e2, e3, e4, e5⟩, e6⟩, e7⟩, e8⟩, e9⟩, e10⟩ := hk
      exact sdi_callV F hd hn hx ⟨e1, e2, e3, e4⟩ e5 hq (fun z' hz' => by rw [hz] at hz'; cases hz'; exact e7) e6 e8 e10 e9 hA hRf hRl hgr hcr hsr hs hM kk
  | invokestatic k =>
    obtain ⟨hn, hd⟩ := sd_dec hlen (k := 3) rfl (by decide) hdec
    have hs : pm_callS a b n L st h = some (.inr (.inr (y, as, pc', L', st'))) := hs
    have hya : y = a := by
      unfold pm_callS at hs
      (repeat' split at hs) <;> cases hs
      rfl
    subst hya
    have hk : (match tt_rM[x]?, tt_ml[y]?, tt_mw[y]? with | some r, some y, some z => decide (r.1 = o ∧ r.2.1 = k ∧ r.2.2.1 = _ ∧ r.2.2.2.1 = d ∧ d ≤ 1) && decide ((parseMethodDescriptor y.1.desc).map (fun q => q.parameters.length) = some b) && z.2.2.2.1 | _, _, _ => false) = true := hk
    obtain ⟨z, hz, -⟩ := sd_Mw hq
    cases hx : tt_rM[x]? with
    | none => rw [hx] at hk; cases hk
    | some r =>
      rw [hx, hq, hz] at hk
      simp only [Bool.and_eq_true, decide_eq_true_eq] at hk
      obtain ⟨⟨⟨e1, e2, e3, e4, e5⟩, e6⟩, e7⟩ := hk
      exact sdi_callS F hd hn hx ⟨e1, e2, e3, e4⟩ e5 hq (fun z' hz' => by rw [hz] at hz'; cases hz'; exact e7) e6 hA hRf hRl hgr hcr hsr hs hM kk
  | invokespecial k =>
    obtain ⟨hn, hd⟩ := sd_dec hlen (k := 3) rfl (by decide) hdec
    have hs : pm_callI a b c3 d n L st h = some (.inr (.inr (y, as, pc', L', st'))) := hs
    unfold pm_callI at hs
    by_cases hd2 : d = 2
    · exfalso
      rw [if_pos hd2] at hs
      (repeat' split at hs) <;> cases hs
    rw [if_neg hd2] at hs
    have hya : y = a := by
      unfold pm_callV at hs
      (repeat' split at hs) <;> cases hs
      rfl
    subst hya
    have hk : (match tt_rM[x]? with
      | some r => decide (r.1 = o ∧ r.2.1 = k ∧ r.2.2.2.1 = d ∧ d ≤ 2) && (decide (d = 2) || (match tt_ml[y]?, tt_mw[y]? with | some y1, some z => decide (r.2.2.1 = y) && decide ((parseMethodDescriptor y1.1.desc).map (fun q => q.parameters.length) = some b) && !z.2.2.2.1 && decide (y1.1.cls = (tt_c c3).1) && decide (y1.1.name = "<init>") && decide (y1.2.2.2.1 = none) && decide (c3 < 11) | _, _ => false))
      | _ => false) = true := hk
    obtain ⟨z, hz, -⟩ := sd_Mw hq
    cases hx : tt_rM[x]? with
    | none => rw [hx] at hk; cases hk
    | some r =>
      rw [hx, hq, hz] at hk
      simp only [Bool.and_eq_true, Bool.or_eq_true, decide_eq_true_eq, Bool.not_eq_true'] at hk
      obtain ⟨⟨e1, e2, e4, e5⟩, hk⟩ := hk
      rcases hk with hk | ⟨⟨⟨⟨⟨⟨e3, e6⟩, e7⟩, e8⟩, e9⟩, e10⟩, e11⟩
      · exact absurd hk hd2
      · exact sdi_callI F hd hn hx ⟨e1, e2, e3, e4⟩ (by omega) hq (fun z' hz' => by rw [hz] at hz'; cases hz'; exact e7) e6 e10 e9 hA hRf hRl hgr hcr hsr hs hM kk
  | _ => exact absurd hs (by
      simp only [pm_sem, pm_ldA, pm_ldI, pm_ldJ, pm_stI, pm_stA, pm_stL, pm_inc, pm_bin, pm_div, pm_binL, pm_divL, pm_cmpL, pm_i2l, pm_l2i, pm_dup, pm_pop, pm_if, pm_icmp, pm_sw, pm_getf, pm_putf, pm_new, pm_newa, pm_alen, pm_iald, pm_zald, pm_lald, pm_iast, pm_zast, pm_last, pm_iret, pm_lret, pm_aret, pm_vret]
      intro hs
      (repeat' split at hs) <;> cases hs)
/-- a run: hf and rf are its end -/
theorem sd_exec {sc : Sc_} {ret0 : Option FieldType} {d1 : Nat} {tab : Tab_} {call : Nat → List Value → Hp_ → Option (Option Value × Hp_)} {rf : Option Value} {hf : Hp_} (F : sd_Fix p s m args meth c cc nL o ini D cy) (hsc : sd_Sc sc A H0 s (ad0 0)) (hA : ∀ q, H0.size ≤ q → A q) (hRf : d1 + 1 ≤ R.frames) (hRl : 50 * (d1 + 1) ≤ R.locals) (ckT : ∀ pc e, pm_lk tab pc = some e → ∃ x, sd_ckE o ini cc ret0 pc e x = true) (hcm : sd_Cm call) (hcall : ∀ y as h r h', call y as h = some (r, h') → ∃ q, tt_ml[y]? = some q ∧ ∀ (ad : Nat → Nat) (sz : Nat), sd_Met l d1 D cy q h ad as h' r sz) (hcf : hp_nx hf - n0 ≤ R.cells) (hsf : hp_sl hf - s0 ≤ R.slots)
    (hret : ∀ pc en L st h, pm_lk tab pc = some en → pm_sem sc pc en L st h = some (.inr (.inl (rf, hf))) → sd_G p l e R s m args below meth c Q D cy ad0 n0 s0 A H0 nL pc L st h) : ∀ N pc L st h, pm_ex call tab sc N pc L st h = some (rf, hf) → sd_G p l e R s m args below meth c Q D cy ad0 n0 s0 A H0 nL pc L st h := by
  intro N
  induction N with
  | zero => intro pc L st h hs; cases hs
  | succ N ih =>
    intro pc L st h hs
    rw [pm_ex] at hs
    split at hs
    · cases hs
    · rename_i en he
      obtain ⟨x, ck⟩ := ckT pc en he
      split at hs
      · cases hs
      · rename_i pc1 L1 st1 h1 hs1
        have hm := sd_ex_mono hcm _ _ _ _ _ _ _ hs
        exact sd_step F hsc hA hRf hRl ck hs1 (by have := hm.1; omega) (by have := hm.2; omega) (ih _ _ _ _ hs)
      · rename_i r1 hs1
        cases hs
        exact hret pc en L st h he hs1
      · rename_i y as pc1 L1 st1 hs1
        split at hs
        · cases hs
        · rename_i r1 h1 hcl
          have hm := sd_ex_mono hcm _ _ _ _ _ _ _ hs
          obtain ⟨q, hq, hM⟩ := hcall _ _ _ _ _ hcl
          exact sd_cstep F hA hRf hRl ck hs1 hq hM (hcm _ _ _ _ _ hcl) (by have := hm.1; omega) (by have := hm.2; omega) (ih _ _ _ _ hs)
end SDM
end
section
-- ===== a method's contract out of its run =====
theorem sd_lay_len : ∀ (as : List Value) (n : Nat), (as.map (fun v => v.category)).sum ≤ n → (pm_lay as n).length = n := by
  intro as
  induction as with
  | nil => intro n _; rw [pm_lay, List.length_replicate]
  | cons v t ih =>
    intro n h
    rw [List.map_cons, List.sum_cons] at h
    have hc : v.category = 1 ∨ v.category = 2 := by cases v <;> simp [Value.category]
    unfold pm_lay
    split
    · rename_i h2
      rw [h2] at h
      rw [List.length_cons, List.length_cons, ih (n - 2) (by omega)]
      omega
    · rename_i h2
      have h1 : v.category = 1 := by rcases hc with z | z; exact z; exact absurd z h2
      rw [h1] at h
      rw [List.length_cons, ih (n - 1) (by omega)]
      omega
theorem sd_lay_at (ad : Nat → Nat) : ∀ (as : List Value) (n i k : Nat) (v : Value), (pm_lay as n)[k]? = some (some v) → (i + k, sd_re ad v) ∈ lv_args i (as.map (sd_re ad)) ∧ v ∈ as := by
  intro as
  induction as with
  | nil =>
    intro n i k v h
    rw [pm_lay, List.getElem?_replicate] at h
    split at h <;> cases h
  | cons w t ih =>
    intro n i k v h
    rw [List.map_cons]
    unfold lv_args
    rw [sd_re_cat]
    unfold pm_lay at h
    split at h
    · rename_i h2
      rw [if_pos h2]
      cases k with
      | zero => cases h; exact ⟨List.mem_cons_self, List.mem_cons_self⟩
      | succ k =>
        rw [List.getElem?_cons_succ] at h
        cases k with
        | zero => cases h
        | succ k =>
          rw [List.getElem?_cons_succ] at h
          have := ih (n - 2) (i + 2) k v h
          rw [show i + 2 + k = i + (k + 1 + 1) by omega] at this
          exact ⟨List.mem_cons_of_mem _ this.1, List.mem_cons_of_mem _ this.2⟩
    · rename_i h2
      rw [if_neg h2]
      cases k with
      | zero => cases h; exact ⟨List.mem_cons_self, List.mem_cons_self⟩
      | succ k =>
        rw [List.getElem?_cons_succ] at h
        have := ih (n - 1) (i + 1) k v h
        rw [show i + 1 + k = i + (k + 1) by omega] at this
        exact ⟨List.mem_cons_of_mem _ this.1, List.mem_cons_of_mem _ this.2⟩
theorem sd_sl_len (vs : List Value) : (lg_sl vs).length = (vs.map (fun v => v.category)).sum := by
  induction vs with
  | nil => rfl
  | cons v t ih =>
    have hc : v.category = 1 ∨ v.category = 2 := by cases v <;> simp [Value.category]
    have e : lg_sl (v :: t) = (if v.category = 2 then [Slot.val v, .second] else [.val v]) ++ lg_sl t := by simp [lg_sl]
    rw [e, List.length_append, ih, List.map_cons, List.sum_cons]
    rcases hc with z | z
    · rw [if_neg (by omega), z]; rfl
    · rw [if_pos z, z]; rfl
theorem sd_cat_re (ad : Nat → Nat) (vs : List Value) : ((vs.map (sd_re ad)).map (fun v => v.category)).sum = (vs.map (fun v => v.category)).sum := by
  induction vs with
  | nil => rfl
  | cons v t ih => simp only [List.map_cons, List.sum_cons, ih, sd_re_cat]
theorem sd_entry (ad : Nat → Nat) (as : List Value) (nL : Nat) (hs : (as.map (fun v => v.category)).sum ≤ nL) : lv_has ((lg_sl (as.map (sd_re ad)) ++ List.replicate (nL - (lg_sl (as.map (sd_re ad))).length) Slot.unset).toArray) nL (sd_as ad (pm_lay as nL)) := by
  have h := lv_entry (as.map (sd_re ad)) (n := nL) (by rw [sd_sl_len, sd_cat_re]; exact hs)
  refine sd_has h (fun q hq => ?_)
  obtain ⟨v, h1, h2⟩ := sd_as_of hq
  have := (sd_lay_at ad as nL 0 q.1 v h1).1
  rw [Nat.zero_add, ← h2] at this
  exact this
theorem sd_lay_mem {as : List Value} {n : Nat} {v : Value} (h : some v ∈ pm_lay as n) : v ∈ as := by
  obtain ⟨k, hk⟩ := List.getElem?_of_mem h
  exact (sd_lay_at (fun i => i) as n 0 k v hk).2
set_option maxHeartbeats 4000000 in
theorem sd_met (l : Launch) (D : va_G) (cy : Nat → ClassId) (N : Nat) : ∀ (d : Nat) (y : Nat) (as : List Value) (h : Hp_) (r : Option Value) (h' : Hp_), pm_call tt_ms d N y as h = some (r, h') → ∃ q, tt_ml[y]? = some q ∧ ∀ (ad : Nat → Nat) (sz : Nat), sd_Met l d D cy q h ad as h' r sz := by
  intro d
  induction d with
  | zero => intro y as h r h' hs; cases hs
  | succ d ih =>
    intro y as h r h' hs
    rw [pm_call] at hs
    split at hs
    · cases hs
    · rename_i yn bts nL ret0 tab hy
      split at hs
      · rename_i hsum
        have hq : tt_ml[y]? = some (yn, bts, nL, ret0, tab) := hy
        refine ⟨_, hq, fun ad sz => ?_⟩
        obtain ⟨z, hz, hcls, hplain, hcn, hnl, hcode, hini, hstt, hins⟩ := sd_Mw hq
        have hmono := sd_call_mono tt_ms N d
        have hexm := sd_ex_mono hmono _ _ _ _ _ _ _ hs
        refine Met.ofW (cc := bts) (maxL := nL) (ret := ret0) hplain rfl ?_
        intro p e s m args below meth c s₁ B hml hv
        obtain ⟨rfl, hsz, hP, hK, hD0, hNW, hwf, hvf⟩ := hv
        have hx := B.exec
        have hb := B.bytes
        have hr := B.returns
        have hts := atoms_spec (ws := sd_ws (yn, bts, nL, ret0, tab)) B.pre
        have hown : s.vm.findClass (tt_name z.1) = some m.cls := by
          rw [← hcls]
          exact findClass_of_methodNamed B.named
        have hlocks := B.notSynchronized
        have hnm := (name_of_methodNamed B.named B.method).1
        subst hsz
        have hD := hD0.self (sz := s.heap.size)
        have hAin : ∀ q : Nat, s.heap.size ≤ q → va_A (sd_w cy h ad) s.heap.size q := fun q hq => Or.inr hq
        have hS : va_S (va_A (sd_w cy h ad) s.heap.size) s.heap s.heap [] := va_S.rf
        rw [lg_entry_eq]
        have hl := sd_entry ad as nL hsum
        generalize (lg_sl (as.map (sd_re ad)) ++ List.replicate (nL - (lg_sl (as.map (sd_re ad))).length) Slot.unset).toArray = ls at hl ⊢
        have F : sd_Fix p s m (as.map (sd_re ad)).toArray meth c bts nL z.1 (decide (yn.name = "<init>")) D cy := ⟨hx, hb, hml, hown, fun w hw => hts w (List.mem_cons_of_mem _ hw), hNW, hK, fun q => by rw [hnm]; exact of_decide_eq_true q⟩
        have key : sd_G p l e (sd_rm (d + 1) (hp_nx h' - hp_nx h) (hp_sl h' - hp_sl h)) s m (as.map (sd_re ad)).toArray below meth c (MQ below (sd_Qc D cy h ad h' r s.heap.size) (as.map (sd_re ad)).toArray s (hp_nx h' - hp_nx h) (hp_sl h' - hp_sl h) (va_A (sd_w cy h ad) s.heap.size)) D cy ad (hp_nx h) (hp_sl h) (va_A (sd_w cy h ad) s.heap.size) s.heap nL 0 (pm_lay as nL) [] h := by
          refine sd_exec (sc := none) (ret0 := ret0) (d1 := d) (tab := tab) (call := pm_call tt_ms d N) (rf := r) (hf := h') F trivial hAin (Nat.le_refl _) (Nat.le_refl _) (sd_Mt hq hz) hmono ih (Nat.le_refl _) (Nat.le_refl _) ?_ _ _ _ _ _ hs
          intro pc en L st hh hlk hsem ad' H' locs' ls' hrel
          obtain ⟨r1, r2, r3, r4, r5, r6, r7, r8, r9, r10, r11⟩ := hrel
          have ehh := sd_ret_eq hsem
          subst ehh
          obtain ⟨x, ck⟩ := sd_Mt hq hz pc en hlk
          obtain ⟨i, n, a, b, c3, d3, v, w⟩ := en
          unfold sd_ckE at ck
          rw [Bool.and_eq_true, Bool.and_eq_true, Bool.and_eq_true, decide_eq_true_eq, decide_eq_true_eq, decide_eq_true_eq] at ck
          obtain ⟨⟨⟨hpn, hlen⟩, hdec⟩, hk⟩ := ck
          have hqc : ∀ t : State, t.heap = H' → (∀ v, r = some v → sd_vf (hp_nx h') v) → sd_Qc D cy h ad h' r s.heap.size (as.map (sd_re ad)).toArray s (.returned (r.map (sd_re ad'))) t := fun t ht hv => ⟨⟨ad', r6, rfl, by rw [ht]; exact r7, r8, r1, hv⟩, r9.F ht⟩
          cases i with
          | ireturn =>
            obtain ⟨hn, hd⟩ := sd_dec hlen (k := 1) rfl (by decide) hdec
            have hk : decide ((a = 0 ∧ ret0 = some .int) ∨ (a = 1 ∧ ret0 = some .boolean)) = true := hk
            have hk := of_decide_eq_true hk
            change pm_iret a st h' = some (.inr (.inl (r, h'))) at hsem
            unfold pm_iret at hsem
            split at hsem
            · rename_i x1
              split at hsem
              · rename_i ha
                cases hsem
                rcases hk with ⟨-, hk⟩ | ⟨hk, -⟩
                · exact W.iret (v := x1) hx hb (by rw [hr, hk]) (fun t ht hW => hqc t ht (fun v hv => by cases hv; trivial)) r9.2.2 hd
                · exact absurd hk (by omega)
              · rename_i ha
                split at hsem
                · rename_i hx01
                  cases hsem
                  rcases hk with ⟨hk, -⟩ | ⟨-, hk⟩
                  · exact absurd hk ha
                  · exact W.zret (v := x1) (ty := .boolean) hx hb (by rw [hr, hk]) (by rcases hx01 with rfl | rfl <;> rfl) (fun t ht hW => hqc t ht (fun v hv => by cases hv; trivial)) r9.2.2 hd
                · cases hsem
            · cases hsem
          | lreturn =>
            obtain ⟨hn, hd⟩ := sd_dec hlen (k := 1) rfl (by decide) hdec
            have hk : decide (ret0 = some .long) = true := hk
            have hk := of_decide_eq_true hk
            change pm_lret st h' = some (.inr (.inl (r, h'))) at hsem
            unfold pm_lret at hsem
            split at hsem
            · rename_i x1
              cases hsem
              exact W.lret (v := x1) hx hb (by rw [hr, hk]) (fun t ht hW => hqc t ht (fun v hv => by cases hv; trivial)) r9.2.2 hd
            · cases hsem
          | areturn =>
            obtain ⟨hn, hd⟩ := sd_dec hlen (k := 1) rfl (by decide) hdec
            change pm_aret st h' = some (.inr (.inl (r, h'))) at hsem
            unfold pm_aret at hsem
            split at hsem
            · rename_i x1
              cases hsem
              have hvv : ∀ v, some (Value.ref x1) = some v → sd_vf (hp_nx h') v := fun v hv => by cases hv; exact r3 _ List.mem_cons_self
              cases ret0 with
              | none => exact absurd hk Bool.false_ne_true
              | some rt =>
                refine W.aret (v := .ref (ad' x1)) (rt := rt) hx hb hr ?_ (Or.inr ⟨_, rfl⟩) (fun t ht hW => hqc t ht hvv) r9.2.2 hd
                cases rt with
                | object nm => exact Or.inl ⟨_, rfl⟩
                | array nm => exact Or.inr ⟨_, rfl⟩
                | _ => exact absurd hk Bool.false_ne_true
            · cases hsem
          | return_ =>
            obtain ⟨hn, hd⟩ := sd_dec hlen (k := 1) rfl (by decide) hdec
            have hk : decide (ret0 = none) = true := hk
            have hk := of_decide_eq_true hk
            change pm_vret st h' = some (.inr (.inl (r, h'))) at hsem
            unfold pm_vret at hsem
            split at hsem
            · cases hsem
              exact W.vret hx hb (by rw [hr, hk]) (fun t ht hW => hqc t ht (fun v hv => by cases hv)) r9.2.2 hd
            · cases hsem
          | _ => exact absurd hsem (by
              simp only [pm_sem, pm_ldA, pm_ldI, pm_ldJ, pm_stI, pm_stA, pm_stL, pm_inc, pm_bin, pm_div, pm_binL, pm_divL, pm_cmpL, pm_i2l, pm_l2i, pm_dup, pm_pop, pm_if, pm_icmp, pm_sw, pm_getf, pm_putf, pm_new, pm_newa, pm_alen, pm_iald, pm_zald, pm_lald, pm_iast, pm_zast, pm_last, pm_callV, pm_callS, pm_callI]
              intro hs
              (repeat' split at hs) <;> cases hs)
        have := key ad s.heap [] ls ⟨hwf, fun v hv => hvf v (sd_lay_mem hv), fun v hv => (by cases hv), Nat.le_refl _, Nat.le_refl _, fun _ _ => rfl, hP, hD, hS, sd_lay_len as nL hsum, hl⟩
        rw [Nat.sub_self, Nat.sub_self] at this
        exact this
      · cases hs
end
section
-- ===== THE LAW: out of a run of the pure machine (begun with the skeleton) =====
/-! THE CLAIM OUT OF ONE WALK OF THE LAW'S BODY. Your part is whole_start (and what it stands on); all else here is the same for every law, but numbers. -/
def R_law : String := "RoundDanceLaw"
def lw_P (b : Addr) (xs : List Int32) (args : Array Value) (s : State) : Prop := args = #[.ref b] ∧ s.IntsAt b xs ∧ xs.length ≤ 320 ∧ (Jvm.Cond.and given_1 narrow_1).before args s = true
def lw_Q (_ : Array Value) (s : State) (o : Outcome) (t : State) : Prop := o = .returned (some (.int 1)) ∧ Framed s o t [] 600000 7302250
def lw_Z (below : List Frame) (a : Array Value) (s : State) : State → Prop := fun t => ∃ o, t.status = .running ∧ Ended t below o ∧ lw_Q a s o t
/-- the law's own end, with 1 on the stack, nothing written that was there before, its room as the claim has it -/
theorem lw_ret {p : Program} {l : Launch} {e : Env} {s : State} {m : MethodId} {below : List Frame} {meth : Method} {c : Code} {b : Nat} (hx : p.tables.exec = Jvm.exec) (hb : c.code = code) (hr : meth.sig.returnType = ret) (hlocks : meth.locks = false) {pc : Nat} {H : Heap} {ls : Array Slot} (hdg : decode code pc = .ok (.ireturn, 1)) : W p l e room_1 s m #[Value.ref b] below meth c H [] 600000 7302250 (lw_Z below #[Value.ref b] s) (F0 m pc ls [.int 1]) := by
  intro T hT X
  obtain ⟨fs, hret, hrun, hended, hW, hframe⟩ := X.leave (v := some (.int 1)) (hlocks := hlocks) (fun h => by rw [hr] at h; cases h)
  have hmeth' : T.vm.method? m = some meth := X.method'
  refine ⟨T.setFrames fs, ?_, .returned (some (.int 1)), hrun, hended, rfl, ⟨_, rfl⟩, hW, hframe⟩
  jvm_step X.here [X.here.top, hx, hb, hdg, hmeth', hr, ret, narrow_b1]
  (try refine ⟨rfl, ?_⟩); (try refine ⟨rfl, ?_⟩)
  first | (intro acts; rw [hret _ acts rfl rfl rfl]) | rw [hret _ _ rfl rfl rfl]
  exact Steps.refl _
/-- what holds at the law's entry: the machine, the code, the tables' words (any of lw_tbl by 'hts w (by decide +kernel)'), the script of L ints xs at the cell b, what the Statement gives of the start (any of its parts by flat_of_before) -/
def lw_At (p : Program) (s : State) (m : MethodId) (meth : Method) (c : Code) (b L : Nat) (xs : Nat → Int32) : Prop :=
  p.tables.exec = Jvm.exec ∧ c.code = code ∧ meth.sig.returnType = ret ∧ c.maxLocals = 4 ∧ s.vm.findClass R_law = some m.cls ∧ (∀ w ∈ lw_tbl, w.before #[Value.ref b] s = true) ∧ va_X b L xs s s.heap ∧ b < s.heap.size ∧ meth.locks = false ∧ (Jvm.Cond.and given_1 narrow_1).before #[Value.ref b] s = true
def pl_h0 : Hp_ := (0, 0, fun _ => 0, fun _ => 0, fun _ _ => 0, fun _ _ => 0, fun _ _ => 0)
/-- WHAT IS LEFT: on every script of at most 320 ints the law's pure run ends with 1, in the room -/
def pl_OK : Prop := ∀ (L : Nat) (xs : Nat → Int32), L ≤ 320 → ∃ (d N : Nat) (h' : Hp_), d + 1 ≤ 1600 ∧ pm_ex (pm_call tt_ms d N) tb_Law_law (some (L, xs)) N 0 [some (.ref 0), none, none, none] [] pl_h0 = some (some (.int 1), h') ∧ hp_nx h' ≤ 600000 ∧ hp_sl h' ≤ 7302250
theorem sd_chunk {t : Tab_} {xs : List Nat} {f : (Nat × Ent_) × Nat → Bool} (i : Nat) (h : (((t.drop i).take 40).zip ((xs.drop i).take 40)).all f = true) {j : Nat} {q : Nat × Ent_} {x : Nat} (h1 : t[j]? = some q) (h2 : xs[j]? = some x) (hj : i ≤ j) (hj2 : j < i + 40) : f (q, x) = true := by
  have e1 : ((t.drop i).take 40)[j - i]? = some q := by
    rw [List.getElem?_take_of_lt (by omega), List.getElem?_drop, Nat.add_sub_cancel' hj]
    exact h1
  have e2 : ((xs.drop i).take 40)[j - i]? = some x := by
    rw [List.getElem?_take_of_lt (by omega), List.getElem?_drop, Nat.add_sub_cancel' hj]
    exact h2
  have e3 : (((t.drop i).take 40).zip ((xs.drop i).take 40))[j - i]? = some (q, x) := List.getElem?_zip_eq_some.mpr ⟨e1, e2⟩
  exact List.all_eq_true.mp h _ (List.mem_of_getElem? e3)
theorem sd_lk_at {t : Tab_} {pc : Nat} {e : Ent_} (h : pm_lk t pc = some e) : ∃ j : Nat, t[j]? = some (pc, e) := by
  induction t with
  | nil => cases h
  | cons a r ih =>
    obtain ⟨k, e0⟩ := a
    unfold pm_lk at h
    split at h
    · rename_i hk
      cases h
      subst hk
      exact ⟨0, rfl⟩
    · obtain ⟨j, hj⟩ := ih h
      exact ⟨j + 1, hj⟩
theorem sd_law_len : tb_Law_law.length = 661 ∧ tx_Law_law.length = 661 := by decide +kernel
theorem sd_Lt : ∀ pc e, pm_lk tb_Law_law pc = some e → ∃ x, sd_ckE 14 false code ret pc e x = true := by
  intro pc e he
  obtain ⟨j, hj⟩ := sd_lk_at he
  have hl : j < 661 := by rw [← sd_law_len.1]; exact (List.getElem?_eq_some_iff.mp hj).1
  obtain ⟨x, hx⟩ : ∃ x, tx_Law_law[j]? = some x := ⟨_, List.getElem?_eq_getElem (by rw [sd_law_len.2]; exact hl)⟩
  refine ⟨x, ?_⟩
  by_cases h : j < 40
  · exact sd_chunk 0 sd_okL0 hj hx (by omega) (by omega)
  by_cases h : j < 80
  · exact sd_chunk 40 sd_okL1 hj hx (by omega) (by omega)
  by_cases h : j < 120
  · exact sd_chunk 80 sd_okL2 hj hx (by omega) (by omega)
  by_cases h : j < 160
  · exact sd_chunk 120 sd_okL3 hj hx (by omega) (by omega)
  by_cases h : j < 200
  · exact sd_chunk 160 sd_okL4 hj hx (by omega) (by omega)
  by_cases h : j < 240
  · exact sd_chunk 200 sd_okL5 hj hx (by omega) (by omega)
  by_cases h : j < 280
  · exact sd_chunk 240 sd_okL6 hj hx (by omega) (by omega)
  by_cases h : j < 320
  · exact sd_chunk 280 sd_okL7 hj hx (by omega) (by omega)
  by_cases h : j < 360
  · exact sd_chunk 320 sd_okL8 hj hx (by omega) (by omega)
  by_cases h : j < 400
  · exact sd_chunk 360 sd_okL9 hj hx (by omega) (by omega)
  by_cases h : j < 440
  · exact sd_chunk 400 sd_okL10 hj hx (by omega) (by omega)
  by_cases h : j < 480
  · exact sd_chunk 440 sd_okL11 hj hx (by omega) (by omega)
  by_cases h : j < 520
  · exact sd_chunk 480 sd_okL12 hj hx (by omega) (by omega)
  by_cases h : j < 560
  · exact sd_chunk 520 sd_okL13 hj hx (by omega) (by omega)
  by_cases h : j < 600
  · exact sd_chunk 560 sd_okL14 hj hx (by omega) (by omega)
  by_cases h : j < 640
  · exact sd_chunk 600 sd_okL15 hj hx (by omega) (by omega)
  · exact sd_chunk 640 sd_okL16 hj hx (by omega) (by omega)
theorem sd_cls_len : tt_cls.length = 11 := rfl
theorem sd_K_of {args : Array Value} {s : State} (hts : ∀ w ∈ sd_WS, w.before args s = true) : ∃ (D : va_G) (cy : Nat → ClassId), va_K D tt_cls (sd_tys cy) s := by
  have h1 : ∀ a, ∃ (cC : ClassId) (iS : Nat → Nat), a < 11 → u_Kn s (tt_c a).1 (tt_c a).2.1 (tt_c a).2.2 cC iS := by
    intro a
    by_cases ha : a < 11
    · obtain ⟨cC, iS, hk⟩ := u_known (C := (tt_c a).1) (T := (tt_c a).2.1) (N := (tt_c a).2.2) hts (sd_Cw ha) (hts _ (sd_Ci ha).1)
      exact ⟨cC, iS, fun _ => hk⟩
    · exact ⟨0, fun _ => 0, fun z => absurd z ha⟩
  have arr : ∀ ty : FieldType, (∀ n, ty ≠ .object n) → Cond.arrayClass ty ∈ sd_WS → ∃ cA : ClassId, ArrOfT s cA ty ∧ s.vm.findClass ("[" ++ ty.toString) = some cA := by
    intro ty _ hw
    obtain ⟨cA, kA, comp, hfind, hk, hkind⟩ := Cond.arrayClass_spec (hts _ hw)
    exact ⟨cA, fun n z => ⟨fun k h => (by cases h), kA, hk, comp, hkind⟩, hfind⟩
  obtain ⟨c1, a1, f1⟩ := arr .int (fun n h => by cases h) sd_arr.1
  obtain ⟨c2, a2, f2⟩ := arr .long (fun n h => by cases h) sd_arr.2.1
  obtain ⟨c3, a3, f3⟩ := arr .boolean (fun n h => by cases h) sd_arr.2.2.1
  refine ⟨(fun a => Classical.choose (h1 a), fun a => Classical.choose (Classical.choose_spec (h1 a))), fun k => if k = 1 then c1 else if k = 2 then c2 else c3, ?_, ?_⟩
  · intro k q hq
    have hk : k < 11 := by rw [← sd_cls_len]; exact (List.getElem?_eq_some_iff.mp hq).1
    have := sd_cls_at k hk
    rw [this] at hq
    cases hq
    exact Classical.choose_spec (Classical.choose_spec (h1 k)) hk
  · intro k q hq
    match k, hq with
    | 0, hq => cases hq; exact ⟨a1, f1⟩
    | 1, hq => cases hq; exact ⟨a2, f2⟩
    | 2, hq => cases hq; exact ⟨a3, f3⟩
    | k + 3, hq => cases hq
theorem sd_NW_of {args : Array Value} {s : State} (hts : ∀ w ∈ lw_tbl, w.before args s = true) : sd_NW s := by
  refine ⟨fun r hr hd => ?_, fun r hr hd => ?_⟩
  · have h := List.all_eq_true.mp sd_okF r hr
    simp only [Bool.and_eq_true, Bool.or_eq_true, decide_eq_true_eq] at h
    have hw := hts _ (List.mem_of_getElem? h.1.1.1)
    obtain ⟨o, idx, a, b, d, k⟩ := r
    simp only [sd_wF] at hw hd ⊢
    rw [if_neg hd] at hw ⊢
    exact va_Nw.of rfl hw
  · have h := List.all_eq_true.mp sd_okM r hr
    simp only [Bool.and_eq_true, Bool.or_eq_true, decide_eq_true_eq] at h
    have hw := hts _ (List.mem_of_getElem? h.1)
    obtain ⟨o, idx, a, d, k⟩ := r
    simp only [sd_wM] at hw hd ⊢
    subst hd
    exact va_Nw.of rfl hw
set_option maxHeartbeats 4000000 in
theorem whole_of (hok : pl_OK) {p : Program} {e : Env} {s : State} {m : MethodId} {below : List Frame} {meth : Method} {c : Code} (l : Launch) {b L : Nat} {xs : Nat → Int32} (hL : L ≤ 320) (C0 : lw_At p s m meth c b L xs) : W p l e room_1 s m #[Value.ref b] below meth c s.heap [] 0 0 (lw_Z below #[Value.ref b] s) (entryFrame m ([Value.ref b] : List Value).toArray 4) := by
  obtain ⟨hx, hb, hr, hml, hown, hts, hX, hbl, hlocks, hgv⟩ := id C0
  obtain ⟨d, N, hf, hd, hrun, hnx, hsl⟩ := hok L xs hL
  have htw : ∀ w ∈ sd_WS, w.before #[Value.ref b] s = true := fun w hw => hts w (List.mem_filter.mp hw).1
  obtain ⟨D, cy, hK⟩ := sd_K_of htw
  have hA : ∀ q : Nat, s.heap.size ≤ q → (fun q : Nat => s.heap.size ≤ q) q := fun _ h => h
  have hbA : ¬ (fun q : Nat => s.heap.size ≤ q) b := Nat.not_le.mpr hbl
  have F : sd_Fix p s m #[Value.ref b] meth c code 4 14 false D cy := ⟨hx, hb, hml, hown, htw, sd_NW_of hts, hK, fun z => by cases z⟩
  have key : sd_G p l e room_1 s m #[Value.ref b] below meth c (lw_Z below #[Value.ref b] s) D cy (fun _ => b) 0 0 (fun q : Nat => s.heap.size ≤ q) s.heap 4 0 [some (.ref 0), none, none, none] [] pl_h0 := by
    refine sd_exec (sc := some (L, xs)) (ret0 := ret) (d1 := d) (tab := tb_Law_law) (call := pm_call tt_ms d N) (rf := some (.int 1)) (hf := hf) F ⟨hX, hbl, hbA⟩ hA (by show d + 1 ≤ 2048; omega) (by show 50 * (d + 1) ≤ 84000; omega) sd_Lt (sd_call_mono tt_ms N d) (sd_met l D cy N d) (by show hp_nx hf - 0 ≤ 600000; omega) (by show hp_sl hf - 0 ≤ 7302250; omega) ?_ _ _ _ _ _ hrun
    intro pc en L1 st hh hlk hsem ad' H' locs' ls' hrel
    obtain ⟨r1, r2, r3, r4, r5, r6, r7, r8, r9, r10, r11⟩ := hrel
    have ehh := sd_ret_eq hsem
    subst ehh
    obtain ⟨x, ck⟩ := sd_Lt pc en hlk
    obtain ⟨i, n, a, b1, c3, d3, v, w⟩ := en
    unfold sd_ckE at ck
    rw [Bool.and_eq_true, Bool.and_eq_true, Bool.and_eq_true, decide_eq_true_eq, decide_eq_true_eq, decide_eq_true_eq] at ck
    obtain ⟨⟨⟨hpn, hlen⟩, hdec⟩, hk⟩ := ck
    cases i with
    | ireturn =>
      obtain ⟨hn, hd⟩ := sd_dec hlen (k := 1) rfl (by decide) hdec
      change pm_iret a st hf = some (.inr (.inl (some (.int 1), hf))) at hsem
      have hst : st = [.int 1] := by
        unfold pm_iret at hsem
        split at hsem
        · (repeat' split at hsem) <;> cases hsem <;> rfl
        · cases hsem
      subst hst
      refine va_forget (fun q hq => r9.2.2 q hq) ?_
      refine W.widen (k := 600000) (n := 7302250) (by omega) (by omega) ?_
      exact lw_ret hx hb hr hlocks hd
    | _ => exact absurd hsem (by
        simp only [pm_sem, pm_ldA, pm_ldI, pm_ldJ, pm_stI, pm_stA, pm_stL, pm_inc, pm_bin, pm_div, pm_binL, pm_divL, pm_cmpL, pm_i2l, pm_l2i, pm_dup, pm_pop, pm_if, pm_icmp, pm_sw, pm_getf, pm_putf, pm_new, pm_newa, pm_alen, pm_iald, pm_zald, pm_lald, pm_iast, pm_zast, pm_last, pm_callV, pm_callS, pm_callI, pm_lret, pm_aret, pm_vret]
        intro hs
        (repeat' split at hs) <;> cases hs)
  rw [lg_entry_eq]
  have hl := sd_entry (fun _ => b) [.ref 0] 4 (by decide)
  have e0 : ([Value.ref 0] : List Value).map (sd_re (fun _ => b)) = [Value.ref b] := rfl
  rw [e0] at hl
  generalize (lg_sl ([.ref b]) ++ List.replicate (4 - (lg_sl ([.ref b])).length) Slot.unset).toArray = ls at hl ⊢
  have := key (fun _ => b) s.heap [] ls ⟨⟨fun _ _ => Nat.le_refl _, fun c hc => absurd rfl hc⟩, fun v hv => by
    simp only [List.mem_cons, List.not_mem_nil, or_false, Option.some.injEq, reduceCtorEq] at hv
    subst hv
    exact Nat.le_refl _, fun v hv => (by cases hv), Nat.le_refl _, Nat.le_refl _, fun _ _ => rfl, fun k q hk => absurd (sd_w_of hk).1 (Nat.not_lt_zero _), ⟨fun i j p q h => absurd (sd_w_of h).1 (Nat.not_lt_zero _), fun k q h => absurd (sd_w_of h).1 (Nat.not_lt_zero _)⟩, va_S.rf, rfl, hl⟩
  exact this
end
section
-- ===== RULES for the pure machine =====
/-- call's answers are call2's too -/
def wq_sub (call call2 : Nat → List Value → Hp_ → Option (Option Value × Hp_)) : Prop := ∀ y as h o, call y as h = some o → call2 y as h = some o
theorem wq_ex_mono {call call2 : Nat → List Value → Hp_ → Option (Option Value × Hp_)} (hc : wq_sub call call2) {tab : Tab_} {sc : Sc_} : ∀ (N M pc : Nat) (L : Lc_) (st : List Value) (h : Hp_) (o : Option Value × Hp_), N ≤ M → pm_ex call tab sc N pc L st h = some o → pm_ex call2 tab sc M pc L st h = some o := by
  intro N
  induction N with
  | zero => intro M pc L st h o _ hs; cases hs
  | succ N ih =>
    intro M pc L st h o hM hs
    obtain ⟨M, rfl⟩ : ∃ M', M = M' + 1 := ⟨M - 1, by omega⟩
    rw [pm_ex] at hs ⊢
    split at hs
    · cases hs
    · rename_i e he
      (try rw [he])
      (try dsimp only)
      split at hs
      · cases hs
      · rename_i pc1 L1 st1 h1 hs1
        (try rw [hs1])
        exact ih _ _ _ _ _ _ (by omega) hs
      · rename_i r1 hs1
        (try rw [hs1])
        exact hs
      · rename_i y as pc1 L1 st1 hs1
        (try rw [hs1])
        (try dsimp only)
        split at hs
        · cases hs
        · rename_i r1 h1 hcl
          (try rw [hc _ _ _ _ hcl])
          exact ih _ _ _ _ _ _ (by omega) hs
theorem wq_call_fuel (ms : Nat → Option Mi_) {N M : Nat} (hN : N ≤ M) : ∀ d, wq_sub (pm_call ms d N) (pm_call ms d M) := by
  intro d
  induction d with
  | zero => intro y as h o hs; cases hs
  | succ d ih =>
    intro y as h o hs
    rw [pm_call] at hs ⊢
    split at hs
    · cases hs
    · rename_i q1 q2 q3 q4 q5 hy
      (try rw [hy])
      (try dsimp only)
      split at hs
      · rename_i hsum
        (try rw [if_pos hsum])
        exact wq_ex_mono ih _ _ _ _ _ _ _ hN hs
      · cases hs
theorem wq_call_deep (ms : Nat → Option Mi_) (N : Nat) : ∀ d, wq_sub (pm_call ms d N) (pm_call ms (d + 1) N) := by
  intro d
  induction d with
  | zero => intro y as h o hs; cases hs
  | succ d ih =>
    intro y as h o hs
    rw [pm_call] at hs ⊢
    split at hs
    · cases hs
    · rename_i q1 q2 q3 q4 q5 hy
      (try rw [hy])
      (try dsimp only)
      split at hs
      · rename_i hsum
        (try rw [if_pos hsum])
        exact wq_ex_mono ih _ _ _ _ _ _ _ (Nat.le_refl _) hs
      · cases hs
/-- a run comes to an end with Q; a call of depth d does -/
def wq (d : Nat) (tab : Tab_) (sc : Sc_) (pc : Nat) (L : Lc_) (st : List Value) (h : Hp_) (Q : Option Value → Hp_ → Prop) : Prop := ∃ (N : Nat) (r : Option Value) (h' : Hp_), pm_ex (pm_call tt_ms d N) tab sc N pc L st h = some (r, h') ∧ Q r h'
def cq (d y : Nat) (as : List Value) (h : Hp_) (Q : Option Value → Hp_ → Prop) : Prop := ∃ (N : Nat) (r : Option Value) (h' : Hp_), pm_call tt_ms d N y as h = some (r, h') ∧ Q r h'
def cI (d y : Nat) (as : List Value) (h : Hp_) (P : Int32 → Hp_ → Prop) : Prop := cq d y as h (fun r h' => ∃ x, r = some (.int x) ∧ P x h')
def cJ (d y : Nat) (as : List Value) (h : Hp_) (P : Int64 → Hp_ → Prop) : Prop := cq d y as h (fun r h' => ∃ x, r = some (.long x) ∧ P x h')
def cA (d y : Nat) (as : List Value) (h : Hp_) (P : Nat → Hp_ → Prop) : Prop := cq d y as h (fun r h' => ∃ x, r = some (.ref x) ∧ P x h')
def cV (d y : Nat) (as : List Value) (h : Hp_) (P : Hp_ → Prop) : Prop := cq d y as h (fun r h' => r = none ∧ P h')
theorem cq_deeper {d k y : Nat} {as : List Value} {h : Hp_} {Q : Option Value → Hp_ → Prop} (hd : d ≤ k) (hc : cq d y as h Q) : cq k y as h Q := by
  obtain ⟨N, r, h', h1, h2⟩ := hc
  refine ⟨N, r, h', ?_, h2⟩
  induction k with
  | zero => obtain rfl : d = 0 := by omega
            exact h1
  | succ k ih =>
    rcases Nat.lt_or_ge k d with q | q
    · obtain rfl : d = k + 1 := by omega
      exact h1
    · exact wq_call_deep tt_ms N k _ _ _ _ (ih q)
theorem cq_post {d y : Nat} {as : List Value} {h : Hp_} {Q Q2 : Option Value → Hp_ → Prop} (hc : cq d y as h Q) (hq : ∀ r h', Q r h' → Q2 r h') : cq d y as h Q2 := by
  obtain ⟨N, r, h', h1, h2⟩ := hc
  exact ⟨N, r, h', h1, hq _ _ h2⟩
theorem cI_post {d y : Nat} {as : List Value} {h : Hp_} {P P2 : Int32 → Hp_ → Prop} (hc : cI d y as h P) (hq : ∀ x h', P x h' → P2 x h') : cI d y as h P2 := cq_post hc (fun r h' => by rintro ⟨x, e, p⟩; exact ⟨x, e, hq _ _ p⟩)
theorem cJ_post {d y : Nat} {as : List Value} {h : Hp_} {P P2 : Int64 → Hp_ → Prop} (hc : cJ d y as h P) (hq : ∀ x h', P x h' → P2 x h') : cJ d y as h P2 := cq_post hc (fun r h' => by rintro ⟨x, e, p⟩; exact ⟨x, e, hq _ _ p⟩)
theorem cA_post {d y : Nat} {as : List Value} {h : Hp_} {P P2 : Nat → Hp_ → Prop} (hc : cA d y as h P) (hq : ∀ x h', P x h' → P2 x h') : cA d y as h P2 := cq_post hc (fun r h' => by rintro ⟨x, e, p⟩; exact ⟨x, e, hq _ _ p⟩)
theorem cV_post {d y : Nat} {as : List Value} {h : Hp_} {P P2 : Hp_ → Prop} (hc : cV d y as h P) (hq : ∀ h', P h' → P2 h') : cV d y as h P2 := cq_post hc (fun r h' => by rintro ⟨e, p⟩; exact ⟨e, hq _ p⟩)
theorem wq_post {d : Nat} {tab : Tab_} {sc : Sc_} {pc : Nat} {L : Lc_} {st : List Value} {h : Hp_} {Q Q2 : Option Value → Hp_ → Prop} (hc : wq d tab sc pc L st h Q) (hq : ∀ r h', Q r h' → Q2 r h') : wq d tab sc pc L st h Q2 := by
  obtain ⟨N, r, h', h1, h2⟩ := hc
  exact ⟨N, r, h', h1, hq _ _ h2⟩
section WQ
variable {d n a b c e k y : Nat} {v : Int32} {w : Int64} {tab : Tab_} {sc : Sc_} {pc : Nat} {L L' : Lc_} {st st' : List Value} {h h' : Hp_} {Q : Option Value → Hp_ → Prop}
theorem wq_step {en : Ent_} (hc : pm_lk tab pc = some en) (hs : pm_sem sc pc en L st h = some (.inl (n, L', st', h'))) (kk : wq d tab sc n L' st' h' Q) : wq d tab sc pc L st h Q := by
  obtain ⟨N, r, h1, e1, e2⟩ := kk
  refine ⟨N + 1, r, h1, ?_, e2⟩
  rw [pm_ex, hc]
  dsimp only
  rw [hs]
  exact wq_ex_mono (wq_call_fuel tt_ms (Nat.le_succ N) d) N N _ _ _ _ _ (Nat.le_refl _) e1
theorem wq_ret {en : Ent_} {r : Option Value} (hc : pm_lk tab pc = some en) (hs : pm_sem sc pc en L st h = some (.inr (.inl (r, h')))) (kk : Q r h') : wq d tab sc pc L st h Q := by
  refine ⟨1, r, h', ?_, kk⟩
  rw [pm_ex, hc]
  dsimp only
  rw [hs]
theorem wq_call {en : Ent_} {as : List Value} {Q1 : Option Value → Hp_ → Prop} (hc : pm_lk tab pc = some en) (hs : pm_sem sc pc en L st h = some (.inr (.inr (y, as, n, L', st')))) (hd : k ≤ d) (hq : cq k y as h Q1) (kk : ∀ r h', Q1 r h' → wq d tab sc n L' (r.toList ++ st') h' Q) : wq d tab sc pc L st h Q := by
  obtain ⟨N, r, h1, e1, e2⟩ := cq_deeper hd hq
  obtain ⟨M, r2, h2, e3, e4⟩ := kk r h1 e2
  refine ⟨max N M + 1, r2, h2, ?_, e4⟩
  rw [pm_ex, hc]
  dsimp only
  rw [hs]
  dsimp only
  rw [wq_call_fuel tt_ms (show N ≤ max N M + 1 by omega) d _ _ _ _ e1]
  exact wq_ex_mono (wq_call_fuel tt_ms (show M ≤ max N M + 1 by omega) d) M (max N M) _ _ _ _ _ (by omega) e3
theorem cq_in {q : Mi_} {as : List Value} (hy : tt_ml[y]? = some q) (hs : (as.map (fun v => v.category)).sum ≤ q.2.2.1) (hl : pm_lay as q.2.2.1 = L) (kk : wq d q.2.2.2.2 none 0 L [] h Q) : cq (d + 1) y as h Q := by
  obtain ⟨N, r, h', e1, e2⟩ := kk
  refine ⟨N, r, h', ?_, e2⟩
  obtain ⟨q1, q2, q3, q4, q5⟩ := q
  rw [pm_call]
  rw [show tt_ms y = tt_ml[y]? from rfl, hy]
  dsimp only at hs hl e1 ⊢
  rw [if_pos hs, hl]
  exact e1
def nl_ (z : Option Value) : Bool := match z with
  | some v => decide (v.category ≠ 2)
  | none => true
theorem pm_st_nl {L : Lc_} {i : Nat} {v : Value} (z : Option Value) (h : L[i]? = some z) (hz : nl_ z = true) : pm_st L (i + 1) v = L.set (i + 1) (some v) := by
  unfold pm_st pm_kill
  dsimp only
  rw [h]
  cases z with
  | none => rfl
  | some w =>
    dsimp only
    rw [if_neg (of_decide_eq_true hz)]
theorem pm_st_0 {L : Lc_} {v : Value} : pm_st L 0 v = L.set 0 (some v) := rfl

theorem wp_iload0 {x : Int32} {t : Lc_} (hc : pm_lk tab pc = some (.iload_n 0, n, a, b, c, e, v, w)) (kk : wq d tab sc n (some (.int x) :: t) (.int x :: st) h Q) : wq d tab sc pc (some (.int x) :: t) (st) h Q := wq_step hc rfl kk
theorem wp_lload0 {x : Int64} {t : Lc_} (hc : pm_lk tab pc = some (.lload_n 0, n, a, b, c, e, v, w)) (kk : wq d tab sc n (some (.long x) :: t) (.long x :: st) h Q) : wq d tab sc pc (some (.long x) :: t) (st) h Q := wq_step hc rfl kk
theorem wp_aload0 {x : Nat} {t : Lc_} (hc : pm_lk tab pc = some (.aload_n 0, n, a, b, c, e, v, w)) (kk : wq d tab sc n (some (.ref x) :: t) (.ref x :: st) h Q) : wq d tab sc pc (some (.ref x) :: t) (st) h Q := wq_step hc rfl kk
theorem wp_istore0 {x : Int32} {z : Option Value} {t : Lc_} (hc : pm_lk tab pc = some (.istore_n 0, n, a, b, c, e, v, w)) (kk : wq d tab sc n (some (.int x) :: t) (st) h Q) : wq d tab sc pc (z :: t) (.int x :: st) h Q := by
  have e1 : pm_st (z :: t) 0 (.int x) = some (.int x) :: t := rfl
  exact wq_step hc (show (if 0 < (z :: t).length then some (Sum.inl (n, pm_st (z :: t) 0 (.int x), st, h)) else none) = some (Sum.inl (n, some (.int x) :: t, st, h)) by rw [if_pos (by simp), e1]) kk
theorem wp_astore0 {x : Nat} {z : Option Value} {t : Lc_} (hc : pm_lk tab pc = some (.astore_n 0, n, a, b, c, e, v, w)) (kk : wq d tab sc n (some (.ref x) :: t) (st) h Q) : wq d tab sc pc (z :: t) (.ref x :: st) h Q := by
  have e1 : pm_st (z :: t) 0 (.ref x) = some (.ref x) :: t := rfl
  exact wq_step hc (show (if 0 < (z :: t).length then some (Sum.inl (n, pm_st (z :: t) 0 (.ref x), st, h)) else none) = some (Sum.inl (n, some (.ref x) :: t, st, h)) by rw [if_pos (by simp), e1]) kk
theorem wp_lstore0 {x : Int64} {z z2 : Option Value} {t : Lc_} (hc : pm_lk tab pc = some (.lstore_n 0, n, a, b, c, e, v, w)) (kk : wq d tab sc n (some (.long x) :: none :: t) (st) h Q) : wq d tab sc pc (z :: z2 :: t) (.long x :: st) h Q := by
  have e1 : pm_st (z :: z2 :: t) 0 (.long x) = some (.long x) :: z2 :: t := rfl
  have e2 : pm_stJ (z :: z2 :: t) 0 (.long x) = some (.long x) :: none :: t := by
    show (pm_st (z :: z2 :: t) 0 (.long x)).set (0 + 1) none = _
    rw [e1]
    rfl
  exact wq_step hc (show (if 0 + 1 < (z :: z2 :: t).length then some (Sum.inl (n, pm_stJ (z :: z2 :: t) 0 (.long x), st, h)) else none) = some (Sum.inl (n, some (.long x) :: none :: t, st, h)) by rw [if_pos (by simp), e2]) kk
theorem wp_iinc0 {x : Int32} {w1 : Int} {t : Lc_} (hc : pm_lk tab pc = some (.iinc 0 w1, n, a, b, c, e, v, w)) (kk : wq d tab sc n (some (.int (x + v)) :: t) (st) h Q) : wq d tab sc pc (some (.int x) :: t) (st) h Q := by
  have e1 : pm_st (some (.int x) :: t) 0 (.int (x + v)) = some (.int (x + v)) :: t := rfl
  exact wq_step hc (show some (Sum.inl (n, pm_st (some (.int x) :: t) 0 (.int (x + v)), st, h)) = _ by rw [e1]) kk
theorem wp_iload1 {x : Int32} {a0 : Option Value} {t : Lc_} (hc : pm_lk tab pc = some (.iload_n 1, n, a, b, c, e, v, w)) (kk : wq d tab sc n (a0 :: some (.int x) :: t) (.int x :: st) h Q) : wq d tab sc pc (a0 :: some (.int x) :: t) (st) h Q := wq_step hc rfl kk
theorem wp_lload1 {x : Int64} {a0 : Option Value} {t : Lc_} (hc : pm_lk tab pc = some (.lload_n 1, n, a, b, c, e, v, w)) (kk : wq d tab sc n (a0 :: some (.long x) :: t) (.long x :: st) h Q) : wq d tab sc pc (a0 :: some (.long x) :: t) (st) h Q := wq_step hc rfl kk
theorem wp_aload1 {x : Nat} {a0 : Option Value} {t : Lc_} (hc : pm_lk tab pc = some (.aload_n 1, n, a, b, c, e, v, w)) (kk : wq d tab sc n (a0 :: some (.ref x) :: t) (.ref x :: st) h Q) : wq d tab sc pc (a0 :: some (.ref x) :: t) (st) h Q := wq_step hc rfl kk
theorem wp_istore1 {x : Int32} {a0 : Option Value} {z : Option Value} {t : Lc_} (hc : pm_lk tab pc = some (.istore_n 1, n, a, b, c, e, v, w)) (hz : nl_ a0 = true := by rfl) (kk : wq d tab sc n (a0 :: some (.int x) :: t) (st) h Q) : wq d tab sc pc (a0 :: z :: t) (.int x :: st) h Q := by
  have e1 : pm_st (a0 :: z :: t) 1 (.int x) = a0 :: some (.int x) :: t := (pm_st_nl a0 rfl hz)
  exact wq_step hc (show (if 1 < (a0 :: z :: t).length then some (Sum.inl (n, pm_st (a0 :: z :: t) 1 (.int x), st, h)) else none) = some (Sum.inl (n, a0 :: some (.int x) :: t, st, h)) by rw [if_pos (by simp), e1]) kk
theorem wp_astore1 {x : Nat} {a0 : Option Value} {z : Option Value} {t : Lc_} (hc : pm_lk tab pc = some (.astore_n 1, n, a, b, c, e, v, w)) (hz : nl_ a0 = true := by rfl) (kk : wq d tab sc n (a0 :: some (.ref x) :: t) (st) h Q) : wq d tab sc pc (a0 :: z :: t) (.ref x :: st) h Q := by
  have e1 : pm_st (a0 :: z :: t) 1 (.ref x) = a0 :: some (.ref x) :: t := (pm_st_nl a0 rfl hz)
  exact wq_step hc (show (if 1 < (a0 :: z :: t).length then some (Sum.inl (n, pm_st (a0 :: z :: t) 1 (.ref x), st, h)) else none) = some (Sum.inl (n, a0 :: some (.ref x) :: t, st, h)) by rw [if_pos (by simp), e1]) kk
theorem wp_lstore1 {x : Int64} {a0 : Option Value} {z z2 : Option Value} {t : Lc_} (hc : pm_lk tab pc = some (.lstore_n 1, n, a, b, c, e, v, w)) (hz : nl_ a0 = true := by rfl) (kk : wq d tab sc n (a0 :: some (.long x) :: none :: t) (st) h Q) : wq d tab sc pc (a0 :: z :: z2 :: t) (.long x :: st) h Q := by
  have e1 : pm_st (a0 :: z :: z2 :: t) 1 (.long x) = a0 :: some (.long x) :: z2 :: t := (pm_st_nl a0 rfl hz)
  have e2 : pm_stJ (a0 :: z :: z2 :: t) 1 (.long x) = a0 :: some (.long x) :: none :: t := by
    show (pm_st (a0 :: z :: z2 :: t) 1 (.long x)).set (1 + 1) none = _
    rw [e1]
    rfl
  exact wq_step hc (show (if 1 + 1 < (a0 :: z :: z2 :: t).length then some (Sum.inl (n, pm_stJ (a0 :: z :: z2 :: t) 1 (.long x), st, h)) else none) = some (Sum.inl (n, a0 :: some (.long x) :: none :: t, st, h)) by rw [if_pos (by simp), e2]) kk
theorem wp_iinc1 {x : Int32} {w1 : Int} {a0 : Option Value} {t : Lc_} (hc : pm_lk tab pc = some (.iinc 1 w1, n, a, b, c, e, v, w)) (hz : nl_ a0 = true := by rfl) (kk : wq d tab sc n (a0 :: some (.int (x + v)) :: t) (st) h Q) : wq d tab sc pc (a0 :: some (.int x) :: t) (st) h Q := by
  have e1 : pm_st (a0 :: some (.int x) :: t) 1 (.int (x + v)) = a0 :: some (.int (x + v)) :: t := (pm_st_nl a0 rfl hz)
  exact wq_step hc (show some (Sum.inl (n, pm_st (a0 :: some (.int x) :: t) 1 (.int (x + v)), st, h)) = _ by rw [e1]) kk
theorem wp_iload2 {x : Int32} {a0 a1 : Option Value} {t : Lc_} (hc : pm_lk tab pc = some (.iload_n 2, n, a, b, c, e, v, w)) (kk : wq d tab sc n (a0 :: a1 :: some (.int x) :: t) (.int x :: st) h Q) : wq d tab sc pc (a0 :: a1 :: some (.int x) :: t) (st) h Q := wq_step hc rfl kk
theorem wp_lload2 {x : Int64} {a0 a1 : Option Value} {t : Lc_} (hc : pm_lk tab pc = some (.lload_n 2, n, a, b, c, e, v, w)) (kk : wq d tab sc n (a0 :: a1 :: some (.long x) :: t) (.long x :: st) h Q) : wq d tab sc pc (a0 :: a1 :: some (.long x) :: t) (st) h Q := wq_step hc rfl kk
theorem wp_aload2 {x : Nat} {a0 a1 : Option Value} {t : Lc_} (hc : pm_lk tab pc = some (.aload_n 2, n, a, b, c, e, v, w)) (kk : wq d tab sc n (a0 :: a1 :: some (.ref x) :: t) (.ref x :: st) h Q) : wq d tab sc pc (a0 :: a1 :: some (.ref x) :: t) (st) h Q := wq_step hc rfl kk
theorem wp_istore2 {x : Int32} {a0 a1 : Option Value} {z : Option Value} {t : Lc_} (hc : pm_lk tab pc = some (.istore_n 2, n, a, b, c, e, v, w)) (hz : nl_ a1 = true := by rfl) (kk : wq d tab sc n (a0 :: a1 :: some (.int x) :: t) (st) h Q) : wq d tab sc pc (a0 :: a1 :: z :: t) (.int x :: st) h Q := by
  have e1 : pm_st (a0 :: a1 :: z :: t) 2 (.int x) = a0 :: a1 :: some (.int x) :: t := (pm_st_nl a1 rfl hz)
  exact wq_step hc (show (if 2 < (a0 :: a1 :: z :: t).length then some (Sum.inl (n, pm_st (a0 :: a1 :: z :: t) 2 (.int x), st, h)) else none) = some (Sum.inl (n, a0 :: a1 :: some (.int x) :: t, st, h)) by rw [if_pos (by simp), e1]) kk
theorem wp_astore2 {x : Nat} {a0 a1 : Option Value} {z : Option Value} {t : Lc_} (hc : pm_lk tab pc = some (.astore_n 2, n, a, b, c, e, v, w)) (hz : nl_ a1 = true := by rfl) (kk : wq d tab sc n (a0 :: a1 :: some (.ref x) :: t) (st) h Q) : wq d tab sc pc (a0 :: a1 :: z :: t) (.ref x :: st) h Q := by
  have e1 : pm_st (a0 :: a1 :: z :: t) 2 (.ref x) = a0 :: a1 :: some (.ref x) :: t := (pm_st_nl a1 rfl hz)
  exact wq_step hc (show (if 2 < (a0 :: a1 :: z :: t).length then some (Sum.inl (n, pm_st (a0 :: a1 :: z :: t) 2 (.ref x), st, h)) else none) = some (Sum.inl (n, a0 :: a1 :: some (.ref x) :: t, st, h)) by rw [if_pos (by simp), e1]) kk
theorem wp_lstore2 {x : Int64} {a0 a1 : Option Value} {z z2 : Option Value} {t : Lc_} (hc : pm_lk tab pc = some (.lstore_n 2, n, a, b, c, e, v, w)) (hz : nl_ a1 = true := by rfl) (kk : wq d tab sc n (a0 :: a1 :: some (.long x) :: none :: t) (st) h Q) : wq d tab sc pc (a0 :: a1 :: z :: z2 :: t) (.long x :: st) h Q := by
  have e1 : pm_st (a0 :: a1 :: z :: z2 :: t) 2 (.long x) = a0 :: a1 :: some (.long x) :: z2 :: t := (pm_st_nl a1 rfl hz)
  have e2 : pm_stJ (a0 :: a1 :: z :: z2 :: t) 2 (.long x) = a0 :: a1 :: some (.long x) :: none :: t := by
    show (pm_st (a0 :: a1 :: z :: z2 :: t) 2 (.long x)).set (2 + 1) none = _
    rw [e1]
    rfl
  exact wq_step hc (show (if 2 + 1 < (a0 :: a1 :: z :: z2 :: t).length then some (Sum.inl (n, pm_stJ (a0 :: a1 :: z :: z2 :: t) 2 (.long x), st, h)) else none) = some (Sum.inl (n, a0 :: a1 :: some (.long x) :: none :: t, st, h)) by rw [if_pos (by simp), e2]) kk
theorem wp_iinc2 {x : Int32} {w1 : Int} {a0 a1 : Option Value} {t : Lc_} (hc : pm_lk tab pc = some (.iinc 2 w1, n, a, b, c, e, v, w)) (hz : nl_ a1 = true := by rfl) (kk : wq d tab sc n (a0 :: a1 :: some (.int (x + v)) :: t) (st) h Q) : wq d tab sc pc (a0 :: a1 :: some (.int x) :: t) (st) h Q := by
  have e1 : pm_st (a0 :: a1 :: some (.int x) :: t) 2 (.int (x + v)) = a0 :: a1 :: some (.int (x + v)) :: t := (pm_st_nl a1 rfl hz)
  exact wq_step hc (show some (Sum.inl (n, pm_st (a0 :: a1 :: some (.int x) :: t) 2 (.int (x + v)), st, h)) = _ by rw [e1]) kk
theorem wp_iload3 {x : Int32} {a0 a1 a2 : Option Value} {t : Lc_} (hc : pm_lk tab pc = some (.iload_n 3, n, a, b, c, e, v, w)) (kk : wq d tab sc n (a0 :: a1 :: a2 :: some (.int x) :: t) (.int x :: st) h Q) : wq d tab sc pc (a0 :: a1 :: a2 :: some (.int x) :: t) (st) h Q := wq_step hc rfl kk
theorem wp_lload3 {x : Int64} {a0 a1 a2 : Option Value} {t : Lc_} (hc : pm_lk tab pc = some (.lload_n 3, n, a, b, c, e, v, w)) (kk : wq d tab sc n (a0 :: a1 :: a2 :: some (.long x) :: t) (.long x :: st) h Q) : wq d tab sc pc (a0 :: a1 :: a2 :: some (.long x) :: t) (st) h Q := wq_step hc rfl kk
theorem wp_aload3 {x : Nat} {a0 a1 a2 : Option Value} {t : Lc_} (hc : pm_lk tab pc = some (.aload_n 3, n, a, b, c, e, v, w)) (kk : wq d tab sc n (a0 :: a1 :: a2 :: some (.ref x) :: t) (.ref x :: st) h Q) : wq d tab sc pc (a0 :: a1 :: a2 :: some (.ref x) :: t) (st) h Q := wq_step hc rfl kk
theorem wp_istore3 {x : Int32} {a0 a1 a2 : Option Value} {z : Option Value} {t : Lc_} (hc : pm_lk tab pc = some (.istore_n 3, n, a, b, c, e, v, w)) (hz : nl_ a2 = true := by rfl) (kk : wq d tab sc n (a0 :: a1 :: a2 :: some (.int x) :: t) (st) h Q) : wq d tab sc pc (a0 :: a1 :: a2 :: z :: t) (.int x :: st) h Q := by
  have e1 : pm_st (a0 :: a1 :: a2 :: z :: t) 3 (.int x) = a0 :: a1 :: a2 :: some (.int x) :: t := (pm_st_nl a2 rfl hz)
  exact wq_step hc (show (if 3 < (a0 :: a1 :: a2 :: z :: t).length then some (Sum.inl (n, pm_st (a0 :: a1 :: a2 :: z :: t) 3 (.int x), st, h)) else none) = some (Sum.inl (n, a0 :: a1 :: a2 :: some (.int x) :: t, st, h)) by rw [if_pos (by simp), e1]) kk
theorem wp_astore3 {x : Nat} {a0 a1 a2 : Option Value} {z : Option Value} {t : Lc_} (hc : pm_lk tab pc = some (.astore_n 3, n, a, b, c, e, v, w)) (hz : nl_ a2 = true := by rfl) (kk : wq d tab sc n (a0 :: a1 :: a2 :: some (.ref x) :: t) (st) h Q) : wq d tab sc pc (a0 :: a1 :: a2 :: z :: t) (.ref x :: st) h Q := by
  have e1 : pm_st (a0 :: a1 :: a2 :: z :: t) 3 (.ref x) = a0 :: a1 :: a2 :: some (.ref x) :: t := (pm_st_nl a2 rfl hz)
  exact wq_step hc (show (if 3 < (a0 :: a1 :: a2 :: z :: t).length then some (Sum.inl (n, pm_st (a0 :: a1 :: a2 :: z :: t) 3 (.ref x), st, h)) else none) = some (Sum.inl (n, a0 :: a1 :: a2 :: some (.ref x) :: t, st, h)) by rw [if_pos (by simp), e1]) kk
theorem wp_lstore3 {x : Int64} {a0 a1 a2 : Option Value} {z z2 : Option Value} {t : Lc_} (hc : pm_lk tab pc = some (.lstore_n 3, n, a, b, c, e, v, w)) (hz : nl_ a2 = true := by rfl) (kk : wq d tab sc n (a0 :: a1 :: a2 :: some (.long x) :: none :: t) (st) h Q) : wq d tab sc pc (a0 :: a1 :: a2 :: z :: z2 :: t) (.long x :: st) h Q := by
  have e1 : pm_st (a0 :: a1 :: a2 :: z :: z2 :: t) 3 (.long x) = a0 :: a1 :: a2 :: some (.long x) :: z2 :: t := (pm_st_nl a2 rfl hz)
  have e2 : pm_stJ (a0 :: a1 :: a2 :: z :: z2 :: t) 3 (.long x) = a0 :: a1 :: a2 :: some (.long x) :: none :: t := by
    show (pm_st (a0 :: a1 :: a2 :: z :: z2 :: t) 3 (.long x)).set (3 + 1) none = _
    rw [e1]
    rfl
  exact wq_step hc (show (if 3 + 1 < (a0 :: a1 :: a2 :: z :: z2 :: t).length then some (Sum.inl (n, pm_stJ (a0 :: a1 :: a2 :: z :: z2 :: t) 3 (.long x), st, h)) else none) = some (Sum.inl (n, a0 :: a1 :: a2 :: some (.long x) :: none :: t, st, h)) by rw [if_pos (by simp), e2]) kk
theorem wp_iinc3 {x : Int32} {w1 : Int} {a0 a1 a2 : Option Value} {t : Lc_} (hc : pm_lk tab pc = some (.iinc 3 w1, n, a, b, c, e, v, w)) (hz : nl_ a2 = true := by rfl) (kk : wq d tab sc n (a0 :: a1 :: a2 :: some (.int (x + v)) :: t) (st) h Q) : wq d tab sc pc (a0 :: a1 :: a2 :: some (.int x) :: t) (st) h Q := by
  have e1 : pm_st (a0 :: a1 :: a2 :: some (.int x) :: t) 3 (.int (x + v)) = a0 :: a1 :: a2 :: some (.int (x + v)) :: t := (pm_st_nl a2 rfl hz)
  exact wq_step hc (show some (Sum.inl (n, pm_st (a0 :: a1 :: a2 :: some (.int x) :: t) 3 (.int (x + v)), st, h)) = _ by rw [e1]) kk
theorem wp_iload4 {x : Int32} {a0 a1 a2 a3 : Option Value} {t : Lc_} (hc : pm_lk tab pc = some (.iload 4, n, a, b, c, e, v, w)) (kk : wq d tab sc n (a0 :: a1 :: a2 :: a3 :: some (.int x) :: t) (.int x :: st) h Q) : wq d tab sc pc (a0 :: a1 :: a2 :: a3 :: some (.int x) :: t) (st) h Q := wq_step hc rfl kk
theorem wp_lload4 {x : Int64} {a0 a1 a2 a3 : Option Value} {t : Lc_} (hc : pm_lk tab pc = some (.lload 4, n, a, b, c, e, v, w)) (kk : wq d tab sc n (a0 :: a1 :: a2 :: a3 :: some (.long x) :: t) (.long x :: st) h Q) : wq d tab sc pc (a0 :: a1 :: a2 :: a3 :: some (.long x) :: t) (st) h Q := wq_step hc rfl kk
theorem wp_aload4 {x : Nat} {a0 a1 a2 a3 : Option Value} {t : Lc_} (hc : pm_lk tab pc = some (.aload 4, n, a, b, c, e, v, w)) (kk : wq d tab sc n (a0 :: a1 :: a2 :: a3 :: some (.ref x) :: t) (.ref x :: st) h Q) : wq d tab sc pc (a0 :: a1 :: a2 :: a3 :: some (.ref x) :: t) (st) h Q := wq_step hc rfl kk
theorem wp_istore4 {x : Int32} {a0 a1 a2 a3 : Option Value} {z : Option Value} {t : Lc_} (hc : pm_lk tab pc = some (.istore 4, n, a, b, c, e, v, w)) (hz : nl_ a3 = true := by rfl) (kk : wq d tab sc n (a0 :: a1 :: a2 :: a3 :: some (.int x) :: t) (st) h Q) : wq d tab sc pc (a0 :: a1 :: a2 :: a3 :: z :: t) (.int x :: st) h Q := by
  have e1 : pm_st (a0 :: a1 :: a2 :: a3 :: z :: t) 4 (.int x) = a0 :: a1 :: a2 :: a3 :: some (.int x) :: t := (pm_st_nl a3 rfl hz)
  exact wq_step hc (show (if 4 < (a0 :: a1 :: a2 :: a3 :: z :: t).length then some (Sum.inl (n, pm_st (a0 :: a1 :: a2 :: a3 :: z :: t) 4 (.int x), st, h)) else none) = some (Sum.inl (n, a0 :: a1 :: a2 :: a3 :: some (.int x) :: t, st, h)) by rw [if_pos (by simp), e1]) kk
theorem wp_astore4 {x : Nat} {a0 a1 a2 a3 : Option Value} {z : Option Value} {t : Lc_} (hc : pm_lk tab pc = some (.astore 4, n, a, b, c, e, v, w)) (hz : nl_ a3 = true := by rfl) (kk : wq d tab sc n (a0 :: a1 :: a2 :: a3 :: some (.ref x) :: t) (st) h Q) : wq d tab sc pc (a0 :: a1 :: a2 :: a3 :: z :: t) (.ref x :: st) h Q := by
  have e1 : pm_st (a0 :: a1 :: a2 :: a3 :: z :: t) 4 (.ref x) = a0 :: a1 :: a2 :: a3 :: some (.ref x) :: t := (pm_st_nl a3 rfl hz)
  exact wq_step hc (show (if 4 < (a0 :: a1 :: a2 :: a3 :: z :: t).length then some (Sum.inl (n, pm_st (a0 :: a1 :: a2 :: a3 :: z :: t) 4 (.ref x), st, h)) else none) = some (Sum.inl (n, a0 :: a1 :: a2 :: a3 :: some (.ref x) :: t, st, h)) by rw [if_pos (by simp), e1]) kk
theorem wp_lstore4 {x : Int64} {a0 a1 a2 a3 : Option Value} {z z2 : Option Value} {t : Lc_} (hc : pm_lk tab pc = some (.lstore 4, n, a, b, c, e, v, w)) (hz : nl_ a3 = true := by rfl) (kk : wq d tab sc n (a0 :: a1 :: a2 :: a3 :: some (.long x) :: none :: t) (st) h Q) : wq d tab sc pc (a0 :: a1 :: a2 :: a3 :: z :: z2 :: t) (.long x :: st) h Q := by
  have e1 : pm_st (a0 :: a1 :: a2 :: a3 :: z :: z2 :: t) 4 (.long x) = a0 :: a1 :: a2 :: a3 :: some (.long x) :: z2 :: t := (pm_st_nl a3 rfl hz)
  have e2 : pm_stJ (a0 :: a1 :: a2 :: a3 :: z :: z2 :: t) 4 (.long x) = a0 :: a1 :: a2 :: a3 :: some (.long x) :: none :: t := by
    show (pm_st (a0 :: a1 :: a2 :: a3 :: z :: z2 :: t) 4 (.long x)).set (4 + 1) none = _
    rw [e1]
    rfl
  exact wq_step hc (show (if 4 + 1 < (a0 :: a1 :: a2 :: a3 :: z :: z2 :: t).length then some (Sum.inl (n, pm_stJ (a0 :: a1 :: a2 :: a3 :: z :: z2 :: t) 4 (.long x), st, h)) else none) = some (Sum.inl (n, a0 :: a1 :: a2 :: a3 :: some (.long x) :: none :: t, st, h)) by rw [if_pos (by simp), e2]) kk
theorem wp_iinc4 {x : Int32} {w1 : Int} {a0 a1 a2 a3 : Option Value} {t : Lc_} (hc : pm_lk tab pc = some (.iinc 4 w1, n, a, b, c, e, v, w)) (hz : nl_ a3 = true := by rfl) (kk : wq d tab sc n (a0 :: a1 :: a2 :: a3 :: some (.int (x + v)) :: t) (st) h Q) : wq d tab sc pc (a0 :: a1 :: a2 :: a3 :: some (.int x) :: t) (st) h Q := by
  have e1 : pm_st (a0 :: a1 :: a2 :: a3 :: some (.int x) :: t) 4 (.int (x + v)) = a0 :: a1 :: a2 :: a3 :: some (.int (x + v)) :: t := (pm_st_nl a3 rfl hz)
  exact wq_step hc (show some (Sum.inl (n, pm_st (a0 :: a1 :: a2 :: a3 :: some (.int x) :: t) 4 (.int (x + v)), st, h)) = _ by rw [e1]) kk
theorem wp_iload5 {x : Int32} {a0 a1 a2 a3 a4 : Option Value} {t : Lc_} (hc : pm_lk tab pc = some (.iload 5, n, a, b, c, e, v, w)) (kk : wq d tab sc n (a0 :: a1 :: a2 :: a3 :: a4 :: some (.int x) :: t) (.int x :: st) h Q) : wq d tab sc pc (a0 :: a1 :: a2 :: a3 :: a4 :: some (.int x) :: t) (st) h Q := wq_step hc rfl kk
theorem wp_lload5 {x : Int64} {a0 a1 a2 a3 a4 : Option Value} {t : Lc_} (hc : pm_lk tab pc = some (.lload 5, n, a, b, c, e, v, w)) (kk : wq d tab sc n (a0 :: a1 :: a2 :: a3 :: a4 :: some (.long x) :: t) (.long x :: st) h Q) : wq d tab sc pc (a0 :: a1 :: a2 :: a3 :: a4 :: some (.long x) :: t) (st) h Q := wq_step hc rfl kk
theorem wp_aload5 {x : Nat} {a0 a1 a2 a3 a4 : Option Value} {t : Lc_} (hc : pm_lk tab pc = some (.aload 5, n, a, b, c, e, v, w)) (kk : wq d tab sc n (a0 :: a1 :: a2 :: a3 :: a4 :: some (.ref x) :: t) (.ref x :: st) h Q) : wq d tab sc pc (a0 :: a1 :: a2 :: a3 :: a4 :: some (.ref x) :: t) (st) h Q := wq_step hc rfl kk
theorem wp_istore5 {x : Int32} {a0 a1 a2 a3 a4 : Option Value} {z : Option Value} {t : Lc_} (hc : pm_lk tab pc = some (.istore 5, n, a, b, c, e, v, w)) (hz : nl_ a4 = true := by rfl) (kk : wq d tab sc n (a0 :: a1 :: a2 :: a3 :: a4 :: some (.int x) :: t) (st) h Q) : wq d tab sc pc (a0 :: a1 :: a2 :: a3 :: a4 :: z :: t) (.int x :: st) h Q := by
  have e1 : pm_st (a0 :: a1 :: a2 :: a3 :: a4 :: z :: t) 5 (.int x) = a0 :: a1 :: a2 :: a3 :: a4 :: some (.int x) :: t := (pm_st_nl a4 rfl hz)
  exact wq_step hc (show (if 5 < (a0 :: a1 :: a2 :: a3 :: a4 :: z :: t).length then some (Sum.inl (n, pm_st (a0 :: a1 :: a2 :: a3 :: a4 :: z :: t) 5 (.int x), st, h)) else none) = some (Sum.inl (n, a0 :: a1 :: a2 :: a3 :: a4 :: some (.int x) :: t, st, h)) by rw [if_pos (by simp), e1]) kk
theorem wp_astore5 {x : Nat} {a0 a1 a2 a3 a4 : Option Value} {z : Option Value} {t : Lc_} (hc : pm_lk tab pc = some (.astore 5, n, a, b, c, e, v, w)) (hz : nl_ a4 = true := by rfl) (kk : wq d tab sc n (a0 :: a1 :: a2 :: a3 :: a4 :: some (.ref x) :: t) (st) h Q) : wq d tab sc pc (a0 :: a1 :: a2 :: a3 :: a4 :: z :: t) (.ref x :: st) h Q := by
  have e1 : pm_st (a0 :: a1 :: a2 :: a3 :: a4 :: z :: t) 5 (.ref x) = a0 :: a1 :: a2 :: a3 :: a4 :: some (.ref x) :: t := (pm_st_nl a4 rfl hz)
  exact wq_step hc (show (if 5 < (a0 :: a1 :: a2 :: a3 :: a4 :: z :: t).length then some (Sum.inl (n, pm_st (a0 :: a1 :: a2 :: a3 :: a4 :: z :: t) 5 (.ref x), st, h)) else none) = some (Sum.inl (n, a0 :: a1 :: a2 :: a3 :: a4 :: some (.ref x) :: t, st, h)) by rw [if_pos (by simp), e1]) kk
theorem wp_lstore5 {x : Int64} {a0 a1 a2 a3 a4 : Option Value} {z z2 : Option Value} {t : Lc_} (hc : pm_lk tab pc = some (.lstore 5, n, a, b, c, e, v, w)) (hz : nl_ a4 = true := by rfl) (kk : wq d tab sc n (a0 :: a1 :: a2 :: a3 :: a4 :: some (.long x) :: none :: t) (st) h Q) : wq d tab sc pc (a0 :: a1 :: a2 :: a3 :: a4 :: z :: z2 :: t) (.long x :: st) h Q := by
  have e1 : pm_st (a0 :: a1 :: a2 :: a3 :: a4 :: z :: z2 :: t) 5 (.long x) = a0 :: a1 :: a2 :: a3 :: a4 :: some (.long x) :: z2 :: t := (pm_st_nl a4 rfl hz)
  have e2 : pm_stJ (a0 :: a1 :: a2 :: a3 :: a4 :: z :: z2 :: t) 5 (.long x) = a0 :: a1 :: a2 :: a3 :: a4 :: some (.long x) :: none :: t := by
    show (pm_st (a0 :: a1 :: a2 :: a3 :: a4 :: z :: z2 :: t) 5 (.long x)).set (5 + 1) none = _
    rw [e1]
    rfl
  exact wq_step hc (show (if 5 + 1 < (a0 :: a1 :: a2 :: a3 :: a4 :: z :: z2 :: t).length then some (Sum.inl (n, pm_stJ (a0 :: a1 :: a2 :: a3 :: a4 :: z :: z2 :: t) 5 (.long x), st, h)) else none) = some (Sum.inl (n, a0 :: a1 :: a2 :: a3 :: a4 :: some (.long x) :: none :: t, st, h)) by rw [if_pos (by simp), e2]) kk
theorem wp_iinc5 {x : Int32} {w1 : Int} {a0 a1 a2 a3 a4 : Option Value} {t : Lc_} (hc : pm_lk tab pc = some (.iinc 5 w1, n, a, b, c, e, v, w)) (hz : nl_ a4 = true := by rfl) (kk : wq d tab sc n (a0 :: a1 :: a2 :: a3 :: a4 :: some (.int (x + v)) :: t) (st) h Q) : wq d tab sc pc (a0 :: a1 :: a2 :: a3 :: a4 :: some (.int x) :: t) (st) h Q := by
  have e1 : pm_st (a0 :: a1 :: a2 :: a3 :: a4 :: some (.int x) :: t) 5 (.int (x + v)) = a0 :: a1 :: a2 :: a3 :: a4 :: some (.int (x + v)) :: t := (pm_st_nl a4 rfl hz)
  exact wq_step hc (show some (Sum.inl (n, pm_st (a0 :: a1 :: a2 :: a3 :: a4 :: some (.int x) :: t) 5 (.int (x + v)), st, h)) = _ by rw [e1]) kk
theorem wp_iload6 {x : Int32} {a0 a1 a2 a3 a4 a5 : Option Value} {t : Lc_} (hc : pm_lk tab pc = some (.iload 6, n, a, b, c, e, v, w)) (kk : wq d tab sc n (a0 :: a1 :: a2 :: a3 :: a4 :: a5 :: some (.int x) :: t) (.int x :: st) h Q) : wq d tab sc pc (a0 :: a1 :: a2 :: a3 :: a4 :: a5 :: some (.int x) :: t) (st) h Q := wq_step hc rfl kk
theorem wp_lload6 {x : Int64} {a0 a1 a2 a3 a4 a5 : Option Value} {t : Lc_} (hc : pm_lk tab pc = some (.lload 6, n, a, b, c, e, v, w)) (kk : wq d tab sc n (a0 :: a1 :: a2 :: a3 :: a4 :: a5 :: some (.long x) :: t) (.long x :: st) h Q) : wq d tab sc pc (a0 :: a1 :: a2 :: a3 :: a4 :: a5 :: some (.long x) :: t) (st) h Q := wq_step hc rfl kk
theorem wp_aload6 {x : Nat} {a0 a1 a2 a3 a4 a5 : Option Value} {t : Lc_} (hc : pm_lk tab pc = some (.aload 6, n, a, b, c, e, v, w)) (kk : wq d tab sc n (a0 :: a1 :: a2 :: a3 :: a4 :: a5 :: some (.ref x) :: t) (.ref x :: st) h Q) : wq d tab sc pc (a0 :: a1 :: a2 :: a3 :: a4 :: a5 :: some (.ref x) :: t) (st) h Q := wq_step hc rfl kk
theorem wp_istore6 {x : Int32} {a0 a1 a2 a3 a4 a5 : Option Value} {z : Option Value} {t : Lc_} (hc : pm_lk tab pc = some (.istore 6, n, a, b, c, e, v, w)) (hz : nl_ a5 = true := by rfl) (kk : wq d tab sc n (a0 :: a1 :: a2 :: a3 :: a4 :: a5 :: some (.int x) :: t) (st) h Q) : wq d tab sc pc (a0 :: a1 :: a2 :: a3 :: a4 :: a5 :: z :: t) (.int x :: st) h Q := by
  have e1 : pm_st (a0 :: a1 :: a2 :: a3 :: a4 :: a5 :: z :: t) 6 (.int x) = a0 :: a1 :: a2 :: a3 :: a4 :: a5 :: some (.int x) :: t := (pm_st_nl a5 rfl hz)
  exact wq_step hc (show (if 6 < (a0 :: a1 :: a2 :: a3 :: a4 :: a5 :: z :: t).length then some (Sum.inl (n, pm_st (a0 :: a1 :: a2 :: a3 :: a4 :: a5 :: z :: t) 6 (.int x), st, h)) else none) = some (Sum.inl (n, a0 :: a1 :: a2 :: a3 :: a4 :: a5 :: some (.int x) :: t, st, h)) by rw [if_pos (by simp), e1]) kk
theorem wp_astore6 {x : Nat} {a0 a1 a2 a3 a4 a5 : Option Value} {z : Option Value} {t : Lc_} (hc : pm_lk tab pc = some (.astore 6, n, a, b, c, e, v, w)) (hz : nl_ a5 = true := by rfl) (kk : wq d tab sc n (a0 :: a1 :: a2 :: a3 :: a4 :: a5 :: some (.ref x) :: t) (st) h Q) : wq d tab sc pc (a0 :: a1 :: a2 :: a3 :: a4 :: a5 :: z :: t) (.ref x :: st) h Q := by
  have e1 : pm_st (a0 :: a1 :: a2 :: a3 :: a4 :: a5 :: z :: t) 6 (.ref x) = a0 :: a1 :: a2 :: a3 :: a4 :: a5 :: some (.ref x) :: t := (pm_st_nl a5 rfl hz)
  exact wq_step hc (show (if 6 < (a0 :: a1 :: a2 :: a3 :: a4 :: a5 :: z :: t).length then some (Sum.inl (n, pm_st (a0 :: a1 :: a2 :: a3 :: a4 :: a5 :: z :: t) 6 (.ref x), st, h)) else none) = some (Sum.inl (n, a0 :: a1 :: a2 :: a3 :: a4 :: a5 :: some (.ref x) :: t, st, h)) by rw [if_pos (by simp), e1]) kk
theorem wp_lstore6 {x : Int64} {a0 a1 a2 a3 a4 a5 : Option Value} {z z2 : Option Value} {t : Lc_} (hc : pm_lk tab pc = some (.lstore 6, n, a, b, c, e, v, w)) (hz : nl_ a5 = true := by rfl) (kk : wq d tab sc n (a0 :: a1 :: a2 :: a3 :: a4 :: a5 :: some (.long x) :: none :: t) (st) h Q) : wq d tab sc pc (a0 :: a1 :: a2 :: a3 :: a4 :: a5 :: z :: z2 :: t) (.long x :: st) h Q := by
  have e1 : pm_st (a0 :: a1 :: a2 :: a3 :: a4 :: a5 :: z :: z2 :: t) 6 (.long x) = a0 :: a1 :: a2 :: a3 :: a4 :: a5 :: some (.long x) :: z2 :: t := (pm_st_nl a5 rfl hz)
  have e2 : pm_stJ (a0 :: a1 :: a2 :: a3 :: a4 :: a5 :: z :: z2 :: t) 6 (.long x) = a0 :: a1 :: a2 :: a3 :: a4 :: a5 :: some (.long x) :: none :: t := by
    show (pm_st (a0 :: a1 :: a2 :: a3 :: a4 :: a5 :: z :: z2 :: t) 6 (.long x)).set (6 + 1) none = _
    rw [e1]
    rfl
  exact wq_step hc (show (if 6 + 1 < (a0 :: a1 :: a2 :: a3 :: a4 :: a5 :: z :: z2 :: t).length then some (Sum.inl (n, pm_stJ (a0 :: a1 :: a2 :: a3 :: a4 :: a5 :: z :: z2 :: t) 6 (.long x), st, h)) else none) = some (Sum.inl (n, a0 :: a1 :: a2 :: a3 :: a4 :: a5 :: some (.long x) :: none :: t, st, h)) by rw [if_pos (by simp), e2]) kk
theorem wp_iinc6 {x : Int32} {w1 : Int} {a0 a1 a2 a3 a4 a5 : Option Value} {t : Lc_} (hc : pm_lk tab pc = some (.iinc 6 w1, n, a, b, c, e, v, w)) (hz : nl_ a5 = true := by rfl) (kk : wq d tab sc n (a0 :: a1 :: a2 :: a3 :: a4 :: a5 :: some (.int (x + v)) :: t) (st) h Q) : wq d tab sc pc (a0 :: a1 :: a2 :: a3 :: a4 :: a5 :: some (.int x) :: t) (st) h Q := by
  have e1 : pm_st (a0 :: a1 :: a2 :: a3 :: a4 :: a5 :: some (.int x) :: t) 6 (.int (x + v)) = a0 :: a1 :: a2 :: a3 :: a4 :: a5 :: some (.int (x + v)) :: t := (pm_st_nl a5 rfl hz)
  exact wq_step hc (show some (Sum.inl (n, pm_st (a0 :: a1 :: a2 :: a3 :: a4 :: a5 :: some (.int x) :: t) 6 (.int (x + v)), st, h)) = _ by rw [e1]) kk
theorem wp_iload7 {x : Int32} {a0 a1 a2 a3 a4 a5 a6 : Option Value} {t : Lc_} (hc : pm_lk tab pc = some (.iload 7, n, a, b, c, e, v, w)) (kk : wq d tab sc n (a0 :: a1 :: a2 :: a3 :: a4 :: a5 :: a6 :: some (.int x) :: t) (.int x :: st) h Q) : wq d tab sc pc (a0 :: a1 :: a2 :: a3 :: a4 :: a5 :: a6 :: some (.int x) :: t) (st) h Q := wq_step hc rfl kk
theorem wp_lload7 {x : Int64} {a0 a1 a2 a3 a4 a5 a6 : Option Value} {t : Lc_} (hc : pm_lk tab pc = some (.lload 7, n, a, b, c, e, v, w)) (kk : wq d tab sc n (a0 :: a1 :: a2 :: a3 :: a4 :: a5 :: a6 :: some (.long x) :: t) (.long x :: st) h Q) : wq d tab sc pc (a0 :: a1 :: a2 :: a3 :: a4 :: a5 :: a6 :: some (.long x) :: t) (st) h Q := wq_step hc rfl kk
theorem wp_aload7 {x : Nat} {a0 a1 a2 a3 a4 a5 a6 : Option Value} {t : Lc_} (hc : pm_lk tab pc = some (.aload 7, n, a, b, c, e, v, w)) (kk : wq d tab sc n (a0 :: a1 :: a2 :: a3 :: a4 :: a5 :: a6 :: some (.ref x) :: t) (.ref x :: st) h Q) : wq d tab sc pc (a0 :: a1 :: a2 :: a3 :: a4 :: a5 :: a6 :: some (.ref x) :: t) (st) h Q := wq_step hc rfl kk
theorem wp_istore7 {x : Int32} {a0 a1 a2 a3 a4 a5 a6 : Option Value} {z : Option Value} {t : Lc_} (hc : pm_lk tab pc = some (.istore 7, n, a, b, c, e, v, w)) (hz : nl_ a6 = true := by rfl) (kk : wq d tab sc n (a0 :: a1 :: a2 :: a3 :: a4 :: a5 :: a6 :: some (.int x) :: t) (st) h Q) : wq d tab sc pc (a0 :: a1 :: a2 :: a3 :: a4 :: a5 :: a6 :: z :: t) (.int x :: st) h Q := by
  have e1 : pm_st (a0 :: a1 :: a2 :: a3 :: a4 :: a5 :: a6 :: z :: t) 7 (.int x) = a0 :: a1 :: a2 :: a3 :: a4 :: a5 :: a6 :: some (.int x) :: t := (pm_st_nl a6 rfl hz)
  exact wq_step hc (show (if 7 < (a0 :: a1 :: a2 :: a3 :: a4 :: a5 :: a6 :: z :: t).length then some (Sum.inl (n, pm_st (a0 :: a1 :: a2 :: a3 :: a4 :: a5 :: a6 :: z :: t) 7 (.int x), st, h)) else none) = some (Sum.inl (n, a0 :: a1 :: a2 :: a3 :: a4 :: a5 :: a6 :: some (.int x) :: t, st, h)) by rw [if_pos (by simp), e1]) kk
theorem wp_astore7 {x : Nat} {a0 a1 a2 a3 a4 a5 a6 : Option Value} {z : Option Value} {t : Lc_} (hc : pm_lk tab pc = some (.astore 7, n, a, b, c, e, v, w)) (hz : nl_ a6 = true := by rfl) (kk : wq d tab sc n (a0 :: a1 :: a2 :: a3 :: a4 :: a5 :: a6 :: some (.ref x) :: t) (st) h Q) : wq d tab sc pc (a0 :: a1 :: a2 :: a3 :: a4 :: a5 :: a6 :: z :: t) (.ref x :: st) h Q := by
  have e1 : pm_st (a0 :: a1 :: a2 :: a3 :: a4 :: a5 :: a6 :: z :: t) 7 (.ref x) = a0 :: a1 :: a2 :: a3 :: a4 :: a5 :: a6 :: some (.ref x) :: t := (pm_st_nl a6 rfl hz)
  exact wq_step hc (show (if 7 < (a0 :: a1 :: a2 :: a3 :: a4 :: a5 :: a6 :: z :: t).length then some (Sum.inl (n, pm_st (a0 :: a1 :: a2 :: a3 :: a4 :: a5 :: a6 :: z :: t) 7 (.ref x), st, h)) else none) = some (Sum.inl (n, a0 :: a1 :: a2 :: a3 :: a4 :: a5 :: a6 :: some (.ref x) :: t, st, h)) by rw [if_pos (by simp), e1]) kk
theorem wp_lstore7 {x : Int64} {a0 a1 a2 a3 a4 a5 a6 : Option Value} {z z2 : Option Value} {t : Lc_} (hc : pm_lk tab pc = some (.lstore 7, n, a, b, c, e, v, w)) (hz : nl_ a6 = true := by rfl) (kk : wq d tab sc n (a0 :: a1 :: a2 :: a3 :: a4 :: a5 :: a6 :: some (.long x) :: none :: t) (st) h Q) : wq d tab sc pc (a0 :: a1 :: a2 :: a3 :: a4 :: a5 :: a6 :: z :: z2 :: t) (.long x :: st) h Q := by
  have e1 : pm_st (a0 :: a1 :: a2 :: a3 :: a4 :: a5 :: a6 :: z :: z2 :: t) 7 (.long x) = a0 :: a1 :: a2 :: a3 :: a4 :: a5 :: a6 :: some (.long x) :: z2 :: t := (pm_st_nl a6 rfl hz)
  have e2 : pm_stJ (a0 :: a1 :: a2 :: a3 :: a4 :: a5 :: a6 :: z :: z2 :: t) 7 (.long x) = a0 :: a1 :: a2 :: a3 :: a4 :: a5 :: a6 :: some (.long x) :: none :: t := by
    show (pm_st (a0 :: a1 :: a2 :: a3 :: a4 :: a5 :: a6 :: z :: z2 :: t) 7 (.long x)).set (7 + 1) none = _
    rw [e1]
    rfl
  exact wq_step hc (show (if 7 + 1 < (a0 :: a1 :: a2 :: a3 :: a4 :: a5 :: a6 :: z :: z2 :: t).length then some (Sum.inl (n, pm_stJ (a0 :: a1 :: a2 :: a3 :: a4 :: a5 :: a6 :: z :: z2 :: t) 7 (.long x), st, h)) else none) = some (Sum.inl (n, a0 :: a1 :: a2 :: a3 :: a4 :: a5 :: a6 :: some (.long x) :: none :: t, st, h)) by rw [if_pos (by simp), e2]) kk
theorem wp_iinc7 {x : Int32} {w1 : Int} {a0 a1 a2 a3 a4 a5 a6 : Option Value} {t : Lc_} (hc : pm_lk tab pc = some (.iinc 7 w1, n, a, b, c, e, v, w)) (hz : nl_ a6 = true := by rfl) (kk : wq d tab sc n (a0 :: a1 :: a2 :: a3 :: a4 :: a5 :: a6 :: some (.int (x + v)) :: t) (st) h Q) : wq d tab sc pc (a0 :: a1 :: a2 :: a3 :: a4 :: a5 :: a6 :: some (.int x) :: t) (st) h Q := by
  have e1 : pm_st (a0 :: a1 :: a2 :: a3 :: a4 :: a5 :: a6 :: some (.int x) :: t) 7 (.int (x + v)) = a0 :: a1 :: a2 :: a3 :: a4 :: a5 :: a6 :: some (.int (x + v)) :: t := (pm_st_nl a6 rfl hz)
  exact wq_step hc (show some (Sum.inl (n, pm_st (a0 :: a1 :: a2 :: a3 :: a4 :: a5 :: a6 :: some (.int x) :: t) 7 (.int (x + v)), st, h)) = _ by rw [e1]) kk
theorem wp_iload8 {x : Int32} {a0 a1 a2 a3 a4 a5 a6 a7 : Option Value} {t : Lc_} (hc : pm_lk tab pc = some (.iload 8, n, a, b, c, e, v, w)) (kk : wq d tab sc n (a0 :: a1 :: a2 :: a3 :: a4 :: a5 :: a6 :: a7 :: some (.int x) :: t) (.int x :: st) h Q) : wq d tab sc pc (a0 :: a1 :: a2 :: a3 :: a4 :: a5 :: a6 :: a7 :: some (.int x) :: t) (st) h Q := wq_step hc rfl kk
theorem wp_lload8 {x : Int64} {a0 a1 a2 a3 a4 a5 a6 a7 : Option Value} {t : Lc_} (hc : pm_lk tab pc = some (.lload 8, n, a, b, c, e, v, w)) (kk : wq d tab sc n (a0 :: a1 :: a2 :: a3 :: a4 :: a5 :: a6 :: a7 :: some (.long x) :: t) (.long x :: st) h Q) : wq d tab sc pc (a0 :: a1 :: a2 :: a3 :: a4 :: a5 :: a6 :: a7 :: some (.long x) :: t) (st) h Q := wq_step hc rfl kk
theorem wp_aload8 {x : Nat} {a0 a1 a2 a3 a4 a5 a6 a7 : Option Value} {t : Lc_} (hc : pm_lk tab pc = some (.aload 8, n, a, b, c, e, v, w)) (kk : wq d tab sc n (a0 :: a1 :: a2 :: a3 :: a4 :: a5 :: a6 :: a7 :: some (.ref x) :: t) (.ref x :: st) h Q) : wq d tab sc pc (a0 :: a1 :: a2 :: a3 :: a4 :: a5 :: a6 :: a7 :: some (.ref x) :: t) (st) h Q := wq_step hc rfl kk
theorem wp_istore8 {x : Int32} {a0 a1 a2 a3 a4 a5 a6 a7 : Option Value} {z : Option Value} {t : Lc_} (hc : pm_lk tab pc = some (.istore 8, n, a, b, c, e, v, w)) (hz : nl_ a7 = true := by rfl) (kk : wq d tab sc n (a0 :: a1 :: a2 :: a3 :: a4 :: a5 :: a6 :: a7 :: some (.int x) :: t) (st) h Q) : wq d tab sc pc (a0 :: a1 :: a2 :: a3 :: a4 :: a5 :: a6 :: a7 :: z :: t) (.int x :: st) h Q := by
  have e1 : pm_st (a0 :: a1 :: a2 :: a3 :: a4 :: a5 :: a6 :: a7 :: z :: t) 8 (.int x) = a0 :: a1 :: a2 :: a3 :: a4 :: a5 :: a6 :: a7 :: some (.int x) :: t := (pm_st_nl a7 rfl hz)
  exact wq_step hc (show (if 8 < (a0 :: a1 :: a2 :: a3 :: a4 :: a5 :: a6 :: a7 :: z :: t).length then some (Sum.inl (n, pm_st (a0 :: a1 :: a2 :: a3 :: a4 :: a5 :: a6 :: a7 :: z :: t) 8 (.int x), st, h)) else none) = some (Sum.inl (n, a0 :: a1 :: a2 :: a3 :: a4 :: a5 :: a6 :: a7 :: some (.int x) :: t, st, h)) by rw [if_pos (by simp), e1]) kk
theorem wp_astore8 {x : Nat} {a0 a1 a2 a3 a4 a5 a6 a7 : Option Value} {z : Option Value} {t : Lc_} (hc : pm_lk tab pc = some (.astore 8, n, a, b, c, e, v, w)) (hz : nl_ a7 = true := by rfl) (kk : wq d tab sc n (a0 :: a1 :: a2 :: a3 :: a4 :: a5 :: a6 :: a7 :: some (.ref x) :: t) (st) h Q) : wq d tab sc pc (a0 :: a1 :: a2 :: a3 :: a4 :: a5 :: a6 :: a7 :: z :: t) (.ref x :: st) h Q := by
  have e1 : pm_st (a0 :: a1 :: a2 :: a3 :: a4 :: a5 :: a6 :: a7 :: z :: t) 8 (.ref x) = a0 :: a1 :: a2 :: a3 :: a4 :: a5 :: a6 :: a7 :: some (.ref x) :: t := (pm_st_nl a7 rfl hz)
  exact wq_step hc (show (if 8 < (a0 :: a1 :: a2 :: a3 :: a4 :: a5 :: a6 :: a7 :: z :: t).length then some (Sum.inl (n, pm_st (a0 :: a1 :: a2 :: a3 :: a4 :: a5 :: a6 :: a7 :: z :: t) 8 (.ref x), st, h)) else none) = some (Sum.inl (n, a0 :: a1 :: a2 :: a3 :: a4 :: a5 :: a6 :: a7 :: some (.ref x) :: t, st, h)) by rw [if_pos (by simp), e1]) kk
theorem wp_lstore8 {x : Int64} {a0 a1 a2 a3 a4 a5 a6 a7 : Option Value} {z z2 : Option Value} {t : Lc_} (hc : pm_lk tab pc = some (.lstore 8, n, a, b, c, e, v, w)) (hz : nl_ a7 = true := by rfl) (kk : wq d tab sc n (a0 :: a1 :: a2 :: a3 :: a4 :: a5 :: a6 :: a7 :: some (.long x) :: none :: t) (st) h Q) : wq d tab sc pc (a0 :: a1 :: a2 :: a3 :: a4 :: a5 :: a6 :: a7 :: z :: z2 :: t) (.long x :: st) h Q := by
  have e1 : pm_st (a0 :: a1 :: a2 :: a3 :: a4 :: a5 :: a6 :: a7 :: z :: z2 :: t) 8 (.long x) = a0 :: a1 :: a2 :: a3 :: a4 :: a5 :: a6 :: a7 :: some (.long x) :: z2 :: t := (pm_st_nl a7 rfl hz)
  have e2 : pm_stJ (a0 :: a1 :: a2 :: a3 :: a4 :: a5 :: a6 :: a7 :: z :: z2 :: t) 8 (.long x) = a0 :: a1 :: a2 :: a3 :: a4 :: a5 :: a6 :: a7 :: some (.long x) :: none :: t := by
    show (pm_st (a0 :: a1 :: a2 :: a3 :: a4 :: a5 :: a6 :: a7 :: z :: z2 :: t) 8 (.long x)).set (8 + 1) none = _
    rw [e1]
    rfl
  exact wq_step hc (show (if 8 + 1 < (a0 :: a1 :: a2 :: a3 :: a4 :: a5 :: a6 :: a7 :: z :: z2 :: t).length then some (Sum.inl (n, pm_stJ (a0 :: a1 :: a2 :: a3 :: a4 :: a5 :: a6 :: a7 :: z :: z2 :: t) 8 (.long x), st, h)) else none) = some (Sum.inl (n, a0 :: a1 :: a2 :: a3 :: a4 :: a5 :: a6 :: a7 :: some (.long x) :: none :: t, st, h)) by rw [if_pos (by simp), e2]) kk
theorem wp_iinc8 {x : Int32} {w1 : Int} {a0 a1 a2 a3 a4 a5 a6 a7 : Option Value} {t : Lc_} (hc : pm_lk tab pc = some (.iinc 8 w1, n, a, b, c, e, v, w)) (hz : nl_ a7 = true := by rfl) (kk : wq d tab sc n (a0 :: a1 :: a2 :: a3 :: a4 :: a5 :: a6 :: a7 :: some (.int (x + v)) :: t) (st) h Q) : wq d tab sc pc (a0 :: a1 :: a2 :: a3 :: a4 :: a5 :: a6 :: a7 :: some (.int x) :: t) (st) h Q := by
  have e1 : pm_st (a0 :: a1 :: a2 :: a3 :: a4 :: a5 :: a6 :: a7 :: some (.int x) :: t) 8 (.int (x + v)) = a0 :: a1 :: a2 :: a3 :: a4 :: a5 :: a6 :: a7 :: some (.int (x + v)) :: t := (pm_st_nl a7 rfl hz)
  exact wq_step hc (show some (Sum.inl (n, pm_st (a0 :: a1 :: a2 :: a3 :: a4 :: a5 :: a6 :: a7 :: some (.int x) :: t) 8 (.int (x + v)), st, h)) = _ by rw [e1]) kk
theorem wp_iload9 {x : Int32} {a0 a1 a2 a3 a4 a5 a6 a7 a8 : Option Value} {t : Lc_} (hc : pm_lk tab pc = some (.iload 9, n, a, b, c, e, v, w)) (kk : wq d tab sc n (a0 :: a1 :: a2 :: a3 :: a4 :: a5 :: a6 :: a7 :: a8 :: some (.int x) :: t) (.int x :: st) h Q) : wq d tab sc pc (a0 :: a1 :: a2 :: a3 :: a4 :: a5 :: a6 :: a7 :: a8 :: some (.int x) :: t) (st) h Q := wq_step hc rfl kk
theorem wp_lload9 {x : Int64} {a0 a1 a2 a3 a4 a5 a6 a7 a8 : Option Value} {t : Lc_} (hc : pm_lk tab pc = some (.lload 9, n, a, b, c, e, v, w)) (kk : wq d tab sc n (a0 :: a1 :: a2 :: a3 :: a4 :: a5 :: a6 :: a7 :: a8 :: some (.long x) :: t) (.long x :: st) h Q) : wq d tab sc pc (a0 :: a1 :: a2 :: a3 :: a4 :: a5 :: a6 :: a7 :: a8 :: some (.long x) :: t) (st) h Q := wq_step hc rfl kk
theorem wp_aload9 {x : Nat} {a0 a1 a2 a3 a4 a5 a6 a7 a8 : Option Value} {t : Lc_} (hc : pm_lk tab pc = some (.aload 9, n, a, b, c, e, v, w)) (kk : wq d tab sc n (a0 :: a1 :: a2 :: a3 :: a4 :: a5 :: a6 :: a7 :: a8 :: some (.ref x) :: t) (.ref x :: st) h Q) : wq d tab sc pc (a0 :: a1 :: a2 :: a3 :: a4 :: a5 :: a6 :: a7 :: a8 :: some (.ref x) :: t) (st) h Q := wq_step hc rfl kk
theorem wp_istore9 {x : Int32} {a0 a1 a2 a3 a4 a5 a6 a7 a8 : Option Value} {z : Option Value} {t : Lc_} (hc : pm_lk tab pc = some (.istore 9, n, a, b, c, e, v, w)) (hz : nl_ a8 = true := by rfl) (kk : wq d tab sc n (a0 :: a1 :: a2 :: a3 :: a4 :: a5 :: a6 :: a7 :: a8 :: some (.int x) :: t) (st) h Q) : wq d tab sc pc (a0 :: a1 :: a2 :: a3 :: a4 :: a5 :: a6 :: a7 :: a8 :: z :: t) (.int x :: st) h Q := by
  have e1 : pm_st (a0 :: a1 :: a2 :: a3 :: a4 :: a5 :: a6 :: a7 :: a8 :: z :: t) 9 (.int x) = a0 :: a1 :: a2 :: a3 :: a4 :: a5 :: a6 :: a7 :: a8 :: some (.int x) :: t := (pm_st_nl a8 rfl hz)
  exact wq_step hc (show (if 9 < (a0 :: a1 :: a2 :: a3 :: a4 :: a5 :: a6 :: a7 :: a8 :: z :: t).length then some (Sum.inl (n, pm_st (a0 :: a1 :: a2 :: a3 :: a4 :: a5 :: a6 :: a7 :: a8 :: z :: t) 9 (.int x), st, h)) else none) = some (Sum.inl (n, a0 :: a1 :: a2 :: a3 :: a4 :: a5 :: a6 :: a7 :: a8 :: some (.int x) :: t, st, h)) by rw [if_pos (by simp), e1]) kk
theorem wp_astore9 {x : Nat} {a0 a1 a2 a3 a4 a5 a6 a7 a8 : Option Value} {z : Option Value} {t : Lc_} (hc : pm_lk tab pc = some (.astore 9, n, a, b, c, e, v, w)) (hz : nl_ a8 = true := by rfl) (kk : wq d tab sc n (a0 :: a1 :: a2 :: a3 :: a4 :: a5 :: a6 :: a7 :: a8 :: some (.ref x) :: t) (st) h Q) : wq d tab sc pc (a0 :: a1 :: a2 :: a3 :: a4 :: a5 :: a6 :: a7 :: a8 :: z :: t) (.ref x :: st) h Q := by
  have e1 : pm_st (a0 :: a1 :: a2 :: a3 :: a4 :: a5 :: a6 :: a7 :: a8 :: z :: t) 9 (.ref x) = a0 :: a1 :: a2 :: a3 :: a4 :: a5 :: a6 :: a7 :: a8 :: some (.ref x) :: t := (pm_st_nl a8 rfl hz)
  exact wq_step hc (show (if 9 < (a0 :: a1 :: a2 :: a3 :: a4 :: a5 :: a6 :: a7 :: a8 :: z :: t).length then some (Sum.inl (n, pm_st (a0 :: a1 :: a2 :: a3 :: a4 :: a5 :: a6 :: a7 :: a8 :: z :: t) 9 (.ref x), st, h)) else none) = some (Sum.inl (n, a0 :: a1 :: a2 :: a3 :: a4 :: a5 :: a6 :: a7 :: a8 :: some (.ref x) :: t, st, h)) by rw [if_pos (by simp), e1]) kk
theorem wp_lstore9 {x : Int64} {a0 a1 a2 a3 a4 a5 a6 a7 a8 : Option Value} {z z2 : Option Value} {t : Lc_} (hc : pm_lk tab pc = some (.lstore 9, n, a, b, c, e, v, w)) (hz : nl_ a8 = true := by rfl) (kk : wq d tab sc n (a0 :: a1 :: a2 :: a3 :: a4 :: a5 :: a6 :: a7 :: a8 :: some (.long x) :: none :: t) (st) h Q) : wq d tab sc pc (a0 :: a1 :: a2 :: a3 :: a4 :: a5 :: a6 :: a7 :: a8 :: z :: z2 :: t) (.long x :: st) h Q := by
  have e1 : pm_st (a0 :: a1 :: a2 :: a3 :: a4 :: a5 :: a6 :: a7 :: a8 :: z :: z2 :: t) 9 (.long x) = a0 :: a1 :: a2 :: a3 :: a4 :: a5 :: a6 :: a7 :: a8 :: some (.long x) :: z2 :: t := (pm_st_nl a8 rfl hz)
  have e2 : pm_stJ (a0 :: a1 :: a2 :: a3 :: a4 :: a5 :: a6 :: a7 :: a8 :: z :: z2 :: t) 9 (.long x) = a0 :: a1 :: a2 :: a3 :: a4 :: a5 :: a6 :: a7 :: a8 :: some (.long x) :: none :: t := by
    show (pm_st (a0 :: a1 :: a2 :: a3 :: a4 :: a5 :: a6 :: a7 :: a8 :: z :: z2 :: t) 9 (.long x)).set (9 + 1) none = _
    rw [e1]
    rfl
  exact wq_step hc (show (if 9 + 1 < (a0 :: a1 :: a2 :: a3 :: a4 :: a5 :: a6 :: a7 :: a8 :: z :: z2 :: t).length then some (Sum.inl (n, pm_stJ (a0 :: a1 :: a2 :: a3 :: a4 :: a5 :: a6 :: a7 :: a8 :: z :: z2 :: t) 9 (.long x), st, h)) else none) = some (Sum.inl (n, a0 :: a1 :: a2 :: a3 :: a4 :: a5 :: a6 :: a7 :: a8 :: some (.long x) :: none :: t, st, h)) by rw [if_pos (by simp), e2]) kk
theorem wp_iinc9 {x : Int32} {w1 : Int} {a0 a1 a2 a3 a4 a5 a6 a7 a8 : Option Value} {t : Lc_} (hc : pm_lk tab pc = some (.iinc 9 w1, n, a, b, c, e, v, w)) (hz : nl_ a8 = true := by rfl) (kk : wq d tab sc n (a0 :: a1 :: a2 :: a3 :: a4 :: a5 :: a6 :: a7 :: a8 :: some (.int (x + v)) :: t) (st) h Q) : wq d tab sc pc (a0 :: a1 :: a2 :: a3 :: a4 :: a5 :: a6 :: a7 :: a8 :: some (.int x) :: t) (st) h Q := by
  have e1 : pm_st (a0 :: a1 :: a2 :: a3 :: a4 :: a5 :: a6 :: a7 :: a8 :: some (.int x) :: t) 9 (.int (x + v)) = a0 :: a1 :: a2 :: a3 :: a4 :: a5 :: a6 :: a7 :: a8 :: some (.int (x + v)) :: t := (pm_st_nl a8 rfl hz)
  exact wq_step hc (show some (Sum.inl (n, pm_st (a0 :: a1 :: a2 :: a3 :: a4 :: a5 :: a6 :: a7 :: a8 :: some (.int x) :: t) 9 (.int (x + v)), st, h)) = _ by rw [e1]) kk
theorem wp_iload10 {x : Int32} {a0 a1 a2 a3 a4 a5 a6 a7 a8 a9 : Option Value} {t : Lc_} (hc : pm_lk tab pc = some (.iload 10, n, a, b, c, e, v, w)) (kk : wq d tab sc n (a0 :: a1 :: a2 :: a3 :: a4 :: a5 :: a6 :: a7 :: a8 :: a9 :: some (.int x) :: t) (.int x :: st) h Q) : wq d tab sc pc (a0 :: a1 :: a2 :: a3 :: a4 :: a5 :: a6 :: a7 :: a8 :: a9 :: some (.int x) :: t) (st) h Q := wq_step hc rfl kk
theorem wp_lload10 {x : Int64} {a0 a1 a2 a3 a4 a5 a6 a7 a8 a9 : Option Value} {t : Lc_} (hc : pm_lk tab pc = some (.lload 10, n, a, b, c, e, v, w)) (kk : wq d tab sc n (a0 :: a1 :: a2 :: a3 :: a4 :: a5 :: a6 :: a7 :: a8 :: a9 :: some (.long x) :: t) (.long x :: st) h Q) : wq d tab sc pc (a0 :: a1 :: a2 :: a3 :: a4 :: a5 :: a6 :: a7 :: a8 :: a9 :: some (.long x) :: t) (st) h Q := wq_step hc rfl kk
theorem wp_aload10 {x : Nat} {a0 a1 a2 a3 a4 a5 a6 a7 a8 a9 : Option Value} {t : Lc_} (hc : pm_lk tab pc = some (.aload 10, n, a, b, c, e, v, w)) (kk : wq d tab sc n (a0 :: a1 :: a2 :: a3 :: a4 :: a5 :: a6 :: a7 :: a8 :: a9 :: some (.ref x) :: t) (.ref x :: st) h Q) : wq d tab sc pc (a0 :: a1 :: a2 :: a3 :: a4 :: a5 :: a6 :: a7 :: a8 :: a9 :: some (.ref x) :: t) (st) h Q := wq_step hc rfl kk
theorem wp_istore10 {x : Int32} {a0 a1 a2 a3 a4 a5 a6 a7 a8 a9 : Option Value} {z : Option Value} {t : Lc_} (hc : pm_lk tab pc = some (.istore 10, n, a, b, c, e, v, w)) (hz : nl_ a9 = true := by rfl) (kk : wq d tab sc n (a0 :: a1 :: a2 :: a3 :: a4 :: a5 :: a6 :: a7 :: a8 :: a9 :: some (.int x) :: t) (st) h Q) : wq d tab sc pc (a0 :: a1 :: a2 :: a3 :: a4 :: a5 :: a6 :: a7 :: a8 :: a9 :: z :: t) (.int x :: st) h Q := by
  have e1 : pm_st (a0 :: a1 :: a2 :: a3 :: a4 :: a5 :: a6 :: a7 :: a8 :: a9 :: z :: t) 10 (.int x) = a0 :: a1 :: a2 :: a3 :: a4 :: a5 :: a6 :: a7 :: a8 :: a9 :: some (.int x) :: t := (pm_st_nl a9 rfl hz)
  exact wq_step hc (show (if 10 < (a0 :: a1 :: a2 :: a3 :: a4 :: a5 :: a6 :: a7 :: a8 :: a9 :: z :: t).length then some (Sum.inl (n, pm_st (a0 :: a1 :: a2 :: a3 :: a4 :: a5 :: a6 :: a7 :: a8 :: a9 :: z :: t) 10 (.int x), st, h)) else none) = some (Sum.inl (n, a0 :: a1 :: a2 :: a3 :: a4 :: a5 :: a6 :: a7 :: a8 :: a9 :: some (.int x) :: t, st, h)) by rw [if_pos (by simp), e1]) kk
theorem wp_astore10 {x : Nat} {a0 a1 a2 a3 a4 a5 a6 a7 a8 a9 : Option Value} {z : Option Value} {t : Lc_} (hc : pm_lk tab pc = some (.astore 10, n, a, b, c, e, v, w)) (hz : nl_ a9 = true := by rfl) (kk : wq d tab sc n (a0 :: a1 :: a2 :: a3 :: a4 :: a5 :: a6 :: a7 :: a8 :: a9 :: some (.ref x) :: t) (st) h Q) : wq d tab sc pc (a0 :: a1 :: a2 :: a3 :: a4 :: a5 :: a6 :: a7 :: a8 :: a9 :: z :: t) (.ref x :: st) h Q := by
  have e1 : pm_st (a0 :: a1 :: a2 :: a3 :: a4 :: a5 :: a6 :: a7 :: a8 :: a9 :: z :: t) 10 (.ref x) = a0 :: a1 :: a2 :: a3 :: a4 :: a5 :: a6 :: a7 :: a8 :: a9 :: some (.ref x) :: t := (pm_st_nl a9 rfl hz)
  exact wq_step hc (show (if 10 < (a0 :: a1 :: a2 :: a3 :: a4 :: a5 :: a6 :: a7 :: a8 :: a9 :: z :: t).length then some (Sum.inl (n, pm_st (a0 :: a1 :: a2 :: a3 :: a4 :: a5 :: a6 :: a7 :: a8 :: a9 :: z :: t) 10 (.ref x), st, h)) else none) = some (Sum.inl (n, a0 :: a1 :: a2 :: a3 :: a4 :: a5 :: a6 :: a7 :: a8 :: a9 :: some (.ref x) :: t, st, h)) by rw [if_pos (by simp), e1]) kk
theorem wp_lstore10 {x : Int64} {a0 a1 a2 a3 a4 a5 a6 a7 a8 a9 : Option Value} {z z2 : Option Value} {t : Lc_} (hc : pm_lk tab pc = some (.lstore 10, n, a, b, c, e, v, w)) (hz : nl_ a9 = true := by rfl) (kk : wq d tab sc n (a0 :: a1 :: a2 :: a3 :: a4 :: a5 :: a6 :: a7 :: a8 :: a9 :: some (.long x) :: none :: t) (st) h Q) : wq d tab sc pc (a0 :: a1 :: a2 :: a3 :: a4 :: a5 :: a6 :: a7 :: a8 :: a9 :: z :: z2 :: t) (.long x :: st) h Q := by
  have e1 : pm_st (a0 :: a1 :: a2 :: a3 :: a4 :: a5 :: a6 :: a7 :: a8 :: a9 :: z :: z2 :: t) 10 (.long x) = a0 :: a1 :: a2 :: a3 :: a4 :: a5 :: a6 :: a7 :: a8 :: a9 :: some (.long x) :: z2 :: t := (pm_st_nl a9 rfl hz)
  have e2 : pm_stJ (a0 :: a1 :: a2 :: a3 :: a4 :: a5 :: a6 :: a7 :: a8 :: a9 :: z :: z2 :: t) 10 (.long x) = a0 :: a1 :: a2 :: a3 :: a4 :: a5 :: a6 :: a7 :: a8 :: a9 :: some (.long x) :: none :: t := by
    show (pm_st (a0 :: a1 :: a2 :: a3 :: a4 :: a5 :: a6 :: a7 :: a8 :: a9 :: z :: z2 :: t) 10 (.long x)).set (10 + 1) none = _
    rw [e1]
    rfl
  exact wq_step hc (show (if 10 + 1 < (a0 :: a1 :: a2 :: a3 :: a4 :: a5 :: a6 :: a7 :: a8 :: a9 :: z :: z2 :: t).length then some (Sum.inl (n, pm_stJ (a0 :: a1 :: a2 :: a3 :: a4 :: a5 :: a6 :: a7 :: a8 :: a9 :: z :: z2 :: t) 10 (.long x), st, h)) else none) = some (Sum.inl (n, a0 :: a1 :: a2 :: a3 :: a4 :: a5 :: a6 :: a7 :: a8 :: a9 :: some (.long x) :: none :: t, st, h)) by rw [if_pos (by simp), e2]) kk
theorem wp_iinc10 {x : Int32} {w1 : Int} {a0 a1 a2 a3 a4 a5 a6 a7 a8 a9 : Option Value} {t : Lc_} (hc : pm_lk tab pc = some (.iinc 10 w1, n, a, b, c, e, v, w)) (hz : nl_ a9 = true := by rfl) (kk : wq d tab sc n (a0 :: a1 :: a2 :: a3 :: a4 :: a5 :: a6 :: a7 :: a8 :: a9 :: some (.int (x + v)) :: t) (st) h Q) : wq d tab sc pc (a0 :: a1 :: a2 :: a3 :: a4 :: a5 :: a6 :: a7 :: a8 :: a9 :: some (.int x) :: t) (st) h Q := by
  have e1 : pm_st (a0 :: a1 :: a2 :: a3 :: a4 :: a5 :: a6 :: a7 :: a8 :: a9 :: some (.int x) :: t) 10 (.int (x + v)) = a0 :: a1 :: a2 :: a3 :: a4 :: a5 :: a6 :: a7 :: a8 :: a9 :: some (.int (x + v)) :: t := (pm_st_nl a9 rfl hz)
  exact wq_step hc (show some (Sum.inl (n, pm_st (a0 :: a1 :: a2 :: a3 :: a4 :: a5 :: a6 :: a7 :: a8 :: a9 :: some (.int x) :: t) 10 (.int (x + v)), st, h)) = _ by rw [e1]) kk
theorem wp_iload11 {x : Int32} {a0 a1 a2 a3 a4 a5 a6 a7 a8 a9 a10 : Option Value} {t : Lc_} (hc : pm_lk tab pc = some (.iload 11, n, a, b, c, e, v, w)) (kk : wq d tab sc n (a0 :: a1 :: a2 :: a3 :: a4 :: a5 :: a6 :: a7 :: a8 :: a9 :: a10 :: some (.int x) :: t) (.int x :: st) h Q) : wq d tab sc pc (a0 :: a1 :: a2 :: a3 :: a4 :: a5 :: a6 :: a7 :: a8 :: a9 :: a10 :: some (.int x) :: t) (st) h Q := wq_step hc rfl kk
theorem wp_lload11 {x : Int64} {a0 a1 a2 a3 a4 a5 a6 a7 a8 a9 a10 : Option Value} {t : Lc_} (hc : pm_lk tab pc = some (.lload 11, n, a, b, c, e, v, w)) (kk : wq d tab sc n (a0 :: a1 :: a2 :: a3 :: a4 :: a5 :: a6 :: a7 :: a8 :: a9 :: a10 :: some (.long x) :: t) (.long x :: st) h Q) : wq d tab sc pc (a0 :: a1 :: a2 :: a3 :: a4 :: a5 :: a6 :: a7 :: a8 :: a9 :: a10 :: some (.long x) :: t) (st) h Q := wq_step hc rfl kk
theorem wp_aload11 {x : Nat} {a0 a1 a2 a3 a4 a5 a6 a7 a8 a9 a10 : Option Value} {t : Lc_} (hc : pm_lk tab pc = some (.aload 11, n, a, b, c, e, v, w)) (kk : wq d tab sc n (a0 :: a1 :: a2 :: a3 :: a4 :: a5 :: a6 :: a7 :: a8 :: a9 :: a10 :: some (.ref x) :: t) (.ref x :: st) h Q) : wq d tab sc pc (a0 :: a1 :: a2 :: a3 :: a4 :: a5 :: a6 :: a7 :: a8 :: a9 :: a10 :: some (.ref x) :: t) (st) h Q := wq_step hc rfl kk
theorem wp_istore11 {x : Int32} {a0 a1 a2 a3 a4 a5 a6 a7 a8 a9 a10 : Option Value} {z : Option Value} {t : Lc_} (hc : pm_lk tab pc = some (.istore 11, n, a, b, c, e, v, w)) (hz : nl_ a10 = true := by rfl) (kk : wq d tab sc n (a0 :: a1 :: a2 :: a3 :: a4 :: a5 :: a6 :: a7 :: a8 :: a9 :: a10 :: some (.int x) :: t) (st) h Q) : wq d tab sc pc (a0 :: a1 :: a2 :: a3 :: a4 :: a5 :: a6 :: a7 :: a8 :: a9 :: a10 :: z :: t) (.int x :: st) h Q := by
  have e1 : pm_st (a0 :: a1 :: a2 :: a3 :: a4 :: a5 :: a6 :: a7 :: a8 :: a9 :: a10 :: z :: t) 11 (.int x) = a0 :: a1 :: a2 :: a3 :: a4 :: a5 :: a6 :: a7 :: a8 :: a9 :: a10 :: some (.int x) :: t := (pm_st_nl a10 rfl hz)
  exact wq_step hc (show (if 11 < (a0 :: a1 :: a2 :: a3 :: a4 :: a5 :: a6 :: a7 :: a8 :: a9 :: a10 :: z :: t).length then some (Sum.inl (n, pm_st (a0 :: a1 :: a2 :: a3 :: a4 :: a5 :: a6 :: a7 :: a8 :: a9 :: a10 :: z :: t) 11 (.int x), st, h)) else none) = some (Sum.inl (n, a0 :: a1 :: a2 :: a3 :: a4 :: a5 :: a6 :: a7 :: a8 :: a9 :: a10 :: some (.int x) :: t, st, h)) by rw [if_pos (by simp), e1]) kk
theorem wp_astore11 {x : Nat} {a0 a1 a2 a3 a4 a5 a6 a7 a8 a9 a10 : Option Value} {z : Option Value} {t : Lc_} (hc : pm_lk tab pc = some (.astore 11, n, a, b, c, e, v, w)) (hz : nl_ a10 = true := by rfl) (kk : wq d tab sc n (a0 :: a1 :: a2 :: a3 :: a4 :: a5 :: a6 :: a7 :: a8 :: a9 :: a10 :: some (.ref x) :: t) (st) h Q) : wq d tab sc pc (a0 :: a1 :: a2 :: a3 :: a4 :: a5 :: a6 :: a7 :: a8 :: a9 :: a10 :: z :: t) (.ref x :: st) h Q := by
  have e1 : pm_st (a0 :: a1 :: a2 :: a3 :: a4 :: a5 :: a6 :: a7 :: a8 :: a9 :: a10 :: z :: t) 11 (.ref x) = a0 :: a1 :: a2 :: a3 :: a4 :: a5 :: a6 :: a7 :: a8 :: a9 :: a10 :: some (.ref x) :: t := (pm_st_nl a10 rfl hz)
  exact wq_step hc (show (if 11 < (a0 :: a1 :: a2 :: a3 :: a4 :: a5 :: a6 :: a7 :: a8 :: a9 :: a10 :: z :: t).length then some (Sum.inl (n, pm_st (a0 :: a1 :: a2 :: a3 :: a4 :: a5 :: a6 :: a7 :: a8 :: a9 :: a10 :: z :: t) 11 (.ref x), st, h)) else none) = some (Sum.inl (n, a0 :: a1 :: a2 :: a3 :: a4 :: a5 :: a6 :: a7 :: a8 :: a9 :: a10 :: some (.ref x) :: t, st, h)) by rw [if_pos (by simp), e1]) kk
theorem wp_lstore11 {x : Int64} {a0 a1 a2 a3 a4 a5 a6 a7 a8 a9 a10 : Option Value} {z z2 : Option Value} {t : Lc_} (hc : pm_lk tab pc = some (.lstore 11, n, a, b, c, e, v, w)) (hz : nl_ a10 = true := by rfl) (kk : wq d tab sc n (a0 :: a1 :: a2 :: a3 :: a4 :: a5 :: a6 :: a7 :: a8 :: a9 :: a10 :: some (.long x) :: none :: t) (st) h Q) : wq d tab sc pc (a0 :: a1 :: a2 :: a3 :: a4 :: a5 :: a6 :: a7 :: a8 :: a9 :: a10 :: z :: z2 :: t) (.long x :: st) h Q := by
  have e1 : pm_st (a0 :: a1 :: a2 :: a3 :: a4 :: a5 :: a6 :: a7 :: a8 :: a9 :: a10 :: z :: z2 :: t) 11 (.long x) = a0 :: a1 :: a2 :: a3 :: a4 :: a5 :: a6 :: a7 :: a8 :: a9 :: a10 :: some (.long x) :: z2 :: t := (pm_st_nl a10 rfl hz)
  have e2 : pm_stJ (a0 :: a1 :: a2 :: a3 :: a4 :: a5 :: a6 :: a7 :: a8 :: a9 :: a10 :: z :: z2 :: t) 11 (.long x) = a0 :: a1 :: a2 :: a3 :: a4 :: a5 :: a6 :: a7 :: a8 :: a9 :: a10 :: some (.long x) :: none :: t := by
    show (pm_st (a0 :: a1 :: a2 :: a3 :: a4 :: a5 :: a6 :: a7 :: a8 :: a9 :: a10 :: z :: z2 :: t) 11 (.long x)).set (11 + 1) none = _
    rw [e1]
    rfl
  exact wq_step hc (show (if 11 + 1 < (a0 :: a1 :: a2 :: a3 :: a4 :: a5 :: a6 :: a7 :: a8 :: a9 :: a10 :: z :: z2 :: t).length then some (Sum.inl (n, pm_stJ (a0 :: a1 :: a2 :: a3 :: a4 :: a5 :: a6 :: a7 :: a8 :: a9 :: a10 :: z :: z2 :: t) 11 (.long x), st, h)) else none) = some (Sum.inl (n, a0 :: a1 :: a2 :: a3 :: a4 :: a5 :: a6 :: a7 :: a8 :: a9 :: a10 :: some (.long x) :: none :: t, st, h)) by rw [if_pos (by simp), e2]) kk
theorem wp_iinc11 {x : Int32} {w1 : Int} {a0 a1 a2 a3 a4 a5 a6 a7 a8 a9 a10 : Option Value} {t : Lc_} (hc : pm_lk tab pc = some (.iinc 11 w1, n, a, b, c, e, v, w)) (hz : nl_ a10 = true := by rfl) (kk : wq d tab sc n (a0 :: a1 :: a2 :: a3 :: a4 :: a5 :: a6 :: a7 :: a8 :: a9 :: a10 :: some (.int (x + v)) :: t) (st) h Q) : wq d tab sc pc (a0 :: a1 :: a2 :: a3 :: a4 :: a5 :: a6 :: a7 :: a8 :: a9 :: a10 :: some (.int x) :: t) (st) h Q := by
  have e1 : pm_st (a0 :: a1 :: a2 :: a3 :: a4 :: a5 :: a6 :: a7 :: a8 :: a9 :: a10 :: some (.int x) :: t) 11 (.int (x + v)) = a0 :: a1 :: a2 :: a3 :: a4 :: a5 :: a6 :: a7 :: a8 :: a9 :: a10 :: some (.int (x + v)) :: t := (pm_st_nl a10 rfl hz)
  exact wq_step hc (show some (Sum.inl (n, pm_st (a0 :: a1 :: a2 :: a3 :: a4 :: a5 :: a6 :: a7 :: a8 :: a9 :: a10 :: some (.int x) :: t) 11 (.int (x + v)), st, h)) = _ by rw [e1]) kk
theorem wp_iload12 {x : Int32} {a0 a1 a2 a3 a4 a5 a6 a7 a8 a9 a10 a11 : Option Value} {t : Lc_} (hc : pm_lk tab pc = some (.iload 12, n, a, b, c, e, v, w)) (kk : wq d tab sc n (a0 :: a1 :: a2 :: a3 :: a4 :: a5 :: a6 :: a7 :: a8 :: a9 :: a10 :: a11 :: some (.int x) :: t) (.int x :: st) h Q) : wq d tab sc pc (a0 :: a1 :: a2 :: a3 :: a4 :: a5 :: a6 :: a7 :: a8 :: a9 :: a10 :: a11 :: some (.int x) :: t) (st) h Q := wq_step hc rfl kk
theorem wp_lload12 {x : Int64} {a0 a1 a2 a3 a4 a5 a6 a7 a8 a9 a10 a11 : Option Value} {t : Lc_} (hc : pm_lk tab pc = some (.lload 12, n, a, b, c, e, v, w)) (kk : wq d tab sc n (a0 :: a1 :: a2 :: a3 :: a4 :: a5 :: a6 :: a7 :: a8 :: a9 :: a10 :: a11 :: some (.long x) :: t) (.long x :: st) h Q) : wq d tab sc pc (a0 :: a1 :: a2 :: a3 :: a4 :: a5 :: a6 :: a7 :: a8 :: a9 :: a10 :: a11 :: some (.long x) :: t) (st) h Q := wq_step hc rfl kk
theorem wp_aload12 {x : Nat} {a0 a1 a2 a3 a4 a5 a6 a7 a8 a9 a10 a11 : Option Value} {t : Lc_} (hc : pm_lk tab pc = some (.aload 12, n, a, b, c, e, v, w)) (kk : wq d tab sc n (a0 :: a1 :: a2 :: a3 :: a4 :: a5 :: a6 :: a7 :: a8 :: a9 :: a10 :: a11 :: some (.ref x) :: t) (.ref x :: st) h Q) : wq d tab sc pc (a0 :: a1 :: a2 :: a3 :: a4 :: a5 :: a6 :: a7 :: a8 :: a9 :: a10 :: a11 :: some (.ref x) :: t) (st) h Q := wq_step hc rfl kk
theorem wp_istore12 {x : Int32} {a0 a1 a2 a3 a4 a5 a6 a7 a8 a9 a10 a11 : Option Value} {z : Option Value} {t : Lc_} (hc : pm_lk tab pc = some (.istore 12, n, a, b, c, e, v, w)) (hz : nl_ a11 = true := by rfl) (kk : wq d tab sc n (a0 :: a1 :: a2 :: a3 :: a4 :: a5 :: a6 :: a7 :: a8 :: a9 :: a10 :: a11 :: some (.int x) :: t) (st) h Q) : wq d tab sc pc (a0 :: a1 :: a2 :: a3 :: a4 :: a5 :: a6 :: a7 :: a8 :: a9 :: a10 :: a11 :: z :: t) (.int x :: st) h Q := by
  have e1 : pm_st (a0 :: a1 :: a2 :: a3 :: a4 :: a5 :: a6 :: a7 :: a8 :: a9 :: a10 :: a11 :: z :: t) 12 (.int x) = a0 :: a1 :: a2 :: a3 :: a4 :: a5 :: a6 :: a7 :: a8 :: a9 :: a10 :: a11 :: some (.int x) :: t := (pm_st_nl a11 rfl hz)
  exact wq_step hc (show (if 12 < (a0 :: a1 :: a2 :: a3 :: a4 :: a5 :: a6 :: a7 :: a8 :: a9 :: a10 :: a11 :: z :: t).length then some (Sum.inl (n, pm_st (a0 :: a1 :: a2 :: a3 :: a4 :: a5 :: a6 :: a7 :: a8 :: a9 :: a10 :: a11 :: z :: t) 12 (.int x), st, h)) else none) = some (Sum.inl (n, a0 :: a1 :: a2 :: a3 :: a4 :: a5 :: a6 :: a7 :: a8 :: a9 :: a10 :: a11 :: some (.int x) :: t, st, h)) by rw [if_pos (by simp), e1]) kk
theorem wp_astore12 {x : Nat} {a0 a1 a2 a3 a4 a5 a6 a7 a8 a9 a10 a11 : Option Value} {z : Option Value} {t : Lc_} (hc : pm_lk tab pc = some (.astore 12, n, a, b, c, e, v, w)) (hz : nl_ a11 = true := by rfl) (kk : wq d tab sc n (a0 :: a1 :: a2 :: a3 :: a4 :: a5 :: a6 :: a7 :: a8 :: a9 :: a10 :: a11 :: some (.ref x) :: t) (st) h Q) : wq d tab sc pc (a0 :: a1 :: a2 :: a3 :: a4 :: a5 :: a6 :: a7 :: a8 :: a9 :: a10 :: a11 :: z :: t) (.ref x :: st) h Q := by
  have e1 : pm_st (a0 :: a1 :: a2 :: a3 :: a4 :: a5 :: a6 :: a7 :: a8 :: a9 :: a10 :: a11 :: z :: t) 12 (.ref x) = a0 :: a1 :: a2 :: a3 :: a4 :: a5 :: a6 :: a7 :: a8 :: a9 :: a10 :: a11 :: some (.ref x) :: t := (pm_st_nl a11 rfl hz)
  exact wq_step hc (show (if 12 < (a0 :: a1 :: a2 :: a3 :: a4 :: a5 :: a6 :: a7 :: a8 :: a9 :: a10 :: a11 :: z :: t).length then some (Sum.inl (n, pm_st (a0 :: a1 :: a2 :: a3 :: a4 :: a5 :: a6 :: a7 :: a8 :: a9 :: a10 :: a11 :: z :: t) 12 (.ref x), st, h)) else none) = some (Sum.inl (n, a0 :: a1 :: a2 :: a3 :: a4 :: a5 :: a6 :: a7 :: a8 :: a9 :: a10 :: a11 :: some (.ref x) :: t, st, h)) by rw [if_pos (by simp), e1]) kk
theorem wp_lstore12 {x : Int64} {a0 a1 a2 a3 a4 a5 a6 a7 a8 a9 a10 a11 : Option Value} {z z2 : Option Value} {t : Lc_} (hc : pm_lk tab pc = some (.lstore 12, n, a, b, c, e, v, w)) (hz : nl_ a11 = true := by rfl) (kk : wq d tab sc n (a0 :: a1 :: a2 :: a3 :: a4 :: a5 :: a6 :: a7 :: a8 :: a9 :: a10 :: a11 :: some (.long x) :: none :: t) (st) h Q) : wq d tab sc pc (a0 :: a1 :: a2 :: a3 :: a4 :: a5 :: a6 :: a7 :: a8 :: a9 :: a10 :: a11 :: z :: z2 :: t) (.long x :: st) h Q := by
  have e1 : pm_st (a0 :: a1 :: a2 :: a3 :: a4 :: a5 :: a6 :: a7 :: a8 :: a9 :: a10 :: a11 :: z :: z2 :: t) 12 (.long x) = a0 :: a1 :: a2 :: a3 :: a4 :: a5 :: a6 :: a7 :: a8 :: a9 :: a10 :: a11 :: some (.long x) :: z2 :: t := (pm_st_nl a11 rfl hz)
  have e2 : pm_stJ (a0 :: a1 :: a2 :: a3 :: a4 :: a5 :: a6 :: a7 :: a8 :: a9 :: a10 :: a11 :: z :: z2 :: t) 12 (.long x) = a0 :: a1 :: a2 :: a3 :: a4 :: a5 :: a6 :: a7 :: a8 :: a9 :: a10 :: a11 :: some (.long x) :: none :: t := by
    show (pm_st (a0 :: a1 :: a2 :: a3 :: a4 :: a5 :: a6 :: a7 :: a8 :: a9 :: a10 :: a11 :: z :: z2 :: t) 12 (.long x)).set (12 + 1) none = _
    rw [e1]
    rfl
  exact wq_step hc (show (if 12 + 1 < (a0 :: a1 :: a2 :: a3 :: a4 :: a5 :: a6 :: a7 :: a8 :: a9 :: a10 :: a11 :: z :: z2 :: t).length then some (Sum.inl (n, pm_stJ (a0 :: a1 :: a2 :: a3 :: a4 :: a5 :: a6 :: a7 :: a8 :: a9 :: a10 :: a11 :: z :: z2 :: t) 12 (.long x), st, h)) else none) = some (Sum.inl (n, a0 :: a1 :: a2 :: a3 :: a4 :: a5 :: a6 :: a7 :: a8 :: a9 :: a10 :: a11 :: some (.long x) :: none :: t, st, h)) by rw [if_pos (by simp), e2]) kk
theorem wp_iinc12 {x : Int32} {w1 : Int} {a0 a1 a2 a3 a4 a5 a6 a7 a8 a9 a10 a11 : Option Value} {t : Lc_} (hc : pm_lk tab pc = some (.iinc 12 w1, n, a, b, c, e, v, w)) (hz : nl_ a11 = true := by rfl) (kk : wq d tab sc n (a0 :: a1 :: a2 :: a3 :: a4 :: a5 :: a6 :: a7 :: a8 :: a9 :: a10 :: a11 :: some (.int (x + v)) :: t) (st) h Q) : wq d tab sc pc (a0 :: a1 :: a2 :: a3 :: a4 :: a5 :: a6 :: a7 :: a8 :: a9 :: a10 :: a11 :: some (.int x) :: t) (st) h Q := by
  have e1 : pm_st (a0 :: a1 :: a2 :: a3 :: a4 :: a5 :: a6 :: a7 :: a8 :: a9 :: a10 :: a11 :: some (.int x) :: t) 12 (.int (x + v)) = a0 :: a1 :: a2 :: a3 :: a4 :: a5 :: a6 :: a7 :: a8 :: a9 :: a10 :: a11 :: some (.int (x + v)) :: t := (pm_st_nl a11 rfl hz)
  exact wq_step hc (show some (Sum.inl (n, pm_st (a0 :: a1 :: a2 :: a3 :: a4 :: a5 :: a6 :: a7 :: a8 :: a9 :: a10 :: a11 :: some (.int x) :: t) 12 (.int (x + v)), st, h)) = _ by rw [e1]) kk
theorem wp_iconst {k1 : Int} (hc : pm_lk tab pc = some (.iconst k1, n, a, b, c, e, v, w)) (kk : wq d tab sc n (L) (.int v :: st) h Q) : wq d tab sc pc (L) (st) h Q := wq_step hc rfl kk
theorem wp_bipush {k1 : Int} (hc : pm_lk tab pc = some (.bipush k1, n, a, b, c, e, v, w)) (kk : wq d tab sc n (L) (.int v :: st) h Q) : wq d tab sc pc (L) (st) h Q := wq_step hc rfl kk
theorem wp_sipush {k1 : Int} (hc : pm_lk tab pc = some (.sipush k1, n, a, b, c, e, v, w)) (kk : wq d tab sc n (L) (.int v :: st) h Q) : wq d tab sc pc (L) (st) h Q := wq_step hc rfl kk
theorem wp_ldc {k1 : Nat} (hc : pm_lk tab pc = some (.ldc k1, n, a, b, c, e, v, w)) (kk : wq d tab sc n (L) (.int v :: st) h Q) : wq d tab sc pc (L) (st) h Q := wq_step hc rfl kk
theorem wp_ldc_w {k1 : Nat} (hc : pm_lk tab pc = some (.ldc_w k1, n, a, b, c, e, v, w)) (kk : wq d tab sc n (L) (.int v :: st) h Q) : wq d tab sc pc (L) (st) h Q := wq_step hc rfl kk
theorem wp_ldc2_w {k1 : Nat} (hc : pm_lk tab pc = some (.ldc2_w k1, n, a, b, c, e, v, w)) (kk : wq d tab sc n (L) (.long w :: st) h Q) : wq d tab sc pc (L) (st) h Q := wq_step hc rfl kk
theorem wp_lconst {k1 : Fin 2} (hc : pm_lk tab pc = some (.lconst k1, n, a, b, c, e, v, w)) (kk : wq d tab sc n (L) (.long w :: st) h Q) : wq d tab sc pc (L) (st) h Q := wq_step hc rfl kk
theorem wp_iadd {x y : Int32} (hc : pm_lk tab pc = some (.iadd, n, a, b, c, e, v, w)) (kk : wq d tab sc n (L) (.int (x + y) :: st) h Q) : wq d tab sc pc (L) (.int y :: .int x :: st) h Q := wq_step hc rfl kk
theorem wp_iaddE {x y : Int32} (z : Int32) (hz : x + y = z) (hc : pm_lk tab pc = some (.iadd, n, a, b, c, e, v, w)) (kk : wq d tab sc n (L) (.int z :: st) h Q) : wq d tab sc pc (L) (.int y :: .int x :: st) h Q := wq_step hc (by rw [← hz]; rfl) kk
theorem wp_isub {x y : Int32} (hc : pm_lk tab pc = some (.isub, n, a, b, c, e, v, w)) (kk : wq d tab sc n (L) (.int (x - y) :: st) h Q) : wq d tab sc pc (L) (.int y :: .int x :: st) h Q := wq_step hc rfl kk
theorem wp_isubE {x y : Int32} (z : Int32) (hz : x - y = z) (hc : pm_lk tab pc = some (.isub, n, a, b, c, e, v, w)) (kk : wq d tab sc n (L) (.int z :: st) h Q) : wq d tab sc pc (L) (.int y :: .int x :: st) h Q := wq_step hc (by rw [← hz]; rfl) kk
theorem wp_imul {x y : Int32} (hc : pm_lk tab pc = some (.imul, n, a, b, c, e, v, w)) (kk : wq d tab sc n (L) (.int (x * y) :: st) h Q) : wq d tab sc pc (L) (.int y :: .int x :: st) h Q := wq_step hc rfl kk
theorem wp_imulE {x y : Int32} (z : Int32) (hz : x * y = z) (hc : pm_lk tab pc = some (.imul, n, a, b, c, e, v, w)) (kk : wq d tab sc n (L) (.int z :: st) h Q) : wq d tab sc pc (L) (.int y :: .int x :: st) h Q := wq_step hc (by rw [← hz]; rfl) kk
theorem wp_iand {x y : Int32} (hc : pm_lk tab pc = some (.iand, n, a, b, c, e, v, w)) (kk : wq d tab sc n (L) (.int (x &&& y) :: st) h Q) : wq d tab sc pc (L) (.int y :: .int x :: st) h Q := wq_step hc rfl kk
theorem wp_iandE {x y : Int32} (z : Int32) (hz : x &&& y = z) (hc : pm_lk tab pc = some (.iand, n, a, b, c, e, v, w)) (kk : wq d tab sc n (L) (.int z :: st) h Q) : wq d tab sc pc (L) (.int y :: .int x :: st) h Q := wq_step hc (by rw [← hz]; rfl) kk
theorem wp_ior {x y : Int32} (hc : pm_lk tab pc = some (.ior, n, a, b, c, e, v, w)) (kk : wq d tab sc n (L) (.int (x ||| y) :: st) h Q) : wq d tab sc pc (L) (.int y :: .int x :: st) h Q := wq_step hc rfl kk
theorem wp_iorE {x y : Int32} (z : Int32) (hz : x ||| y = z) (hc : pm_lk tab pc = some (.ior, n, a, b, c, e, v, w)) (kk : wq d tab sc n (L) (.int z :: st) h Q) : wq d tab sc pc (L) (.int y :: .int x :: st) h Q := wq_step hc (by rw [← hz]; rfl) kk
theorem wp_ixor {x y : Int32} (hc : pm_lk tab pc = some (.ixor, n, a, b, c, e, v, w)) (kk : wq d tab sc n (L) (.int (x ^^^ y) :: st) h Q) : wq d tab sc pc (L) (.int y :: .int x :: st) h Q := wq_step hc rfl kk
theorem wp_ixorE {x y : Int32} (z : Int32) (hz : x ^^^ y = z) (hc : pm_lk tab pc = some (.ixor, n, a, b, c, e, v, w)) (kk : wq d tab sc n (L) (.int z :: st) h Q) : wq d tab sc pc (L) (.int y :: .int x :: st) h Q := wq_step hc (by rw [← hz]; rfl) kk
theorem wp_ishl {x y : Int32} (hc : pm_lk tab pc = some (.ishl, n, a, b, c, e, v, w)) (kk : wq d tab sc n (L) (.int (x <<< (y &&& 31)) :: st) h Q) : wq d tab sc pc (L) (.int y :: .int x :: st) h Q := wq_step hc rfl kk
theorem wp_ishlE {x y : Int32} (z : Int32) (hz : x <<< (y &&& 31) = z) (hc : pm_lk tab pc = some (.ishl, n, a, b, c, e, v, w)) (kk : wq d tab sc n (L) (.int z :: st) h Q) : wq d tab sc pc (L) (.int y :: .int x :: st) h Q := wq_step hc (by rw [← hz]; rfl) kk
theorem wp_ishr {x y : Int32} (hc : pm_lk tab pc = some (.ishr, n, a, b, c, e, v, w)) (kk : wq d tab sc n (L) (.int (x >>> (y &&& 31)) :: st) h Q) : wq d tab sc pc (L) (.int y :: .int x :: st) h Q := wq_step hc rfl kk
theorem wp_ishrE {x y : Int32} (z : Int32) (hz : x >>> (y &&& 31) = z) (hc : pm_lk tab pc = some (.ishr, n, a, b, c, e, v, w)) (kk : wq d tab sc n (L) (.int z :: st) h Q) : wq d tab sc pc (L) (.int y :: .int x :: st) h Q := wq_step hc (by rw [← hz]; rfl) kk
theorem wp_iushr {x y : Int32} (hc : pm_lk tab pc = some (.iushr, n, a, b, c, e, v, w)) (kk : wq d tab sc n (L) (.int ((x.toUInt32 >>> (y.toUInt32 &&& Int32.toUInt32 31)).toInt32) :: st) h Q) : wq d tab sc pc (L) (.int y :: .int x :: st) h Q := wq_step hc rfl kk
theorem wp_iushrE {x y : Int32} (z : Int32) (hz : (x.toUInt32 >>> (y.toUInt32 &&& Int32.toUInt32 31)).toInt32 = z) (hc : pm_lk tab pc = some (.iushr, n, a, b, c, e, v, w)) (kk : wq d tab sc n (L) (.int z :: st) h Q) : wq d tab sc pc (L) (.int y :: .int x :: st) h Q := wq_step hc (by rw [← hz]; rfl) kk
theorem wp_idivE {x y : Int32} (z : Int32) (hy : y ≠ 0) (hz : x / y = z) (hc : pm_lk tab pc = some (.idiv, n, a, b, c, e, v, w)) (kk : wq d tab sc n (L) (.int z :: st) h Q) : wq d tab sc pc (L) (.int y :: .int x :: st) h Q := wq_step hc (show (if y = 0 then none else some (Sum.inl (n, L, Value.int (x / y) :: st, h))) = some (Sum.inl (n, L, Value.int z :: st, h)) by rw [if_neg hy, hz]) kk
theorem wp_iremE {x y : Int32} (z : Int32) (hy : y ≠ 0) (hz : x - x / y * y = z) (hc : pm_lk tab pc = some (.irem, n, a, b, c, e, v, w)) (kk : wq d tab sc n (L) (.int z :: st) h Q) : wq d tab sc pc (L) (.int y :: .int x :: st) h Q := wq_step hc (show (if y = 0 then none else some (Sum.inl (n, L, Value.int (x - x / y * y) :: st, h))) = some (Sum.inl (n, L, Value.int z :: st, h)) by rw [if_neg hy, hz]) kk
theorem wp_ladd {x y : Int64} (hc : pm_lk tab pc = some (.ladd, n, a, b, c, e, v, w)) (kk : wq d tab sc n (L) (.long (x + y) :: st) h Q) : wq d tab sc pc (L) (.long y :: .long x :: st) h Q := wq_step hc rfl kk
theorem wp_laddE {x y : Int64} (z : Int64) (hz : x + y = z) (hc : pm_lk tab pc = some (.ladd, n, a, b, c, e, v, w)) (kk : wq d tab sc n (L) (.long z :: st) h Q) : wq d tab sc pc (L) (.long y :: .long x :: st) h Q := wq_step hc (by rw [← hz]; rfl) kk
theorem wp_lmul {x y : Int64} (hc : pm_lk tab pc = some (.lmul, n, a, b, c, e, v, w)) (kk : wq d tab sc n (L) (.long (x * y) :: st) h Q) : wq d tab sc pc (L) (.long y :: .long x :: st) h Q := wq_step hc rfl kk
theorem wp_lmulE {x y : Int64} (z : Int64) (hz : x * y = z) (hc : pm_lk tab pc = some (.lmul, n, a, b, c, e, v, w)) (kk : wq d tab sc n (L) (.long z :: st) h Q) : wq d tab sc pc (L) (.long y :: .long x :: st) h Q := wq_step hc (by rw [← hz]; rfl) kk
theorem wp_lremE {x y : Int64} (z : Int64) (hy : y ≠ 0) (hz : x - x / y * y = z) (hc : pm_lk tab pc = some (.lrem, n, a, b, c, e, v, w)) (kk : wq d tab sc n (L) (.long z :: st) h Q) : wq d tab sc pc (L) (.long y :: .long x :: st) h Q := wq_step hc (show (if y = 0 then none else some (Sum.inl (n, L, Value.long (x - x / y * y) :: st, h))) = some (Sum.inl (n, L, Value.long z :: st, h)) by rw [if_neg hy, hz]) kk
theorem wp_lcmp {x y : Int64} (hc : pm_lk tab pc = some (.lcmp, n, a, b, c, e, v, w)) (kk : wq d tab sc n (L) (.int (lg_cmp x y) :: st) h Q) : wq d tab sc pc (L) (.long y :: .long x :: st) h Q := wq_step hc rfl kk
theorem wp_i2l {x : Int32} (hc : pm_lk tab pc = some (.i2l, n, a, b, c, e, v, w)) (kk : wq d tab sc n (L) (.long x.toInt64 :: st) h Q) : wq d tab sc pc (L) (.int x :: st) h Q := wq_step hc rfl kk
theorem wp_l2i {x : Int64} (hc : pm_lk tab pc = some (.l2i, n, a, b, c, e, v, w)) (kk : wq d tab sc n (L) (.int x.toInt32 :: st) h Q) : wq d tab sc pc (L) (.long x :: st) h Q := wq_step hc rfl kk
theorem wp_dup {x : Nat} (hc : pm_lk tab pc = some (.dup, n, a, b, c, e, v, w)) (kk : wq d tab sc n (L) (.ref x :: .ref x :: st) h Q) : wq d tab sc pc (L) (.ref x :: st) h Q := wq_step hc rfl kk
theorem wp_popI {x : Int32} (hc : pm_lk tab pc = some (.pop, n, a, b, c, e, v, w)) (kk : wq d tab sc n (L) (st) h Q) : wq d tab sc pc (L) (.int x :: st) h Q := wq_step hc rfl kk
theorem wp_popA {x : Nat} (hc : pm_lk tab pc = some (.pop, n, a, b, c, e, v, w)) (kk : wq d tab sc n (L) (st) h Q) : wq d tab sc pc (L) (.ref x :: st) h Q := wq_step hc rfl kk
theorem wp_goto {k1 : Int} (hc : pm_lk tab pc = some (.goto k1, n, a, b, c, e, v, w)) (kk : wq d tab sc a (L) (st) h Q) : wq d tab sc pc (L) (st) h Q := wq_step hc rfl kk
theorem wp_if_eq {x : Int32} {k1 : Int} (hc : pm_lk tab pc = some (.ifCond .eq k1, n, a, b, c, e, v, w)) (kt : x = 0 → wq d tab sc a (L) (st) h Q) (kf : ¬ (x = 0) → wq d tab sc n (L) (st) h Q) : wq d tab sc pc (L) (.int x :: st) h Q := by
  by_cases q : x = 0
  · exact wq_step hc (show some (Sum.inl (if decide (x = 0) = true then a else n, L, st, h)) = _ by rw [if_pos (decide_eq_true q)]) (kt q)
  · exact wq_step hc (show some (Sum.inl (if decide (x = 0) = true then a else n, L, st, h)) = _ by rw [if_neg (fun z => q (of_decide_eq_true z))]) (kf q)
theorem wp_icmp_eq {x y : Int32} {k1 : Int} (hc : pm_lk tab pc = some (.if_icmp .eq k1, n, a, b, c, e, v, w)) (kt : x = y → wq d tab sc a (L) (st) h Q) (kf : ¬ (x = y) → wq d tab sc n (L) (st) h Q) : wq d tab sc pc (L) (.int y :: .int x :: st) h Q := by
  by_cases q : x = y
  · exact wq_step hc (show some (Sum.inl (if decide (x = y) = true then a else n, L, st, h)) = _ by rw [if_pos (decide_eq_true q)]) (kt q)
  · exact wq_step hc (show some (Sum.inl (if decide (x = y) = true then a else n, L, st, h)) = _ by rw [if_neg (fun z => q (of_decide_eq_true z))]) (kf q)
theorem wp_icmp_eqN (i j : Nat) (hi : i < 2 ^ 31) (hj : j < 2 ^ 31) {k1 : Int} (hc : pm_lk tab pc = some (.if_icmp .eq k1, n, a, b, c, e, v, w)) (kt : i = j → wq d tab sc a (L) (st) h Q) (kf : i ≠ j → wq d tab sc n (L) (st) h Q) : wq d tab sc pc (L) (.int (nI j) :: .int (nI i) :: st) h Q := wp_icmp_eq hc (fun q => kt ((nI_eq hi hj).mp q)) (fun q => kf (by have q := fun z => q ((nI_eq hi hj).mpr z); exact q))
theorem wp_if_ne {x : Int32} {k1 : Int} (hc : pm_lk tab pc = some (.ifCond .ne k1, n, a, b, c, e, v, w)) (kt : x ≠ 0 → wq d tab sc a (L) (st) h Q) (kf : ¬ (x ≠ 0) → wq d tab sc n (L) (st) h Q) : wq d tab sc pc (L) (.int x :: st) h Q := by
  by_cases q : x ≠ 0
  · exact wq_step hc (show some (Sum.inl (if decide (x ≠ 0) = true then a else n, L, st, h)) = _ by rw [if_pos (decide_eq_true q)]) (kt q)
  · exact wq_step hc (show some (Sum.inl (if decide (x ≠ 0) = true then a else n, L, st, h)) = _ by rw [if_neg (fun z => q (of_decide_eq_true z))]) (kf q)
theorem wp_icmp_ne {x y : Int32} {k1 : Int} (hc : pm_lk tab pc = some (.if_icmp .ne k1, n, a, b, c, e, v, w)) (kt : x ≠ y → wq d tab sc a (L) (st) h Q) (kf : ¬ (x ≠ y) → wq d tab sc n (L) (st) h Q) : wq d tab sc pc (L) (.int y :: .int x :: st) h Q := by
  by_cases q : x ≠ y
  · exact wq_step hc (show some (Sum.inl (if decide (x ≠ y) = true then a else n, L, st, h)) = _ by rw [if_pos (decide_eq_true q)]) (kt q)
  · exact wq_step hc (show some (Sum.inl (if decide (x ≠ y) = true then a else n, L, st, h)) = _ by rw [if_neg (fun z => q (of_decide_eq_true z))]) (kf q)
theorem wp_icmp_neN (i j : Nat) (hi : i < 2 ^ 31) (hj : j < 2 ^ 31) {k1 : Int} (hc : pm_lk tab pc = some (.if_icmp .ne k1, n, a, b, c, e, v, w)) (kt : i ≠ j → wq d tab sc a (L) (st) h Q) (kf : i = j → wq d tab sc n (L) (st) h Q) : wq d tab sc pc (L) (.int (nI j) :: .int (nI i) :: st) h Q := wp_icmp_ne hc (fun q => kt ((not_congr (nI_eq hi hj)).mp q)) (fun q => kf (by have q := fun z => q ((not_congr (nI_eq hi hj)).mpr z); exact Classical.not_not.mp q))
theorem wp_if_lt {x : Int32} {k1 : Int} (hc : pm_lk tab pc = some (.ifCond .lt k1, n, a, b, c, e, v, w)) (kt : x < 0 → wq d tab sc a (L) (st) h Q) (kf : ¬ (x < 0) → wq d tab sc n (L) (st) h Q) : wq d tab sc pc (L) (.int x :: st) h Q := by
  by_cases q : x < 0
  · exact wq_step hc (show some (Sum.inl (if decide (x < 0) = true then a else n, L, st, h)) = _ by rw [if_pos (decide_eq_true q)]) (kt q)
  · exact wq_step hc (show some (Sum.inl (if decide (x < 0) = true then a else n, L, st, h)) = _ by rw [if_neg (fun z => q (of_decide_eq_true z))]) (kf q)
theorem wp_icmp_lt {x y : Int32} {k1 : Int} (hc : pm_lk tab pc = some (.if_icmp .lt k1, n, a, b, c, e, v, w)) (kt : x < y → wq d tab sc a (L) (st) h Q) (kf : ¬ (x < y) → wq d tab sc n (L) (st) h Q) : wq d tab sc pc (L) (.int y :: .int x :: st) h Q := by
  by_cases q : x < y
  · exact wq_step hc (show some (Sum.inl (if decide (x < y) = true then a else n, L, st, h)) = _ by rw [if_pos (decide_eq_true q)]) (kt q)
  · exact wq_step hc (show some (Sum.inl (if decide (x < y) = true then a else n, L, st, h)) = _ by rw [if_neg (fun z => q (of_decide_eq_true z))]) (kf q)
theorem wp_icmp_ltN (i j : Nat) (hi : i < 2 ^ 31) (hj : j < 2 ^ 31) {k1 : Int} (hc : pm_lk tab pc = some (.if_icmp .lt k1, n, a, b, c, e, v, w)) (kt : i < j → wq d tab sc a (L) (st) h Q) (kf : j ≤ i → wq d tab sc n (L) (st) h Q) : wq d tab sc pc (L) (.int (nI j) :: .int (nI i) :: st) h Q := wp_icmp_lt hc (fun q => kt ((nI_ltI hi hj).mp q)) (fun q => kf (by have q := fun z => q ((nI_ltI hi hj).mpr z); exact Nat.not_lt.mp q))
theorem wp_if_ge {x : Int32} {k1 : Int} (hc : pm_lk tab pc = some (.ifCond .ge k1, n, a, b, c, e, v, w)) (kt : 0 ≤ x → wq d tab sc a (L) (st) h Q) (kf : ¬ (0 ≤ x) → wq d tab sc n (L) (st) h Q) : wq d tab sc pc (L) (.int x :: st) h Q := by
  by_cases q : 0 ≤ x
  · exact wq_step hc (show some (Sum.inl (if decide (0 ≤ x) = true then a else n, L, st, h)) = _ by rw [if_pos (decide_eq_true q)]) (kt q)
  · exact wq_step hc (show some (Sum.inl (if decide (0 ≤ x) = true then a else n, L, st, h)) = _ by rw [if_neg (fun z => q (of_decide_eq_true z))]) (kf q)
theorem wp_icmp_ge {x y : Int32} {k1 : Int} (hc : pm_lk tab pc = some (.if_icmp .ge k1, n, a, b, c, e, v, w)) (kt : y ≤ x → wq d tab sc a (L) (st) h Q) (kf : ¬ (y ≤ x) → wq d tab sc n (L) (st) h Q) : wq d tab sc pc (L) (.int y :: .int x :: st) h Q := by
  by_cases q : y ≤ x
  · exact wq_step hc (show some (Sum.inl (if decide (y ≤ x) = true then a else n, L, st, h)) = _ by rw [if_pos (decide_eq_true q)]) (kt q)
  · exact wq_step hc (show some (Sum.inl (if decide (y ≤ x) = true then a else n, L, st, h)) = _ by rw [if_neg (fun z => q (of_decide_eq_true z))]) (kf q)
theorem wp_icmp_geN (i j : Nat) (hi : i < 2 ^ 31) (hj : j < 2 ^ 31) {k1 : Int} (hc : pm_lk tab pc = some (.if_icmp .ge k1, n, a, b, c, e, v, w)) (kt : j ≤ i → wq d tab sc a (L) (st) h Q) (kf : i < j → wq d tab sc n (L) (st) h Q) : wq d tab sc pc (L) (.int (nI j) :: .int (nI i) :: st) h Q := wp_icmp_ge hc (fun q => kt ((nI_leI hj hi).mp q)) (fun q => kf (by have q := fun z => q ((nI_leI hj hi).mpr z); exact Nat.not_le.mp q))
theorem wp_if_gt {x : Int32} {k1 : Int} (hc : pm_lk tab pc = some (.ifCond .gt k1, n, a, b, c, e, v, w)) (kt : 0 < x → wq d tab sc a (L) (st) h Q) (kf : ¬ (0 < x) → wq d tab sc n (L) (st) h Q) : wq d tab sc pc (L) (.int x :: st) h Q := by
  by_cases q : 0 < x
  · exact wq_step hc (show some (Sum.inl (if decide (0 < x) = true then a else n, L, st, h)) = _ by rw [if_pos (decide_eq_true q)]) (kt q)
  · exact wq_step hc (show some (Sum.inl (if decide (0 < x) = true then a else n, L, st, h)) = _ by rw [if_neg (fun z => q (of_decide_eq_true z))]) (kf q)
theorem wp_icmp_gt {x y : Int32} {k1 : Int} (hc : pm_lk tab pc = some (.if_icmp .gt k1, n, a, b, c, e, v, w)) (kt : y < x → wq d tab sc a (L) (st) h Q) (kf : ¬ (y < x) → wq d tab sc n (L) (st) h Q) : wq d tab sc pc (L) (.int y :: .int x :: st) h Q := by
  by_cases q : y < x
  · exact wq_step hc (show some (Sum.inl (if decide (y < x) = true then a else n, L, st, h)) = _ by rw [if_pos (decide_eq_true q)]) (kt q)
  · exact wq_step hc (show some (Sum.inl (if decide (y < x) = true then a else n, L, st, h)) = _ by rw [if_neg (fun z => q (of_decide_eq_true z))]) (kf q)
theorem wp_icmp_gtN (i j : Nat) (hi : i < 2 ^ 31) (hj : j < 2 ^ 31) {k1 : Int} (hc : pm_lk tab pc = some (.if_icmp .gt k1, n, a, b, c, e, v, w)) (kt : j < i → wq d tab sc a (L) (st) h Q) (kf : i ≤ j → wq d tab sc n (L) (st) h Q) : wq d tab sc pc (L) (.int (nI j) :: .int (nI i) :: st) h Q := wp_icmp_gt hc (fun q => kt ((nI_ltI hj hi).mp q)) (fun q => kf (by have q := fun z => q ((nI_ltI hj hi).mpr z); exact Nat.not_lt.mp q))
theorem wp_if_le {x : Int32} {k1 : Int} (hc : pm_lk tab pc = some (.ifCond .le k1, n, a, b, c, e, v, w)) (kt : x ≤ 0 → wq d tab sc a (L) (st) h Q) (kf : ¬ (x ≤ 0) → wq d tab sc n (L) (st) h Q) : wq d tab sc pc (L) (.int x :: st) h Q := by
  by_cases q : x ≤ 0
  · exact wq_step hc (show some (Sum.inl (if decide (x ≤ 0) = true then a else n, L, st, h)) = _ by rw [if_pos (decide_eq_true q)]) (kt q)
  · exact wq_step hc (show some (Sum.inl (if decide (x ≤ 0) = true then a else n, L, st, h)) = _ by rw [if_neg (fun z => q (of_decide_eq_true z))]) (kf q)
theorem wp_icmp_le {x y : Int32} {k1 : Int} (hc : pm_lk tab pc = some (.if_icmp .le k1, n, a, b, c, e, v, w)) (kt : x ≤ y → wq d tab sc a (L) (st) h Q) (kf : ¬ (x ≤ y) → wq d tab sc n (L) (st) h Q) : wq d tab sc pc (L) (.int y :: .int x :: st) h Q := by
  by_cases q : x ≤ y
  · exact wq_step hc (show some (Sum.inl (if decide (x ≤ y) = true then a else n, L, st, h)) = _ by rw [if_pos (decide_eq_true q)]) (kt q)
  · exact wq_step hc (show some (Sum.inl (if decide (x ≤ y) = true then a else n, L, st, h)) = _ by rw [if_neg (fun z => q (of_decide_eq_true z))]) (kf q)
theorem wp_icmp_leN (i j : Nat) (hi : i < 2 ^ 31) (hj : j < 2 ^ 31) {k1 : Int} (hc : pm_lk tab pc = some (.if_icmp .le k1, n, a, b, c, e, v, w)) (kt : i ≤ j → wq d tab sc a (L) (st) h Q) (kf : j < i → wq d tab sc n (L) (st) h Q) : wq d tab sc pc (L) (.int (nI j) :: .int (nI i) :: st) h Q := wp_icmp_le hc (fun q => kt ((nI_leI hi hj).mp q)) (fun q => kf (by have q := fun z => q ((nI_leI hi hj).mpr z); exact Nat.not_le.mp q))
theorem wp_sw_in {x : Int32} {df lo hi off : Int} {offs : Array Int} (t : Nat) (h1 : ¬ (x.toInt < lo ∨ hi < x.toInt)) (ho : offs[(x.toInt - lo).toNat]? = some off) (ht : (pc : Int) + off = (t : Int)) (hc : pm_lk tab pc = some (.tableswitch df lo hi offs, n, a, b, c, e, v, w)) (kk : wq d tab sc t (L) (st) h Q) : wq d tab sc pc (L) (.int x :: st) h Q := by
  refine wq_step hc (show (if x.toInt < lo ∨ hi < x.toInt then _ else (match offs[(x.toInt - lo).toNat]? with | some off => if 0 ≤ (pc : Int) + off then some (Sum.inl (((pc : Int) + off).toNat, L, st, h)) else none | none => none)) = some (Sum.inl (t, L, st, h)) from ?_) kk
  rw [if_neg h1, ho]
  dsimp only
  rw [ht, if_pos (by omega)]
  rfl
theorem wp_sw_out {x : Int32} {df lo hi : Int} {offs : Array Int} (h1 : x.toInt < lo ∨ hi < x.toInt) (hc : pm_lk tab pc = some (.tableswitch df lo hi offs, n, a, b, c, e, v, w)) (kk : wq d tab sc a (L) (st) h Q) : wq d tab sc pc (L) (.int x :: st) h Q := wq_step hc (show (if x.toInt < lo ∨ hi < x.toInt then some (Sum.inl (a, L, st, h)) else _) = _ by rw [if_pos h1]) kk
theorem wp_getI {k1 x : Nat} (hc : pm_lk tab pc = some (.getfield k1, n, a, b, 0, e, v, w)) (hk : hp_kd h x = a + 10) (kk : wq d tab sc n (L) (.int (hp_I h x b) :: st) h Q) : wq d tab sc pc (L) (.ref x :: st) h Q := wq_step hc (show (if hp_kd h x = a + 10 then _ else none) = _ by rw [if_pos hk]) kk
theorem wp_getZ {k1 x : Nat} (hc : pm_lk tab pc = some (.getfield k1, n, a, b, 1, e, v, w)) (hk : hp_kd h x = a + 10) (kk : wq d tab sc n (L) (.int (hp_I h x b) :: st) h Q) : wq d tab sc pc (L) (.ref x :: st) h Q := wq_step hc (show (if hp_kd h x = a + 10 then _ else none) = _ by rw [if_pos hk]) kk
theorem wp_getJ {k1 x : Nat} (hc : pm_lk tab pc = some (.getfield k1, n, a, b, 2, e, v, w)) (hk : hp_kd h x = a + 10) (kk : wq d tab sc n (L) (.long (hp_J h x b) :: st) h Q) : wq d tab sc pc (L) (.ref x :: st) h Q := wq_step hc (show (if hp_kd h x = a + 10 then _ else none) = _ by rw [if_pos hk]) kk
theorem wp_getR {k1 x q : Nat} (hc : pm_lk tab pc = some (.getfield k1, n, a, b, 3, e, v, w)) (hk : hp_kd h x = a + 10) (hq : hp_R h x b = q) (h0 : q ≠ 0) (kk : wq d tab sc n (L) (.ref q :: st) h Q) : wq d tab sc pc (L) (.ref x :: st) h Q := wq_step hc (show (if hp_kd h x = a + 10 then (if hp_R h x b = 0 then none else some (Sum.inl (n, L, Value.ref (hp_R h x b) :: st, h))) else none) = _ by rw [if_pos hk, hq, if_neg h0]) kk
theorem wp_putI {k1 x : Nat} {z : Int32} (hc : pm_lk tab pc = some (.putfield k1, n, a, b, 0, e, v, w)) (hk : hp_kd h x = a + 10) (kk : wq d tab sc n (L) (st) (hp_rI h x (va_up (hp_I h x) b z)) Q) : wq d tab sc pc (L) (.int z :: .ref x :: st) h Q := wq_step hc (show (if hp_kd h x = a + 10 then _ else none) = _ by rw [if_pos hk]) kk
theorem wp_putZ {k1 x : Nat} {z : Int32} (hc : pm_lk tab pc = some (.putfield k1, n, a, b, 1, e, v, w)) (hk : hp_kd h x = a + 10) (hz : z = 0 ∨ z = 1) (kk : wq d tab sc n (L) (st) (hp_rI h x (va_up (hp_I h x) b z)) Q) : wq d tab sc pc (L) (.int z :: .ref x :: st) h Q := wq_step hc (show (if hp_kd h x = a + 10 then (if z = 0 ∨ z = 1 then _ else none) else none) = _ by rw [if_pos hk, if_pos hz]) kk
theorem wp_putJ {k1 x : Nat} {z : Int64} (hc : pm_lk tab pc = some (.putfield k1, n, a, b, 2, e, v, w)) (hk : hp_kd h x = a + 10) (kk : wq d tab sc n (L) (st) (hp_rJ h x (va_up (hp_J h x) b z)) Q) : wq d tab sc pc (L) (.long z :: .ref x :: st) h Q := wq_step hc (show (if hp_kd h x = a + 10 ∧ 2 = 2 then _ else none) = _ by rw [if_pos ⟨hk, rfl⟩]) kk
theorem wp_putR {k1 x z : Nat} (hc : pm_lk tab pc = some (.putfield k1, n, a, b, 3, e, v, w)) (hk : hp_kd h x = a + 10) (hz : z ≠ 0) (kk : wq d tab sc n (L) (st) (hp_rR h x (va_up (hp_R h x) b z)) Q) : wq d tab sc pc (L) (.ref z :: .ref x :: st) h Q := wq_step hc (show (if hp_kd h x = a + 10 ∧ 3 = 3 ∧ z ≠ 0 then _ else none) = _ by rw [if_pos ⟨hk, rfl, hz⟩]) kk
theorem wp_new {k1 : Nat} (hc : pm_lk tab pc = some (.new k1, n, a, b, c, e, v, w)) (kk : wq d tab sc n (L) (.ref (hp_nx h + 1) :: st) (hp_al h (a + 10) 0 b) Q) : wq d tab sc pc (L) (st) h Q := wq_step hc rfl kk
theorem wp_newa {t : ArrayType} (j : Nat) (hj : j ≤ 1000000) (hc : pm_lk tab pc = some (.newarray t, n, a, b, c, e, v, w)) (kk : wq d tab sc n (L) (.ref (hp_nx h + 1) :: st) (hp_al h a j j) Q) : wq d tab sc pc (L) (.int (nI j) :: st) h Q := by
  have e1 : (nI j).toNatClampNeg = j := nI_clamp (by omega)
  have e2 : ¬ nI j < 0 := nI_pos (by omega)
  refine wq_step hc (show (if ¬ nI j < 0 ∧ (nI j).toNatClampNeg ≤ 1000000 then some (Sum.inl (n, L, Value.ref (hp_nx h + 1) :: st, hp_al h a (nI j).toNatClampNeg (nI j).toNatClampNeg)) else none) = some (Sum.inl (n, L, Value.ref (hp_nx h + 1) :: st, hp_al h a j j)) from ?_) kk
  rw [if_pos ⟨e2, by omega⟩, e1]
theorem wp_alen {x : Nat} (hc : pm_lk tab pc = some (.arraylength, n, a, b, c, e, v, w)) (h0 : x ≠ 0) (hk : hp_kd h x = 1 ∨ hp_kd h x = 2 ∨ hp_kd h x = 3) (kk : wq d tab sc n (L) (.int (nI (hp_ln h x)) :: st) h Q) : wq d tab sc pc (L) (.ref x :: st) h Q := wq_step hc (show (if x = 0 then _ else if hp_kd h x = 1 ∨ hp_kd h x = 2 ∨ hp_kd h x = 3 then _ else none) = _ by rw [if_neg h0, if_pos hk]) kk
theorem wp_alenS {z : Nat} {f : Nat → Int32} (hsc : sc = some (z, f)) (hc : pm_lk tab pc = some (.arraylength, n, a, b, c, e, v, w)) (kk : wq d tab sc n (L) (.int (nI z) :: st) h Q) : wq d tab sc pc (L) (.ref 0 :: st) h Q := by subst hsc; exact wq_step hc rfl kk
theorem wp_ialdS {z : Nat} {f : Nat → Int32} (hsc : sc = some (z, f)) (j : Nat) {i : Int32} (hi : i = nI j) (hj : j < z) (hz : z < 2 ^ 31) (hc : pm_lk tab pc = some (.iaload, n, a, b, c, e, v, w)) (kk : wq d tab sc n (L) (.int (f j) :: st) h Q) : wq d tab sc pc (L) (.int i :: .ref 0 :: st) h Q := by
  subst hsc
  subst hi
  have e1 : (nI j).toNatClampNeg = j := nI_clamp (by omega)
  have e2 : ¬ nI j < 0 := nI_pos (by omega)
  refine wq_step hc (show (if nI j < 0 ∨ z ≤ (nI j).toNatClampNeg then none else some (Sum.inl (n, L, Value.int (f (nI j).toNatClampNeg) :: st, h))) = some (Sum.inl (n, L, Value.int (f j) :: st, h)) from ?_) kk
  rw [e1, if_neg (by rintro (q | q); exact e2 q; omega)]
theorem wp_iald {x : Nat} (j : Nat) {i : Int32} (hi : i = nI j) (hk : hp_kd h x = 1) (h0 : x ≠ 0) (hj : j < hp_ln h x) (hz : j < 2 ^ 31) (hc : pm_lk tab pc = some (.iaload, n, a, b, c, e, v, w)) (kk : wq d tab sc n (L) (.int (hp_I h x j) :: st) h Q) : wq d tab sc pc (L) (.int i :: .ref x :: st) h Q := by
  subst hi
  have e1 : (nI j).toNatClampNeg = j := nI_clamp hz
  have e2 : ¬ nI j < 0 := nI_pos hz
  refine wq_step hc (show (if x = 0 then (match sc with | some (z, f) => if nI j < 0 ∨ z ≤ (nI j).toNatClampNeg then none else some (Sum.inl (n, L, Value.int (f (nI j).toNatClampNeg) :: st, h)) | none => none) else (if hp_kd h x = 1 then (if nI j < 0 ∨ hp_ln h x ≤ (nI j).toNatClampNeg then none else some (Sum.inl (n, L, Value.int (hp_I h x (nI j).toNatClampNeg) :: st, h))) else none)) = some (Sum.inl (n, L, Value.int (hp_I h x j) :: st, h)) from ?_) kk
  rw [if_neg h0, if_pos hk, e1, if_neg (by rintro (q | q); exact e2 q; omega)]
theorem wp_zald {x : Nat} (j : Nat) {i : Int32} (hi : i = nI j) (hk : hp_kd h x = 3) (hj : j < hp_ln h x) (hz : j < 2 ^ 31) (hc : pm_lk tab pc = some (.baload, n, a, b, c, e, v, w)) (kk : wq d tab sc n (L) (.int (hp_I h x j) :: st) h Q) : wq d tab sc pc (L) (.int i :: .ref x :: st) h Q := by
  subst hi
  have e1 : (nI j).toNatClampNeg = j := nI_clamp hz
  have e2 : ¬ nI j < 0 := nI_pos hz
  refine wq_step hc (show (if hp_kd h x = 3 then (if nI j < 0 ∨ hp_ln h x ≤ (nI j).toNatClampNeg then none else some (Sum.inl (n, L, Value.int (hp_I h x (nI j).toNatClampNeg) :: st, h))) else none) = some (Sum.inl (n, L, Value.int (hp_I h x j) :: st, h)) from ?_) kk
  rw [if_pos hk, e1, if_neg (by rintro (q | q); exact e2 q; omega)]
theorem wp_lald {x : Nat} (j : Nat) {i : Int32} (hi : i = nI j) (hk : hp_kd h x = 2) (hj : j < hp_ln h x) (hz : j < 2 ^ 31) (hc : pm_lk tab pc = some (.laload, n, a, b, c, e, v, w)) (kk : wq d tab sc n (L) (.long (hp_J h x j) :: st) h Q) : wq d tab sc pc (L) (.int i :: .ref x :: st) h Q := by
  subst hi
  have e1 : (nI j).toNatClampNeg = j := nI_clamp hz
  have e2 : ¬ nI j < 0 := nI_pos hz
  refine wq_step hc (show (if hp_kd h x = 2 then (if nI j < 0 ∨ hp_ln h x ≤ (nI j).toNatClampNeg then none else some (Sum.inl (n, L, Value.long (hp_J h x (nI j).toNatClampNeg) :: st, h))) else none) = some (Sum.inl (n, L, Value.long (hp_J h x j) :: st, h)) from ?_) kk
  rw [if_pos hk, e1, if_neg (by rintro (q | q); exact e2 q; omega)]
theorem wp_iast {x : Nat} {z : Int32} (j : Nat) {i : Int32} (hi : i = nI j) (hk : hp_kd h x = 1) (hj : j < hp_ln h x) (hz : j < 2 ^ 31) (hc : pm_lk tab pc = some (.iastore, n, a, b, c, e, v, w)) (kk : wq d tab sc n (L) (st) (hp_rI h x (va_up (hp_I h x) j z)) Q) : wq d tab sc pc (L) (.int z :: .int i :: .ref x :: st) h Q := by
  subst hi
  have e1 : (nI j).toNatClampNeg = j := nI_clamp hz
  have e2 : ¬ nI j < 0 := nI_pos hz
  refine wq_step hc (show (if hp_kd h x = 1 then (if nI j < 0 ∨ hp_ln h x ≤ (nI j).toNatClampNeg then none else some (Sum.inl (n, L, st, hp_rI h x (va_up (hp_I h x) (nI j).toNatClampNeg z)))) else none) = some (Sum.inl (n, L, st, hp_rI h x (va_up (hp_I h x) j z))) from ?_) kk
  rw [if_pos hk, e1, if_neg (by rintro (q | q); exact e2 q; omega)]
theorem wp_zast {x : Nat} {z : Int32} (j : Nat) {i : Int32} (hi : i = nI j) (hk : hp_kd h x = 3) (hb : z = 0 ∨ z = 1) (hj : j < hp_ln h x) (hz : j < 2 ^ 31) (hc : pm_lk tab pc = some (.bastore, n, a, b, c, e, v, w)) (kk : wq d tab sc n (L) (st) (hp_rI h x (va_up (hp_I h x) j z)) Q) : wq d tab sc pc (L) (.int z :: .int i :: .ref x :: st) h Q := by
  subst hi
  have e1 : (nI j).toNatClampNeg = j := nI_clamp hz
  have e2 : ¬ nI j < 0 := nI_pos hz
  refine wq_step hc (show (if (hp_kd h x = 3 ∧ (z = 0 ∨ z = 1)) then (if nI j < 0 ∨ hp_ln h x ≤ (nI j).toNatClampNeg then none else some (Sum.inl (n, L, st, hp_rI h x (va_up (hp_I h x) (nI j).toNatClampNeg z)))) else none) = some (Sum.inl (n, L, st, hp_rI h x (va_up (hp_I h x) j z))) from ?_) kk
  rw [if_pos ⟨hk, hb⟩, e1, if_neg (by rintro (q | q); exact e2 q; omega)]
theorem wp_last {x : Nat} {z : Int64} (j : Nat) {i : Int32} (hi : i = nI j) (hk : hp_kd h x = 2) (hj : j < hp_ln h x) (hz : j < 2 ^ 31) (hc : pm_lk tab pc = some (.lastore, n, a, b, c, e, v, w)) (kk : wq d tab sc n (L) (st) (hp_rJ h x (va_up (hp_J h x) j z)) Q) : wq d tab sc pc (L) (.long z :: .int i :: .ref x :: st) h Q := by
  subst hi
  have e1 : (nI j).toNatClampNeg = j := nI_clamp hz
  have e2 : ¬ nI j < 0 := nI_pos hz
  refine wq_step hc (show (if hp_kd h x = 2 then (if nI j < 0 ∨ hp_ln h x ≤ (nI j).toNatClampNeg then none else some (Sum.inl (n, L, st, hp_rJ h x (va_up (hp_J h x) (nI j).toNatClampNeg z)))) else none) = some (Sum.inl (n, L, st, hp_rJ h x (va_up (hp_J h x) j z))) from ?_) kk
  rw [if_pos hk, e1, if_neg (by rintro (q | q); exact e2 q; omega)]
theorem wp_iret {x : Int32} (hc : pm_lk tab pc = some (.ireturn, n, 0, b, c, e, v, w)) (kk : Q (some (.int x)) h) : wq d tab sc pc (L) ([.int x]) h Q := wq_ret hc rfl kk
theorem wp_zret {x : Int32} (hc : pm_lk tab pc = some (.ireturn, n, 1, b, c, e, v, w)) (hx : x = 0 ∨ x = 1) (kk : Q (some (.int x)) h) : wq d tab sc pc (L) ([.int x]) h Q := wq_ret hc (show (if x = 0 ∨ x = 1 then some (Sum.inr (Sum.inl (some (Value.int x), h))) else none) = some (Sum.inr (Sum.inl (some (Value.int x), h))) by rw [if_pos hx]) kk
theorem wp_lret {x : Int64} (hc : pm_lk tab pc = some (.lreturn, n, a, b, c, e, v, w)) (kk : Q (some (.long x)) h) : wq d tab sc pc (L) ([.long x]) h Q := wq_ret hc rfl kk
theorem wp_aret {x : Nat} (hc : pm_lk tab pc = some (.areturn, n, a, b, c, e, v, w)) (kk : Q (some (.ref x)) h) : wq d tab sc pc (L) ([.ref x]) h Q := wq_ret hc rfl kk
theorem wp_vret (hc : pm_lk tab pc = some (.return_, n, a, b, c, e, v, w)) (kk : Q none h) : wq d tab sc pc (L) ([]) h Q := wq_ret hc rfl kk
theorem wp_callS0I {P : Int32 → Hp_ → Prop} (hc : pm_lk tab pc = some (.invokestatic k, n, y, 0, c, e, v, w)) (hl : st.length ≤ 4) {f : Nat} (hq : cI f y [] h P) (hd : f ≤ d) (kk : ∀ (x : Int32) (h' : Hp_), P x h' → wq d tab sc n (L) (.int x :: st) h' Q) : wq d tab sc pc (L) (st) h Q := by
  refine wq_call (as := []) (n := n) (st' := st) hc ?_ hd hq (fun r h' => by rintro ⟨x, rfl, p⟩; exact kk x h' p)
  show (if 0 ≤ (st).length ∧ ((st).drop 0).length ≤ 4 then _ else none) = _
  rw [if_pos ⟨by simp, hl⟩]
  rfl
theorem wp_callV0I {u : Nat} {P : Int32 → Hp_ → Prop} (hc : pm_lk tab pc = some (.invokevirtual k, n, y, 0, c, e, v, w)) (hl : st.length ≤ 3) (hk : hp_kd h u = c + 10) {f : Nat} (hq : cI f y [.ref u] h P) (hd : f ≤ d) (kk : ∀ (x : Int32) (h' : Hp_), P x h' → wq d tab sc n (L) (.int x :: st) h' Q) : wq d tab sc pc (L) (.ref u :: st) h Q := by
  refine wq_call (as := [.ref u]) (n := n) (st' := st) hc ?_ hd hq (fun r h' => by rintro ⟨x, rfl, p⟩; exact kk x h' p)
  show (if 0 < (Value.ref u :: st).length then (if hp_kd h u = c + 10 ∧ ((Value.ref u :: st).drop (0 + 1)).length ≤ 3 then _ else none) else none) = _
  rw [if_pos (by simp), if_pos ⟨hk, hl⟩]
  rfl
theorem wp_callS0J {P : Int64 → Hp_ → Prop} (hc : pm_lk tab pc = some (.invokestatic k, n, y, 0, c, e, v, w)) (hl : st.length ≤ 4) {f : Nat} (hq : cJ f y [] h P) (hd : f ≤ d) (kk : ∀ (x : Int64) (h' : Hp_), P x h' → wq d tab sc n (L) (.long x :: st) h' Q) : wq d tab sc pc (L) (st) h Q := by
  refine wq_call (as := []) (n := n) (st' := st) hc ?_ hd hq (fun r h' => by rintro ⟨x, rfl, p⟩; exact kk x h' p)
  show (if 0 ≤ (st).length ∧ ((st).drop 0).length ≤ 4 then _ else none) = _
  rw [if_pos ⟨by simp, hl⟩]
  rfl
theorem wp_callV0J {u : Nat} {P : Int64 → Hp_ → Prop} (hc : pm_lk tab pc = some (.invokevirtual k, n, y, 0, c, e, v, w)) (hl : st.length ≤ 3) (hk : hp_kd h u = c + 10) {f : Nat} (hq : cJ f y [.ref u] h P) (hd : f ≤ d) (kk : ∀ (x : Int64) (h' : Hp_), P x h' → wq d tab sc n (L) (.long x :: st) h' Q) : wq d tab sc pc (L) (.ref u :: st) h Q := by
  refine wq_call (as := [.ref u]) (n := n) (st' := st) hc ?_ hd hq (fun r h' => by rintro ⟨x, rfl, p⟩; exact kk x h' p)
  show (if 0 < (Value.ref u :: st).length then (if hp_kd h u = c + 10 ∧ ((Value.ref u :: st).drop (0 + 1)).length ≤ 3 then _ else none) else none) = _
  rw [if_pos (by simp), if_pos ⟨hk, hl⟩]
  rfl
theorem wp_callS0A {P : Nat → Hp_ → Prop} (hc : pm_lk tab pc = some (.invokestatic k, n, y, 0, c, e, v, w)) (hl : st.length ≤ 4) {f : Nat} (hq : cA f y [] h P) (hd : f ≤ d) (kk : ∀ (x : Nat) (h' : Hp_), P x h' → wq d tab sc n (L) (.ref x :: st) h' Q) : wq d tab sc pc (L) (st) h Q := by
  refine wq_call (as := []) (n := n) (st' := st) hc ?_ hd hq (fun r h' => by rintro ⟨x, rfl, p⟩; exact kk x h' p)
  show (if 0 ≤ (st).length ∧ ((st).drop 0).length ≤ 4 then _ else none) = _
  rw [if_pos ⟨by simp, hl⟩]
  rfl
theorem wp_callV0A {u : Nat} {P : Nat → Hp_ → Prop} (hc : pm_lk tab pc = some (.invokevirtual k, n, y, 0, c, e, v, w)) (hl : st.length ≤ 3) (hk : hp_kd h u = c + 10) {f : Nat} (hq : cA f y [.ref u] h P) (hd : f ≤ d) (kk : ∀ (x : Nat) (h' : Hp_), P x h' → wq d tab sc n (L) (.ref x :: st) h' Q) : wq d tab sc pc (L) (.ref u :: st) h Q := by
  refine wq_call (as := [.ref u]) (n := n) (st' := st) hc ?_ hd hq (fun r h' => by rintro ⟨x, rfl, p⟩; exact kk x h' p)
  show (if 0 < (Value.ref u :: st).length then (if hp_kd h u = c + 10 ∧ ((Value.ref u :: st).drop (0 + 1)).length ≤ 3 then _ else none) else none) = _
  rw [if_pos (by simp), if_pos ⟨hk, hl⟩]
  rfl
theorem wp_callS0V {P : Hp_ → Prop} (hc : pm_lk tab pc = some (.invokestatic k, n, y, 0, c, e, v, w)) (hl : st.length ≤ 4) {f : Nat} (hq : cV f y [] h P) (hd : f ≤ d) (kk : ∀ (h' : Hp_), P h' → wq d tab sc n (L) (st) h' Q) : wq d tab sc pc (L) (st) h Q := by
  refine wq_call (as := []) (n := n) (st' := st) hc ?_ hd hq (fun r h' => by rintro ⟨rfl, p⟩; exact kk h' p)
  show (if 0 ≤ (st).length ∧ ((st).drop 0).length ≤ 4 then _ else none) = _
  rw [if_pos ⟨by simp, hl⟩]
  rfl
theorem wp_callV0V {u : Nat} {P : Hp_ → Prop} (hc : pm_lk tab pc = some (.invokevirtual k, n, y, 0, c, e, v, w)) (hl : st.length ≤ 3) (hk : hp_kd h u = c + 10) {f : Nat} (hq : cV f y [.ref u] h P) (hd : f ≤ d) (kk : ∀ (h' : Hp_), P h' → wq d tab sc n (L) (st) h' Q) : wq d tab sc pc (L) (.ref u :: st) h Q := by
  refine wq_call (as := [.ref u]) (n := n) (st' := st) hc ?_ hd hq (fun r h' => by rintro ⟨rfl, p⟩; exact kk h' p)
  show (if 0 < (Value.ref u :: st).length then (if hp_kd h u = c + 10 ∧ ((Value.ref u :: st).drop (0 + 1)).length ≤ 3 then _ else none) else none) = _
  rw [if_pos (by simp), if_pos ⟨hk, hl⟩]
  rfl
theorem wp_callI0V {u : Nat} {P : Hp_ → Prop} (hc : pm_lk tab pc = some (.invokespecial k, n, y, 0, c, e, v, w)) (he : e ≠ 2) (hl : st.length ≤ 3) (hk : hp_kd h u = c + 10) {f : Nat} (hq : cV f y [.ref u] h P) (hd : f ≤ d) (kk : ∀ (h' : Hp_), P h' → wq d tab sc n (L) (st) h' Q) : wq d tab sc pc (L) (.ref u :: st) h Q := by
  refine wq_call (as := [.ref u]) (n := n) (st' := st) hc ?_ hd hq (fun r h' => by rintro ⟨rfl, p⟩; exact kk h' p)
  show (if e = 2 then _ else pm_callV y 0 c n L (.ref u :: st) h) = _
  rw [if_neg he]
  show (if 0 < (Value.ref u :: st).length then (if hp_kd h u = c + 10 ∧ ((Value.ref u :: st).drop (0 + 1)).length ≤ 3 then _ else none) else none) = _
  rw [if_pos (by simp), if_pos ⟨hk, hl⟩]
  rfl
theorem wp_callS1I {u0 : Value} {P : Int32 → Hp_ → Prop} (hc : pm_lk tab pc = some (.invokestatic k, n, y, 1, c, e, v, w)) (hl : st.length ≤ 4) {f : Nat} (hq : cI f y [u0] h P) (hd : f ≤ d) (kk : ∀ (x : Int32) (h' : Hp_), P x h' → wq d tab sc n (L) (.int x :: st) h' Q) : wq d tab sc pc (L) (u0 :: st) h Q := by
  refine wq_call (as := [u0]) (n := n) (st' := st) hc ?_ hd hq (fun r h' => by rintro ⟨x, rfl, p⟩; exact kk x h' p)
  show (if 1 ≤ (u0 :: st).length ∧ ((u0 :: st).drop 1).length ≤ 4 then _ else none) = _
  rw [if_pos ⟨by simp, hl⟩]
  rfl
theorem wp_callV1I {u : Nat} {u0 : Value} {P : Int32 → Hp_ → Prop} (hc : pm_lk tab pc = some (.invokevirtual k, n, y, 1, c, e, v, w)) (hl : st.length ≤ 3) (hk : hp_kd h u = c + 10) {f : Nat} (hq : cI f y [.ref u, u0] h P) (hd : f ≤ d) (kk : ∀ (x : Int32) (h' : Hp_), P x h' → wq d tab sc n (L) (.int x :: st) h' Q) : wq d tab sc pc (L) (u0 :: .ref u :: st) h Q := by
  refine wq_call (as := [.ref u, u0]) (n := n) (st' := st) hc ?_ hd hq (fun r h' => by rintro ⟨x, rfl, p⟩; exact kk x h' p)
  show (if 1 < (u0 :: Value.ref u :: st).length then (if hp_kd h u = c + 10 ∧ ((u0 :: Value.ref u :: st).drop (1 + 1)).length ≤ 3 then _ else none) else none) = _
  rw [if_pos (by simp), if_pos ⟨hk, hl⟩]
  rfl
theorem wp_callS1J {u0 : Value} {P : Int64 → Hp_ → Prop} (hc : pm_lk tab pc = some (.invokestatic k, n, y, 1, c, e, v, w)) (hl : st.length ≤ 4) {f : Nat} (hq : cJ f y [u0] h P) (hd : f ≤ d) (kk : ∀ (x : Int64) (h' : Hp_), P x h' → wq d tab sc n (L) (.long x :: st) h' Q) : wq d tab sc pc (L) (u0 :: st) h Q := by
  refine wq_call (as := [u0]) (n := n) (st' := st) hc ?_ hd hq (fun r h' => by rintro ⟨x, rfl, p⟩; exact kk x h' p)
  show (if 1 ≤ (u0 :: st).length ∧ ((u0 :: st).drop 1).length ≤ 4 then _ else none) = _
  rw [if_pos ⟨by simp, hl⟩]
  rfl
theorem wp_callV1J {u : Nat} {u0 : Value} {P : Int64 → Hp_ → Prop} (hc : pm_lk tab pc = some (.invokevirtual k, n, y, 1, c, e, v, w)) (hl : st.length ≤ 3) (hk : hp_kd h u = c + 10) {f : Nat} (hq : cJ f y [.ref u, u0] h P) (hd : f ≤ d) (kk : ∀ (x : Int64) (h' : Hp_), P x h' → wq d tab sc n (L) (.long x :: st) h' Q) : wq d tab sc pc (L) (u0 :: .ref u :: st) h Q := by
  refine wq_call (as := [.ref u, u0]) (n := n) (st' := st) hc ?_ hd hq (fun r h' => by rintro ⟨x, rfl, p⟩; exact kk x h' p)
  show (if 1 < (u0 :: Value.ref u :: st).length then (if hp_kd h u = c + 10 ∧ ((u0 :: Value.ref u :: st).drop (1 + 1)).length ≤ 3 then _ else none) else none) = _
  rw [if_pos (by simp), if_pos ⟨hk, hl⟩]
  rfl
theorem wp_callS1A {u0 : Value} {P : Nat → Hp_ → Prop} (hc : pm_lk tab pc = some (.invokestatic k, n, y, 1, c, e, v, w)) (hl : st.length ≤ 4) {f : Nat} (hq : cA f y [u0] h P) (hd : f ≤ d) (kk : ∀ (x : Nat) (h' : Hp_), P x h' → wq d tab sc n (L) (.ref x :: st) h' Q) : wq d tab sc pc (L) (u0 :: st) h Q := by
  refine wq_call (as := [u0]) (n := n) (st' := st) hc ?_ hd hq (fun r h' => by rintro ⟨x, rfl, p⟩; exact kk x h' p)
  show (if 1 ≤ (u0 :: st).length ∧ ((u0 :: st).drop 1).length ≤ 4 then _ else none) = _
  rw [if_pos ⟨by simp, hl⟩]
  rfl
theorem wp_callV1A {u : Nat} {u0 : Value} {P : Nat → Hp_ → Prop} (hc : pm_lk tab pc = some (.invokevirtual k, n, y, 1, c, e, v, w)) (hl : st.length ≤ 3) (hk : hp_kd h u = c + 10) {f : Nat} (hq : cA f y [.ref u, u0] h P) (hd : f ≤ d) (kk : ∀ (x : Nat) (h' : Hp_), P x h' → wq d tab sc n (L) (.ref x :: st) h' Q) : wq d tab sc pc (L) (u0 :: .ref u :: st) h Q := by
  refine wq_call (as := [.ref u, u0]) (n := n) (st' := st) hc ?_ hd hq (fun r h' => by rintro ⟨x, rfl, p⟩; exact kk x h' p)
  show (if 1 < (u0 :: Value.ref u :: st).length then (if hp_kd h u = c + 10 ∧ ((u0 :: Value.ref u :: st).drop (1 + 1)).length ≤ 3 then _ else none) else none) = _
  rw [if_pos (by simp), if_pos ⟨hk, hl⟩]
  rfl
theorem wp_callS1V {u0 : Value} {P : Hp_ → Prop} (hc : pm_lk tab pc = some (.invokestatic k, n, y, 1, c, e, v, w)) (hl : st.length ≤ 4) {f : Nat} (hq : cV f y [u0] h P) (hd : f ≤ d) (kk : ∀ (h' : Hp_), P h' → wq d tab sc n (L) (st) h' Q) : wq d tab sc pc (L) (u0 :: st) h Q := by
  refine wq_call (as := [u0]) (n := n) (st' := st) hc ?_ hd hq (fun r h' => by rintro ⟨rfl, p⟩; exact kk h' p)
  show (if 1 ≤ (u0 :: st).length ∧ ((u0 :: st).drop 1).length ≤ 4 then _ else none) = _
  rw [if_pos ⟨by simp, hl⟩]
  rfl
theorem wp_callV1V {u : Nat} {u0 : Value} {P : Hp_ → Prop} (hc : pm_lk tab pc = some (.invokevirtual k, n, y, 1, c, e, v, w)) (hl : st.length ≤ 3) (hk : hp_kd h u = c + 10) {f : Nat} (hq : cV f y [.ref u, u0] h P) (hd : f ≤ d) (kk : ∀ (h' : Hp_), P h' → wq d tab sc n (L) (st) h' Q) : wq d tab sc pc (L) (u0 :: .ref u :: st) h Q := by
  refine wq_call (as := [.ref u, u0]) (n := n) (st' := st) hc ?_ hd hq (fun r h' => by rintro ⟨rfl, p⟩; exact kk h' p)
  show (if 1 < (u0 :: Value.ref u :: st).length then (if hp_kd h u = c + 10 ∧ ((u0 :: Value.ref u :: st).drop (1 + 1)).length ≤ 3 then _ else none) else none) = _
  rw [if_pos (by simp), if_pos ⟨hk, hl⟩]
  rfl
theorem wp_callI1V {u : Nat} {u0 : Value} {P : Hp_ → Prop} (hc : pm_lk tab pc = some (.invokespecial k, n, y, 1, c, e, v, w)) (he : e ≠ 2) (hl : st.length ≤ 3) (hk : hp_kd h u = c + 10) {f : Nat} (hq : cV f y [.ref u, u0] h P) (hd : f ≤ d) (kk : ∀ (h' : Hp_), P h' → wq d tab sc n (L) (st) h' Q) : wq d tab sc pc (L) (u0 :: .ref u :: st) h Q := by
  refine wq_call (as := [.ref u, u0]) (n := n) (st' := st) hc ?_ hd hq (fun r h' => by rintro ⟨rfl, p⟩; exact kk h' p)
  show (if e = 2 then _ else pm_callV y 1 c n L (u0 :: .ref u :: st) h) = _
  rw [if_neg he]
  show (if 1 < (u0 :: Value.ref u :: st).length then (if hp_kd h u = c + 10 ∧ ((u0 :: Value.ref u :: st).drop (1 + 1)).length ≤ 3 then _ else none) else none) = _
  rw [if_pos (by simp), if_pos ⟨hk, hl⟩]
  rfl
theorem wp_callS2I {u0 u1 : Value} {P : Int32 → Hp_ → Prop} (hc : pm_lk tab pc = some (.invokestatic k, n, y, 2, c, e, v, w)) (hl : st.length ≤ 4) {f : Nat} (hq : cI f y [u0, u1] h P) (hd : f ≤ d) (kk : ∀ (x : Int32) (h' : Hp_), P x h' → wq d tab sc n (L) (.int x :: st) h' Q) : wq d tab sc pc (L) (u1 :: u0 :: st) h Q := by
  refine wq_call (as := [u0, u1]) (n := n) (st' := st) hc ?_ hd hq (fun r h' => by rintro ⟨x, rfl, p⟩; exact kk x h' p)
  show (if 2 ≤ (u1 :: u0 :: st).length ∧ ((u1 :: u0 :: st).drop 2).length ≤ 4 then _ else none) = _
  rw [if_pos ⟨by simp, hl⟩]
  rfl
theorem wp_callV2I {u : Nat} {u0 u1 : Value} {P : Int32 → Hp_ → Prop} (hc : pm_lk tab pc = some (.invokevirtual k, n, y, 2, c, e, v, w)) (hl : st.length ≤ 3) (hk : hp_kd h u = c + 10) {f : Nat} (hq : cI f y [.ref u, u0, u1] h P) (hd : f ≤ d) (kk : ∀ (x : Int32) (h' : Hp_), P x h' → wq d tab sc n (L) (.int x :: st) h' Q) : wq d tab sc pc (L) (u1 :: u0 :: .ref u :: st) h Q := by
  refine wq_call (as := [.ref u, u0, u1]) (n := n) (st' := st) hc ?_ hd hq (fun r h' => by rintro ⟨x, rfl, p⟩; exact kk x h' p)
  show (if 2 < (u1 :: u0 :: Value.ref u :: st).length then (if hp_kd h u = c + 10 ∧ ((u1 :: u0 :: Value.ref u :: st).drop (2 + 1)).length ≤ 3 then _ else none) else none) = _
  rw [if_pos (by simp), if_pos ⟨hk, hl⟩]
  rfl
theorem wp_callS2J {u0 u1 : Value} {P : Int64 → Hp_ → Prop} (hc : pm_lk tab pc = some (.invokestatic k, n, y, 2, c, e, v, w)) (hl : st.length ≤ 4) {f : Nat} (hq : cJ f y [u0, u1] h P) (hd : f ≤ d) (kk : ∀ (x : Int64) (h' : Hp_), P x h' → wq d tab sc n (L) (.long x :: st) h' Q) : wq d tab sc pc (L) (u1 :: u0 :: st) h Q := by
  refine wq_call (as := [u0, u1]) (n := n) (st' := st) hc ?_ hd hq (fun r h' => by rintro ⟨x, rfl, p⟩; exact kk x h' p)
  show (if 2 ≤ (u1 :: u0 :: st).length ∧ ((u1 :: u0 :: st).drop 2).length ≤ 4 then _ else none) = _
  rw [if_pos ⟨by simp, hl⟩]
  rfl
theorem wp_callV2J {u : Nat} {u0 u1 : Value} {P : Int64 → Hp_ → Prop} (hc : pm_lk tab pc = some (.invokevirtual k, n, y, 2, c, e, v, w)) (hl : st.length ≤ 3) (hk : hp_kd h u = c + 10) {f : Nat} (hq : cJ f y [.ref u, u0, u1] h P) (hd : f ≤ d) (kk : ∀ (x : Int64) (h' : Hp_), P x h' → wq d tab sc n (L) (.long x :: st) h' Q) : wq d tab sc pc (L) (u1 :: u0 :: .ref u :: st) h Q := by
  refine wq_call (as := [.ref u, u0, u1]) (n := n) (st' := st) hc ?_ hd hq (fun r h' => by rintro ⟨x, rfl, p⟩; exact kk x h' p)
  show (if 2 < (u1 :: u0 :: Value.ref u :: st).length then (if hp_kd h u = c + 10 ∧ ((u1 :: u0 :: Value.ref u :: st).drop (2 + 1)).length ≤ 3 then _ else none) else none) = _
  rw [if_pos (by simp), if_pos ⟨hk, hl⟩]
  rfl
theorem wp_callS2A {u0 u1 : Value} {P : Nat → Hp_ → Prop} (hc : pm_lk tab pc = some (.invokestatic k, n, y, 2, c, e, v, w)) (hl : st.length ≤ 4) {f : Nat} (hq : cA f y [u0, u1] h P) (hd : f ≤ d) (kk : ∀ (x : Nat) (h' : Hp_), P x h' → wq d tab sc n (L) (.ref x :: st) h' Q) : wq d tab sc pc (L) (u1 :: u0 :: st) h Q := by
  refine wq_call (as := [u0, u1]) (n := n) (st' := st) hc ?_ hd hq (fun r h' => by rintro ⟨x, rfl, p⟩; exact kk x h' p)
  show (if 2 ≤ (u1 :: u0 :: st).length ∧ ((u1 :: u0 :: st).drop 2).length ≤ 4 then _ else none) = _
  rw [if_pos ⟨by simp, hl⟩]
  rfl
theorem wp_callV2A {u : Nat} {u0 u1 : Value} {P : Nat → Hp_ → Prop} (hc : pm_lk tab pc = some (.invokevirtual k, n, y, 2, c, e, v, w)) (hl : st.length ≤ 3) (hk : hp_kd h u = c + 10) {f : Nat} (hq : cA f y [.ref u, u0, u1] h P) (hd : f ≤ d) (kk : ∀ (x : Nat) (h' : Hp_), P x h' → wq d tab sc n (L) (.ref x :: st) h' Q) : wq d tab sc pc (L) (u1 :: u0 :: .ref u :: st) h Q := by
  refine wq_call (as := [.ref u, u0, u1]) (n := n) (st' := st) hc ?_ hd hq (fun r h' => by rintro ⟨x, rfl, p⟩; exact kk x h' p)
  show (if 2 < (u1 :: u0 :: Value.ref u :: st).length then (if hp_kd h u = c + 10 ∧ ((u1 :: u0 :: Value.ref u :: st).drop (2 + 1)).length ≤ 3 then _ else none) else none) = _
  rw [if_pos (by simp), if_pos ⟨hk, hl⟩]
  rfl
theorem wp_callS2V {u0 u1 : Value} {P : Hp_ → Prop} (hc : pm_lk tab pc = some (.invokestatic k, n, y, 2, c, e, v, w)) (hl : st.length ≤ 4) {f : Nat} (hq : cV f y [u0, u1] h P) (hd : f ≤ d) (kk : ∀ (h' : Hp_), P h' → wq d tab sc n (L) (st) h' Q) : wq d tab sc pc (L) (u1 :: u0 :: st) h Q := by
  refine wq_call (as := [u0, u1]) (n := n) (st' := st) hc ?_ hd hq (fun r h' => by rintro ⟨rfl, p⟩; exact kk h' p)
  show (if 2 ≤ (u1 :: u0 :: st).length ∧ ((u1 :: u0 :: st).drop 2).length ≤ 4 then _ else none) = _
  rw [if_pos ⟨by simp, hl⟩]
  rfl
theorem wp_callV2V {u : Nat} {u0 u1 : Value} {P : Hp_ → Prop} (hc : pm_lk tab pc = some (.invokevirtual k, n, y, 2, c, e, v, w)) (hl : st.length ≤ 3) (hk : hp_kd h u = c + 10) {f : Nat} (hq : cV f y [.ref u, u0, u1] h P) (hd : f ≤ d) (kk : ∀ (h' : Hp_), P h' → wq d tab sc n (L) (st) h' Q) : wq d tab sc pc (L) (u1 :: u0 :: .ref u :: st) h Q := by
  refine wq_call (as := [.ref u, u0, u1]) (n := n) (st' := st) hc ?_ hd hq (fun r h' => by rintro ⟨rfl, p⟩; exact kk h' p)
  show (if 2 < (u1 :: u0 :: Value.ref u :: st).length then (if hp_kd h u = c + 10 ∧ ((u1 :: u0 :: Value.ref u :: st).drop (2 + 1)).length ≤ 3 then _ else none) else none) = _
  rw [if_pos (by simp), if_pos ⟨hk, hl⟩]
  rfl
theorem wp_callI2V {u : Nat} {u0 u1 : Value} {P : Hp_ → Prop} (hc : pm_lk tab pc = some (.invokespecial k, n, y, 2, c, e, v, w)) (he : e ≠ 2) (hl : st.length ≤ 3) (hk : hp_kd h u = c + 10) {f : Nat} (hq : cV f y [.ref u, u0, u1] h P) (hd : f ≤ d) (kk : ∀ (h' : Hp_), P h' → wq d tab sc n (L) (st) h' Q) : wq d tab sc pc (L) (u1 :: u0 :: .ref u :: st) h Q := by
  refine wq_call (as := [.ref u, u0, u1]) (n := n) (st' := st) hc ?_ hd hq (fun r h' => by rintro ⟨rfl, p⟩; exact kk h' p)
  show (if e = 2 then _ else pm_callV y 2 c n L (u1 :: u0 :: .ref u :: st) h) = _
  rw [if_neg he]
  show (if 2 < (u1 :: u0 :: Value.ref u :: st).length then (if hp_kd h u = c + 10 ∧ ((u1 :: u0 :: Value.ref u :: st).drop (2 + 1)).length ≤ 3 then _ else none) else none) = _
  rw [if_pos (by simp), if_pos ⟨hk, hl⟩]
  rfl
theorem wp_callS3I {u0 u1 u2 : Value} {P : Int32 → Hp_ → Prop} (hc : pm_lk tab pc = some (.invokestatic k, n, y, 3, c, e, v, w)) (hl : st.length ≤ 4) {f : Nat} (hq : cI f y [u0, u1, u2] h P) (hd : f ≤ d) (kk : ∀ (x : Int32) (h' : Hp_), P x h' → wq d tab sc n (L) (.int x :: st) h' Q) : wq d tab sc pc (L) (u2 :: u1 :: u0 :: st) h Q := by
  refine wq_call (as := [u0, u1, u2]) (n := n) (st' := st) hc ?_ hd hq (fun r h' => by rintro ⟨x, rfl, p⟩; exact kk x h' p)
  show (if 3 ≤ (u2 :: u1 :: u0 :: st).length ∧ ((u2 :: u1 :: u0 :: st).drop 3).length ≤ 4 then _ else none) = _
  rw [if_pos ⟨by simp, hl⟩]
  rfl
theorem wp_callV3I {u : Nat} {u0 u1 u2 : Value} {P : Int32 → Hp_ → Prop} (hc : pm_lk tab pc = some (.invokevirtual k, n, y, 3, c, e, v, w)) (hl : st.length ≤ 3) (hk : hp_kd h u = c + 10) {f : Nat} (hq : cI f y [.ref u, u0, u1, u2] h P) (hd : f ≤ d) (kk : ∀ (x : Int32) (h' : Hp_), P x h' → wq d tab sc n (L) (.int x :: st) h' Q) : wq d tab sc pc (L) (u2 :: u1 :: u0 :: .ref u :: st) h Q := by
  refine wq_call (as := [.ref u, u0, u1, u2]) (n := n) (st' := st) hc ?_ hd hq (fun r h' => by rintro ⟨x, rfl, p⟩; exact kk x h' p)
  show (if 3 < (u2 :: u1 :: u0 :: Value.ref u :: st).length then (if hp_kd h u = c + 10 ∧ ((u2 :: u1 :: u0 :: Value.ref u :: st).drop (3 + 1)).length ≤ 3 then _ else none) else none) = _
  rw [if_pos (by simp), if_pos ⟨hk, hl⟩]
  rfl
theorem wp_callS3J {u0 u1 u2 : Value} {P : Int64 → Hp_ → Prop} (hc : pm_lk tab pc = some (.invokestatic k, n, y, 3, c, e, v, w)) (hl : st.length ≤ 4) {f : Nat} (hq : cJ f y [u0, u1, u2] h P) (hd : f ≤ d) (kk : ∀ (x : Int64) (h' : Hp_), P x h' → wq d tab sc n (L) (.long x :: st) h' Q) : wq d tab sc pc (L) (u2 :: u1 :: u0 :: st) h Q := by
  refine wq_call (as := [u0, u1, u2]) (n := n) (st' := st) hc ?_ hd hq (fun r h' => by rintro ⟨x, rfl, p⟩; exact kk x h' p)
  show (if 3 ≤ (u2 :: u1 :: u0 :: st).length ∧ ((u2 :: u1 :: u0 :: st).drop 3).length ≤ 4 then _ else none) = _
  rw [if_pos ⟨by simp, hl⟩]
  rfl
theorem wp_callV3J {u : Nat} {u0 u1 u2 : Value} {P : Int64 → Hp_ → Prop} (hc : pm_lk tab pc = some (.invokevirtual k, n, y, 3, c, e, v, w)) (hl : st.length ≤ 3) (hk : hp_kd h u = c + 10) {f : Nat} (hq : cJ f y [.ref u, u0, u1, u2] h P) (hd : f ≤ d) (kk : ∀ (x : Int64) (h' : Hp_), P x h' → wq d tab sc n (L) (.long x :: st) h' Q) : wq d tab sc pc (L) (u2 :: u1 :: u0 :: .ref u :: st) h Q := by
  refine wq_call (as := [.ref u, u0, u1, u2]) (n := n) (st' := st) hc ?_ hd hq (fun r h' => by rintro ⟨x, rfl, p⟩; exact kk x h' p)
  show (if 3 < (u2 :: u1 :: u0 :: Value.ref u :: st).length then (if hp_kd h u = c + 10 ∧ ((u2 :: u1 :: u0 :: Value.ref u :: st).drop (3 + 1)).length ≤ 3 then _ else none) else none) = _
  rw [if_pos (by simp), if_pos ⟨hk, hl⟩]
  rfl
theorem wp_callS3A {u0 u1 u2 : Value} {P : Nat → Hp_ → Prop} (hc : pm_lk tab pc = some (.invokestatic k, n, y, 3, c, e, v, w)) (hl : st.length ≤ 4) {f : Nat} (hq : cA f y [u0, u1, u2] h P) (hd : f ≤ d) (kk : ∀ (x : Nat) (h' : Hp_), P x h' → wq d tab sc n (L) (.ref x :: st) h' Q) : wq d tab sc pc (L) (u2 :: u1 :: u0 :: st) h Q := by
  refine wq_call (as := [u0, u1, u2]) (n := n) (st' := st) hc ?_ hd hq (fun r h' => by rintro ⟨x, rfl, p⟩; exact kk x h' p)
  show (if 3 ≤ (u2 :: u1 :: u0 :: st).length ∧ ((u2 :: u1 :: u0 :: st).drop 3).length ≤ 4 then _ else none) = _
  rw [if_pos ⟨by simp, hl⟩]
  rfl
theorem wp_callV3A {u : Nat} {u0 u1 u2 : Value} {P : Nat → Hp_ → Prop} (hc : pm_lk tab pc = some (.invokevirtual k, n, y, 3, c, e, v, w)) (hl : st.length ≤ 3) (hk : hp_kd h u = c + 10) {f : Nat} (hq : cA f y [.ref u, u0, u1, u2] h P) (hd : f ≤ d) (kk : ∀ (x : Nat) (h' : Hp_), P x h' → wq d tab sc n (L) (.ref x :: st) h' Q) : wq d tab sc pc (L) (u2 :: u1 :: u0 :: .ref u :: st) h Q := by
  refine wq_call (as := [.ref u, u0, u1, u2]) (n := n) (st' := st) hc ?_ hd hq (fun r h' => by rintro ⟨x, rfl, p⟩; exact kk x h' p)
  show (if 3 < (u2 :: u1 :: u0 :: Value.ref u :: st).length then (if hp_kd h u = c + 10 ∧ ((u2 :: u1 :: u0 :: Value.ref u :: st).drop (3 + 1)).length ≤ 3 then _ else none) else none) = _
  rw [if_pos (by simp), if_pos ⟨hk, hl⟩]
  rfl
theorem wp_callS3V {u0 u1 u2 : Value} {P : Hp_ → Prop} (hc : pm_lk tab pc = some (.invokestatic k, n, y, 3, c, e, v, w)) (hl : st.length ≤ 4) {f : Nat} (hq : cV f y [u0, u1, u2] h P) (hd : f ≤ d) (kk : ∀ (h' : Hp_), P h' → wq d tab sc n (L) (st) h' Q) : wq d tab sc pc (L) (u2 :: u1 :: u0 :: st) h Q := by
  refine wq_call (as := [u0, u1, u2]) (n := n) (st' := st) hc ?_ hd hq (fun r h' => by rintro ⟨rfl, p⟩; exact kk h' p)
  show (if 3 ≤ (u2 :: u1 :: u0 :: st).length ∧ ((u2 :: u1 :: u0 :: st).drop 3).length ≤ 4 then _ else none) = _
  rw [if_pos ⟨by simp, hl⟩]
  rfl
theorem wp_callV3V {u : Nat} {u0 u1 u2 : Value} {P : Hp_ → Prop} (hc : pm_lk tab pc = some (.invokevirtual k, n, y, 3, c, e, v, w)) (hl : st.length ≤ 3) (hk : hp_kd h u = c + 10) {f : Nat} (hq : cV f y [.ref u, u0, u1, u2] h P) (hd : f ≤ d) (kk : ∀ (h' : Hp_), P h' → wq d tab sc n (L) (st) h' Q) : wq d tab sc pc (L) (u2 :: u1 :: u0 :: .ref u :: st) h Q := by
  refine wq_call (as := [.ref u, u0, u1, u2]) (n := n) (st' := st) hc ?_ hd hq (fun r h' => by rintro ⟨rfl, p⟩; exact kk h' p)
  show (if 3 < (u2 :: u1 :: u0 :: Value.ref u :: st).length then (if hp_kd h u = c + 10 ∧ ((u2 :: u1 :: u0 :: Value.ref u :: st).drop (3 + 1)).length ≤ 3 then _ else none) else none) = _
  rw [if_pos (by simp), if_pos ⟨hk, hl⟩]
  rfl
theorem wp_callI3V {u : Nat} {u0 u1 u2 : Value} {P : Hp_ → Prop} (hc : pm_lk tab pc = some (.invokespecial k, n, y, 3, c, e, v, w)) (he : e ≠ 2) (hl : st.length ≤ 3) (hk : hp_kd h u = c + 10) {f : Nat} (hq : cV f y [.ref u, u0, u1, u2] h P) (hd : f ≤ d) (kk : ∀ (h' : Hp_), P h' → wq d tab sc n (L) (st) h' Q) : wq d tab sc pc (L) (u2 :: u1 :: u0 :: .ref u :: st) h Q := by
  refine wq_call (as := [.ref u, u0, u1, u2]) (n := n) (st' := st) hc ?_ hd hq (fun r h' => by rintro ⟨rfl, p⟩; exact kk h' p)
  show (if e = 2 then _ else pm_callV y 3 c n L (u2 :: u1 :: u0 :: .ref u :: st) h) = _
  rw [if_neg he]
  show (if 3 < (u2 :: u1 :: u0 :: Value.ref u :: st).length then (if hp_kd h u = c + 10 ∧ ((u2 :: u1 :: u0 :: Value.ref u :: st).drop (3 + 1)).length ≤ 3 then _ else none) else none) = _
  rw [if_pos (by simp), if_pos ⟨hk, hl⟩]
  rfl
theorem wp_callS4I {u0 u1 u2 u3 : Value} {P : Int32 → Hp_ → Prop} (hc : pm_lk tab pc = some (.invokestatic k, n, y, 4, c, e, v, w)) (hl : st.length ≤ 4) {f : Nat} (hq : cI f y [u0, u1, u2, u3] h P) (hd : f ≤ d) (kk : ∀ (x : Int32) (h' : Hp_), P x h' → wq d tab sc n (L) (.int x :: st) h' Q) : wq d tab sc pc (L) (u3 :: u2 :: u1 :: u0 :: st) h Q := by
  refine wq_call (as := [u0, u1, u2, u3]) (n := n) (st' := st) hc ?_ hd hq (fun r h' => by rintro ⟨x, rfl, p⟩; exact kk x h' p)
  show (if 4 ≤ (u3 :: u2 :: u1 :: u0 :: st).length ∧ ((u3 :: u2 :: u1 :: u0 :: st).drop 4).length ≤ 4 then _ else none) = _
  rw [if_pos ⟨by simp, hl⟩]
  rfl
theorem wp_callV4I {u : Nat} {u0 u1 u2 u3 : Value} {P : Int32 → Hp_ → Prop} (hc : pm_lk tab pc = some (.invokevirtual k, n, y, 4, c, e, v, w)) (hl : st.length ≤ 3) (hk : hp_kd h u = c + 10) {f : Nat} (hq : cI f y [.ref u, u0, u1, u2, u3] h P) (hd : f ≤ d) (kk : ∀ (x : Int32) (h' : Hp_), P x h' → wq d tab sc n (L) (.int x :: st) h' Q) : wq d tab sc pc (L) (u3 :: u2 :: u1 :: u0 :: .ref u :: st) h Q := by
  refine wq_call (as := [.ref u, u0, u1, u2, u3]) (n := n) (st' := st) hc ?_ hd hq (fun r h' => by rintro ⟨x, rfl, p⟩; exact kk x h' p)
  show (if 4 < (u3 :: u2 :: u1 :: u0 :: Value.ref u :: st).length then (if hp_kd h u = c + 10 ∧ ((u3 :: u2 :: u1 :: u0 :: Value.ref u :: st).drop (4 + 1)).length ≤ 3 then _ else none) else none) = _
  rw [if_pos (by simp), if_pos ⟨hk, hl⟩]
  rfl
theorem wp_callS4J {u0 u1 u2 u3 : Value} {P : Int64 → Hp_ → Prop} (hc : pm_lk tab pc = some (.invokestatic k, n, y, 4, c, e, v, w)) (hl : st.length ≤ 4) {f : Nat} (hq : cJ f y [u0, u1, u2, u3] h P) (hd : f ≤ d) (kk : ∀ (x : Int64) (h' : Hp_), P x h' → wq d tab sc n (L) (.long x :: st) h' Q) : wq d tab sc pc (L) (u3 :: u2 :: u1 :: u0 :: st) h Q := by
  refine wq_call (as := [u0, u1, u2, u3]) (n := n) (st' := st) hc ?_ hd hq (fun r h' => by rintro ⟨x, rfl, p⟩; exact kk x h' p)
  show (if 4 ≤ (u3 :: u2 :: u1 :: u0 :: st).length ∧ ((u3 :: u2 :: u1 :: u0 :: st).drop 4).length ≤ 4 then _ else none) = _
  rw [if_pos ⟨by simp, hl⟩]
  rfl
theorem wp_callV4J {u : Nat} {u0 u1 u2 u3 : Value} {P : Int64 → Hp_ → Prop} (hc : pm_lk tab pc = some (.invokevirtual k, n, y, 4, c, e, v, w)) (hl : st.length ≤ 3) (hk : hp_kd h u = c + 10) {f : Nat} (hq : cJ f y [.ref u, u0, u1, u2, u3] h P) (hd : f ≤ d) (kk : ∀ (x : Int64) (h' : Hp_), P x h' → wq d tab sc n (L) (.long x :: st) h' Q) : wq d tab sc pc (L) (u3 :: u2 :: u1 :: u0 :: .ref u :: st) h Q := by
  refine wq_call (as := [.ref u, u0, u1, u2, u3]) (n := n) (st' := st) hc ?_ hd hq (fun r h' => by rintro ⟨x, rfl, p⟩; exact kk x h' p)
  show (if 4 < (u3 :: u2 :: u1 :: u0 :: Value.ref u :: st).length then (if hp_kd h u = c + 10 ∧ ((u3 :: u2 :: u1 :: u0 :: Value.ref u :: st).drop (4 + 1)).length ≤ 3 then _ else none) else none) = _
  rw [if_pos (by simp), if_pos ⟨hk, hl⟩]
  rfl
theorem wp_callS4A {u0 u1 u2 u3 : Value} {P : Nat → Hp_ → Prop} (hc : pm_lk tab pc = some (.invokestatic k, n, y, 4, c, e, v, w)) (hl : st.length ≤ 4) {f : Nat} (hq : cA f y [u0, u1, u2, u3] h P) (hd : f ≤ d) (kk : ∀ (x : Nat) (h' : Hp_), P x h' → wq d tab sc n (L) (.ref x :: st) h' Q) : wq d tab sc pc (L) (u3 :: u2 :: u1 :: u0 :: st) h Q := by
  refine wq_call (as := [u0, u1, u2, u3]) (n := n) (st' := st) hc ?_ hd hq (fun r h' => by rintro ⟨x, rfl, p⟩; exact kk x h' p)
  show (if 4 ≤ (u3 :: u2 :: u1 :: u0 :: st).length ∧ ((u3 :: u2 :: u1 :: u0 :: st).drop 4).length ≤ 4 then _ else none) = _
  rw [if_pos ⟨by simp, hl⟩]
  rfl
theorem wp_callV4A {u : Nat} {u0 u1 u2 u3 : Value} {P : Nat → Hp_ → Prop} (hc : pm_lk tab pc = some (.invokevirtual k, n, y, 4, c, e, v, w)) (hl : st.length ≤ 3) (hk : hp_kd h u = c + 10) {f : Nat} (hq : cA f y [.ref u, u0, u1, u2, u3] h P) (hd : f ≤ d) (kk : ∀ (x : Nat) (h' : Hp_), P x h' → wq d tab sc n (L) (.ref x :: st) h' Q) : wq d tab sc pc (L) (u3 :: u2 :: u1 :: u0 :: .ref u :: st) h Q := by
  refine wq_call (as := [.ref u, u0, u1, u2, u3]) (n := n) (st' := st) hc ?_ hd hq (fun r h' => by rintro ⟨x, rfl, p⟩; exact kk x h' p)
  show (if 4 < (u3 :: u2 :: u1 :: u0 :: Value.ref u :: st).length then (if hp_kd h u = c + 10 ∧ ((u3 :: u2 :: u1 :: u0 :: Value.ref u :: st).drop (4 + 1)).length ≤ 3 then _ else none) else none) = _
  rw [if_pos (by simp), if_pos ⟨hk, hl⟩]
  rfl
theorem wp_callS4V {u0 u1 u2 u3 : Value} {P : Hp_ → Prop} (hc : pm_lk tab pc = some (.invokestatic k, n, y, 4, c, e, v, w)) (hl : st.length ≤ 4) {f : Nat} (hq : cV f y [u0, u1, u2, u3] h P) (hd : f ≤ d) (kk : ∀ (h' : Hp_), P h' → wq d tab sc n (L) (st) h' Q) : wq d tab sc pc (L) (u3 :: u2 :: u1 :: u0 :: st) h Q := by
  refine wq_call (as := [u0, u1, u2, u3]) (n := n) (st' := st) hc ?_ hd hq (fun r h' => by rintro ⟨rfl, p⟩; exact kk h' p)
  show (if 4 ≤ (u3 :: u2 :: u1 :: u0 :: st).length ∧ ((u3 :: u2 :: u1 :: u0 :: st).drop 4).length ≤ 4 then _ else none) = _
  rw [if_pos ⟨by simp, hl⟩]
  rfl
theorem wp_callV4V {u : Nat} {u0 u1 u2 u3 : Value} {P : Hp_ → Prop} (hc : pm_lk tab pc = some (.invokevirtual k, n, y, 4, c, e, v, w)) (hl : st.length ≤ 3) (hk : hp_kd h u = c + 10) {f : Nat} (hq : cV f y [.ref u, u0, u1, u2, u3] h P) (hd : f ≤ d) (kk : ∀ (h' : Hp_), P h' → wq d tab sc n (L) (st) h' Q) : wq d tab sc pc (L) (u3 :: u2 :: u1 :: u0 :: .ref u :: st) h Q := by
  refine wq_call (as := [.ref u, u0, u1, u2, u3]) (n := n) (st' := st) hc ?_ hd hq (fun r h' => by rintro ⟨rfl, p⟩; exact kk h' p)
  show (if 4 < (u3 :: u2 :: u1 :: u0 :: Value.ref u :: st).length then (if hp_kd h u = c + 10 ∧ ((u3 :: u2 :: u1 :: u0 :: Value.ref u :: st).drop (4 + 1)).length ≤ 3 then _ else none) else none) = _
  rw [if_pos (by simp), if_pos ⟨hk, hl⟩]
  rfl
theorem wp_callI4V {u : Nat} {u0 u1 u2 u3 : Value} {P : Hp_ → Prop} (hc : pm_lk tab pc = some (.invokespecial k, n, y, 4, c, e, v, w)) (he : e ≠ 2) (hl : st.length ≤ 3) (hk : hp_kd h u = c + 10) {f : Nat} (hq : cV f y [.ref u, u0, u1, u2, u3] h P) (hd : f ≤ d) (kk : ∀ (h' : Hp_), P h' → wq d tab sc n (L) (st) h' Q) : wq d tab sc pc (L) (u3 :: u2 :: u1 :: u0 :: .ref u :: st) h Q := by
  refine wq_call (as := [.ref u, u0, u1, u2, u3]) (n := n) (st' := st) hc ?_ hd hq (fun r h' => by rintro ⟨rfl, p⟩; exact kk h' p)
  show (if e = 2 then _ else pm_callV y 4 c n L (u3 :: u2 :: u1 :: u0 :: .ref u :: st) h) = _
  rw [if_neg he]
  show (if 4 < (u3 :: u2 :: u1 :: u0 :: Value.ref u :: st).length then (if hp_kd h u = c + 10 ∧ ((u3 :: u2 :: u1 :: u0 :: Value.ref u :: st).drop (4 + 1)).length ≤ 3 then _ else none) else none) = _
  rw [if_pos (by simp), if_pos ⟨hk, hl⟩]
  rfl
theorem wp_callS5I {u0 u1 u2 u3 u4 : Value} {P : Int32 → Hp_ → Prop} (hc : pm_lk tab pc = some (.invokestatic k, n, y, 5, c, e, v, w)) (hl : st.length ≤ 4) {f : Nat} (hq : cI f y [u0, u1, u2, u3, u4] h P) (hd : f ≤ d) (kk : ∀ (x : Int32) (h' : Hp_), P x h' → wq d tab sc n (L) (.int x :: st) h' Q) : wq d tab sc pc (L) (u4 :: u3 :: u2 :: u1 :: u0 :: st) h Q := by
  refine wq_call (as := [u0, u1, u2, u3, u4]) (n := n) (st' := st) hc ?_ hd hq (fun r h' => by rintro ⟨x, rfl, p⟩; exact kk x h' p)
  show (if 5 ≤ (u4 :: u3 :: u2 :: u1 :: u0 :: st).length ∧ ((u4 :: u3 :: u2 :: u1 :: u0 :: st).drop 5).length ≤ 4 then _ else none) = _
  rw [if_pos ⟨by simp, hl⟩]
  rfl
theorem wp_callV5I {u : Nat} {u0 u1 u2 u3 u4 : Value} {P : Int32 → Hp_ → Prop} (hc : pm_lk tab pc = some (.invokevirtual k, n, y, 5, c, e, v, w)) (hl : st.length ≤ 3) (hk : hp_kd h u = c + 10) {f : Nat} (hq : cI f y [.ref u, u0, u1, u2, u3, u4] h P) (hd : f ≤ d) (kk : ∀ (x : Int32) (h' : Hp_), P x h' → wq d tab sc n (L) (.int x :: st) h' Q) : wq d tab sc pc (L) (u4 :: u3 :: u2 :: u1 :: u0 :: .ref u :: st) h Q := by
  refine wq_call (as := [.ref u, u0, u1, u2, u3, u4]) (n := n) (st' := st) hc ?_ hd hq (fun r h' => by rintro ⟨x, rfl, p⟩; exact kk x h' p)
  show (if 5 < (u4 :: u3 :: u2 :: u1 :: u0 :: Value.ref u :: st).length then (if hp_kd h u = c + 10 ∧ ((u4 :: u3 :: u2 :: u1 :: u0 :: Value.ref u :: st).drop (5 + 1)).length ≤ 3 then _ else none) else none) = _
  rw [if_pos (by simp), if_pos ⟨hk, hl⟩]
  rfl
theorem wp_callS5J {u0 u1 u2 u3 u4 : Value} {P : Int64 → Hp_ → Prop} (hc : pm_lk tab pc = some (.invokestatic k, n, y, 5, c, e, v, w)) (hl : st.length ≤ 4) {f : Nat} (hq : cJ f y [u0, u1, u2, u3, u4] h P) (hd : f ≤ d) (kk : ∀ (x : Int64) (h' : Hp_), P x h' → wq d tab sc n (L) (.long x :: st) h' Q) : wq d tab sc pc (L) (u4 :: u3 :: u2 :: u1 :: u0 :: st) h Q := by
  refine wq_call (as := [u0, u1, u2, u3, u4]) (n := n) (st' := st) hc ?_ hd hq (fun r h' => by rintro ⟨x, rfl, p⟩; exact kk x h' p)
  show (if 5 ≤ (u4 :: u3 :: u2 :: u1 :: u0 :: st).length ∧ ((u4 :: u3 :: u2 :: u1 :: u0 :: st).drop 5).length ≤ 4 then _ else none) = _
  rw [if_pos ⟨by simp, hl⟩]
  rfl
theorem wp_callV5J {u : Nat} {u0 u1 u2 u3 u4 : Value} {P : Int64 → Hp_ → Prop} (hc : pm_lk tab pc = some (.invokevirtual k, n, y, 5, c, e, v, w)) (hl : st.length ≤ 3) (hk : hp_kd h u = c + 10) {f : Nat} (hq : cJ f y [.ref u, u0, u1, u2, u3, u4] h P) (hd : f ≤ d) (kk : ∀ (x : Int64) (h' : Hp_), P x h' → wq d tab sc n (L) (.long x :: st) h' Q) : wq d tab sc pc (L) (u4 :: u3 :: u2 :: u1 :: u0 :: .ref u :: st) h Q := by
  refine wq_call (as := [.ref u, u0, u1, u2, u3, u4]) (n := n) (st' := st) hc ?_ hd hq (fun r h' => by rintro ⟨x, rfl, p⟩; exact kk x h' p)
  show (if 5 < (u4 :: u3 :: u2 :: u1 :: u0 :: Value.ref u :: st).length then (if hp_kd h u = c + 10 ∧ ((u4 :: u3 :: u2 :: u1 :: u0 :: Value.ref u :: st).drop (5 + 1)).length ≤ 3 then _ else none) else none) = _
  rw [if_pos (by simp), if_pos ⟨hk, hl⟩]
  rfl
theorem wp_callS5A {u0 u1 u2 u3 u4 : Value} {P : Nat → Hp_ → Prop} (hc : pm_lk tab pc = some (.invokestatic k, n, y, 5, c, e, v, w)) (hl : st.length ≤ 4) {f : Nat} (hq : cA f y [u0, u1, u2, u3, u4] h P) (hd : f ≤ d) (kk : ∀ (x : Nat) (h' : Hp_), P x h' → wq d tab sc n (L) (.ref x :: st) h' Q) : wq d tab sc pc (L) (u4 :: u3 :: u2 :: u1 :: u0 :: st) h Q := by
  refine wq_call (as := [u0, u1, u2, u3, u4]) (n := n) (st' := st) hc ?_ hd hq (fun r h' => by rintro ⟨x, rfl, p⟩; exact kk x h' p)
  show (if 5 ≤ (u4 :: u3 :: u2 :: u1 :: u0 :: st).length ∧ ((u4 :: u3 :: u2 :: u1 :: u0 :: st).drop 5).length ≤ 4 then _ else none) = _
  rw [if_pos ⟨by simp, hl⟩]
  rfl
theorem wp_callV5A {u : Nat} {u0 u1 u2 u3 u4 : Value} {P : Nat → Hp_ → Prop} (hc : pm_lk tab pc = some (.invokevirtual k, n, y, 5, c, e, v, w)) (hl : st.length ≤ 3) (hk : hp_kd h u = c + 10) {f : Nat} (hq : cA f y [.ref u, u0, u1, u2, u3, u4] h P) (hd : f ≤ d) (kk : ∀ (x : Nat) (h' : Hp_), P x h' → wq d tab sc n (L) (.ref x :: st) h' Q) : wq d tab sc pc (L) (u4 :: u3 :: u2 :: u1 :: u0 :: .ref u :: st) h Q := by
  refine wq_call (as := [.ref u, u0, u1, u2, u3, u4]) (n := n) (st' := st) hc ?_ hd hq (fun r h' => by rintro ⟨x, rfl, p⟩; exact kk x h' p)
  show (if 5 < (u4 :: u3 :: u2 :: u1 :: u0 :: Value.ref u :: st).length then (if hp_kd h u = c + 10 ∧ ((u4 :: u3 :: u2 :: u1 :: u0 :: Value.ref u :: st).drop (5 + 1)).length ≤ 3 then _ else none) else none) = _
  rw [if_pos (by simp), if_pos ⟨hk, hl⟩]
  rfl
theorem wp_callS5V {u0 u1 u2 u3 u4 : Value} {P : Hp_ → Prop} (hc : pm_lk tab pc = some (.invokestatic k, n, y, 5, c, e, v, w)) (hl : st.length ≤ 4) {f : Nat} (hq : cV f y [u0, u1, u2, u3, u4] h P) (hd : f ≤ d) (kk : ∀ (h' : Hp_), P h' → wq d tab sc n (L) (st) h' Q) : wq d tab sc pc (L) (u4 :: u3 :: u2 :: u1 :: u0 :: st) h Q := by
  refine wq_call (as := [u0, u1, u2, u3, u4]) (n := n) (st' := st) hc ?_ hd hq (fun r h' => by rintro ⟨rfl, p⟩; exact kk h' p)
  show (if 5 ≤ (u4 :: u3 :: u2 :: u1 :: u0 :: st).length ∧ ((u4 :: u3 :: u2 :: u1 :: u0 :: st).drop 5).length ≤ 4 then _ else none) = _
  rw [if_pos ⟨by simp, hl⟩]
  rfl
theorem wp_callV5V {u : Nat} {u0 u1 u2 u3 u4 : Value} {P : Hp_ → Prop} (hc : pm_lk tab pc = some (.invokevirtual k, n, y, 5, c, e, v, w)) (hl : st.length ≤ 3) (hk : hp_kd h u = c + 10) {f : Nat} (hq : cV f y [.ref u, u0, u1, u2, u3, u4] h P) (hd : f ≤ d) (kk : ∀ (h' : Hp_), P h' → wq d tab sc n (L) (st) h' Q) : wq d tab sc pc (L) (u4 :: u3 :: u2 :: u1 :: u0 :: .ref u :: st) h Q := by
  refine wq_call (as := [.ref u, u0, u1, u2, u3, u4]) (n := n) (st' := st) hc ?_ hd hq (fun r h' => by rintro ⟨rfl, p⟩; exact kk h' p)
  show (if 5 < (u4 :: u3 :: u2 :: u1 :: u0 :: Value.ref u :: st).length then (if hp_kd h u = c + 10 ∧ ((u4 :: u3 :: u2 :: u1 :: u0 :: Value.ref u :: st).drop (5 + 1)).length ≤ 3 then _ else none) else none) = _
  rw [if_pos (by simp), if_pos ⟨hk, hl⟩]
  rfl
theorem wp_callI5V {u : Nat} {u0 u1 u2 u3 u4 : Value} {P : Hp_ → Prop} (hc : pm_lk tab pc = some (.invokespecial k, n, y, 5, c, e, v, w)) (he : e ≠ 2) (hl : st.length ≤ 3) (hk : hp_kd h u = c + 10) {f : Nat} (hq : cV f y [.ref u, u0, u1, u2, u3, u4] h P) (hd : f ≤ d) (kk : ∀ (h' : Hp_), P h' → wq d tab sc n (L) (st) h' Q) : wq d tab sc pc (L) (u4 :: u3 :: u2 :: u1 :: u0 :: .ref u :: st) h Q := by
  refine wq_call (as := [.ref u, u0, u1, u2, u3, u4]) (n := n) (st' := st) hc ?_ hd hq (fun r h' => by rintro ⟨rfl, p⟩; exact kk h' p)
  show (if e = 2 then _ else pm_callV y 5 c n L (u4 :: u3 :: u2 :: u1 :: u0 :: .ref u :: st) h) = _
  rw [if_neg he]
  show (if 5 < (u4 :: u3 :: u2 :: u1 :: u0 :: Value.ref u :: st).length then (if hp_kd h u = c + 10 ∧ ((u4 :: u3 :: u2 :: u1 :: u0 :: Value.ref u :: st).drop (5 + 1)).length ≤ 3 then _ else none) else none) = _
  rw [if_pos (by simp), if_pos ⟨hk, hl⟩]
  rfl
theorem wp_objI {u : Nat} (hc : pm_lk tab pc = some (.invokespecial k, n, a, b, c, 2, v, w)) (hl : st.length ≤ 3) (hk : hp_kd h u ≠ 0) (kk : wq d tab sc n (L) (st) h Q) : wq d tab sc pc (L) (.ref u :: st) h Q := wq_step hc (show (if hp_kd h u ≠ 0 ∧ st.length ≤ 3 then some (Sum.inl (n, L, st, h)) else none) = some (Sum.inl (n, L, st, h)) by rw [if_pos ⟨hk, hl⟩]) kk
end WQ
end
section
-- ===== NUMBERS: bits (begun with a family of kit/laws/BITS), packed rows of three bits =====
def bt (x : Int32) (i : Nat) : Bool := x.toBitVec.getLsbD i
theorem b_ext {x y : Int32} (h : ∀ i, i < 32 → bt x i = bt y i) : x = y := Int32.toBitVec_inj.mp (BitVec.eq_of_getLsbD_eq (fun i hi => h i hi))
theorem b_or (x y : Int32) (i : Nat) : bt (x ||| y) i = (bt x i || bt y i) := by unfold bt; rw [Int32.toBitVec_or, BitVec.getLsbD_or]
theorem b_and (x y : Int32) (i : Nat) : bt (x &&& y) i = (bt x i && bt y i) := by unfold bt; rw [Int32.toBitVec_and, BitVec.getLsbD_and]
theorem b_xor (x y : Int32) (i : Nat) : bt (x ^^^ y) i = (bt x i ^^ bt y i) := by unfold bt; rw [Int32.toBitVec_xor, BitVec.getLsbD_xor]
theorem b_big {x : Int32} {i : Nat} (h : 32 ≤ i) : bt x i = false := BitVec.getLsbD_of_ge _ _ h
theorem b_255 (i : Nat) : bt 255 i = decide (i < 8) := by
  rcases Nat.lt_or_ge i 32 with h | h
  · exact (by decide +kernel : ∀ i, i < 32 → bt 255 i = decide (i < 8)) i h
  · rw [b_big h, decide_eq_false (by omega)]
theorem b_65535 (i : Nat) : bt 65535 i = decide (i < 16) := by
  rcases Nat.lt_or_ge i 32 with h | h
  · exact (by decide +kernel : ∀ i, i < 32 → bt 65535 i = decide (i < 16)) i h
  · rw [b_big h, decide_eq_false (by omega)]
theorem b_m1 : ∀ i, i < 32 → bt (-1) i = true := by decide +kernel
theorem b_0 (i : Nat) : bt 0 i = false := BitVec.getLsbD_zero
theorem s_l : ∀ n, n < 32 → ((nI n &&& 31).toBitVec.smod 32).toNat = n := by decide +kernel
theorem s_u : ∀ n, n < 32 → (((nI n).toUInt32 &&& Int32.toUInt32 31).toBitVec % 32).toNat = n := by decide +kernel
theorem b_shl (n : Nat) (hn : n < 32) (x : Int32) {i : Nat} (hi : i < 32) : bt (x <<< (nI n &&& 31)) i = (decide (n ≤ i) && bt x (i - n)) := by
  unfold bt
  rw [Int32.toBitVec_shiftLeft]
  show (x.toBitVec <<< ((nI n &&& 31).toBitVec.smod 32).toNat).getLsbD i = _
  rw [s_l n hn, BitVec.getLsbD_shiftLeft]
  rcases Nat.lt_or_ge i n with h | h
  · simp [h, Nat.not_le.mpr h]
  · simp [hi, h, Nat.not_lt.mpr h]
theorem b_ushr (n : Nat) (hn : n < 32) (x : Int32) (i : Nat) : bt ((x.toUInt32 >>> ((nI n).toUInt32 &&& Int32.toUInt32 31)).toInt32) i = bt x (n + i) := by
  show (x.toUInt32 >>> ((nI n).toUInt32 &&& Int32.toUInt32 31)).toBitVec.getLsbD i = x.toUInt32.toBitVec.getLsbD (n + i)
  rw [UInt32.toBitVec_shiftRight]
  show (x.toUInt32.toBitVec >>> (((nI n).toUInt32 &&& Int32.toUInt32 31).toBitVec % 32).toNat).getLsbD i = _
  rw [s_u n hn, BitVec.getLsbD_ushiftRight]
theorem b_sshr (n : Nat) (hn : n < 32) (x : Int32) {i : Nat} (hi : i < 32) : bt (x >>> (nI n &&& 31)) i = if n + i < 32 then bt x (n + i) else bt x 31 := by
  unfold bt
  rw [Int32.toBitVec_shiftRight]
  show (x.toBitVec.sshiftRight ((nI n &&& 31).toBitVec.smod 32).toNat).getLsbD i = _
  rw [s_l n hn, BitVec.getLsbD_sshiftRight, BitVec.msb_eq_getLsbD_last]
  simp [hi]
theorem bt_nI (n : Nat) {i : Nat} (hi : i < 32) : bt (nI n) i = n.testBit i := by
  show (BitVec.ofNat 32 n).getLsbD i = _
  rw [BitVec.getLsbD_ofNat]
  simp [hi]
theorem nn_and (a b : Nat) : nI a &&& nI b = nI (a &&& b) := b_ext fun i hi => by rw [b_and, bt_nI a hi, bt_nI b hi, bt_nI _ hi, Nat.testBit_and]
theorem nn_or (a b : Nat) : nI a ||| nI b = nI (a ||| b) := b_ext fun i hi => by rw [b_or, bt_nI a hi, bt_nI b hi, bt_nI _ hi, Nat.testBit_or]
theorem nn_shl (a k : Nat) (hk : k < 32) : nI a <<< (nI k &&& 31) = nI (a * 2 ^ k) := b_ext fun i hi => by
  rw [b_shl k hk _ hi, bt_nI _ hi]
  rcases Nat.lt_or_ge i k with q | q
  · rw [decide_eq_false (by omega), Nat.testBit_mul_two_pow, decide_eq_false (by omega)]
    rfl
  · rw [decide_eq_true q, bt_nI _ (by omega), Nat.testBit_mul_two_pow, decide_eq_true q]
theorem nn_ushr (a k : Nat) (ha : a < 2 ^ 32) (hk : k < 32) : ((nI a).toUInt32 >>> ((nI k).toUInt32 &&& Int32.toUInt32 31)).toInt32 = nI (a / 2 ^ k) := b_ext fun i hi => by
  rw [b_ushr k hk, bt_nI _ hi, Nat.testBit_div_two_pow]
  rcases Nat.lt_or_ge (k + i) 32 with q | q
  · rw [bt_nI _ q, Nat.add_comm]
  · rw [b_big q, Nat.add_comm i k]
    exact (Nat.testBit_lt_two_pow (Nat.lt_of_lt_of_le ha (Nat.pow_le_pow_right (by omega) q))).symm
theorem nn_sshr (a k : Nat) (ha : a < 2 ^ 31) (hk : k < 32) : nI a >>> (nI k &&& 31) = nI (a / 2 ^ k) := b_ext fun i hi => by
  rw [b_sshr k hk _ hi, bt_nI _ hi, Nat.testBit_div_two_pow]
  split
  · rename_i q
    rw [bt_nI _ q, Nat.add_comm]
  · rename_i q
    rw [bt_nI _ (by omega), Nat.add_comm i k]
    rw [Nat.testBit_lt_two_pow ha]
    exact (Nat.testBit_lt_two_pow (Nat.lt_of_lt_of_le ha (Nat.pow_le_pow_right (by omega) (by omega)))).symm
theorem nn_7 (a : Nat) : nI a &&& nI 7 = nI (a % 8) := by
  rw [nn_and]
  exact congrArg nI (Nat.and_two_pow_sub_one_eq_mod a 3)
theorem nn_1 (a : Nat) : nI a &&& nI 1 = nI (a % 2) := by
  rw [nn_and]
  exact congrArg nI (Nat.and_two_pow_sub_one_eq_mod a 1)
theorem p8 (k : Nat) : 8 ^ k = 2 ^ (3 * k) := by rw [show 8 = 2 ^ 3 from rfl, ← Nat.pow_mul]
/-- n numbers below 8, packed -/
def pq_ (f : Nat → Nat) : Nat → Nat
  | 0 => 0
  | n + 1 => pq_ f n + f n * 8 ^ n
theorem pq_lt {f : Nat → Nat} : ∀ n, (∀ i, i < n → f i < 8) → pq_ f n < 8 ^ n
  | 0, _ => Nat.one_pos
  | n + 1, h => by
    have h1 := pq_lt n (fun i hi => h i (by omega))
    have h2 := h n (by omega)
    have h3 : f n * 8 ^ n ≤ 7 * 8 ^ n := Nat.mul_le_mul_right _ (by omega)
    show pq_ f n + f n * 8 ^ n < 8 ^ (n + 1)
    rw [Nat.pow_succ]
    omega
theorem pq_lt24 {f : Nat → Nat} (h : ∀ i, i < 8 → f i < 8) : pq_ f 8 < 16777216 := pq_lt 8 h
theorem pq_cong {f g : Nat → Nat} : ∀ n, (∀ i, i < n → f i = g i) → pq_ f n = pq_ g n
  | 0, _ => rfl
  | n + 1, h => by
    show pq_ f n + f n * 8 ^ n = pq_ g n + g n * 8 ^ n
    rw [pq_cong n (fun i hi => h i (by omega)), h n (by omega)]
theorem pq_get {f : Nat → Nat} : ∀ n k, (∀ i, i < n → f i < 8) → k < n → pq_ f n / 8 ^ k % 8 = f k
  | 0, k, _, hk => by omega
  | n + 1, k, h, hk => by
    show (pq_ f n + f n * 8 ^ n) / 8 ^ k % 8 = f k
    have h1 := pq_lt n (fun i hi => h i (by omega))
    rcases Nat.lt_or_ge k n with q | q
    · have e : f n * 8 ^ n = 8 ^ k * (f n * 8 ^ (n - k - 1) * 8) := by
        have : 8 ^ n = 8 ^ k * (8 ^ (n - k - 1) * 8) := by
          rw [← Nat.pow_succ, ← Nat.pow_add]
          congr 1
          omega
        rw [this, Nat.mul_assoc, Nat.mul_left_comm]
      rw [e, Nat.add_mul_div_left _ _ (Nat.pow_pos (by decide)), Nat.add_mul_mod_self_right]
      exact pq_get n k (fun i hi => h i (by omega)) q
    · obtain rfl : k = n := by omega
      rw [Nat.add_mul_div_right _ _ (Nat.pow_pos (by decide)), Nat.div_eq_of_lt h1, Nat.zero_add, Nat.mod_eq_of_lt (h k (by omega))]
theorem pq_inj {f g : Nat → Nat} {n : Nat} (hf : ∀ i, i < n → f i < 8) (hg : ∀ i, i < n → g i < 8) (h : pq_ f n = pq_ g n) : ∀ i, i < n → f i = g i := fun i hi => by rw [← pq_get n i hf hi, ← pq_get n i hg hi, h]
theorem pq_testBit {f : Nat → Nat} {n : Nat} (h : ∀ i, i < n → f i < 8) (j : Nat) : (pq_ f n).testBit j = (decide (j < 3 * n) && (f (j / 3)).testBit (j % 3)) := by
  rcases Nat.lt_or_ge j (3 * n) with q | q
  · rw [decide_eq_true q, Bool.true_and, ← pq_get n (j / 3) h (by omega), p8]
    rw [show (8 : Nat) = 2 ^ 3 from rfl, Nat.testBit_mod_two_pow, decide_eq_true (show j % 3 < 3 by omega), Bool.true_and, Nat.testBit_div_two_pow]
    congr 1
    omega
  · rw [decide_eq_false (by omega), Bool.false_and]
    have := pq_lt n h
    rw [p8] at this
    exact Nat.testBit_lt_two_pow (Nat.lt_of_lt_of_le this (Nat.pow_le_pow_right (by omega) q))
/-- one more packed number, by an or -/
theorem pq_or {f : Nat → Nat} {n : Nat} (h : ∀ i, i < n → f i < 8) (v : Nat) : pq_ f n ||| v * 8 ^ n = pq_ f n + v * 8 ^ n := by
  have h1 := pq_lt n h
  rw [p8] at h1 ⊢
  rw [Nat.or_comm, Nat.mul_comm v, Nat.add_comm]
  exact (Nat.two_pow_add_eq_or_of_lt h1 v).symm
theorem nI_inj {a b : Nat} (ha : a < 2 ^ 31) (hb : b < 2 ^ 31) (h : nI a = nI b) : a = b := (nI_eq ha hb).mp h
theorem vu_self {α : Type} (f : Nat → α) (k : Nat) : va_up f k (f k) = f := funext fun j => by
  unfold va_up
  split
  · rename_i q; rw [q]
  · rfl
theorem vu_up {α : Type} (f : Nat → α) (k : Nat) (v w : α) : va_up (va_up f k v) k w = va_up f k w := funext fun j => by
  unfold va_up
  split <;> rfl
theorem hp_rI_self (h : Hp_) (c : Nat) : hp_rI h c (hp_I h c) = h := by
  obtain ⟨h1, h2, h3, h4, h5, h6, h7⟩ := h
  show (h1, h2, h3, h4, va_up h5 c (h5 c), h6, h7) = _
  rw [vu_self]
theorem hp_rI_rI (h : Hp_) (c : Nat) (f g : Nat → Int32) : hp_rI (hp_rI h c f) c g = hp_rI h c g := by
  obtain ⟨h1, h2, h3, h4, h5, h6, h7⟩ := h
  show (h1, h2, h3, h4, va_up (va_up h5 c f) c g, h6, h7) = _
  rw [vu_up]
  rfl
theorem hp_rJ_self (h : Hp_) (c : Nat) : hp_rJ h c (hp_J h c) = h := by
  obtain ⟨h1, h2, h3, h4, h5, h6, h7⟩ := h
  show (h1, h2, h3, h4, h5, va_up h6 c (h6 c), h7) = _
  rw [vu_self]
theorem hp_rJ_rJ (h : Hp_) (c : Nat) (f g : Nat → Int64) : hp_rJ (hp_rJ h c f) c g = hp_rJ h c g := by
  obtain ⟨h1, h2, h3, h4, h5, h6, h7⟩ := h
  show (h1, h2, h3, h4, h5, va_up (va_up h6 c f) c g, h7) = _
  rw [vu_up]
  rfl
theorem hp_rI_comm (h : Hp_) {c d : Nat} (hcd : c ≠ d) (f g : Nat → Int32) : hp_rI (hp_rI h c f) d g = hp_rI (hp_rI h d g) c f := by
  obtain ⟨h1, h2, h3, h4, h5, h6, h7⟩ := h
  show (h1, h2, h3, h4, va_up (va_up h5 c f) d g, h6, h7) = (h1, h2, h3, h4, va_up (va_up h5 d g) c f, h6, h7)
  congr 4
  rw [show va_up (va_up h5 c f) d g = va_up (va_up h5 d g) c f from funext fun j => by
    unfold va_up
    split
    · rename_i q
      rw [if_neg (fun z => hcd (z.symm.trans q))]
    · rfl]
/-- a boolean as an int -/
def bo_ (b : Bool) : Int32 := if b then nI 1 else nI 0
theorem bo_01 (b : Bool) : bo_ b = 0 ∨ bo_ b = 1 := by cases b; exact Or.inl rfl; exact Or.inr rfl
theorem bo_if (c : Prop) (d : Decidable c) : (if c then nI 1 else nI 0) = bo_ (decide c) := by
  unfold bo_
  by_cases q : c
  · rw [if_pos q, if_pos (decide_eq_true q)]
  · rw [if_neg q, if_neg (fun z => q (of_decide_eq_true z))]
section NXW
variable {d n a b c e k y : Nat} {v : Int32} {w : Int64} {tab : Tab_} {sc : Sc_} {pc : Nat} {L L' : Lc_} {st st' : List Value} {h h' : Hp_} {Q : Option Value → Hp_ → Prop}
theorem wp_alenE {x m : Nat} (hc : pm_lk tab pc = some (.arraylength, n, a, b, c, e, v, w)) (h0 : x ≠ 0) (hk : hp_kd h x = 1 ∨ hp_kd h x = 2 ∨ hp_kd h x = 3) (hm : hp_ln h x = m) (kk : wq d tab sc n L (.int (nI m) :: st) h Q) : wq d tab sc pc L (.ref x :: st) h Q := by
  subst hm
  exact wp_alen hc h0 hk kk
theorem wq_top {x y : Int32} (hxy : x = y) (kk : wq d tab sc pc L (.int y :: st) h Q) : wq d tab sc pc L (.int x :: st) h Q := by rw [hxy]; exact kk
theorem wq_topJ {x y : Int64} (hxy : x = y) (kk : wq d tab sc pc L (.long y :: st) h Q) : wq d tab sc pc L (.long x :: st) h Q := by rw [hxy]; exact kk
theorem wq_hp (hh : h = h') (kk : wq d tab sc pc L st h' Q) : wq d tab sc pc L st h Q := by rw [hh]; exact kk
theorem wp_if_ltN (i j : Nat) (hi : i < 2 ^ 31) (hj : j < 2 ^ 31) {k1 : Int} (hc : pm_lk tab pc = some (.ifCond .lt k1, n, a, b, c, e, v, w)) (kf : wq d tab sc n L st h Q) : wq d tab sc pc L (.int (nI i) :: st) h Q := wp_if_lt hc (fun q => absurd q (nI_pos hi)) (fun _ => kf)
theorem wp_if_geN (i j : Nat) (hi : i < 2 ^ 31) (hj : j < 2 ^ 31) {k1 : Int} (hc : pm_lk tab pc = some (.ifCond .ge k1, n, a, b, c, e, v, w)) (kt : wq d tab sc a L st h Q) : wq d tab sc pc L (.int (nI i) :: st) h Q := wp_if_ge hc (fun _ => kt) (fun q => absurd (nI_pos' hi) q)
theorem nI_z {i : Nat} (hi : i < 2 ^ 31) : nI i = 0 ↔ i = 0 := by rw [← nI_0]; exact nI_eq hi (by decide)
theorem wp_if_eqN (i j : Nat) (hi : i < 2 ^ 31) (hj : j < 2 ^ 31) {k1 : Int} (hc : pm_lk tab pc = some (.ifCond .eq k1, n, a, b, c, e, v, w)) (kt : i = 0 → wq d tab sc a L st h Q) (kf : i ≠ 0 → wq d tab sc n L st h Q) : wq d tab sc pc L (.int (nI i) :: st) h Q := wp_if_eq hc (fun q => kt ((nI_z hi).mp q)) (fun q => kf (fun z => q ((nI_z hi).mpr z)))
theorem wp_if_neN (i j : Nat) (hi : i < 2 ^ 31) (hj : j < 2 ^ 31) {k1 : Int} (hc : pm_lk tab pc = some (.ifCond .ne k1, n, a, b, c, e, v, w)) (kt : i ≠ 0 → wq d tab sc a L st h Q) (kf : i = 0 → wq d tab sc n L st h Q) : wq d tab sc pc L (.int (nI i) :: st) h Q := wp_if_ne hc (fun q => kt (fun z => q ((nI_z hi).mpr z))) (fun q => kf ((nI_z hi).mp (Classical.not_not.mp q)))
theorem wp_if_leN (i j : Nat) (hi : i < 2 ^ 31) (hj : j < 2 ^ 31) {k1 : Int} (hc : pm_lk tab pc = some (.ifCond .le k1, n, a, b, c, e, v, w)) (kt : i = 0 → wq d tab sc a L st h Q) (kf : 0 < i → wq d tab sc n L st h Q) : wq d tab sc pc L (.int (nI i) :: st) h Q := wp_if_le hc (fun q => kt (by have := (nI_leI hi (show 0 < 2 ^ 31 by decide)).mp (by rw [nI_0]; exact q); omega)) (fun q => kf (by rcases Nat.eq_zero_or_pos i with z | z; exact absurd (by rw [z, nI_0]; exact Int32.le_refl _) q; exact z))
theorem wp_if_gtN (i j : Nat) (hi : i < 2 ^ 31) (hj : j < 2 ^ 31) {k1 : Int} (hc : pm_lk tab pc = some (.ifCond .gt k1, n, a, b, c, e, v, w)) (kt : 0 < i → wq d tab sc a L st h Q) (kf : i = 0 → wq d tab sc n L st h Q) : wq d tab sc pc L (.int (nI i) :: st) h Q := wp_if_gt hc (fun q => kt (by have := (nI_ltI (show 0 < 2 ^ 31 by decide) hi).mp (by rw [nI_0]; exact q); omega)) (fun q => kf (by rcases Nat.eq_zero_or_pos i with z | z; exact z; exact absurd (by rw [← nI_0]; exact nI_lt z hi) q))
theorem wp_iinc0N {i j : Nat} {w1 : Int} {t : Lc_} (hc : pm_lk tab pc = some (.iinc 0 w1, n, a, b, c, e, nI j, w)) (kk : wq d tab sc n (some (.int (nI (i + j))) :: t) st h Q) : wq d tab sc pc (some (.int (nI i)) :: t) st h Q := wp_iinc0 hc (by rw [nI_add]; exact kk)
theorem wp_iinc0M {i : Nat} {w1 : Int} {t : Lc_} (hc : pm_lk tab pc = some (.iinc 0 w1, n, a, b, c, e, -1, w)) (kk : wq d tab sc n (some (.int (nI i)) :: t) st h Q) : wq d tab sc pc (some (.int (nI (i + 1))) :: t) st h Q := wp_iinc0 hc (by rw [pk_m1]; exact kk)
theorem wp_iinc1N {i j : Nat} {w1 : Int} {a0 : Option Value} {t : Lc_} (hc : pm_lk tab pc = some (.iinc 1 w1, n, a, b, c, e, nI j, w)) (hz : nl_ a0 = true := by rfl) (kk : wq d tab sc n (a0 :: some (.int (nI (i + j))) :: t) st h Q) : wq d tab sc pc (a0 :: some (.int (nI i)) :: t) st h Q := wp_iinc1 hc hz (by rw [nI_add]; exact kk)
theorem wp_iinc1M {i : Nat} {w1 : Int} {a0 : Option Value} {t : Lc_} (hc : pm_lk tab pc = some (.iinc 1 w1, n, a, b, c, e, -1, w)) (hz : nl_ a0 = true := by rfl) (kk : wq d tab sc n (a0 :: some (.int (nI i)) :: t) st h Q) : wq d tab sc pc (a0 :: some (.int (nI (i + 1))) :: t) st h Q := wp_iinc1 hc hz (by rw [pk_m1]; exact kk)
theorem wp_iinc2N {i j : Nat} {w1 : Int} {a0 a1 : Option Value} {t : Lc_} (hc : pm_lk tab pc = some (.iinc 2 w1, n, a, b, c, e, nI j, w)) (hz : nl_ a1 = true := by rfl) (kk : wq d tab sc n (a0 :: a1 :: some (.int (nI (i + j))) :: t) st h Q) : wq d tab sc pc (a0 :: a1 :: some (.int (nI i)) :: t) st h Q := wp_iinc2 hc hz (by rw [nI_add]; exact kk)
theorem wp_iinc2M {i : Nat} {w1 : Int} {a0 a1 : Option Value} {t : Lc_} (hc : pm_lk tab pc = some (.iinc 2 w1, n, a, b, c, e, -1, w)) (hz : nl_ a1 = true := by rfl) (kk : wq d tab sc n (a0 :: a1 :: some (.int (nI i)) :: t) st h Q) : wq d tab sc pc (a0 :: a1 :: some (.int (nI (i + 1))) :: t) st h Q := wp_iinc2 hc hz (by rw [pk_m1]; exact kk)
theorem wp_iinc3N {i j : Nat} {w1 : Int} {a0 a1 a2 : Option Value} {t : Lc_} (hc : pm_lk tab pc = some (.iinc 3 w1, n, a, b, c, e, nI j, w)) (hz : nl_ a2 = true := by rfl) (kk : wq d tab sc n (a0 :: a1 :: a2 :: some (.int (nI (i + j))) :: t) st h Q) : wq d tab sc pc (a0 :: a1 :: a2 :: some (.int (nI i)) :: t) st h Q := wp_iinc3 hc hz (by rw [nI_add]; exact kk)
theorem wp_iinc3M {i : Nat} {w1 : Int} {a0 a1 a2 : Option Value} {t : Lc_} (hc : pm_lk tab pc = some (.iinc 3 w1, n, a, b, c, e, -1, w)) (hz : nl_ a2 = true := by rfl) (kk : wq d tab sc n (a0 :: a1 :: a2 :: some (.int (nI i)) :: t) st h Q) : wq d tab sc pc (a0 :: a1 :: a2 :: some (.int (nI (i + 1))) :: t) st h Q := wp_iinc3 hc hz (by rw [pk_m1]; exact kk)
theorem wp_iinc4N {i j : Nat} {w1 : Int} {a0 a1 a2 a3 : Option Value} {t : Lc_} (hc : pm_lk tab pc = some (.iinc 4 w1, n, a, b, c, e, nI j, w)) (hz : nl_ a3 = true := by rfl) (kk : wq d tab sc n (a0 :: a1 :: a2 :: a3 :: some (.int (nI (i + j))) :: t) st h Q) : wq d tab sc pc (a0 :: a1 :: a2 :: a3 :: some (.int (nI i)) :: t) st h Q := wp_iinc4 hc hz (by rw [nI_add]; exact kk)
theorem wp_iinc4M {i : Nat} {w1 : Int} {a0 a1 a2 a3 : Option Value} {t : Lc_} (hc : pm_lk tab pc = some (.iinc 4 w1, n, a, b, c, e, -1, w)) (hz : nl_ a3 = true := by rfl) (kk : wq d tab sc n (a0 :: a1 :: a2 :: a3 :: some (.int (nI i)) :: t) st h Q) : wq d tab sc pc (a0 :: a1 :: a2 :: a3 :: some (.int (nI (i + 1))) :: t) st h Q := wp_iinc4 hc hz (by rw [pk_m1]; exact kk)
theorem wp_iinc5N {i j : Nat} {w1 : Int} {a0 a1 a2 a3 a4 : Option Value} {t : Lc_} (hc : pm_lk tab pc = some (.iinc 5 w1, n, a, b, c, e, nI j, w)) (hz : nl_ a4 = true := by rfl) (kk : wq d tab sc n (a0 :: a1 :: a2 :: a3 :: a4 :: some (.int (nI (i + j))) :: t) st h Q) : wq d tab sc pc (a0 :: a1 :: a2 :: a3 :: a4 :: some (.int (nI i)) :: t) st h Q := wp_iinc5 hc hz (by rw [nI_add]; exact kk)
theorem wp_iinc5M {i : Nat} {w1 : Int} {a0 a1 a2 a3 a4 : Option Value} {t : Lc_} (hc : pm_lk tab pc = some (.iinc 5 w1, n, a, b, c, e, -1, w)) (hz : nl_ a4 = true := by rfl) (kk : wq d tab sc n (a0 :: a1 :: a2 :: a3 :: a4 :: some (.int (nI i)) :: t) st h Q) : wq d tab sc pc (a0 :: a1 :: a2 :: a3 :: a4 :: some (.int (nI (i + 1))) :: t) st h Q := wp_iinc5 hc hz (by rw [pk_m1]; exact kk)
theorem wp_iinc6N {i j : Nat} {w1 : Int} {a0 a1 a2 a3 a4 a5 : Option Value} {t : Lc_} (hc : pm_lk tab pc = some (.iinc 6 w1, n, a, b, c, e, nI j, w)) (hz : nl_ a5 = true := by rfl) (kk : wq d tab sc n (a0 :: a1 :: a2 :: a3 :: a4 :: a5 :: some (.int (nI (i + j))) :: t) st h Q) : wq d tab sc pc (a0 :: a1 :: a2 :: a3 :: a4 :: a5 :: some (.int (nI i)) :: t) st h Q := wp_iinc6 hc hz (by rw [nI_add]; exact kk)
theorem wp_iinc6M {i : Nat} {w1 : Int} {a0 a1 a2 a3 a4 a5 : Option Value} {t : Lc_} (hc : pm_lk tab pc = some (.iinc 6 w1, n, a, b, c, e, -1, w)) (hz : nl_ a5 = true := by rfl) (kk : wq d tab sc n (a0 :: a1 :: a2 :: a3 :: a4 :: a5 :: some (.int (nI i)) :: t) st h Q) : wq d tab sc pc (a0 :: a1 :: a2 :: a3 :: a4 :: a5 :: some (.int (nI (i + 1))) :: t) st h Q := wp_iinc6 hc hz (by rw [pk_m1]; exact kk)
theorem wp_iinc7N {i j : Nat} {w1 : Int} {a0 a1 a2 a3 a4 a5 a6 : Option Value} {t : Lc_} (hc : pm_lk tab pc = some (.iinc 7 w1, n, a, b, c, e, nI j, w)) (hz : nl_ a6 = true := by rfl) (kk : wq d tab sc n (a0 :: a1 :: a2 :: a3 :: a4 :: a5 :: a6 :: some (.int (nI (i + j))) :: t) st h Q) : wq d tab sc pc (a0 :: a1 :: a2 :: a3 :: a4 :: a5 :: a6 :: some (.int (nI i)) :: t) st h Q := wp_iinc7 hc hz (by rw [nI_add]; exact kk)
theorem wp_iinc7M {i : Nat} {w1 : Int} {a0 a1 a2 a3 a4 a5 a6 : Option Value} {t : Lc_} (hc : pm_lk tab pc = some (.iinc 7 w1, n, a, b, c, e, -1, w)) (hz : nl_ a6 = true := by rfl) (kk : wq d tab sc n (a0 :: a1 :: a2 :: a3 :: a4 :: a5 :: a6 :: some (.int (nI i)) :: t) st h Q) : wq d tab sc pc (a0 :: a1 :: a2 :: a3 :: a4 :: a5 :: a6 :: some (.int (nI (i + 1))) :: t) st h Q := wp_iinc7 hc hz (by rw [pk_m1]; exact kk)
theorem wp_iinc8N {i j : Nat} {w1 : Int} {a0 a1 a2 a3 a4 a5 a6 a7 : Option Value} {t : Lc_} (hc : pm_lk tab pc = some (.iinc 8 w1, n, a, b, c, e, nI j, w)) (hz : nl_ a7 = true := by rfl) (kk : wq d tab sc n (a0 :: a1 :: a2 :: a3 :: a4 :: a5 :: a6 :: a7 :: some (.int (nI (i + j))) :: t) st h Q) : wq d tab sc pc (a0 :: a1 :: a2 :: a3 :: a4 :: a5 :: a6 :: a7 :: some (.int (nI i)) :: t) st h Q := wp_iinc8 hc hz (by rw [nI_add]; exact kk)
theorem wp_iinc8M {i : Nat} {w1 : Int} {a0 a1 a2 a3 a4 a5 a6 a7 : Option Value} {t : Lc_} (hc : pm_lk tab pc = some (.iinc 8 w1, n, a, b, c, e, -1, w)) (hz : nl_ a7 = true := by rfl) (kk : wq d tab sc n (a0 :: a1 :: a2 :: a3 :: a4 :: a5 :: a6 :: a7 :: some (.int (nI i)) :: t) st h Q) : wq d tab sc pc (a0 :: a1 :: a2 :: a3 :: a4 :: a5 :: a6 :: a7 :: some (.int (nI (i + 1))) :: t) st h Q := wp_iinc8 hc hz (by rw [pk_m1]; exact kk)
theorem wp_iinc9N {i j : Nat} {w1 : Int} {a0 a1 a2 a3 a4 a5 a6 a7 a8 : Option Value} {t : Lc_} (hc : pm_lk tab pc = some (.iinc 9 w1, n, a, b, c, e, nI j, w)) (hz : nl_ a8 = true := by rfl) (kk : wq d tab sc n (a0 :: a1 :: a2 :: a3 :: a4 :: a5 :: a6 :: a7 :: a8 :: some (.int (nI (i + j))) :: t) st h Q) : wq d tab sc pc (a0 :: a1 :: a2 :: a3 :: a4 :: a5 :: a6 :: a7 :: a8 :: some (.int (nI i)) :: t) st h Q := wp_iinc9 hc hz (by rw [nI_add]; exact kk)
theorem wp_iinc9M {i : Nat} {w1 : Int} {a0 a1 a2 a3 a4 a5 a6 a7 a8 : Option Value} {t : Lc_} (hc : pm_lk tab pc = some (.iinc 9 w1, n, a, b, c, e, -1, w)) (hz : nl_ a8 = true := by rfl) (kk : wq d tab sc n (a0 :: a1 :: a2 :: a3 :: a4 :: a5 :: a6 :: a7 :: a8 :: some (.int (nI i)) :: t) st h Q) : wq d tab sc pc (a0 :: a1 :: a2 :: a3 :: a4 :: a5 :: a6 :: a7 :: a8 :: some (.int (nI (i + 1))) :: t) st h Q := wp_iinc9 hc hz (by rw [pk_m1]; exact kk)
theorem wp_iinc10N {i j : Nat} {w1 : Int} {a0 a1 a2 a3 a4 a5 a6 a7 a8 a9 : Option Value} {t : Lc_} (hc : pm_lk tab pc = some (.iinc 10 w1, n, a, b, c, e, nI j, w)) (hz : nl_ a9 = true := by rfl) (kk : wq d tab sc n (a0 :: a1 :: a2 :: a3 :: a4 :: a5 :: a6 :: a7 :: a8 :: a9 :: some (.int (nI (i + j))) :: t) st h Q) : wq d tab sc pc (a0 :: a1 :: a2 :: a3 :: a4 :: a5 :: a6 :: a7 :: a8 :: a9 :: some (.int (nI i)) :: t) st h Q := wp_iinc10 hc hz (by rw [nI_add]; exact kk)
theorem wp_iinc10M {i : Nat} {w1 : Int} {a0 a1 a2 a3 a4 a5 a6 a7 a8 a9 : Option Value} {t : Lc_} (hc : pm_lk tab pc = some (.iinc 10 w1, n, a, b, c, e, -1, w)) (hz : nl_ a9 = true := by rfl) (kk : wq d tab sc n (a0 :: a1 :: a2 :: a3 :: a4 :: a5 :: a6 :: a7 :: a8 :: a9 :: some (.int (nI i)) :: t) st h Q) : wq d tab sc pc (a0 :: a1 :: a2 :: a3 :: a4 :: a5 :: a6 :: a7 :: a8 :: a9 :: some (.int (nI (i + 1))) :: t) st h Q := wp_iinc10 hc hz (by rw [pk_m1]; exact kk)
theorem wp_iinc11N {i j : Nat} {w1 : Int} {a0 a1 a2 a3 a4 a5 a6 a7 a8 a9 a10 : Option Value} {t : Lc_} (hc : pm_lk tab pc = some (.iinc 11 w1, n, a, b, c, e, nI j, w)) (hz : nl_ a10 = true := by rfl) (kk : wq d tab sc n (a0 :: a1 :: a2 :: a3 :: a4 :: a5 :: a6 :: a7 :: a8 :: a9 :: a10 :: some (.int (nI (i + j))) :: t) st h Q) : wq d tab sc pc (a0 :: a1 :: a2 :: a3 :: a4 :: a5 :: a6 :: a7 :: a8 :: a9 :: a10 :: some (.int (nI i)) :: t) st h Q := wp_iinc11 hc hz (by rw [nI_add]; exact kk)
theorem wp_iinc11M {i : Nat} {w1 : Int} {a0 a1 a2 a3 a4 a5 a6 a7 a8 a9 a10 : Option Value} {t : Lc_} (hc : pm_lk tab pc = some (.iinc 11 w1, n, a, b, c, e, -1, w)) (hz : nl_ a10 = true := by rfl) (kk : wq d tab sc n (a0 :: a1 :: a2 :: a3 :: a4 :: a5 :: a6 :: a7 :: a8 :: a9 :: a10 :: some (.int (nI i)) :: t) st h Q) : wq d tab sc pc (a0 :: a1 :: a2 :: a3 :: a4 :: a5 :: a6 :: a7 :: a8 :: a9 :: a10 :: some (.int (nI (i + 1))) :: t) st h Q := wp_iinc11 hc hz (by rw [pk_m1]; exact kk)
theorem wp_iinc12N {i j : Nat} {w1 : Int} {a0 a1 a2 a3 a4 a5 a6 a7 a8 a9 a10 a11 : Option Value} {t : Lc_} (hc : pm_lk tab pc = some (.iinc 12 w1, n, a, b, c, e, nI j, w)) (hz : nl_ a11 = true := by rfl) (kk : wq d tab sc n (a0 :: a1 :: a2 :: a3 :: a4 :: a5 :: a6 :: a7 :: a8 :: a9 :: a10 :: a11 :: some (.int (nI (i + j))) :: t) st h Q) : wq d tab sc pc (a0 :: a1 :: a2 :: a3 :: a4 :: a5 :: a6 :: a7 :: a8 :: a9 :: a10 :: a11 :: some (.int (nI i)) :: t) st h Q := wp_iinc12 hc hz (by rw [nI_add]; exact kk)
theorem wp_iinc12M {i : Nat} {w1 : Int} {a0 a1 a2 a3 a4 a5 a6 a7 a8 a9 a10 a11 : Option Value} {t : Lc_} (hc : pm_lk tab pc = some (.iinc 12 w1, n, a, b, c, e, -1, w)) (hz : nl_ a11 = true := by rfl) (kk : wq d tab sc n (a0 :: a1 :: a2 :: a3 :: a4 :: a5 :: a6 :: a7 :: a8 :: a9 :: a10 :: a11 :: some (.int (nI i)) :: t) st h Q) : wq d tab sc pc (a0 :: a1 :: a2 :: a3 :: a4 :: a5 :: a6 :: a7 :: a8 :: a9 :: a10 :: a11 :: some (.int (nI (i + 1))) :: t) st h Q := wp_iinc12 hc hz (by rw [pk_m1]; exact kk)
theorem wp_if_neB {b0 : Bool} {k1 : Int} (hc : pm_lk tab pc = some (.ifCond .ne k1, n, a, b, c, e, v, w)) (kt : b0 = true → wq d tab sc a L st h Q) (kf : b0 = false → wq d tab sc n L st h Q) : wq d tab sc pc L (.int (bo_ b0) :: st) h Q := by
  cases b0 with
  | true => exact wp_if_neN 1 0 (by decide) (by decide) hc (fun _ => kt rfl) (fun q => absurd q (by decide))
  | false => exact wp_if_neN 0 0 (by decide) (by decide) hc (fun q => absurd rfl q) (fun _ => kf rfl)
theorem wp_if_eqB {b0 : Bool} {k1 : Int} (hc : pm_lk tab pc = some (.ifCond .eq k1, n, a, b, c, e, v, w)) (kt : b0 = false → wq d tab sc a L st h Q) (kf : b0 = true → wq d tab sc n L st h Q) : wq d tab sc pc L (.int (bo_ b0) :: st) h Q := by
  cases b0 with
  | true => exact wp_if_eqN 1 0 (by decide) (by decide) hc (fun q => absurd q (by decide)) (fun _ => kf rfl)
  | false => exact wp_if_eqN 0 0 (by decide) (by decide) hc (fun _ => kt rfl) (fun q => absurd rfl q)
end NXW
/-- a packed number put into a free place -/
theorem pq_or_at {u : Nat → Nat} {n q v : Nat} (hu : ∀ i, i < n → u i < 8) (hq : q < n) (h0 : u q = 0) (hv : v < 8) : pq_ u n ||| v * 8 ^ q = pq_ (va_up u q v) n := by
  have hg : ∀ i, i < n → va_up u q v i < 8 := by
    intro i hi
    unfold va_up
    split
    · exact hv
    · exact hu i hi
  refine Nat.eq_of_testBit_eq fun j => ?_
  rw [Nat.testBit_or, pq_testBit hu, pq_testBit hg, p8, Nat.testBit_mul_two_pow]
  by_cases z : j / 3 = q
  · rw [z, sd_up_eq, h0, decide_eq_true (show j < 3 * n by omega), decide_eq_true (show 3 * q ≤ j by omega), show j - 3 * q = j % 3 by omega]
    simp
  · rw [sd_up_ne z]
    rcases Nat.lt_or_ge j (3 * q) with z2 | z2
    · rw [decide_eq_false (show ¬ 3 * q ≤ j by omega)]
      simp
    · have : v.testBit (j - 3 * q) = false := Nat.testBit_lt_two_pow (Nat.lt_of_lt_of_le hv (show 2 ^ 3 ≤ 2 ^ (j - 3 * q) from Nat.pow_le_pow_right (by omega) (by omega)))
      rw [this]
      simp
end
section
-- ===== Cells, Maps =====
/-- a row read, or 0; written, or left -/
def ca_ {α : Type} (z : α) (f : Nat → α) (n : Nat) (i : Int32) : α := if i < 0 ∨ n ≤ i.toNatClampNeg then z else f i.toNatClampNeg
def cp_ {α : Type} (f : Nat → α) (n : Nat) (i : Int32) (x : α) : Nat → α := if i < 0 ∨ n ≤ i.toNatClampNeg then f else va_up f i.toNatClampNeg x
theorem ca_in {α : Type} {z : α} {f : Nat → α} {n j : Nat} (hj : j < n) (hb : j < 2 ^ 31) : ca_ z f n (nI j) = f j := by
  unfold ca_
  rw [nI_clamp hb, if_neg]
  rintro (q | q)
  · exact nI_pos hb q
  · omega
theorem ca_out {α : Type} {z : α} {f : Nat → α} {n j : Nat} (hj : n ≤ j) (hb : j < 2 ^ 31) : ca_ z f n (nI j) = z := by
  unfold ca_
  rw [nI_clamp hb, if_pos (Or.inr hj)]
theorem ca_neg {α : Type} {z : α} {f : Nat → α} {n : Nat} {i : Int32} (hi : i < 0) : ca_ z f n i = z := by
  unfold ca_
  rw [if_pos (Or.inl hi)]
theorem cp_in {α : Type} {f : Nat → α} {n j : Nat} {x : α} (hj : j < n) (hb : j < 2 ^ 31) : cp_ f n (nI j) x = va_up f j x := by
  unfold cp_
  rw [nI_clamp hb, if_neg]
  rintro (q | q)
  · exact nI_pos hb q
  · omega
theorem cp_out {α : Type} {f : Nat → α} {n j : Nat} {x : α} (hj : n ≤ j) (hb : j < 2 ^ 31) : cp_ f n (nI j) x = f := by
  unfold cp_
  rw [nI_clamp hb, if_pos (Or.inr hj)]
theorem ca_ge {α : Type} {z : α} {f : Nat → α} {n : Nat} {i : Int32} (h1 : ¬ i < 0) (h2 : nI n ≤ i) (hn : n < 2 ^ 31) : ca_ z f n i = z := by
  obtain ⟨j, hj, rfl⟩ := nI_of h1
  exact ca_out ((nI_leI hn hj).mp h2) hj
theorem cp_neg {α : Type} {f : Nat → α} {n : Nat} {i : Int32} {x : α} (hi : i < 0) : cp_ f n i x = f := by
  unfold cp_
  rw [if_pos (Or.inl hi)]
theorem cp_ge {α : Type} {f : Nat → α} {n : Nat} {i : Int32} {x : α} (h1 : ¬ i < 0) (h2 : nI n ≤ i) (hn : n < 2 ^ 31) : cp_ f n i x = f := by
  obtain ⟨j, hj, rfl⟩ := nI_of h1
  exact cp_out ((nI_leI hn hj).mp h2) hj
theorem Cells_at_ok {h : Hp_} {a : Nat} {i : Int32} (hk : hp_kd h a = 1) (h0 : a ≠ 0) (hl : hp_ln h a < 2 ^ 31) : cI 1 mn_Cells_at [.ref a, .int i] h (fun x h' => x = ca_ (nI 0) (hp_I h a) (hp_ln h a) i ∧ h' = h) := by
  refine cq_in (q := mi_Cells_at) (L := [some (.ref a), some (.int i)]) rfl (Nat.le_of_ble_eq_true rfl) rfl ?_
  show wq _ tb_Cells_at none 0 _ _ _ _
  refine wp_iload1 rfl ?_
  refine wp_if_lt rfl (fun c1 => ?_) (fun c1 => ?_)
  · skip
    refine wp_iconst rfl ?_
    exact wp_iret rfl ⟨_, rfl, (ca_neg c1).symm, rfl⟩
  · skip
    refine wp_iload1 rfl ?_
    refine wp_aload0 rfl ?_
    refine wp_alen rfl h0 (Or.inl hk) ?_
    refine wp_icmp_ge rfl (fun c2 => ?_) (fun c2 => ?_)
    · skip
      refine wp_iconst rfl ?_
      exact wp_iret rfl ⟨_, rfl, (ca_ge c1 c2 hl).symm, rfl⟩
    · 
      obtain q | q | ⟨j, hj, rfl⟩ := pk_ix i hl
      · exact absurd q c1
      · exact absurd q c2
      refine wp_aload0 rfl ?_
      refine wp_iload1 rfl ?_
      refine wp_iald j rfl hk h0 hj (by omega) rfl ?_
      refine wp_goto rfl ?_
      exact wp_iret rfl ⟨_, rfl, (ca_in hj (by omega)).symm, rfl⟩
theorem Cells_longAt_ok {h : Hp_} {a : Nat} {i : Int32} (hk : hp_kd h a = 2) (h0 : a ≠ 0) (hl : hp_ln h a < 2 ^ 31) : cJ 1 mn_Cells_longAt [.ref a, .int i] h (fun x h' => x = ca_ (lN 0) (hp_J h a) (hp_ln h a) i ∧ h' = h) := by
  refine cq_in (q := mi_Cells_longAt) (L := [some (.ref a), some (.int i)]) rfl (Nat.le_of_ble_eq_true rfl) rfl ?_
  show wq _ tb_Cells_longAt none 0 _ _ _ _
  refine wp_iload1 rfl ?_
  refine wp_if_lt rfl (fun c1 => ?_) (fun c1 => ?_)
  · skip
    refine wp_lconst rfl ?_
    exact wp_lret rfl ⟨_, rfl, (ca_neg c1).symm, rfl⟩
  · skip
    refine wp_iload1 rfl ?_
    refine wp_aload0 rfl ?_
    refine wp_alen rfl h0 (Or.inr (Or.inl hk)) ?_
    refine wp_icmp_ge rfl (fun c2 => ?_) (fun c2 => ?_)
    · skip
      refine wp_lconst rfl ?_
      exact wp_lret rfl ⟨_, rfl, (ca_ge c1 c2 hl).symm, rfl⟩
    · 
      obtain q | q | ⟨j, hj, rfl⟩ := pk_ix i hl
      · exact absurd q c1
      · exact absurd q c2
      refine wp_aload0 rfl ?_
      refine wp_iload1 rfl ?_
      refine wp_lald j rfl hk hj (by omega) rfl ?_
      refine wp_goto rfl ?_
      exact wp_lret rfl ⟨_, rfl, (ca_in hj (by omega)).symm, rfl⟩
theorem Cells_put_ok {h : Hp_} {a : Nat} {i x : Int32} (hk : hp_kd h a = 1) (h0 : a ≠ 0) (hl : hp_ln h a < 2 ^ 31) : cV 1 mn_Cells_put [.ref a, .int i, .int x] h (fun h' => h' = hp_rI h a (cp_ (hp_I h a) (hp_ln h a) i x)) := by
  refine cq_in (q := mi_Cells_put) (L := [some (.ref a), some (.int i), some (.int x)]) rfl (Nat.le_of_ble_eq_true rfl) rfl ?_
  show wq _ tb_Cells_put none 0 _ _ _ _
  refine wp_iload1 rfl ?_
  refine wp_if_lt rfl (fun c1 => ?_) (fun c1 => ?_)
  · skip
    exact wp_vret rfl ⟨rfl, by rw [cp_neg c1, hp_rI_self]⟩
  · skip
    refine wp_iload1 rfl ?_
    refine wp_aload0 rfl ?_
    refine wp_alen rfl h0 (Or.inl hk) ?_
    refine wp_icmp_ge rfl (fun c2 => ?_) (fun c2 => ?_)
    · skip
      exact wp_vret rfl ⟨rfl, by rw [cp_ge c1 c2 hl, hp_rI_self]⟩
    · 
      obtain q | q | ⟨j, hj, rfl⟩ := pk_ix i hl
      · exact absurd q c1
      · exact absurd q c2
      refine wp_aload0 rfl ?_
      refine wp_iload1 rfl ?_
      refine wp_iload2 rfl ?_
      refine wp_iast j rfl hk hj (by omega) rfl ?_
      exact wp_vret rfl ⟨rfl, by rw [cp_in hj (by omega)]⟩
theorem Cells_putLong_ok {h : Hp_} {a : Nat} {i : Int32} {x : Int64} (hk : hp_kd h a = 2) (h0 : a ≠ 0) (hl : hp_ln h a < 2 ^ 31) : cV 1 mn_Cells_putLong [.ref a, .int i, .long x] h (fun h' => h' = hp_rJ h a (cp_ (hp_J h a) (hp_ln h a) i x)) := by
  refine cq_in (q := mi_Cells_putLong) (L := [some (.ref a), some (.int i), some (.long x), none]) rfl (Nat.le_of_ble_eq_true rfl) rfl ?_
  show wq _ tb_Cells_putLong none 0 _ _ _ _
  refine wp_iload1 rfl ?_
  refine wp_if_lt rfl (fun c1 => ?_) (fun c1 => ?_)
  · skip
    exact wp_vret rfl ⟨rfl, by rw [cp_neg c1, hp_rJ_self]⟩
  · skip
    refine wp_iload1 rfl ?_
    refine wp_aload0 rfl ?_
    refine wp_alen rfl h0 (Or.inr (Or.inl hk)) ?_
    refine wp_icmp_ge rfl (fun c2 => ?_) (fun c2 => ?_)
    · skip
      exact wp_vret rfl ⟨rfl, by rw [cp_ge c1 c2 hl, hp_rJ_self]⟩
    · 
      obtain q | q | ⟨j, hj, rfl⟩ := pk_ix i hl
      · exact absurd q c1
      · exact absurd q c2
      refine wp_aload0 rfl ?_
      refine wp_iload1 rfl ?_
      refine wp_lload2 rfl ?_
      refine wp_last j rfl hk hj (by omega) rfl ?_
      exact wp_vret rfl ⟨rfl, by rw [cp_in hj (by omega)]⟩
theorem Cells_atN_ok {h : Hp_} {a m j : Nat} (hk : hp_kd h a = 1) (h0 : a ≠ 0) (hm : hp_ln h a = m) (hj : j < m) (hb : m < 2 ^ 31) : cI 1 mn_Cells_at [.ref a, .int (nI j)] h (fun x h' => x = hp_I h a j ∧ h' = h) := by
  refine cI_post (Cells_at_ok hk h0 (by omega)) ?_
  rintro x h' ⟨e1, e2⟩
  exact ⟨by rw [e1, hm, ca_in hj (by omega)], e2⟩
theorem Cells_longAtN_ok {h : Hp_} {a m j : Nat} (hk : hp_kd h a = 2) (h0 : a ≠ 0) (hm : hp_ln h a = m) (hj : j < m) (hb : m < 2 ^ 31) : cJ 1 mn_Cells_longAt [.ref a, .int (nI j)] h (fun x h' => x = hp_J h a j ∧ h' = h) := by
  refine cJ_post (Cells_longAt_ok hk h0 (by omega)) ?_
  rintro x h' ⟨e1, e2⟩
  exact ⟨by rw [e1, hm, ca_in hj (by omega)], e2⟩
theorem Cells_putN_ok {h : Hp_} {a m j : Nat} {x : Int32} (hk : hp_kd h a = 1) (h0 : a ≠ 0) (hm : hp_ln h a = m) (hj : j < m) (hb : m < 2 ^ 31) : cV 1 mn_Cells_put [.ref a, .int (nI j), .int x] h (fun h' => h' = hp_rI h a (va_up (hp_I h a) j x)) := by
  refine cV_post (Cells_put_ok hk h0 (by omega)) ?_
  rintro h' e
  rw [e, hm, cp_in hj (by omega)]
theorem Cells_putLongN_ok {h : Hp_} {a m j : Nat} {x : Int64} (hk : hp_kd h a = 2) (h0 : a ≠ 0) (hm : hp_ln h a = m) (hj : j < m) (hb : m < 2 ^ 31) : cV 1 mn_Cells_putLong [.ref a, .int (nI j), .long x] h (fun h' => h' = hp_rJ h a (va_up (hp_J h a) j x)) := by
  refine cV_post (Cells_putLong_ok hk h0 (by omega)) ?_
  rintro h' e
  rw [e, hm, cp_in hj (by omega)]
/-- bit i of bits -/
theorem Cells_isIn_ok {h : Hp_} {m i : Nat} (hm : m < 2 ^ 32) (hi : i < 32) : cI 1 mn_Cells_isIn [.int (nI m), .int (nI i)] h (fun x h' => x = bo_ (m.testBit i) ∧ h' = h) := by
  refine cq_in (q := mi_Cells_isIn) (L := [some (.int (nI m)), some (.int (nI i))]) rfl (Nat.le_of_ble_eq_true rfl) rfl ?_
  show wq _ tb_Cells_isIn none 0 _ _ _ _
  refine wp_iload0 rfl ?_
  refine wp_iload1 rfl ?_
  refine wp_iushrE (nI (m / 2 ^ i)) (nn_ushr m i hm hi) rfl ?_
  refine wp_iconst rfl ?_
  refine wp_iandE (nI (m / 2 ^ i % 2)) (nn_1 _) rfl ?_
  refine wp_iconst rfl ?_
  refine wp_icmp_neN (m / 2 ^ i % 2) (1) (by omega) (by omega) rfl (fun c1 => ?_) (fun c1 => ?_)
  · skip
    refine wp_iconst rfl ?_
    exact wp_zret rfl (by first | exact Or.inl rfl | exact Or.inr rfl) ⟨_, rfl, by rw [Nat.testBit_eq_decide_div_mod_eq, decide_eq_false c1]; rfl, rfl⟩
  · skip
    refine wp_iconst rfl ?_
    refine wp_goto rfl ?_
    exact wp_zret rfl (by first | exact Or.inl rfl | exact Or.inr rfl) ⟨_, rfl, by rw [Nat.testBit_eq_decide_div_mod_eq, decide_eq_true c1]; rfl, rfl⟩
theorem Cells_fill_ok {h : Hp_} {a m : Nat} {v : Int32} (hk : hp_kd h a = 1) (h0 : a ≠ 0) (hm : hp_ln h a = m) (hl : m < 2 ^ 30) : cV 1 mn_Cells_fill [.ref a, .int v] h (fun h' => h' = hp_rI h a (fun k => if k < m then v else hp_I h a k)) := by
  refine cq_in (q := mi_Cells_fill) (L := [some (.ref a), some (.int v), none]) rfl (Nat.le_of_ble_eq_true rfl) rfl ?_
  show wq _ tb_Cells_fill none 0 _ _ _ _
  have loop : ∀ k i, i ≤ m → m - i = k → wq 0 tb_Cells_fill none 2 [some (.ref a), some (.int v), some (.int (nI i))] [] (hp_rI h a (fun j => if j < i then v else hp_I h a j)) (fun r h' => r = none ∧ h' = hp_rI h a (fun k => if k < m then v else hp_I h a k)) := by
    intro k
    induction k with
    | zero =>
      intro i hi hk0
      obtain rfl : i = m := by omega
      refine wp_iload2 rfl ?_
      refine wp_aload0 rfl ?_
      refine wp_alenE rfl h0 (Or.inl hk) hm ?_
      refine wp_icmp_geN (i) (i) (by omega) (by omega) rfl (fun c1 => ?_) (fun c1 => ?_)
      · skip
        exact wp_vret rfl ⟨rfl, rfl⟩
      · exact absurd c1 (Nat.lt_irrefl _)
    | succ k ih =>
      intro i hi hk0
      refine wp_iload2 rfl ?_
      refine wp_aload0 rfl ?_
      refine wp_alenE rfl h0 (Or.inl hk) hm ?_
      refine wp_icmp_geN (i) (m) (by omega) (by omega) rfl (fun c1 => ?_) (fun c1 => ?_)
      · exact absurd c1 (by omega)
      · skip
        refine wp_aload0 rfl ?_
        refine wp_iload2 rfl ?_
        refine wp_iload1 rfl ?_
        refine wp_iast i rfl hk (show i < hp_ln h a by omega) (by omega) rfl ?_
        refine wp_iinc2N rfl rfl ?_
        refine wp_goto rfl ?_
        refine wq_hp ?_ (ih (i + 1) (by omega) (by omega))
        rw [sd_rI_eq, hp_rI_rI]
        refine congrArg (hp_rI h a) (funext fun j => ?_)
        unfold va_up
        dsimp only
        by_cases q : j = i
        · rw [if_pos q, if_pos (by omega)]
        · rw [if_neg q]
          by_cases q2 : j < i
          · rw [if_pos q2, if_pos (by omega)]
          · rw [if_neg q2, if_neg (by omega)]
  refine wp_iconst rfl ?_
  refine wp_istore2 rfl rfl ?_
  refine wq_hp ?_ (loop m 0 (by omega) rfl)
  rw [show (fun j => if j < 0 then v else hp_I h a j) = hp_I h a from funext fun j => if_neg (by omega), hp_rI_self]
theorem Cells_copy_ok {h : Hp_} {a b m p : Nat} (hka : hp_kd h a = 1) (hkb : hp_kd h b = 1) (ha0 : a ≠ 0) (hb0 : b ≠ 0) (hab : a ≠ b) (hm : hp_ln h a = m) (hp : hp_ln h b = p) (hmp : m = p) (hl : m < 2 ^ 30) : cV 1 mn_Cells_copy [.ref a, .ref b] h (fun h' => h' = hp_rI h b (fun k => if k < m then hp_I h a k else hp_I h b k)) := by
  subst hmp
  refine cq_in (q := mi_Cells_copy) (L := [some (.ref a), some (.ref b), none]) rfl (Nat.le_of_ble_eq_true rfl) rfl ?_
  show wq _ tb_Cells_copy none 0 _ _ _ _
  have loop : ∀ k i, i ≤ m → m - i = k → wq 0 tb_Cells_copy none 2 [some (.ref a), some (.ref b), some (.int (nI i))] [] (hp_rI h b (fun j => if j < i then hp_I h a j else hp_I h b j)) (fun r h' => r = none ∧ h' = hp_rI h b (fun k => if k < m then hp_I h a k else hp_I h b k)) := by
    intro k
    induction k with
    | zero =>
      intro i hi hk0
      obtain rfl : i = m := by omega
      refine wp_iload2 rfl ?_
      refine wp_aload0 rfl ?_
      refine wp_alenE rfl ha0 (Or.inl hka) hm ?_
      refine wp_icmp_geN (i) (i) (by omega) (by omega) rfl (fun c1 => ?_) (fun c1 => ?_)
      · skip
        exact wp_vret rfl ⟨rfl, rfl⟩
      · exact absurd c1 (Nat.lt_irrefl _)
    | succ k ih =>
      intro i hi hk0
      refine wp_iload2 rfl ?_
      refine wp_aload0 rfl ?_
      refine wp_alenE rfl ha0 (Or.inl hka) hm ?_
      refine wp_icmp_geN (i) (m) (by omega) (by omega) rfl (fun c1 => ?_) (fun c1 => ?_)
      · exact absurd c1 (by omega)
      · skip
        refine wp_iload2 rfl ?_
        refine wp_aload1 rfl ?_
        refine wp_alenE rfl hb0 (Or.inl hkb) hp ?_
        refine wp_icmp_geN (i) (m) (by omega) (by omega) rfl (fun c2 => ?_) (fun c2 => ?_)
        · exact absurd c2 (by omega)
        · skip
          refine wp_aload1 rfl ?_
          refine wp_iload2 rfl ?_
          refine wp_aload0 rfl ?_
          refine wp_iload2 rfl ?_
          refine wp_iald i rfl hka ha0 (show i < hp_ln h a by omega) (by omega) rfl ?_
          refine wp_iast i rfl hkb (show i < hp_ln h b by omega) (by omega) rfl ?_
          refine wp_iinc2N rfl rfl ?_
          refine wp_goto rfl ?_
          refine wq_hp ?_ (ih (i + 1) (by omega) (by omega))
          rw [sd_rI_eq, sd_rI_ne hab, hp_rI_rI]
          refine congrArg (hp_rI h b) (funext fun j => ?_)
          unfold va_up
          dsimp only
          by_cases q : j = i
          · rw [if_pos q, if_pos (by omega), q]
          · rw [if_neg q]
            by_cases q2 : j < i
            · rw [if_pos q2, if_pos (by omega)]
            · rw [if_neg q2, if_neg (by omega)]
  refine wp_iconst rfl ?_
  refine wp_istore2 rfl rfl ?_
  refine wq_hp ?_ (loop m 0 (by omega) rfl)
  rw [show (fun j => if j < 0 then hp_I h a j else hp_I h b j) = hp_I h b from funext fun j => if_neg (by omega), hp_rI_self]
/-- a row long enough is kept, else a new one is made -/
theorem Cells_grown_ok {h : Hp_} {a m c : Nat} (hk : hp_kd h a = 1) (h0 : a ≠ 0) (hm : hp_ln h a = m) (hl : m < 2 ^ 31) (hc : c ≤ 1000000) : cA 1 mn_Cells_grown [.ref a, .int (nI c)] h (fun x h' => (c ≤ m ∧ x = a ∧ h' = h) ∨ (m < c ∧ x = hp_nx h + 1 ∧ h' = hp_al h 1 c c)) := by
  refine cq_in (q := mi_Cells_grown) (L := [some (.ref a), some (.int (nI c))]) rfl (Nat.le_of_ble_eq_true rfl) rfl ?_
  show wq _ tb_Cells_grown none 0 _ _ _ _
  refine wp_iload1 rfl ?_
  refine wp_aload0 rfl ?_
  refine wp_alenE rfl h0 (Or.inl hk) hm ?_
  refine wp_icmp_gtN (c) (m) (by omega) (by omega) rfl (fun c1 => ?_) (fun c1 => ?_)
  · skip
    refine wp_iload1 rfl ?_
    refine wp_newa c hc rfl ?_
    exact wp_aret rfl ⟨_, rfl, Or.inr ⟨c1, rfl, rfl⟩⟩
  · skip
    refine wp_aload0 rfl ?_
    refine wp_goto rfl ?_
    exact wp_aret rfl ⟨_, rfl, Or.inl ⟨c1, rfl, rfl⟩⟩
theorem Cells_grownLong_ok {h : Hp_} {a m c : Nat} (hk : hp_kd h a = 2) (h0 : a ≠ 0) (hm : hp_ln h a = m) (hl : m < 2 ^ 31) (hc : c ≤ 1000000) : cA 1 mn_Cells_grownLong [.ref a, .int (nI c)] h (fun x h' => (c ≤ m ∧ x = a ∧ h' = h) ∨ (m < c ∧ x = hp_nx h + 1 ∧ h' = hp_al h 2 c c)) := by
  refine cq_in (q := mi_Cells_grownLong) (L := [some (.ref a), some (.int (nI c))]) rfl (Nat.le_of_ble_eq_true rfl) rfl ?_
  show wq _ tb_Cells_grownLong none 0 _ _ _ _
  refine wp_iload1 rfl ?_
  refine wp_aload0 rfl ?_
  refine wp_alenE rfl h0 (Or.inr (Or.inl hk)) hm ?_
  refine wp_icmp_gtN (c) (m) (by omega) (by omega) rfl (fun c1 => ?_) (fun c1 => ?_)
  · skip
    refine wp_iload1 rfl ?_
    refine wp_newa c hc rfl ?_
    exact wp_aret rfl ⟨_, rfl, Or.inr ⟨c1, rfl, rfl⟩⟩
  · skip
    refine wp_aload0 rfl ?_
    refine wp_goto rfl ?_
    exact wp_aret rfl ⟨_, rfl, Or.inl ⟨c1, rfl, rfl⟩⟩
-- Maps
theorem Maps_to_ok {h : Hp_} {m p : Nat} (hm : m < 2 ^ 31) (hp : p < 10) : cI 1 mn_Maps_to [.int (nI m), .int (nI p)] h (fun x h' => x = nI (m / 8 ^ p % 8) ∧ h' = h) := by
  refine cq_in (q := mi_Maps_to) (L := [some (.int (nI m)), some (.int (nI p))]) rfl (Nat.le_of_ble_eq_true rfl) rfl ?_
  show wq _ tb_Maps_to none 0 _ _ _ _
  refine wp_iload0 rfl ?_
  refine wp_iconst rfl ?_
  refine wp_iload1 rfl ?_
  refine wp_imulE (nI (3 * p)) (pk_mul 3 p) rfl ?_
  refine wp_iushrE (nI (m / 2 ^ (3 * p))) (nn_ushr m (3 * p) (by omega) (by omega)) rfl ?_
  refine wp_bipush rfl ?_
  refine wp_iandE (nI (m / 2 ^ (3 * p) % 8)) (nn_7 _) rfl ?_
  exact wp_iret rfl ⟨_, rfl, by rw [p8], rfl⟩
/-- of a packed map -/
theorem Maps_toP_ok {h : Hp_} {f : Nat → Nat} {p : Nat} (hf : ∀ i, i < 8 → f i < 8) (hp : p < 8) : cI 1 mn_Maps_to [.int (nI (pq_ f 8)), .int (nI p)] h (fun x h' => x = nI (f p) ∧ h' = h) := by
  refine cI_post (Maps_to_ok (by have := pq_lt24 hf; omega) (by omega)) ?_
  rintro x h' ⟨e1, e2⟩
  exact ⟨by rw [e1, pq_get 8 p hf hp], e2⟩
theorem Maps_with_ok {h : Hp_} {f : Nat → Nat} {p t : Nat} (hf : ∀ i, i < 8 → f i < 8) (hp : p < 8) (ht : t < 8) : cI 1 mn_Maps_with [.int (nI (pq_ f 8)), .int (nI p), .int (nI t)] h (fun x h' => x = nI (pq_ (va_up f p t) 8) ∧ h' = h) := by
  have hg : ∀ i, i < 8 → va_up f p t i < 8 := by
    intro i hi
    unfold va_up
    split
    · exact ht
    · exact hf i hi
  refine cq_in (q := mi_Maps_with) (L := [some (.int (nI (pq_ f 8))), some (.int (nI p)), some (.int (nI t))]) rfl (Nat.le_of_ble_eq_true rfl) rfl ?_
  show wq _ tb_Maps_with none 0 _ _ _ _
  refine wp_iload0 rfl ?_
  refine wp_bipush rfl ?_
  refine wp_iconst rfl ?_
  refine wp_iload1 rfl ?_
  refine wp_imulE (nI (3 * p)) (pk_mul 3 p) rfl ?_
  refine wp_ishl rfl ?_
  refine wp_iconst rfl ?_
  refine wp_ixor rfl ?_
  refine wp_iand rfl ?_
  refine wp_iload2 rfl ?_
  refine wp_bipush rfl ?_
  refine wp_iandE (nI t) (by rw [nn_7, Nat.mod_eq_of_lt ht]) rfl ?_
  refine wp_iconst rfl ?_
  refine wp_iload1 rfl ?_
  refine wp_imulE (nI (3 * p)) (pk_mul 3 p) rfl ?_
  refine wp_ishl rfl ?_
  refine wp_ior rfl ?_
  refine wp_iret rfl ?_
  refine ⟨_, rfl, ?_, rfl⟩
  refine b_ext fun i hi => ?_
  rw [b_or, b_and, b_xor, b_shl _ (by omega) _ hi, b_shl _ (by omega) _ hi, b_m1 i hi, bt_nI _ hi, bt_nI _ hi, pq_testBit hf, pq_testBit hg]
  rcases Nat.lt_or_ge i (3 * p) with q | q
  · rw [decide_eq_false (show ¬ 3 * p ≤ i by omega), sd_up_ne (show i / 3 ≠ p by omega)]
    simp
  · rw [decide_eq_true q, bt_nI _ (by omega), bt_nI _ (by omega)]
    have h7 : (7 : Nat).testBit (i - 3 * p) = decide (i - 3 * p < 3) := Nat.testBit_two_pow_sub_one 3 _
    rw [h7]
    rcases Nat.lt_or_ge i (3 * p + 3) with q2 | q2
    · rw [decide_eq_true (show i - 3 * p < 3 by omega), show i / 3 = p by omega, sd_up_eq, show i - 3 * p = i % 3 by omega, decide_eq_true (show i < 3 * 8 by omega)]
      simp
    · rw [decide_eq_false (show ¬ i - 3 * p < 3 by omega), sd_up_ne (show i / 3 ≠ p by omega)]
      have : t.testBit (i - 3 * p) = false := Nat.testBit_lt_two_pow (Nat.lt_of_lt_of_le ht (show 2 ^ 3 ≤ 2 ^ (i - 3 * p) from Nat.pow_le_pow_right (by omega) (by omega)))
      rw [this]
      simp
theorem Maps_thenOf_ok {h : Hp_} {f g : Nat → Nat} {m : Nat} (hf : ∀ i, i < 8 → f i < 8) (hg : ∀ i, i < 8 → g i < 8) (hm : m ≤ 8) : cI 2 mn_Maps_thenOf [.int (nI (pq_ f 8)), .int (nI (pq_ g 8)), .int (nI m)] h (fun x h' => x = nI (pq_ (fun p => g (f p)) m) ∧ h' = h) := by
  refine cq_in (q := mi_Maps_thenOf) (L := [some (.int (nI (pq_ f 8))), some (.int (nI (pq_ g 8))), some (.int (nI m)), none, none]) rfl (Nat.le_of_ble_eq_true rfl) rfl ?_
  show wq _ tb_Maps_thenOf none 0 _ _ _ _
  have loop : ∀ k i, i ≤ m → m - i = k → wq 1 tb_Maps_thenOf none 5 [some (.int (nI (pq_ f 8))), some (.int (nI (pq_ g 8))), some (.int (nI m)), some (.int (nI (pq_ (fun p => g (f p)) i))), some (.int (nI i))] [] h (fun r h' => ∃ x, r = some (.int x) ∧ x = nI (pq_ (fun p => g (f p)) m) ∧ h' = h) := by
    intro k
    induction k with
    | zero =>
      intro i hi hk0
      obtain rfl : i = m := by omega
      refine wp_iload4 rfl ?_
      refine wp_iload2 rfl ?_
      refine wp_icmp_geN (i) (i) (by omega) (by omega) rfl (fun c1 => ?_) (fun c1 => ?_)
      · skip
        refine wp_iload3 rfl ?_
        exact wp_iret rfl ⟨_, rfl, rfl, rfl⟩
      · exact absurd c1 (Nat.lt_irrefl _)
    | succ k ih =>
      intro i hi hk0
      refine wp_iload4 rfl ?_
      refine wp_iload2 rfl ?_
      refine wp_icmp_geN (i) (m) (by omega) (by omega) rfl (fun c1 => ?_) (fun c1 => ?_)
      · exact absurd c1 (by omega)
      · skip
        refine wp_iload3 rfl ?_
        refine wp_iload1 rfl ?_
        refine wp_iload0 rfl ?_
        refine wp_iload4 rfl ?_
        refine wp_callS2I rfl (Nat.le_of_ble_eq_true rfl) (Maps_toP_ok hf (show i < 8 by omega)) (Nat.le_of_ble_eq_true rfl) ?_
        rintro _ _ ⟨rfl, rfl⟩
        refine wp_callS2I rfl (Nat.le_of_ble_eq_true rfl) (Maps_toP_ok hg (hf i (by omega))) (Nat.le_of_ble_eq_true rfl) ?_
        rintro _ _ ⟨rfl, rfl⟩
        refine wp_iconst rfl ?_
        refine wp_iload4 rfl ?_
        refine wp_imulE (nI (3 * i)) (pk_mul 3 i) rfl ?_
        refine wp_ishlE (nI (g (f i) * 8 ^ i)) (by rw [nn_shl _ _ (by omega), p8]) rfl ?_
        refine wp_iorE (nI (pq_ (fun p => g (f p)) (i + 1))) (by rw [nn_or, pq_or (fun j hj => hg _ (hf j (by omega)))]; rfl) rfl ?_
        refine wp_istore3 rfl rfl ?_
        refine wp_iinc4N rfl rfl ?_
        refine wp_goto rfl ?_
        exact ih (i + 1) (by omega) (by omega)
  refine wp_iconst rfl ?_
  refine wp_istore3 rfl rfl ?_
  refine wp_iconst rfl ?_
  refine wp_istore4 rfl rfl ?_
  exact loop m 0 (by omega) rfl
theorem Maps_then_ok {h : Hp_} {f g : Nat → Nat} (hf : ∀ i, i < 8 → f i < 8) (hg : ∀ i, i < 8 → g i < 8) : cI 3 mn_Maps_then [.int (nI (pq_ f 8)), .int (nI (pq_ g 8))] h (fun x h' => x = nI (pq_ (fun p => g (f p)) 8) ∧ h' = h) := by
  refine cq_in (q := mi_Maps_then) (L := [some (.int (nI (pq_ f 8))), some (.int (nI (pq_ g 8)))]) rfl (Nat.le_of_ble_eq_true rfl) rfl ?_
  show wq _ tb_Maps_then none 0 _ _ _ _
  refine wp_iload0 rfl ?_
  refine wp_iload1 rfl ?_
  refine wp_bipush rfl ?_
  refine wp_callS3I rfl (Nat.le_of_ble_eq_true rfl) (Maps_thenOf_ok hf hg (Nat.le_refl 8)) (Nat.le_of_ble_eq_true rfl) ?_
  rintro _ _ ⟨rfl, rfl⟩
  exact wp_iret rfl ⟨_, rfl, rfl, rfl⟩
end
section
-- ===== Maps, the rest =====
/-- the first that is not lame, within k steps -/
def fn_ (f : Nat → Nat) (lm : Nat) : Nat → Nat → Nat
  | 0, p => p
  | k + 1, p => if lm.testBit p then fn_ f lm k (f p) else p
/-- a map as danced -/
def dz_ (f : Nat → Nat) (lm p : Nat) : Nat := if lm.testBit p then p else fn_ f lm 8 (f p)
/-- k times -/
def it_ (f : Nat → Nat) : Nat → Nat → Nat
  | 0, p => p
  | k + 1, p => f (it_ f k p)
/-- how many cross -/
def cr_ (f : Nat → Nat) (p : Nat) : Nat → Nat
  | 0 => 0
  | q + 1 => cr_ f p q + if f p < f q then 1 else 0
def iv_ (f : Nat → Nat) : Nat → Nat
  | 0 => 0
  | p + 1 => iv_ f p + cr_ f p p
theorem fn_lt {f : Nat → Nat} {lm : Nat} (hf : ∀ i, i < 8 → f i < 8) : ∀ k p, p < 8 → fn_ f lm k p < 8
  | 0, p, hp => hp
  | k + 1, p, hp => by
    unfold fn_
    split
    · exact fn_lt hf k (f p) (hf p hp)
    · exact hp
theorem dz_lt {f : Nat → Nat} {lm : Nat} (hf : ∀ i, i < 8 → f i < 8) : ∀ p, p < 8 → dz_ f lm p < 8 := by
  intro p hp
  unfold dz_
  split
  · exact hp
  · exact fn_lt hf 8 _ (hf p hp)
theorem it_lt {f : Nat → Nat} (hf : ∀ i, i < 8 → f i < 8) : ∀ k p, p < 8 → it_ f k p < 8
  | 0, p, hp => hp
  | k + 1, p, hp => hf _ (it_lt hf k p hp)
theorem cr_le (f : Nat → Nat) (p : Nat) : ∀ q, cr_ f p q ≤ q
  | 0 => Nat.le_refl _
  | q + 1 => by
    have := cr_le f p q
    unfold cr_
    split <;> omega
theorem Maps_undone_ok {h : Hp_} {f g : Nat → Nat} (hf : ∀ i, i < 8 → f i < 8) (hg : ∀ i, i < 8 → g i < 8) (hgf : ∀ i, i < 8 → g (f i) = i) (hfg : ∀ i, i < 8 → f (g i) = i) : cI 2 mn_Maps_undone [.int (nI (pq_ f 8))] h (fun x h' => x = nI (pq_ g 8) ∧ h' = h) := by
  refine cq_in (q := mi_Maps_undone) (L := [some (.int (nI (pq_ f 8))), none, none]) rfl (Nat.le_of_ble_eq_true rfl) rfl ?_
  show wq _ tb_Maps_undone none 0 _ _ _ _
  have loop : ∀ k i, i ≤ 8 → 8 - i = k → wq 1 tb_Maps_undone none 4 [some (.int (nI (pq_ f 8))), some (.int (nI (pq_ (fun q => if g q < i then g q else 0) 8))), some (.int (nI i))] [] h (fun r h' => ∃ x, r = some (.int x) ∧ x = nI (pq_ g 8) ∧ h' = h) := by
    intro k
    induction k with
    | zero =>
      intro i hi hk0
      obtain rfl : i = 8 := by omega
      refine wp_iload2 rfl ?_
      refine wp_bipush rfl ?_
      refine wp_icmp_geN (8) (8) (by omega) (by omega) rfl (fun c1 => ?_) (fun c1 => ?_)
      · skip
        refine wp_iload1 rfl ?_
        exact wp_iret rfl ⟨_, rfl, by rw [pq_cong 8 (fun i hi => if_pos (hg i hi))], rfl⟩
      · exact absurd c1 (Nat.lt_irrefl _)
    | succ k ih =>
      intro i hi hk0
      refine wp_iload2 rfl ?_
      refine wp_bipush rfl ?_
      refine wp_icmp_geN (i) (8) (by omega) (by omega) rfl (fun c1 => ?_) (fun c1 => ?_)
      · exact absurd c1 (by omega)
      · skip
        refine wp_iload1 rfl ?_
        refine wp_iload2 rfl ?_
        refine wp_iconst rfl ?_
        refine wp_iload0 rfl ?_
        refine wp_iload2 rfl ?_
        refine wp_callS2I rfl (Nat.le_of_ble_eq_true rfl) (Maps_toP_ok hf (show i < 8 by omega)) (Nat.le_of_ble_eq_true rfl) ?_
        rintro _ _ ⟨rfl, rfl⟩
        refine wp_imulE (nI (3 * f i)) (pk_mul 3 _) rfl ?_
        have hfi := hf i (by omega)
        refine wp_ishlE (nI (i * 8 ^ f i)) (by rw [nn_shl _ _ (by omega), p8]) rfl ?_
        refine wp_iorE (nI (pq_ (fun q => if g q < i + 1 then g q else 0) 8)) ?_ rfl ?_
        · rw [nn_or, pq_or_at (fun j hj => by split; exact hg j hj; decide) hfi (by rw [hgf i (by omega), if_neg (Nat.lt_irrefl _)]) (by omega)]
          refine congrArg nI (pq_cong 8 fun j hj => ?_)
          unfold va_up
          by_cases q : j = f i
          · rw [if_pos q, q, hgf i (by omega), if_pos (Nat.lt_succ_self _)]
          · rw [if_neg q]
            have : g j ≠ i := fun z => q (by rw [← z, hfg j hj])
            show (if g j < i then g j else 0) = _
            by_cases q2 : g j < i
            · rw [if_pos q2, if_pos (by omega)]
            · rw [if_neg q2, if_neg (by omega)]
        refine wp_istore1 rfl rfl ?_
        refine wp_iinc2N rfl rfl ?_
        refine wp_goto rfl ?_
        exact ih (i + 1) (by omega) (by omega)
  refine wp_iconst rfl ?_
  refine wp_istore1 rfl rfl ?_
  refine wp_iconst rfl ?_
  refine wp_istore2 rfl rfl ?_
  have := loop 8 0 (by omega) rfl
  rw [pq_cong 8 (g := fun _ => 0) (fun i hi => if_neg (Nat.not_lt_zero _))] at this
  exact this
theorem Maps_firstNotLame_ok {h : Hp_} {f : Nat → Nat} {lm p : Nat} (hf : ∀ i, i < 8 → f i < 8) (hlm : lm < 2 ^ 31) (hp : p < 8) : cI 2 mn_Maps_firstNotLame [.int (nI (pq_ f 8)), .int (nI lm), .int (nI p)] h (fun x h' => x = nI (fn_ f lm 8 p) ∧ h' = h) := by
  refine cq_in (q := mi_Maps_firstNotLame) (L := [some (.int (nI (pq_ f 8))), some (.int (nI lm)), some (.int (nI p)), none, none]) rfl (Nat.le_of_ble_eq_true rfl) rfl ?_
  show wq _ tb_Maps_firstNotLame none 0 _ _ _ _
  have loop : ∀ k i q, i ≤ 8 → 8 - i = k → q < 8 → wq 1 tb_Maps_firstNotLame none 5 [some (.int (nI (pq_ f 8))), some (.int (nI lm)), some (.int (nI p)), some (.int (nI q)), some (.int (nI i))] [] h (fun r h' => ∃ x, r = some (.int x) ∧ x = nI (fn_ f lm k q) ∧ h' = h) := by
    intro k
    induction k with
    | zero =>
      intro i q hi hk0 hq
      obtain rfl : i = 8 := by omega
      refine wp_iload4 rfl ?_
      refine wp_bipush rfl ?_
      refine wp_icmp_geN (8) (8) (by omega) (by omega) rfl (fun c1 => ?_) (fun c1 => ?_)
      · skip
        refine wp_iload3 rfl ?_
        exact wp_iret rfl ⟨_, rfl, rfl, rfl⟩
      · exact absurd c1 (Nat.lt_irrefl _)
    | succ k ih =>
      intro i q hi hk0 hq
      refine wp_iload4 rfl ?_
      refine wp_bipush rfl ?_
      refine wp_icmp_geN (i) (8) (by omega) (by omega) rfl (fun c1 => ?_) (fun c1 => ?_)
      · exact absurd c1 (by omega)
      · skip
        refine wp_iload1 rfl ?_
        refine wp_iload3 rfl ?_
        refine wp_callS2I rfl (Nat.le_of_ble_eq_true rfl) (Cells_isIn_ok (show lm < 2 ^ 32 by omega) (show q < 32 by omega)) (Nat.le_of_ble_eq_true rfl) ?_
        rintro _ _ ⟨rfl, rfl⟩
        refine wp_if_eqB rfl (fun c2 => ?_) (fun c2 => ?_)
        · skip
          refine wp_iload3 rfl ?_
          exact wp_iret rfl ⟨_, rfl, by unfold fn_; rw [c2]; rfl, rfl⟩
        · skip
          refine wp_iload0 rfl ?_
          refine wp_iload3 rfl ?_
          refine wp_callS2I rfl (Nat.le_of_ble_eq_true rfl) (Maps_toP_ok hf hq) (Nat.le_of_ble_eq_true rfl) ?_
          rintro _ _ ⟨rfl, rfl⟩
          refine wp_istore3 rfl rfl ?_
          refine wp_iinc4N rfl rfl ?_
          refine wp_goto rfl ?_
          have := ih (i + 1) (f q) (by omega) (by omega) (hf q hq)
          rw [show fn_ f lm (k + 1) q = fn_ f lm k (f q) by rw [fn_, if_pos c2]]
          exact this
  refine wp_iload2 rfl ?_
  refine wp_istore3 rfl rfl ?_
  refine wp_iconst rfl ?_
  refine wp_istore4 rfl rfl ?_
  exact loop 8 0 p (by omega) rfl hp
theorem Maps_passing_ok {h : Hp_} {f : Nat → Nat} {lm : Nat} (hf : ∀ i, i < 8 → f i < 8) (hlm : lm < 2 ^ 31) : cI 3 mn_Maps_passing [.int (nI (pq_ f 8)), .int (nI lm)] h (fun x h' => x = nI (pq_ (dz_ f lm) 8) ∧ h' = h) := by
  refine cq_in (q := mi_Maps_passing) (L := [some (.int (nI (pq_ f 8))), some (.int (nI lm)), none, none]) rfl (Nat.le_of_ble_eq_true rfl) rfl ?_
  show wq _ tb_Maps_passing none 0 _ _ _ _
  have loop : ∀ k i, i ≤ 8 → 8 - i = k → wq 2 tb_Maps_passing none 5 [some (.int (nI (pq_ f 8))), some (.int (nI lm)), some (.int (nI (pq_ (fun q => if q < i then dz_ f lm q else q) 8))), some (.int (nI i))] [] h (fun r h' => ∃ x, r = some (.int x) ∧ x = nI (pq_ (dz_ f lm) 8) ∧ h' = h) := by
    intro k
    induction k with
    | zero =>
      intro i hi hk0
      obtain rfl : i = 8 := by omega
      refine wp_iload3 rfl ?_
      refine wp_bipush rfl ?_
      refine wp_icmp_geN (8) (8) (by omega) (by omega) rfl (fun c1 => ?_) (fun c1 => ?_)
      · skip
        refine wp_iload2 rfl ?_
        exact wp_iret rfl ⟨_, rfl, by rw [pq_cong 8 (fun i hi => if_pos hi)], rfl⟩
      · exact absurd c1 (Nat.lt_irrefl _)
    | succ k ih =>
      intro i hi hk0
      have hi8 : i < 8 := by omega
      have hdz : ∀ j, j < 8 → (fun q => if q < i then dz_ f lm q else q) j < 8 := by
        intro j hj
        dsimp only
        split
        · exact dz_lt hf j hj
        · exact hj
      refine wp_iload3 rfl ?_
      refine wp_bipush rfl ?_
      refine wp_icmp_geN (i) (8) (by omega) (by omega) rfl (fun c1 => ?_) (fun c1 => ?_)
      · exact absurd c1 (by omega)
      · skip
        refine wp_iload1 rfl ?_
        refine wp_iload3 rfl ?_
        refine wp_callS2I rfl (Nat.le_of_ble_eq_true rfl) (Cells_isIn_ok (show lm < 2 ^ 32 by omega) (show i < 32 by omega)) (Nat.le_of_ble_eq_true rfl) ?_
        rintro _ _ ⟨rfl, rfl⟩
        refine wp_if_neB rfl (fun c2 => ?_) (fun c2 => ?_)
        · skip
          refine wp_iinc3N rfl rfl ?_
          refine wp_goto rfl ?_
          have := ih (i + 1) (by omega) (by omega)
          rw [pq_cong 8 (f := fun q => if q < i + 1 then dz_ f lm q else q) (g := fun q => if q < i then dz_ f lm q else q)] at this
          · exact this
          · intro j hj
            show (if j < i + 1 then dz_ f lm j else j) = (if j < i then dz_ f lm j else j)
            by_cases q : j < i
            · rw [if_pos q, if_pos (by omega)]
            · rw [if_neg q]
              by_cases q2 : j = i
              · rw [if_pos (by omega), q2, dz_, if_pos c2]
              · rw [if_neg (by omega)]
        · skip
          refine wp_iload2 rfl ?_
          refine wp_iload3 rfl ?_
          refine wp_iload0 rfl ?_
          refine wp_iload1 rfl ?_
          refine wp_iload0 rfl ?_
          refine wp_iload3 rfl ?_
          refine wp_callS2I rfl (Nat.le_of_ble_eq_true rfl) (Maps_toP_ok hf hi8) (Nat.le_of_ble_eq_true rfl) ?_
          rintro _ _ ⟨rfl, rfl⟩
          refine wp_callS3I rfl (Nat.le_of_ble_eq_true rfl) (Maps_firstNotLame_ok hf hlm (hf i hi8)) (Nat.le_of_ble_eq_true rfl) ?_
          rintro _ _ ⟨rfl, rfl⟩
          refine wp_callS3I rfl (Nat.le_of_ble_eq_true rfl) (Maps_with_ok hdz hi8 (fn_lt hf 8 _ (hf i hi8))) (Nat.le_of_ble_eq_true rfl) ?_
          rintro _ _ ⟨rfl, rfl⟩
          refine wp_istore2 rfl rfl ?_
          refine wp_iinc3N rfl rfl ?_
          refine wp_goto rfl ?_
          have := ih (i + 1) (by omega) (by omega)
          rw [pq_cong 8 (f := fun q => if q < i + 1 then dz_ f lm q else q) (g := va_up (fun q => if q < i then dz_ f lm q else q) i (fn_ f lm 8 (f i)))] at this
          · exact this
          · intro j hj
            unfold va_up
            show (if j < i + 1 then dz_ f lm j else j) = (if j = i then _ else (if j < i then dz_ f lm j else j))
            by_cases q2 : j = i
            · rw [if_pos (by omega), if_pos q2, q2, dz_, if_neg (by rw [c2]; decide)]
            · rw [if_neg q2]
              by_cases q : j < i
              · rw [if_pos q, if_pos (by omega)]
              · rw [if_neg q, if_neg (by omega)]
  refine wp_ldc rfl ?_
  refine wp_istore2 rfl rfl ?_
  refine wp_iconst rfl ?_
  refine wp_istore3 rfl rfl ?_
  have := loop 8 0 (by omega) rfl
  rw [pq_cong 8 (g := fun q => q) (fun i hi => if_neg (Nat.not_lt_zero _))] at this
  exact this
theorem Maps_timesTillStays_ok {h : Hp_} {f : Nat → Nat} {N : Nat} (hf : ∀ i, i < 8 → f i < 8) (h1 : 1 ≤ N) (hN : N < 1000000) (hid : ∀ i, i < 8 → it_ f N i = i) (hmin : ∀ k, 1 ≤ k → k < N → ∃ i, i < 8 ∧ it_ f k i ≠ i) : cI 4 mn_Maps_timesTillStays [.int (nI (pq_ f 8))] h (fun x h' => x = nI N ∧ h' = h) := by
  refine cq_in (q := mi_Maps_timesTillStays) (L := [some (.int (nI (pq_ f 8))), none, none]) rfl (Nat.le_of_ble_eq_true rfl) rfl ?_
  show wq _ tb_Maps_timesTillStays none 0 _ _ _ _
  have hid8 : ∀ i, i < 8 → (fun q : Nat => q) i < 8 := fun i hi => hi
  have hst : (16434824 : Nat) = pq_ (fun q => q) 8 := by decide +kernel
  have loop : ∀ k i, 1 ≤ i → i ≤ N → N - i = k → wq 3 tb_Maps_timesTillStays none 4 [some (.int (nI (pq_ f 8))), some (.int (nI i)), some (.int (nI (pq_ (it_ f i) 8)))] [] h (fun r h' => ∃ x, r = some (.int x) ∧ x = nI N ∧ h' = h) := by
    intro k
    induction k with
    | zero =>
      intro i hi0 hi hk0
      obtain rfl : i = N := by omega
      refine wp_iload2 rfl ?_
      refine wp_ldc rfl ?_
      have e := pq_cong 8 hid
      have := pq_lt24 (it_lt hf i)
      refine wp_icmp_eqN (pq_ (it_ f i) 8) (16434824) (by omega) (by omega) rfl (fun c1 => ?_) (fun c1 => ?_)
      · skip
        refine wp_iload1 rfl ?_
        exact wp_iret rfl ⟨_, rfl, rfl, rfl⟩
      · exact absurd (e.trans hst.symm) c1
    | succ k ih =>
      intro i hi0 hi hk0
      refine wp_iload2 rfl ?_
      refine wp_ldc rfl ?_
      have := pq_lt24 (it_lt hf i)
      refine wp_icmp_eqN (pq_ (it_ f i) 8) (16434824) (by omega) (by omega) rfl (fun c1 => ?_) (fun c1 => ?_)
      · 
        obtain ⟨j, hj, hne⟩ := hmin i hi0 (by omega)
        exact absurd (pq_inj (it_lt hf i) hid8 (c1.trans hst) j hj) hne
      · skip
        refine wp_iload1 rfl ?_
        refine wp_ldc rfl ?_
        refine wp_icmp_geN (i) (1000000) (by omega) (by omega) rfl (fun c2 => ?_) (fun c2 => ?_)
        · exact absurd c2 (by omega)
        · skip
          refine wp_iload2 rfl ?_
          refine wp_iload0 rfl ?_
          refine wp_callS2I rfl (Nat.le_of_ble_eq_true rfl) (Maps_then_ok (it_lt hf i) hf) (Nat.le_of_ble_eq_true rfl) ?_
          rintro _ _ ⟨rfl, rfl⟩
          refine wp_istore2 rfl rfl ?_
          refine wp_iinc1N rfl rfl ?_
          refine wp_goto rfl ?_
          exact ih (i + 1) (by omega) (by omega) (by omega)
  refine wp_iconst rfl ?_
  refine wp_istore1 rfl rfl ?_
  refine wp_iload0 rfl ?_
  refine wp_istore2 rfl rfl ?_
  have := loop (N - 1) 1 (Nat.le_refl _) h1 rfl
  exact this
theorem Maps_isEven_ok {h : Hp_} {f : Nat → Nat} (hf : ∀ i, i < 8 → f i < 8) : cI 2 mn_Maps_isEven [.int (nI (pq_ f 8))] h (fun x h' => x = bo_ (decide (iv_ f 8 % 2 = 0)) ∧ h' = h) := by
  refine cq_in (q := mi_Maps_isEven) (L := [some (.int (nI (pq_ f 8))), none, none, none]) rfl (Nat.le_of_ble_eq_true rfl) rfl ?_
  show wq _ tb_Maps_isEven none 0 _ _ _ _
  have hiv : ∀ p, p ≤ 8 → iv_ f p ≤ 8 * p := by
    intro p
    induction p with
    | zero => intro _; exact Nat.le_refl _
    | succ p ih =>
      intro hp
      have := ih (by omega)
      have := cr_le f p p
      unfold iv_
      omega
  have loop : ∀ k i (a3 : Option Value), i ≤ 8 → 8 - i = k → wq 1 tb_Maps_isEven none 4 [some (.int (nI (pq_ f 8))), some (.int (nI (iv_ f i))), some (.int (nI i)), a3] [] h (fun r h' => ∃ x, r = some (.int x) ∧ x = bo_ (decide (iv_ f 8 % 2 = 0)) ∧ h' = h) := by
    intro k
    induction k with
    | zero =>
      intro i a3 hi hk0
      obtain rfl : i = 8 := by omega
      have := hiv 8 (by omega)
      refine wp_iload2 rfl ?_
      refine wp_bipush rfl ?_
      refine wp_icmp_geN (8) (8) (by omega) (by omega) rfl (fun c1 => ?_) (fun c1 => ?_)
      · skip
        refine wp_iload1 rfl ?_
        refine wp_iconst rfl ?_
        refine wp_iandE (nI (iv_ f 8 % 2)) (nn_1 _) rfl ?_
        refine wp_if_neN (iv_ f 8 % 2) (0) (by omega) (by omega) rfl (fun c2 => ?_) (fun c2 => ?_)
        · skip
          refine wp_iconst rfl ?_
          exact wp_zret rfl (by first | exact Or.inl rfl | exact Or.inr rfl) ⟨_, rfl, by rw [decide_eq_false c2]; rfl, rfl⟩
        · skip
          refine wp_iconst rfl ?_
          refine wp_goto rfl ?_
          exact wp_zret rfl (by first | exact Or.inl rfl | exact Or.inr rfl) ⟨_, rfl, by rw [decide_eq_true c2]; rfl, rfl⟩
      · exact absurd c1 (Nat.lt_irrefl _)
    | succ k ih =>
      intro i a3 hi hk0
      refine wp_iload2 rfl ?_
      refine wp_bipush rfl ?_
      refine wp_icmp_geN (i) (8) (by omega) (by omega) rfl (fun c1 => ?_) (fun c1 => ?_)
      · exact absurd c1 (by omega)
      · skip
        refine wp_iconst rfl ?_
        refine wp_istore3 rfl rfl ?_
        have inner : ∀ k2 q, q ≤ i → i - q = k2 → wq 1 tb_Maps_isEven none 12 [some (.int (nI (pq_ f 8))), some (.int (nI (iv_ f i + cr_ f i q))), some (.int (nI i)), some (.int (nI q))] [] h (fun r h' => ∃ x, r = some (.int x) ∧ x = bo_ (decide (iv_ f 8 % 2 = 0)) ∧ h' = h) := by
          intro k2
          induction k2 with
          | zero =>
            intro q hq hk2
            obtain rfl : q = i := by omega
            refine wp_iload3 rfl ?_
            refine wp_iload2 rfl ?_
            refine wp_icmp_geN (q) (q) (by omega) (by omega) rfl (fun c2 => ?_) (fun c2 => ?_)
            · skip
              refine wp_iinc2N rfl rfl ?_
              refine wp_goto rfl ?_
              exact ih (q + 1) _ (by omega) (by omega)
            · exact absurd c2 (Nat.lt_irrefl _)
          | succ k2 ih2 =>
            intro q hq hk2
            refine wp_iload3 rfl ?_
            refine wp_iload2 rfl ?_
            refine wp_icmp_geN (q) (i) (by omega) (by omega) rfl (fun c2 => ?_) (fun c2 => ?_)
            · exact absurd c2 (by omega)
            · skip
              refine wp_iload0 rfl ?_
              refine wp_iload3 rfl ?_
              refine wp_callS2I rfl (Nat.le_of_ble_eq_true rfl) (Maps_toP_ok hf (show q < 8 by omega)) (Nat.le_of_ble_eq_true rfl) ?_
              rintro _ _ ⟨rfl, rfl⟩
              refine wp_iload0 rfl ?_
              refine wp_iload2 rfl ?_
              refine wp_callS2I rfl (Nat.le_of_ble_eq_true rfl) (Maps_toP_ok hf (show i < 8 by omega)) (Nat.le_of_ble_eq_true rfl) ?_
              rintro _ _ ⟨rfl, rfl⟩
              have h1 := hf q (by omega)
              have h2 := hf i (by omega)
              refine wp_icmp_leN (f q) (f i) (by omega) (by omega) rfl (fun c3 => ?_) (fun c3 => ?_)
              · skip
                refine wp_iinc3N rfl rfl ?_
                refine wp_goto rfl ?_
                have := ih2 (q + 1) (by omega) (by omega)
                rw [show cr_ f i (q + 1) = cr_ f i q by rw [cr_, if_neg (by omega), Nat.add_zero]] at this
                exact this
              · skip
                refine wp_iinc1N rfl rfl ?_
                refine wp_iinc3N rfl rfl ?_
                refine wp_goto rfl ?_
                have := ih2 (q + 1) (by omega) (by omega)
                rw [show cr_ f i (q + 1) = cr_ f i q + 1 by rw [cr_, if_pos c3]] at this
                exact this
        exact inner i 0 (by omega) rfl
  refine wp_iconst rfl ?_
  refine wp_istore1 rfl rfl ?_
  refine wp_iconst rfl ?_
  refine wp_istore2 rfl rfl ?_
  exact loop 8 0 none (by omega) rfl
end
section
-- ===== shapes; Notes, Pad, Memo =====
def S_Notes (h : Hp_) (o : Nat) : Prop := hp_kd h o = 13 ∧ hp_R h o 0 = o + 1 ∧ hp_kd h (o + 1) = 1 ∧ hp_ln h (o + 1) = 6
def S_Pad (h : Hp_) (o : Nat) : Prop := hp_kd h o = 11 ∧ hp_R h o 0 = o + 1 ∧ hp_kd h (o + 1) = 1 ∧ hp_ln h (o + 1) = 30
def S_Memo (h : Hp_) (o : Nat) : Prop := hp_kd h o = 17 ∧ hp_R h o 0 = o + 1 ∧ hp_kd h (o + 1) = 1 ∧ hp_ln h (o + 1) = 20
theorem Notes_kd {h : Hp_} {o : Nat} (S : S_Notes h o) : hp_kd h o = 13 := S.1
theorem Notes_R0 {h : Hp_} {o : Nat} (S : S_Notes h o) : hp_R h o 0 = o + 1 := S.2.1
theorem Notes_k0 {h : Hp_} {o : Nat} (S : S_Notes h o) : hp_kd h (o + 1) = 1 := S.2.2.1
theorem Notes_n0 {h : Hp_} {o : Nat} (S : S_Notes h o) : hp_ln h (o + 1) = 6 := S.2.2.2
theorem Pad_kd {h : Hp_} {o : Nat} (S : S_Pad h o) : hp_kd h o = 11 := S.1
theorem Pad_R0 {h : Hp_} {o : Nat} (S : S_Pad h o) : hp_R h o 0 = o + 1 := S.2.1
theorem Pad_k0 {h : Hp_} {o : Nat} (S : S_Pad h o) : hp_kd h (o + 1) = 1 := S.2.2.1
theorem Pad_n0 {h : Hp_} {o : Nat} (S : S_Pad h o) : hp_ln h (o + 1) = 30 := S.2.2.2
theorem Memo_kd {h : Hp_} {o : Nat} (S : S_Memo h o) : hp_kd h o = 17 := S.1
theorem Memo_R0 {h : Hp_} {o : Nat} (S : S_Memo h o) : hp_R h o 0 = o + 1 := S.2.1
theorem Memo_k0 {h : Hp_} {o : Nat} (S : S_Memo h o) : hp_kd h (o + 1) = 1 := S.2.2.1
theorem Memo_n0 {h : Hp_} {o : Nat} (S : S_Memo h o) : hp_ln h (o + 1) = 20 := S.2.2.2
-- Notes
/-- a note in one number -/
def mk_ (a g p : Nat) : Nat := 64 * a + 8 * g + p
theorem mk_or {a g p : Nat} (hg : g < 8) (hp : p < 8) : a * 2 ^ 6 ||| g * 2 ^ 3 ||| p = mk_ a g p := by
  have h1 : g * 2 ^ 3 < 2 ^ 6 := by omega
  have e1 : a * 2 ^ 6 ||| g * 2 ^ 3 = 2 ^ 6 * a + g * 2 ^ 3 := by rw [Nat.mul_comm a]; exact (Nat.two_pow_add_eq_or_of_lt h1 a).symm
  have e2 : 2 ^ 6 * a + g * 2 ^ 3 = 2 ^ 3 * (8 * a + g) := by omega
  rw [e1, e2]
  rw [show 2 ^ 3 * (8 * a + g) ||| p = 2 ^ 3 * (8 * a + g) + p from (Nat.two_pow_add_eq_or_of_lt (show p < 2 ^ 3 by omega) _).symm]
  unfold mk_
  omega
theorem Notes_mark_ok {h : Hp_} {o i : Nat} (S : S_Notes h o) (hi : i < 6) : cI 2 mn_Notes_mark [.ref o, .int (nI i)] h (fun x h' => x = hp_I h (o + 1) i ∧ h' = h) := by
  refine cq_in (q := mi_Notes_mark) (L := [some (.ref o), some (.int (nI i))]) rfl (Nat.le_of_ble_eq_true rfl) rfl ?_
  show wq _ tb_Notes_mark none 0 _ _ _ _
  refine wp_aload0 rfl ?_
  refine wp_getR rfl (Notes_kd S) (Notes_R0 S) (by first | decide | omega) ?_
  refine wp_iload1 rfl ?_
  refine wp_callS2I rfl (Nat.le_of_ble_eq_true rfl) (Cells_at_ok (Notes_k0 S) (by omega) (by rw [Notes_n0 S]; decide)) (Nat.le_of_ble_eq_true rfl) ?_
  rintro _ _ ⟨rfl, rfl⟩
  rw [Notes_n0 S, ca_in hi (by omega)]
  exact wp_iret rfl ⟨_, rfl, rfl, rfl⟩
theorem Notes_amount_ok {h : Hp_} {o i a g p : Nat} (S : S_Notes h o) (hi : i < 6) (hm : hp_I h (o + 1) i = nI (mk_ a g p)) (ha : a < 1000) (hg : g < 8) (hp : p < 8) : cI 3 mn_Notes_amount [.ref o, .int (nI i)] h (fun x h' => x = nI a ∧ h' = h) := by
  refine cq_in (q := mi_Notes_amount) (L := [some (.ref o), some (.int (nI i))]) rfl (Nat.le_of_ble_eq_true rfl) rfl ?_
  show wq _ tb_Notes_amount none 0 _ _ _ _
  refine wp_aload0 rfl ?_
  refine wp_iload1 rfl ?_
  refine wp_callV1I rfl (Nat.le_of_ble_eq_true rfl) (Notes_kd S) (Notes_mark_ok S hi) (Nat.le_of_ble_eq_true rfl) ?_
  rintro _ _ ⟨rfl, rfl⟩
  rw [hm]
  refine wp_bipush rfl ?_
  have hb : mk_ a g p < 2 ^ 31 := by unfold mk_; omega
  refine wp_iushrE (nI a) (by rw [nn_ushr _ _ (by omega) (by decide)]; exact congrArg nI (by unfold mk_; omega)) rfl ?_
  exact wp_iret rfl ⟨_, rfl, rfl, rfl⟩
theorem Notes_good_ok {h : Hp_} {o i a g p : Nat} (S : S_Notes h o) (hi : i < 6) (hm : hp_I h (o + 1) i = nI (mk_ a g p)) (ha : a < 1000) (hg : g < 8) (hp : p < 8) : cI 3 mn_Notes_good [.ref o, .int (nI i)] h (fun x h' => x = nI g ∧ h' = h) := by
  refine cq_in (q := mi_Notes_good) (L := [some (.ref o), some (.int (nI i))]) rfl (Nat.le_of_ble_eq_true rfl) rfl ?_
  show wq _ tb_Notes_good none 0 _ _ _ _
  refine wp_aload0 rfl ?_
  refine wp_iload1 rfl ?_
  refine wp_callV1I rfl (Nat.le_of_ble_eq_true rfl) (Notes_kd S) (Notes_mark_ok S hi) (Nat.le_of_ble_eq_true rfl) ?_
  rintro _ _ ⟨rfl, rfl⟩
  rw [hm]
  refine wp_iconst rfl ?_
  have hb : mk_ a g p < 2 ^ 31 := by unfold mk_; omega
  refine wp_iushrE (nI (8 * a + g)) (by rw [nn_ushr _ _ (by omega) (by decide)]; exact congrArg nI (by unfold mk_; omega)) rfl ?_
  refine wp_bipush rfl ?_
  refine wp_iandE (nI g) (by rw [nn_7]; exact congrArg nI (by omega)) rfl ?_
  exact wp_iret rfl ⟨_, rfl, rfl, rfl⟩
theorem Notes_place_ok {h : Hp_} {o i a g p : Nat} (S : S_Notes h o) (hi : i < 6) (hm : hp_I h (o + 1) i = nI (mk_ a g p)) (hp : p < 8) : cI 3 mn_Notes_place [.ref o, .int (nI i)] h (fun x h' => x = nI p ∧ h' = h) := by
  refine cq_in (q := mi_Notes_place) (L := [some (.ref o), some (.int (nI i))]) rfl (Nat.le_of_ble_eq_true rfl) rfl ?_
  show wq _ tb_Notes_place none 0 _ _ _ _
  refine wp_aload0 rfl ?_
  refine wp_iload1 rfl ?_
  refine wp_callV1I rfl (Nat.le_of_ble_eq_true rfl) (Notes_kd S) (Notes_mark_ok S hi) (Nat.le_of_ble_eq_true rfl) ?_
  rintro _ _ ⟨rfl, rfl⟩
  rw [hm]
  refine wp_bipush rfl ?_
  refine wp_iandE (nI p) (by rw [nn_7]; exact congrArg nI (by unfold mk_; omega)) rfl ?_
  exact wp_iret rfl ⟨_, rfl, rfl, rfl⟩
theorem Notes_add_ok {h : Hp_} {o c a g p : Nat} (S : S_Notes h o) (hc : hp_I h o 1 = nI c) (h6 : c < 6) (hg : g < 8) (hp : p < 8) : cV 2 mn_Notes_add [.ref o, .int (nI a), .int (nI g), .int (nI p)] h (fun h' => h' = hp_rI (hp_rI h (o + 1) (va_up (hp_I h (o + 1)) c (nI (mk_ a g p)))) o (va_up (hp_I h o) 1 (nI (c + 1)))) := by
  refine cq_in (q := mi_Notes_add) (L := [some (.ref o), some (.int (nI a)), some (.int (nI g)), some (.int (nI p))]) rfl (Nat.le_of_ble_eq_true rfl) rfl ?_
  show wq _ tb_Notes_add none 0 _ _ _ _
  refine wp_aload0 rfl ?_
  refine wp_getI rfl (Notes_kd S) ?_
  refine wp_bipush rfl ?_
  rw [hc]
  refine wp_icmp_geN (c) (6) (by omega) (by omega) rfl (fun c1 => ?_) (fun c1 => ?_)
  · exact absurd c1 (by omega)
  · skip
    refine wp_aload0 rfl ?_
    refine wp_getR rfl (Notes_kd S) (Notes_R0 S) (by first | decide | omega) ?_
    refine wp_aload0 rfl ?_
    refine wp_getI rfl (Notes_kd S) ?_
    rw [hc]
    refine wp_iload1 rfl ?_
    refine wp_bipush rfl ?_
    refine wp_ishlE (nI (a * 2 ^ 6)) (nn_shl a 6 (by decide)) rfl ?_
    refine wp_iload2 rfl ?_
    refine wp_iconst rfl ?_
    refine wp_ishlE (nI (g * 2 ^ 3)) (nn_shl g 3 (by decide)) rfl ?_
    refine wp_iorE (nI (a * 2 ^ 6 ||| g * 2 ^ 3)) (nn_or _ _) rfl ?_
    refine wp_iload3 rfl ?_
    refine wp_iorE (nI (mk_ a g p)) (by rw [nn_or, mk_or hg hp]) rfl ?_
    refine wp_callS3V rfl (Nat.le_of_ble_eq_true rfl) (Cells_put_ok (Notes_k0 S) (by omega) (by rw [Notes_n0 S]; decide)) (Nat.le_of_ble_eq_true rfl) ?_
    rintro _ rfl
    rw [Notes_n0 S, cp_in h6 (by omega)]
    refine wp_aload0 rfl ?_
    refine wp_dup rfl ?_
    refine wp_getI rfl (Notes_kd S) ?_
    rw [sd_rI_ne (show o ≠ o + 1 by omega), hc]
    refine wp_iconst rfl ?_
    refine wp_iaddE (nI (c + 1)) (nI_add c 1) rfl ?_
    refine wp_putI rfl (Notes_kd S) ?_
    rw [sd_rI_ne (show o ≠ o + 1 by omega)]
    exact wp_vret rfl ⟨rfl, rfl⟩
theorem Notes_take_ok {h : Hp_} {o q : Nat} (S : S_Notes h o) (S2 : S_Notes h q) (hne : o + 1 < q ∨ q + 1 < o) : cV 2 mn_Notes_take [.ref o, .ref q] h (fun h' => h' = hp_rI (hp_rI h (o + 1) (fun k => if k < 6 then hp_I h (q + 1) k else hp_I h (o + 1) k)) o (va_up (hp_I h o) 1 (hp_I h q 1))) := by
  refine cq_in (q := mi_Notes_take) (L := [some (.ref o), some (.ref q)]) rfl (Nat.le_of_ble_eq_true rfl) rfl ?_
  show wq _ tb_Notes_take none 0 _ _ _ _
  refine wp_aload1 rfl ?_
  refine wp_getR rfl (Notes_kd S2) (Notes_R0 S2) (by first | decide | omega) ?_
  refine wp_aload0 rfl ?_
  refine wp_getR rfl (Notes_kd S) (Notes_R0 S) (by first | decide | omega) ?_
  refine wp_callS2V rfl (Nat.le_of_ble_eq_true rfl) (Cells_copy_ok (Notes_k0 S2) (Notes_k0 S) (by omega) (by omega) (by omega) (Notes_n0 S2) (Notes_n0 S) rfl (by decide)) (Nat.le_of_ble_eq_true rfl) ?_
  rintro _ rfl
  refine wp_aload0 rfl ?_
  refine wp_aload1 rfl ?_
  refine wp_getI rfl (Notes_kd S2) ?_
  refine wp_putI rfl (Notes_kd S) ?_
  rw [sd_rI_ne (show o ≠ o + 1 by omega), sd_rI_ne (show q ≠ o + 1 by omega)]
  exact wp_vret rfl ⟨rfl, rfl⟩
-- Pad
theorem Pad_signAt_ok {h : Hp_} {o i : Nat} (S : S_Pad h o) (hi : i < 30) : cI 2 mn_Pad_signAt [.ref o, .int (nI i)] h (fun x h' => x = hp_I h (o + 1) i ∧ h' = h) := by
  refine cq_in (q := mi_Pad_signAt) (L := [some (.ref o), some (.int (nI i))]) rfl (Nat.le_of_ble_eq_true rfl) rfl ?_
  show wq _ tb_Pad_signAt none 0 _ _ _ _
  refine wp_aload0 rfl ?_
  refine wp_getR rfl (Pad_kd S) (Pad_R0 S) (by first | decide | omega) ?_
  refine wp_iload1 rfl ?_
  refine wp_callS2I rfl (Nat.le_of_ble_eq_true rfl) (Cells_at_ok (Pad_k0 S) (by omega) (by rw [Pad_n0 S]; decide)) (Nat.le_of_ble_eq_true rfl) ?_
  rintro _ _ ⟨rfl, rfl⟩
  rw [Pad_n0 S, ca_in hi (by omega)]
  exact wp_iret rfl ⟨_, rfl, rfl, rfl⟩
theorem Pad_clear_ok {h : Hp_} {o : Nat} (S : S_Pad h o) : cV 1 mn_Pad_clear [.ref o] h (fun h' => h' = hp_rI h o (va_up (hp_I h o) 1 (nI 0))) := by
  refine cq_in (q := mi_Pad_clear) (L := [some (.ref o)]) rfl (Nat.le_of_ble_eq_true rfl) rfl ?_
  show wq _ tb_Pad_clear none 0 _ _ _ _
  refine wp_aload0 rfl ?_
  refine wp_iconst rfl ?_
  refine wp_putI rfl (Pad_kd S) ?_
  exact wp_vret rfl ⟨rfl, rfl⟩
theorem Pad_write_ok {h : Hp_} {o c : Nat} {x : Int32} (S : S_Pad h o) (hc : hp_I h o 1 = nI c) (h30 : c < 30) : cV 2 mn_Pad_write [.ref o, .int x] h (fun h' => h' = hp_rI (hp_rI h (o + 1) (va_up (hp_I h (o + 1)) c x)) o (va_up (hp_I h o) 1 (nI (c + 1)))) := by
  refine cq_in (q := mi_Pad_write) (L := [some (.ref o), some (.int x)]) rfl (Nat.le_of_ble_eq_true rfl) rfl ?_
  show wq _ tb_Pad_write none 0 _ _ _ _
  refine wp_aload0 rfl ?_
  refine wp_getI rfl (Pad_kd S) ?_
  refine wp_bipush rfl ?_
  rw [hc]
  refine wp_icmp_geN (c) (30) (by omega) (by omega) rfl (fun c1 => ?_) (fun c1 => ?_)
  · exact absurd c1 (by omega)
  · skip
    refine wp_aload0 rfl ?_
    refine wp_getR rfl (Pad_kd S) (Pad_R0 S) (by first | decide | omega) ?_
    refine wp_aload0 rfl ?_
    refine wp_getI rfl (Pad_kd S) ?_
    refine wp_iload1 rfl ?_
    rw [hc]
    refine wp_callS3V rfl (Nat.le_of_ble_eq_true rfl) (Cells_put_ok (Pad_k0 S) (by omega) (by rw [Pad_n0 S]; decide)) (Nat.le_of_ble_eq_true rfl) ?_
    rintro _ rfl
    rw [Pad_n0 S, cp_in h30 (by omega)]
    refine wp_aload0 rfl ?_
    refine wp_dup rfl ?_
    refine wp_getI rfl (Pad_kd S) ?_
    rw [sd_rI_ne (show o ≠ o + 1 by omega), hc]
    refine wp_iconst rfl ?_
    refine wp_iaddE (nI (c + 1)) (nI_add c 1) rfl ?_
    refine wp_putI rfl (Pad_kd S) ?_
    rw [sd_rI_ne (show o ≠ o + 1 by omega)]
    exact wp_vret rfl ⟨rfl, rfl⟩
-- Memo
theorem Memo_begin_ok {h : Hp_} {o : Nat} (S : S_Memo h o) : cV 1 mn_Memo_begin [.ref o] h (fun h' => h' = hp_rI h o (va_up (hp_I h o) 1 (nI 0))) := by
  refine cq_in (q := mi_Memo_begin) (L := [some (.ref o)]) rfl (Nat.le_of_ble_eq_true rfl) rfl ?_
  show wq _ tb_Memo_begin none 0 _ _ _ _
  refine wp_aload0 rfl ?_
  refine wp_iconst rfl ?_
  refine wp_putI rfl (Memo_kd S) ?_
  exact wp_vret rfl ⟨rfl, rfl⟩
/-- a memo's rows: parts P, count c, does it stand; everything else is h's -/
def mm_ (h : Hp_) (o : Nat) (P : Nat → Int32) (c : Nat) (s : Bool) : Hp_ := hp_rI (hp_rI h (o + 1) P) o (va_up (va_up (hp_I h o) 1 (nI c)) 2 (bo_ s))
theorem mm_I0 (h : Hp_) (o : Nat) (P : Nat → Int32) (c : Nat) (s : Bool) : hp_I (mm_ h o P c s) o = va_up (va_up (hp_I h o) 1 (nI c)) 2 (bo_ s) := sd_rI_eq
theorem mm_I1 (h : Hp_) (o : Nat) (P : Nat → Int32) (c : Nat) (s : Bool) : hp_I (mm_ h o P c s) (o + 1) = P := by
  unfold mm_
  rw [sd_rI_ne (by omega), sd_rI_eq]
theorem mm_S {h : Hp_} {o : Nat} {P : Nat → Int32} {c : Nat} {s : Bool} (S : S_Memo h o) : S_Memo (mm_ h o P c s) o := S
theorem mm_set (h : Hp_) (o : Nat) (P P2 : Nat → Int32) (c c2 : Nat) (s s2 : Bool) : mm_ (mm_ h o P c s) o P2 c2 s2 = mm_ h o P2 c2 s2 := by
  unfold mm_
  rw [sd_rI_eq, hp_rI_comm _ (show o ≠ o + 1 by omega), hp_rI_rI, hp_rI_rI]
  refine congrArg (hp_rI _ o) (funext fun j => ?_)
  unfold va_up
  split
  · rfl
  · rename_i q
    split
    · rfl
    · rfl
theorem mm_eq {h : Hp_} {o c : Nat} {s : Bool} (hc : hp_I h o 1 = nI c) (hs : hp_I h o 2 = bo_ s) : h = mm_ h o (hp_I h (o + 1)) c s := by
  unfold mm_
  rw [hp_rI_self, ← hc, ← hs, vu_self, vu_self, hp_rI_self]
theorem Memo_part_ok {h : Hp_} {o c : Nat} {P : Nat → Int32} {s : Bool} {x : Int32} (S : S_Memo h o) (h20 : c < 20) : cV 2 mn_Memo_part [.ref o, .int x] (mm_ h o P c s) (fun h' => h' = mm_ h o (va_up P c x) (c + 1) (s && decide (P c = x))) := by
  have S : S_Memo (mm_ h o P c s) o := S
  have e1 : hp_I (mm_ h o P c s) o 1 = nI c := by rw [mm_I0, sd_up_ne (by decide), sd_up_eq]
  refine cq_in (q := mi_Memo_part) (L := [some (.ref o), some (.int x)]) rfl (Nat.le_of_ble_eq_true rfl) rfl ?_
  show wq _ tb_Memo_part none 0 _ _ _ _
  have tail : ∀ s2 : Bool, wq 1 tb_Memo_part none 20 [some (.ref o), some (.int x)] [] (mm_ h o P c s2) (fun r h' => r = none ∧ h' = mm_ h o (va_up P c x) (c + 1) s2) := by
    intro s2
    have S : S_Memo (mm_ h o P c s2) o := S
    have e1 : hp_I (mm_ h o P c s2) o 1 = nI c := by rw [mm_I0, sd_up_ne (by decide), sd_up_eq]
    refine wp_aload0 rfl ?_
    refine wp_getR rfl (Memo_kd S) (Memo_R0 S) (by first | decide | omega) ?_
    refine wp_aload0 rfl ?_
    refine wp_getI rfl (Memo_kd S) ?_
    refine wp_iload1 rfl ?_
    rw [e1]
    refine wp_callS3V rfl (Nat.le_of_ble_eq_true rfl) (Cells_put_ok (Memo_k0 S) (by omega) (by rw [Memo_n0 S]; decide)) (Nat.le_of_ble_eq_true rfl) ?_
    rintro _ rfl
    rw [Memo_n0 S, cp_in h20 (by omega)]
    refine wp_aload0 rfl ?_
    refine wp_dup rfl ?_
    refine wp_getI rfl (Memo_kd S) ?_
    rw [sd_rI_ne (show o ≠ o + 1 by omega), e1]
    refine wp_iconst rfl ?_
    refine wp_iaddE (nI (c + 1)) (nI_add c 1) rfl ?_
    refine wp_putI rfl (Memo_kd S) ?_
    rw [sd_rI_ne (show o ≠ o + 1 by omega)]
    refine wp_vret rfl ?_
    refine ⟨rfl, ?_⟩
    rw [mm_I0, mm_I1]
    unfold mm_
    rw [hp_rI_comm _ (show o ≠ o + 1 by omega), hp_rI_rI, hp_rI_rI]
    refine congrArg (hp_rI _ o) (funext fun j => ?_)
    unfold va_up
    by_cases q1 : j = 1
    · rw [if_pos q1, if_neg (by omega), if_pos q1]
    · rw [if_neg q1, if_neg q1, if_neg q1]
  refine wp_aload0 rfl ?_
  refine wp_getR rfl (Memo_kd S) (Memo_R0 S) (by first | decide | omega) ?_
  refine wp_aload0 rfl ?_
  refine wp_getI rfl (Memo_kd S) ?_
  rw [e1]
  refine wp_callS2I rfl (Nat.le_of_ble_eq_true rfl) (Cells_at_ok (Memo_k0 S) (by omega) (by rw [Memo_n0 S]; decide)) (Nat.le_of_ble_eq_true rfl) ?_
  rintro _ _ ⟨rfl, rfl⟩
  rw [Memo_n0 S, ca_in h20 (by omega), mm_I1]
  refine wp_iload1 rfl ?_
  refine wp_icmp_eq rfl (fun c1 => ?_) (fun c1 => ?_)
  · 
    have := tail s
    rw [decide_eq_true c1, Bool.and_true]
    exact this
  · skip
    refine wp_aload0 rfl ?_
    refine wp_iconst rfl ?_
    refine wp_putZ rfl (Memo_kd S) (by first | exact Or.inl rfl | exact Or.inr rfl) ?_
    have := tail false
    rw [decide_eq_false c1, Bool.and_false]
    refine wq_hp ?_ this
    rw [mm_I0]
    unfold mm_
    rw [hp_rI_rI]
    refine congrArg (hp_rI _ o) ?_
    rw [vu_up]
    rfl
theorem Memo_endsStale_ok {h : Hp_} {o c : Nat} {P : Nat → Int32} {s : Bool} (S : S_Memo h o) : cI 1 mn_Memo_endsStale [.ref o] (mm_ h o P c s) (fun x h' => x = bo_ (!s) ∧ h' = mm_ h o P c true) := by
  have S : S_Memo (mm_ h o P c s) o := S
  have e1 : hp_I (mm_ h o P c s) o 2 = bo_ s := by rw [mm_I0, sd_up_eq]
  have e2 : hp_rI (mm_ h o P c s) o (va_up (hp_I (mm_ h o P c s) o) 2 (nI 1)) = mm_ h o P c true := by
    rw [mm_I0]
    unfold mm_
    rw [hp_rI_rI, vu_up]
    rfl
  refine cq_in (q := mi_Memo_endsStale) (L := [some (.ref o), none]) rfl (Nat.le_of_ble_eq_true rfl) rfl ?_
  show wq _ tb_Memo_endsStale none 0 _ _ _ _
  refine wp_aload0 rfl ?_
  refine wp_getZ rfl (Memo_kd S) ?_
  rw [e1]
  refine wp_if_neB rfl (fun c1 => ?_) (fun c1 => ?_)
  · skip
    refine wp_iconst rfl ?_
    refine wp_istore1 rfl rfl ?_
    refine wp_aload0 rfl ?_
    refine wp_iconst rfl ?_
    refine wp_putZ rfl (Memo_kd S) (by first | exact Or.inl rfl | exact Or.inr rfl) ?_
    refine wp_iload1 rfl ?_
    rw [e2]
    exact wp_zret rfl (by first | exact Or.inl rfl | exact Or.inr rfl) ⟨_, rfl, by rw [c1]; rfl, rfl⟩
  · skip
    refine wp_iconst rfl ?_
    refine wp_goto rfl ?_
    refine wp_istore1 rfl rfl ?_
    refine wp_aload0 rfl ?_
    refine wp_iconst rfl ?_
    refine wp_putZ rfl (Memo_kd S) (by first | exact Or.inl rfl | exact Or.inr rfl) ?_
    refine wp_iload1 rfl ?_
    rw [e2]
    exact wp_zret rfl (by first | exact Or.inl rfl | exact Or.inr rfl) ⟨_, rfl, by rw [c1]; rfl, rfl⟩
/-- m parts from c on -/
def mP_ (P : Nat → Int32) (c : Nat) (v : Nat → Int32) (m : Nat) : Nat → Int32 := fun k => if c ≤ k ∧ k < c + m then v (k - c) else P k
def mS_ (P : Nat → Int32) (c : Nat) (v : Nat → Int32) : Nat → Bool
  | 0 => true
  | m + 1 => mS_ P c v m && decide (P (c + m) = v m)
theorem mP_0 (P : Nat → Int32) (c : Nat) (v : Nat → Int32) : mP_ P c v 0 = P := funext fun k => if_neg (by omega)
theorem mP_next (P : Nat → Int32) (c : Nat) (v : Nat → Int32) (m : Nat) : va_up (mP_ P c v m) (c + m) (v m) = mP_ P c v (m + 1) := funext fun k => by
  unfold va_up mP_
  by_cases q : k = c + m
  · rw [if_pos q, if_pos (by omega), q, Nat.add_sub_cancel_left]
  · rw [if_neg q]
    by_cases q2 : c ≤ k ∧ k < c + m
    · rw [if_pos q2, if_pos (by omega)]
    · rw [if_neg q2, if_neg (by omega)]
theorem mP_at (P : Nat → Int32) (c : Nat) (v : Nat → Int32) (m : Nat) : mP_ P c v m (c + m) = P (c + m) := if_neg (by omega)
theorem mm_Ine {h : Hp_} {o c q : Nat} {P : Nat → Int32} {s : Bool} (h1 : q ≠ o) (h2 : q ≠ o + 1) : hp_I (mm_ h o P c s) q = hp_I h q := by
  unfold mm_
  rw [sd_rI_ne h1, sd_rI_ne h2]
theorem Memo_partsOfRow_ok {h : Hp_} {o a c m : Nat} {P : Nat → Int32} {s : Bool} (S : S_Memo h o) (hk : hp_kd h a = 1) (h0 : a ≠ 0) (hm : hp_ln h a = m) (h1 : a ≠ o) (h2 : a ≠ o + 1) (h20 : c + m ≤ 20) : cV 3 mn_Memo_partsOfRow [.ref o, .ref a] (mm_ h o P c s) (fun h' => h' = mm_ h o (mP_ P c (hp_I h a) m) (c + m) (s && mS_ P c (hp_I h a) m)) := by
  refine cq_in (q := mi_Memo_partsOfRow) (L := [some (.ref o), some (.ref a), none]) rfl (Nat.le_of_ble_eq_true rfl) rfl ?_
  show wq _ tb_Memo_partsOfRow none 0 _ _ _ _
  have loop : ∀ k i, i ≤ m → m - i = k → wq 2 tb_Memo_partsOfRow none 2 [some (.ref o), some (.ref a), some (.int (nI i))] [] (mm_ h o (mP_ P c (hp_I h a) i) (c + i) (s && mS_ P c (hp_I h a) i)) (fun r h' => r = none ∧ h' = mm_ h o (mP_ P c (hp_I h a) m) (c + m) (s && mS_ P c (hp_I h a) m)) := by
    intro k
    induction k with
    | zero =>
      intro i hi hk0
      obtain rfl : i = m := by omega
      refine wp_iload2 rfl ?_
      refine wp_aload1 rfl ?_
      refine wp_alenE rfl (by first | decide | omega) (Or.inl hk) hm ?_
      refine wp_icmp_geN (i) (i) (by omega) (by omega) rfl (fun c1 => ?_) (fun c1 => ?_)
      · skip
        exact wp_vret rfl ⟨rfl, rfl⟩
      · exact absurd c1 (Nat.lt_irrefl _)
    | succ k ih =>
      intro i hi hk0
      refine wp_iload2 rfl ?_
      refine wp_aload1 rfl ?_
      refine wp_alenE rfl (by first | decide | omega) (Or.inl hk) hm ?_
      refine wp_icmp_geN (i) (m) (by omega) (by omega) rfl (fun c1 => ?_) (fun c1 => ?_)
      · exact absurd c1 (by omega)
      · skip
        refine wp_aload0 rfl ?_
        refine wp_aload1 rfl ?_
        refine wp_iload2 rfl ?_
        refine wp_iald (i) (rfl) hk (by first | decide | omega) (Nat.lt_of_lt_of_eq (by omega) (Eq.symm hm)) (by omega) rfl ?_
        rw [mm_Ine h1 h2]
        refine wp_callV1V rfl (Nat.le_of_ble_eq_true rfl) (Memo_kd S) (Memo_part_ok S (by omega)) (Nat.le_of_ble_eq_true rfl) ?_
        rintro _ rfl
        refine wp_iinc2N rfl rfl ?_
        refine wp_goto rfl ?_
        have := ih (i + 1) (by omega) (by omega)
        rw [mP_at, mP_next]
        rw [mS_, ← Bool.and_assoc] at this
        exact this
  refine wp_iconst rfl ?_
  refine wp_istore2 rfl rfl ?_
  have := loop m 0 (by omega) rfl
  rw [mP_0, mS_, Bool.and_true] at this
  exact this
theorem Memo_partsOfNotes_ok {h : Hp_} {o a c n : Nat} {P : Nat → Int32} {s : Bool} (S : S_Memo h o) (S2 : S_Notes h a) (hn : hp_I h a 1 = nI n) (hn6 : n ≤ 6) (h1 : a + 1 < o ∨ o + 1 < a) (h20 : c + 6 ≤ 20) : cV 3 mn_Memo_partsOfNotes [.ref o, .ref a] (mm_ h o P c s) (fun h' => h' = mm_ h o (mP_ P c (fun i => if i < n then hp_I h (a + 1) i else -1) 6) (c + 6) (s && mS_ P c (fun i => if i < n then hp_I h (a + 1) i else -1) 6)) := by
  refine cq_in (q := mi_Memo_partsOfNotes) (L := [some (.ref o), some (.ref a), none]) rfl (Nat.le_of_ble_eq_true rfl) rfl ?_
  show wq _ tb_Memo_partsOfNotes none 0 _ _ _ _
  have loop : ∀ k i, i ≤ 6 → 6 - i = k → wq 2 tb_Memo_partsOfNotes none 2 [some (.ref o), some (.ref a), some (.int (nI i))] [] (mm_ h o (mP_ P c (fun i => if i < n then hp_I h (a + 1) i else -1) i) (c + i) (s && mS_ P c (fun i => if i < n then hp_I h (a + 1) i else -1) i)) (fun r h' => r = none ∧ h' = mm_ h o (mP_ P c (fun i => if i < n then hp_I h (a + 1) i else -1) 6) (c + 6) (s && mS_ P c (fun i => if i < n then hp_I h (a + 1) i else -1) 6)) := by
    intro k
    induction k with
    | zero =>
      intro i hi hk0
      obtain rfl : i = 6 := by omega
      refine wp_iload2 rfl ?_
      refine wp_bipush rfl ?_
      refine wp_icmp_geN (6) (6) (by omega) (by omega) rfl (fun c1 => ?_) (fun c1 => ?_)
      · skip
        exact wp_vret rfl ⟨rfl, rfl⟩
      · exact absurd c1 (Nat.lt_irrefl _)
    | succ k ih =>
      intro i hi hk0
      have hn2 : hp_I (mm_ h o (mP_ P c (fun i => if i < n then hp_I h (a + 1) i else -1) i) (c + i) (s && mS_ P c (fun i => if i < n then hp_I h (a + 1) i else -1) i)) a 1 = nI n := by rw [mm_Ine (by omega) (by omega), hn]
      have := ih (i + 1) (by omega) (by omega)
      rw [mS_, ← Bool.and_assoc, ← mP_next] at this
      refine wp_iload2 rfl ?_
      refine wp_bipush rfl ?_
      refine wp_icmp_geN (i) (6) (by omega) (by omega) rfl (fun c1 => ?_) (fun c1 => ?_)
      · exact absurd c1 (by omega)
      · skip
        refine wp_aload0 rfl ?_
        refine wp_iload2 rfl ?_
        refine wp_aload1 rfl ?_
        refine wp_getI rfl (Notes_kd S2) ?_
        rw [hn2]
        refine wp_icmp_geN (i) (n) (by omega) (by omega) rfl (fun c2 => ?_) (fun c2 => ?_)
        · skip
          refine wp_iconst rfl ?_
          rw [show (if i < n then hp_I h (a + 1) i else -1) = -1 from if_neg (by omega)] at this
          refine wp_callV1V rfl (Nat.le_of_ble_eq_true rfl) (Memo_kd S) (Memo_part_ok S (by omega)) (Nat.le_of_ble_eq_true rfl) ?_
          rintro _ rfl
          refine wp_iinc2N rfl rfl ?_
          refine wp_goto rfl ?_
          rw [mP_at]
          exact this
        · skip
          refine wp_aload1 rfl ?_
          refine wp_iload2 rfl ?_
          refine wp_callV1I rfl (Nat.le_of_ble_eq_true rfl) (Notes_kd S2) (Notes_mark_ok (h := mm_ h o (mP_ P c (fun i => if i < n then hp_I h (a + 1) i else -1) i) (c + i) (s && mS_ P c (fun i => if i < n then hp_I h (a + 1) i else -1) i)) S2 (by omega)) (Nat.le_of_ble_eq_true rfl) ?_
          rintro _ _ ⟨rfl, rfl⟩
          rw [mm_Ine (by omega) (by omega)]
          rw [show (if i < n then hp_I h (a + 1) i else -1) = hp_I h (a + 1) i from if_pos c2] at this
          refine wp_goto rfl ?_
          refine wp_callV1V rfl (Nat.le_of_ble_eq_true rfl) (Memo_kd S) (Memo_part_ok S (by omega)) (Nat.le_of_ble_eq_true rfl) ?_
          rintro _ rfl
          refine wp_iinc2N rfl rfl ?_
          refine wp_goto rfl ?_
          rw [mP_at]
          exact this
  refine wp_iconst rfl ?_
  refine wp_istore2 rfl rfl ?_
  have := loop 6 0 (by omega) rfl
  rw [mP_0, mS_, Bool.and_true] at this
  exact this
end
section
-- ===== the state in words of its own; Market =====
/-- places, place of a good, lame, music played, Lent, figures as told, music of figures, wanted at (8: not), callers, sights, wishes -/
abbrev Sg_ : Type := Nat × (Nat → Nat) × Nat × Nat × Nat × (Nat → Nat → Nat) × (Nat → Nat) × (Nat → Nat) × (Nat → Nat) × List (Nat × Nat × Nat) × List (Nat × Nat × Nat)
def sg_n (s : Sg_) : Nat := s.1
def sg_pos (s : Sg_) : Nat → Nat := s.2.1
def sg_lm (s : Sg_) : Nat := s.2.2.1
def sg_pl (s : Sg_) : Nat := s.2.2.2.1
def sg_le (s : Sg_) : Nat := s.2.2.2.2.1
def sg_fig (s : Sg_) : Nat → Nat → Nat := s.2.2.2.2.2.1
def sg_mu (s : Sg_) : Nat → Nat := s.2.2.2.2.2.2.1
def sg_wa (s : Sg_) : Nat → Nat := s.2.2.2.2.2.2.2.1
def sg_ca (s : Sg_) : Nat → Nat := s.2.2.2.2.2.2.2.2.1
def sg_si (s : Sg_) : List (Nat × Nat × Nat) := s.2.2.2.2.2.2.2.2.2.1
def sg_wi (s : Sg_) : List (Nat × Nat × Nat) := s.2.2.2.2.2.2.2.2.2.2
/-- a map of n places to n places, that leaves all others -/
def IsP (n : Nat) (f : Nat → Nat) : Prop := (∀ i, i < n → f i < n) ∧ (∀ i j, i < n → j < n → f i = f j → i = j) ∧ ∀ i, n ≤ i → f i = i
def sg_wf (s : Sg_) : Prop := (3 ≤ sg_n s ∧ sg_n s ≤ 8) ∧ IsP (sg_n s) (sg_pos s) ∧ sg_lm s < 2 ^ sg_n s ∧ (sg_pl s = 1 ∨ sg_pl s = 2) ∧ sg_le s < 64 ∧ (∀ f, IsP (sg_n s) (sg_fig s f)) ∧ (∀ f, 1 ≤ sg_mu s f ∧ sg_mu s f ≤ 3) ∧ ((∀ g, sg_wa s g < sg_n s ∨ sg_wa s g = 8) ∧ (∀ g g2, sg_wa s g = sg_wa s g2 → sg_wa s g ≠ 8 → g = g2) ∧ ∀ g, sg_n s ≤ g → sg_wa s g = 8) ∧ (∀ c, sg_ca s c < 64) ∧ (sg_si s).length ≤ 6 ∧ (∀ q ∈ sg_si s, q.1 ≤ 12 ∧ q.2.1 < sg_n s ∧ q.2.2 < sg_n s) ∧ (sg_wi s).length ≤ 6 ∧ ∀ q ∈ sg_wi s, (1 ≤ q.1 ∧ q.1 ≤ 99) ∧ q.2.1 < sg_n s ∧ q.2.2 < sg_n s
/-- a figure may be danced; a figure as danced -/
def may_ (s : Sg_) (f : Nat) : Bool := decide (sg_mu s f &&& sg_pl s ≠ 0) && !(sg_le s).testBit f
def mv_ (s : Sg_) (f : Nat) : Nat → Nat := dz_ (sg_fig s f) (sg_lm s)
theorem IsP.lt8 {n : Nat} {f : Nat → Nat} (h : IsP n f) (hn : n ≤ 8) : ∀ i, i < 8 → f i < 8 := by
  intro i hi
  rcases Nat.lt_or_ge i n with q | q
  · have := h.1 i q; omega
  · rw [h.2.2 i q]; exact hi
theorem IsP.inj8 {n : Nat} {f : Nat → Nat} (h : IsP n f) : ∀ i j, f i = f j → i = j := by
  intro i j hij
  rcases Nat.lt_or_ge i n with q | q
  · rcases Nat.lt_or_ge j n with q2 | q2
    · exact h.2.1 i j q q2 hij
    · rw [h.2.2 j q2] at hij
      have := h.1 i q
      omega
  · rw [h.2.2 i q] at hij
    rcases Nat.lt_or_ge j n with q2 | q2
    · have := h.1 j q2
      omega
    · rw [h.2.2 j q2] at hij
      exact hij
/-- where a want is told: -1 or a place -/
def wv_ (w : Nat) : Int32 := if w = 8 then -1 else nI w
/-- notes held in a Notes object -/
def NS_ (h : Hp_) (o : Nat) (l : List (Nat × Nat × Nat)) : Prop := hp_I h o 1 = nI l.length ∧ ∀ (i : Nat) (q : Nat × Nat × Nat), l[i]? = some q → hp_I h (o + 1) i = nI (mk_ q.1 q.2.1 q.2.2)
def S_Market (h : Hp_) (m : Nat) : Prop := hp_kd h m = 12 ∧ (hp_R h m 5 = m + 1 ∧ hp_R h m 6 = m + 2 ∧ hp_R h m 7 = m + 3 ∧ hp_R h m 8 = m + 4 ∧ hp_R h m 9 = m + 5 ∧ hp_R h m 10 = m + 7) ∧ (hp_kd h (m + 1) = 1 ∧ hp_ln h (m + 1) = 6) ∧ (hp_kd h (m + 2) = 1 ∧ hp_ln h (m + 2) = 6) ∧ (hp_kd h (m + 3) = 1 ∧ hp_ln h (m + 3) = 8) ∧ (hp_kd h (m + 4) = 1 ∧ hp_ln h (m + 4) = 2) ∧ S_Notes h (m + 5) ∧ S_Notes h (m + 7)
theorem Market_kd {h : Hp_} {m : Nat} (S : S_Market h m) : hp_kd h m = 12 := S.1
theorem Market_R5 {h : Hp_} {m : Nat} (S : S_Market h m) : hp_R h m 5 = m + 1 := S.2.1.1
theorem Market_R6 {h : Hp_} {m : Nat} (S : S_Market h m) : hp_R h m 6 = m + 2 := S.2.1.2.1
theorem Market_R7 {h : Hp_} {m : Nat} (S : S_Market h m) : hp_R h m 7 = m + 3 := S.2.1.2.2.1
theorem Market_R8 {h : Hp_} {m : Nat} (S : S_Market h m) : hp_R h m 8 = m + 4 := S.2.1.2.2.2.1
theorem Market_R9 {h : Hp_} {m : Nat} (S : S_Market h m) : hp_R h m 9 = m + 5 := S.2.1.2.2.2.2.1
theorem Market_R10 {h : Hp_} {m : Nat} (S : S_Market h m) : hp_R h m 10 = m + 7 := S.2.1.2.2.2.2.2
theorem Market_k5 {h : Hp_} {m : Nat} (S : S_Market h m) : hp_kd h (m + 1) = 1 := S.2.2.1.1
theorem Market_n5 {h : Hp_} {m : Nat} (S : S_Market h m) : hp_ln h (m + 1) = 6 := S.2.2.1.2
theorem Market_k6 {h : Hp_} {m : Nat} (S : S_Market h m) : hp_kd h (m + 2) = 1 := S.2.2.2.1.1
theorem Market_n6 {h : Hp_} {m : Nat} (S : S_Market h m) : hp_ln h (m + 2) = 6 := S.2.2.2.1.2
theorem Market_k7 {h : Hp_} {m : Nat} (S : S_Market h m) : hp_kd h (m + 3) = 1 := S.2.2.2.2.1.1
theorem Market_n7 {h : Hp_} {m : Nat} (S : S_Market h m) : hp_ln h (m + 3) = 8 := S.2.2.2.2.1.2
theorem Market_k8 {h : Hp_} {m : Nat} (S : S_Market h m) : hp_kd h (m + 4) = 1 := S.2.2.2.2.2.1.1
theorem Market_n8 {h : Hp_} {m : Nat} (S : S_Market h m) : hp_ln h (m + 4) = 2 := S.2.2.2.2.2.1.2
theorem Market_s9 {h : Hp_} {m : Nat} (S : S_Market h m) : S_Notes h (m + 5) := S.2.2.2.2.2.2.1
theorem Market_s10 {h : Hp_} {m : Nat} (S : S_Market h m) : S_Notes h (m + 7) := S.2.2.2.2.2.2.2
/-- a Market holds a state -/
def MK_ (h : Hp_) (m : Nat) (s : Sg_) : Prop := (hp_I h m 0 = nI (sg_n s) ∧ hp_I h m 1 = nI (pq_ (sg_pos s) 8) ∧ hp_I h m 2 = nI (sg_lm s) ∧ hp_I h m 3 = nI (sg_pl s) ∧ hp_I h m 4 = nI (sg_le s)) ∧ (∀ f, f < 6 → hp_I h (m + 1) f = nI (pq_ (sg_fig s f) 8)) ∧ (∀ f, f < 6 → hp_I h (m + 2) f = nI (sg_mu s f)) ∧ (∀ g, g < 8 → hp_I h (m + 3) g = wv_ (sg_wa s g)) ∧ (∀ c, c < 2 → hp_I h (m + 4) c = nI (sg_ca s c)) ∧ NS_ h (m + 5) (sg_si s) ∧ NS_ h (m + 7) (sg_wi s)
theorem sg_lm256 {s : Sg_} (w : sg_wf s) : sg_lm s < 256 := Nat.lt_of_lt_of_le w.2.2.1 (show 2 ^ sg_n s ≤ 2 ^ 8 from Nat.pow_le_pow_right (by omega) w.1.2)
theorem sg_fig8 {s : Sg_} (w : sg_wf s) (f : Nat) : ∀ i, i < 8 → sg_fig s f i < 8 := (w.2.2.2.2.2.1 f).lt8 w.1.2
theorem sg_pos8 {s : Sg_} (w : sg_wf s) : ∀ i, i < 8 → sg_pos s i < 8 := w.2.1.lt8 w.1.2
theorem mv8 {s : Sg_} (w : sg_wf s) (f : Nat) : ∀ i, i < 8 → mv_ s f i < 8 := dz_lt (sg_fig8 w f)
theorem Market_has_ok {h : Hp_} {m n : Nat} {p : Int32} (S : S_Market h m) (hn : hp_I h m 0 = nI n) (hn8 : n ≤ 8) : cI 1 mn_Market_has [.ref m, .int p] h (fun x h' => x = bo_ (decide (0 ≤ p.toInt ∧ p.toInt < n)) ∧ h' = h) := by
  refine cq_in (q := mi_Market_has) (L := [some (.ref m), some (.int p)]) rfl (Nat.le_of_ble_eq_true rfl) rfl ?_
  show wq _ tb_Market_has none 0 _ _ _ _
  refine wp_iload1 rfl ?_
  refine wp_if_lt rfl (fun c1 => ?_) (fun c1 => ?_)
  · skip
    refine wp_iconst rfl ?_
    exact wp_zret rfl (by first | exact Or.inl rfl | exact Or.inr rfl) ⟨_, rfl, by rw [decide_eq_false (by rw [Int32.lt_iff_toInt_lt] at c1; simp at c1; omega)]; rfl, rfl⟩
  · skip
    refine wp_iload1 rfl ?_
    refine wp_aload0 rfl ?_
    refine wp_getI rfl (Market_kd S) ?_
    rw [hn]
    have e1 : (nI n).toInt = n := nI_toInt (by omega)
    refine wp_icmp_ge rfl (fun c2 => ?_) (fun c2 => ?_)
    · skip
      refine wp_iconst rfl ?_
      exact wp_zret rfl (by first | exact Or.inl rfl | exact Or.inr rfl) ⟨_, rfl, by rw [decide_eq_false (by rw [Int32.le_iff_toInt_le, e1] at c2; omega)]; rfl, rfl⟩
    · skip
      refine wp_iconst rfl ?_
      refine wp_goto rfl ?_
      exact wp_zret rfl (by first | exact Or.inl rfl | exact Or.inr rfl) ⟨_, rfl, by rw [decide_eq_true (by rw [Int32.le_iff_toInt_le, e1] at c2; rw [Int32.lt_iff_toInt_lt] at c1; simp at c1; omega)]; rfl, rfl⟩
theorem Market_placeOf_ok {h : Hp_} {m g : Nat} {f : Nat → Nat} (S : S_Market h m) (hf : ∀ i, i < 8 → f i < 8) (hp : hp_I h m 1 = nI (pq_ f 8)) (hg : g < 8) : cI 2 mn_Market_placeOf [.ref m, .int (nI g)] h (fun x h' => x = nI (f g) ∧ h' = h) := by
  refine cq_in (q := mi_Market_placeOf) (L := [some (.ref m), some (.int (nI g))]) rfl (Nat.le_of_ble_eq_true rfl) rfl ?_
  show wq _ tb_Market_placeOf none 0 _ _ _ _
  refine wp_aload0 rfl ?_
  refine wp_getI rfl (Market_kd S) ?_
  refine wp_iload1 rfl ?_
  rw [hp]
  refine wp_callS2I rfl (Nat.le_of_ble_eq_true rfl) (Maps_toP_ok hf hg) (Nat.le_of_ble_eq_true rfl) ?_
  rintro _ _ ⟨rfl, rfl⟩
  exact wp_iret rfl ⟨_, rfl, rfl, rfl⟩
theorem Market_may_ok {h : Hp_} {m f : Nat} {s : Sg_} (S : S_Market h m) (M : MK_ h m s) (w : sg_wf s) (hf : f < 6) : cI 2 mn_Market_may [.ref m, .int (nI f)] h (fun x h' => x = bo_ (may_ s f) ∧ h' = h) := by
  refine cq_in (q := mi_Market_may) (L := [some (.ref m), some (.int (nI f))]) rfl (Nat.le_of_ble_eq_true rfl) rfl ?_
  show wq _ tb_Market_may none 0 _ _ _ _
  have hmu := (w.2.2.2.2.2.2.1 f)
  have hle := w.2.2.2.2.1
  have hb : sg_mu s f &&& sg_pl s < 4 := Nat.lt_of_le_of_lt Nat.and_le_left (by omega)
  refine wp_aload0 rfl ?_
  refine wp_getR rfl (Market_kd S) (Market_R6 S) (by first | decide | omega) ?_
  refine wp_iload1 rfl ?_
  refine wp_callS2I rfl (Nat.le_of_ble_eq_true rfl) (Cells_at_ok (Market_k6 S) (by omega) (by rw [Market_n6 S]; decide)) (Nat.le_of_ble_eq_true rfl) ?_
  rintro _ _ ⟨rfl, rfl⟩
  rw [Market_n6 S, ca_in hf (by omega), M.2.2.1 f hf]
  refine wp_aload0 rfl ?_
  refine wp_getI rfl (Market_kd S) ?_
  rw [M.1.2.2.2.1]
  refine wp_iandE (nI (sg_mu s f &&& sg_pl s)) (nn_and _ _) rfl ?_
  refine wp_if_eqN (sg_mu s f &&& sg_pl s) (0) (by omega) (by omega) rfl (fun c1 => ?_) (fun c1 => ?_)
  · skip
    refine wp_iconst rfl ?_
    exact wp_zret rfl (by first | exact Or.inl rfl | exact Or.inr rfl) ⟨_, rfl, by unfold may_; rw [decide_eq_false (by rw [c1]; exact fun z => z rfl), Bool.false_and]; rfl, rfl⟩
  · skip
    refine wp_aload0 rfl ?_
    refine wp_getI rfl (Market_kd S) ?_
    refine wp_iload1 rfl ?_
    rw [M.1.2.2.2.2]
    refine wp_callS2I rfl (Nat.le_of_ble_eq_true rfl) (Cells_isIn_ok (show sg_le s < 2 ^ 32 by omega) (show f < 32 by omega)) (Nat.le_of_ble_eq_true rfl) ?_
    rintro _ _ ⟨rfl, rfl⟩
    refine wp_if_neB rfl (fun c2 => ?_) (fun c2 => ?_)
    · skip
      refine wp_iconst rfl ?_
      exact wp_zret rfl (by first | exact Or.inl rfl | exact Or.inr rfl) ⟨_, rfl, by unfold may_; rw [c2, Bool.not_true, Bool.and_false]; rfl, rfl⟩
    · skip
      refine wp_iconst rfl ?_
      refine wp_goto rfl ?_
      exact wp_zret rfl (by first | exact Or.inl rfl | exact Or.inr rfl) ⟨_, rfl, by unfold may_; rw [decide_eq_true c1, c2, Bool.not_false, Bool.and_true]; rfl, rfl⟩
theorem Market_danced_ok {h : Hp_} {m f : Nat} {s : Sg_} (S : S_Market h m) (M : MK_ h m s) (w : sg_wf s) (hf : f < 6) : cI 4 mn_Market_danced [.ref m, .int (nI f)] h (fun x h' => x = nI (pq_ (mv_ s f) 8) ∧ h' = h) := by
  refine cq_in (q := mi_Market_danced) (L := [some (.ref m), some (.int (nI f))]) rfl (Nat.le_of_ble_eq_true rfl) rfl ?_
  show wq _ tb_Market_danced none 0 _ _ _ _
  refine wp_aload0 rfl ?_
  refine wp_getR rfl (Market_kd S) (Market_R5 S) (by first | decide | omega) ?_
  refine wp_iload1 rfl ?_
  refine wp_callS2I rfl (Nat.le_of_ble_eq_true rfl) (Cells_at_ok (Market_k5 S) (by omega) (by rw [Market_n5 S]; decide)) (Nat.le_of_ble_eq_true rfl) ?_
  rintro _ _ ⟨rfl, rfl⟩
  rw [Market_n5 S, ca_in hf (by omega), M.2.1 f hf]
  refine wp_aload0 rfl ?_
  refine wp_getI rfl (Market_kd S) ?_
  rw [M.1.2.2.1]
  have hlm := sg_lm256 w
  refine wp_callS2I rfl (Nat.le_of_ble_eq_true rfl) (Maps_passing_ok (sg_fig8 w f) (show sg_lm s < 2 ^ 31 by omega)) (Nat.le_of_ble_eq_true rfl) ?_
  rintro _ _ ⟨rfl, rfl⟩
  exact wp_iret rfl ⟨_, rfl, rfl, rfl⟩
/-- the moves of a state, as they are told to others -/
def ms_ (s : Sg_) (f : Nat) : Int32 := if may_ s f then nI (pq_ (mv_ s f) 8) else -1
theorem MK_row {h : Hp_} {m a : Nat} {s : Sg_} {r : Nat → Int32} (ha : a < m ∨ m + 8 < a) (M : MK_ h m s) : MK_ (hp_rI h a r) m s := by
  obtain ⟨⟨m1, m2, m3, m4, m5⟩, m6, m7, m8, m9, ⟨m10, m11⟩, m12, m13⟩ := M
  have e : ∀ k, k ≤ 8 → hp_I (hp_rI h a r) (m + k) = hp_I h (m + k) := fun k hk => sd_rI_ne (by omega)
  have e0 : hp_I (hp_rI h a r) m = hp_I h m := sd_rI_ne (by omega)
  refine ⟨⟨by rw [e0]; exact m1, by rw [e0]; exact m2, by rw [e0]; exact m3, by rw [e0]; exact m4, by rw [e0]; exact m5⟩, fun f hf => by rw [e 1 (by omega)]; exact m6 f hf, fun f hf => by rw [e 2 (by omega)]; exact m7 f hf, fun f hf => by rw [e 3 (by omega)]; exact m8 f hf, fun f hf => by rw [e 4 (by omega)]; exact m9 f hf, ⟨by rw [e 5 (by omega)]; exact m10, fun i q hq => ?_⟩, by rw [e 7 (by omega)]; exact m12, fun i q hq => ?_⟩
  · rw [show m + 5 + 1 = m + 6 from rfl, e 6 (by omega)]
    exact m11 i q hq
  · rw [show m + 7 + 1 = m + 8 from rfl, e 8 (by omega)]
    exact m13 i q hq
theorem Market_fillMoves_ok {h : Hp_} {m a : Nat} {s : Sg_} (S : S_Market h m) (M : MK_ h m s) (w : sg_wf s) (hk : hp_kd h a = 1) (hl : hp_ln h a = 6) (h0 : a ≠ 0) (ha : a < m ∨ m + 8 < a) : cV 5 mn_Market_fillMoves [.ref m, .ref a] h (fun h' => h' = hp_rI h a (fun f => if f < 6 then ms_ s f else hp_I h a f)) := by
  refine cq_in (q := mi_Market_fillMoves) (L := [some (.ref m), some (.ref a), none]) rfl (Nat.le_of_ble_eq_true rfl) rfl ?_
  show wq _ tb_Market_fillMoves none 0 _ _ _ _
  have loop : ∀ k i, i ≤ 6 → 6 - i = k → wq 4 tb_Market_fillMoves none 2 [some (.ref m), some (.ref a), some (.int (nI i))] [] (hp_rI h a (fun f => if f < i then ms_ s f else hp_I h a f)) (fun r h' => r = none ∧ h' = hp_rI h a (fun f => if f < 6 then ms_ s f else hp_I h a f)) := by
    intro k
    induction k with
    | zero =>
      intro i hi hk0
      obtain rfl : i = 6 := by omega
      refine wp_iload2 rfl ?_
      refine wp_bipush rfl ?_
      refine wp_icmp_geN (6) (6) (by omega) (by omega) rfl (fun c1 => ?_) (fun c1 => ?_)
      · skip
        exact wp_vret rfl ⟨rfl, rfl⟩
      · exact absurd c1 (Nat.lt_irrefl _)
    | succ k ih =>
      intro i hi hk0
      have M2 := MK_row (r := fun f => if f < i then ms_ s f else hp_I h a f) ha M
      have S2 : S_Market (hp_rI h a (fun f => if f < i then ms_ s f else hp_I h a f)) m := S
      have hk2 : hp_kd (hp_rI h a (fun f => if f < i then ms_ s f else hp_I h a f)) a = 1 := hk
      have hl2 : hp_ln (hp_rI h a (fun f => if f < i then ms_ s f else hp_I h a f)) a = 6 := hl
      have key : ∀ x : Int32, x = ms_ s i → hp_rI (hp_rI h a (fun f => if f < i then ms_ s f else hp_I h a f)) a (cp_ (hp_I (hp_rI h a (fun f => if f < i then ms_ s f else hp_I h a f)) a) (hp_ln (hp_rI h a (fun f => if f < i then ms_ s f else hp_I h a f)) a) (nI i) x) = hp_rI h a (fun f => if f < i + 1 then ms_ s f else hp_I h a f) := by
        intro x hx
        rw [hl2, cp_in (by omega) (by omega), sd_rI_eq, hp_rI_rI, hx]
        refine congrArg (hp_rI h a) (funext fun j => ?_)
        unfold va_up
        dsimp only
        by_cases q : j = i
        · rw [if_pos q, if_pos (by omega), q]
        · rw [if_neg q]
          by_cases q2 : j < i
          · rw [if_pos q2, if_pos (by omega)]
          · rw [if_neg q2, if_neg (by omega)]
      refine wp_iload2 rfl ?_
      refine wp_bipush rfl ?_
      refine wp_icmp_geN (i) (6) (by omega) (by omega) rfl (fun c1 => ?_) (fun c1 => ?_)
      · exact absurd c1 (by omega)
      · skip
        refine wp_aload1 rfl ?_
        refine wp_iload2 rfl ?_
        refine wp_aload0 rfl ?_
        refine wp_iload2 rfl ?_
        refine wp_callV1I rfl (Nat.le_of_ble_eq_true rfl) (Market_kd S) (Market_may_ok S2 M2 w (show i < 6 by omega)) (Nat.le_of_ble_eq_true rfl) ?_
        rintro _ _ ⟨rfl, rfl⟩
        refine wp_if_eqB rfl (fun c2 => ?_) (fun c2 => ?_)
        · skip
          refine wp_iconst rfl ?_
          refine wp_callS3V rfl (Nat.le_of_ble_eq_true rfl) (Cells_put_ok hk2 h0 (by rw [hl2]; decide)) (Nat.le_of_ble_eq_true rfl) ?_
          rintro _ rfl
          rw [key _ (by unfold ms_; rw [c2, if_neg Bool.false_ne_true])]
          refine wp_iinc2N rfl rfl ?_
          refine wp_goto rfl ?_
          exact ih (i + 1) (by omega) (by omega)
        · skip
          refine wp_aload0 rfl ?_
          refine wp_iload2 rfl ?_
          refine wp_callV1I rfl (Nat.le_of_ble_eq_true rfl) (Market_kd S) (Market_danced_ok S2 M2 w (show i < 6 by omega)) (Nat.le_of_ble_eq_true rfl) ?_
          rintro _ _ ⟨rfl, rfl⟩
          refine wp_goto rfl ?_
          refine wp_callS3V rfl (Nat.le_of_ble_eq_true rfl) (Cells_put_ok hk2 h0 (by rw [hl2]; decide)) (Nat.le_of_ble_eq_true rfl) ?_
          rintro _ rfl
          rw [key _ (by unfold ms_; rw [c2, if_pos rfl])]
          refine wp_iinc2N rfl rfl ?_
          refine wp_goto rfl ?_
          exact ih (i + 1) (by omega) (by omega)
  refine wp_iconst rfl ?_
  refine wp_istore2 rfl rfl ?_
  have := loop 6 0 (by omega) rfl
  rw [show (fun f => if f < 0 then ms_ s f else hp_I h a f) = hp_I h a from funext fun f => if_neg (Nat.not_lt_zero _), hp_rI_self] at this
  exact this
end
section
-- ===== frames over int rows; Market, the rest =====
theorem hI_rI (h : Hp_) (c : Nat) (f : Nat → Int32) (q k : Nat) : hp_I (hp_rI h c f) q k = if q = c then f k else hp_I h q k := by
  by_cases z : q = c
  · rw [if_pos z, z, sd_rI_eq]
  · rw [if_neg z, sd_rI_ne z]
/-- the int rows put anew -/
def hp_wI (h : Hp_) (g : Nat → Nat → Int32) : Hp_ := (h.1, h.2.1, h.2.2.1, h.2.2.2.1, g, h.2.2.2.2.2)
theorem hp_wI_I (h : Hp_) (g : Nat → Nat → Int32) : hp_I (hp_wI h g) = g := rfl
theorem hp_wI_wI (h : Hp_) (g g2 : Nat → Nat → Int32) : hp_wI (hp_wI h g) g2 = hp_wI h g2 := rfl
theorem hp_wI_self (h : Hp_) : hp_wI h (hp_I h) = h := rfl
theorem hp_rI_w (h : Hp_) (c : Nat) (f : Nat → Int32) : hp_rI h c f = hp_wI h (va_up (hp_I h) c f) := rfl
/-- only int rows of P's cells have changed -/
def fr_ (P : Nat → Prop) (h h' : Hp_) : Prop := ∃ g, h' = hp_wI h g ∧ ∀ c, ¬ P c → g c = hp_I h c
theorem fr_refl (P : Nat → Prop) (h : Hp_) : fr_ P h h := ⟨hp_I h, rfl, fun _ _ => rfl⟩
theorem fr_row {P : Nat → Prop} {h h' : Hp_} {c : Nat} {f : Nat → Int32} (hc : P c) (hf : fr_ P h h') : fr_ P h (hp_rI h' c f) := by
  obtain ⟨g, rfl, hg⟩ := hf
  refine ⟨va_up g c f, rfl, fun q hq => ?_⟩
  rw [sd_up_ne (fun z => hq (by rw [z]; exact hc))]
  exact hg q hq
theorem fr_trans {P : Nat → Prop} {h h' h2 : Hp_} (h1 : fr_ P h h') (h3 : fr_ P h' h2) : fr_ P h h2 := by
  obtain ⟨g, rfl, hg⟩ := h1
  obtain ⟨g2, rfl, hg2⟩ := h3
  exact ⟨g2, rfl, fun q hq => (hg2 q hq).trans (hg q hq)⟩
theorem fr_mono {P Q : Nat → Prop} {h h' : Hp_} (hPQ : ∀ c, P c → Q c) (hf : fr_ P h h') : fr_ Q h h' := by
  obtain ⟨g, rfl, hg⟩ := hf
  exact ⟨g, rfl, fun q hq => hg q (fun z => hq (hPQ q z))⟩
theorem fr_I {P : Nat → Prop} {h h' : Hp_} (hf : fr_ P h h') {c : Nat} (hc : ¬ P c) : hp_I h' c = hp_I h c := by
  obtain ⟨g, rfl, hg⟩ := hf
  exact hg c hc
theorem fr_S {P : Nat → Prop} {h h' : Hp_} (hf : fr_ P h h') : hp_nx h' = hp_nx h ∧ hp_sl h' = hp_sl h ∧ hp_kd h' = hp_kd h ∧ hp_ln h' = hp_ln h ∧ hp_J h' = hp_J h ∧ hp_R h' = hp_R h := by
  obtain ⟨g, rfl, hg⟩ := hf
  exact ⟨rfl, rfl, rfl, rfl, rfl, rfl⟩
theorem MK_fr {P : Nat → Prop} {h h' : Hp_} {m : Nat} {s : Sg_} (hf : fr_ P h h') (hP : ∀ k, k ≤ 8 → ¬ P (m + k)) (M : MK_ h m s) : MK_ h' m s := by
  obtain ⟨⟨m1, m2, m3, m4, m5⟩, m6, m7, m8, m9, ⟨m10, m11⟩, m12, m13⟩ := M
  have e : ∀ k, k ≤ 8 → hp_I h' (m + k) = hp_I h (m + k) := fun k hk => fr_I hf (hP k hk)
  have e0 : hp_I h' m = hp_I h m := fr_I hf (hP 0 (by omega))
  refine ⟨⟨by rw [e0]; exact m1, by rw [e0]; exact m2, by rw [e0]; exact m3, by rw [e0]; exact m4, by rw [e0]; exact m5⟩, fun f hf => by rw [e 1 (by omega)]; exact m6 f hf, fun f hf => by rw [e 2 (by omega)]; exact m7 f hf, fun f hf => by rw [e 3 (by omega)]; exact m8 f hf, fun f hf => by rw [e 4 (by omega)]; exact m9 f hf, ⟨by rw [e 5 (by omega)]; exact m10, fun i q hq => ?_⟩, by rw [e 7 (by omega)]; exact m12, fun i q hq => ?_⟩
  · rw [show m + 5 + 1 = m + 6 from rfl, e 6 (by omega)]
    exact m11 i q hq
  · rw [show m + 7 + 1 = m + 8 from rfl, e 8 (by omega)]
    exact m13 i q hq
theorem S_Market_fr {P : Nat → Prop} {h h' : Hp_} {m : Nat} (hf : fr_ P h h') (S : S_Market h m) : S_Market h' m := by
  obtain ⟨g, rfl, hg⟩ := hf
  exact S
theorem Market_isWantedByOther_ok {h : Hp_} {m g p : Nat} {s : Sg_} (S : S_Market h m) (M : MK_ h m s) (w : sg_wf s) (hg : g < 8) (hp : p < 8) : cI 2 mn_Market_isWantedByOther [.ref m, .int (nI g), .int (nI p)] h (fun x h' => x = bo_ (decide (∃ o, o < sg_n s ∧ o ≠ g ∧ sg_wa s o = p)) ∧ h' = h) := by
  refine cq_in (q := mi_Market_isWantedByOther) (L := [some (.ref m), some (.int (nI g)), some (.int (nI p)), none]) rfl (Nat.le_of_ble_eq_true rfl) rfl ?_
  show wq _ tb_Market_isWantedByOther none 0 _ _ _ _
  have hn8 := w.1.2
  have hwv : ∀ o, (wv_ (sg_wa s o) = nI p ↔ sg_wa s o = p) := by
    intro o
    unfold wv_
    rcases w.2.2.2.2.2.2.2.1.1 o with q | q
    · rw [if_neg (by omega), nI_eq (by omega) (by omega)]
    · rw [if_pos q]
      refine ⟨fun z => absurd z ?_, fun z => by omega⟩
      intro z
      have := congrArg Int32.toInt z
      rw [nI_toInt (by omega)] at this
      have e1 : (-1 : Int32).toInt = -1 := by decide
      omega
  have loop : ∀ k i, i ≤ sg_n s → sg_n s - i = k → (∀ o, o < i → ¬ (o ≠ g ∧ sg_wa s o = p)) → wq 1 tb_Market_isWantedByOther none 2 [some (.ref m), some (.int (nI g)), some (.int (nI p)), some (.int (nI i))] [] h (fun r h' => ∃ x, r = some (.int x) ∧ x = bo_ (decide (∃ o, o < sg_n s ∧ o ≠ g ∧ sg_wa s o = p)) ∧ h' = h) := by
    intro k
    induction k with
    | zero =>
      intro i hi hk0 hno
      obtain rfl : i = sg_n s := by omega
      refine wp_iload3 rfl ?_
      refine wp_aload0 rfl ?_
      refine wp_getI rfl (Market_kd S) ?_
      rw [M.1.1]
      refine wp_icmp_geN (sg_n s) (sg_n s) (by omega) (by omega) rfl (fun c1 => ?_) (fun c1 => ?_)
      · skip
        refine wp_iconst rfl ?_
        exact wp_zret rfl (by first | exact Or.inl rfl | exact Or.inr rfl) ⟨_, rfl, by rw [decide_eq_false (by rintro ⟨o, h1, h2⟩; exact hno o h1 h2)]; rfl, rfl⟩
      · exact absurd c1 (Nat.lt_irrefl _)
    | succ k ih =>
      intro i hi hk0 hno
      refine wp_iload3 rfl ?_
      refine wp_aload0 rfl ?_
      refine wp_getI rfl (Market_kd S) ?_
      rw [M.1.1]
      refine wp_icmp_geN (i) (sg_n s) (by omega) (by omega) rfl (fun c1 => ?_) (fun c1 => ?_)
      · exact absurd c1 (by omega)
      · skip
        refine wp_iload3 rfl ?_
        refine wp_iload1 rfl ?_
        refine wp_icmp_eqN (i) (g) (by omega) (by omega) rfl (fun c2 => ?_) (fun c2 => ?_)
        · skip
          refine wp_iinc3N rfl rfl ?_
          refine wp_goto rfl ?_
          exact ih (i + 1) (by omega) (by omega) (fun o ho => by
            rcases Nat.lt_or_ge o i with q | q
            · exact hno o q
            · rintro ⟨z, -⟩
              omega)
        · skip
          refine wp_aload0 rfl ?_
          refine wp_getR rfl (Market_kd S) (Market_R7 S) (by first | decide | omega) ?_
          refine wp_iload3 rfl ?_
          refine wp_callS2I rfl (Nat.le_of_ble_eq_true rfl) (Cells_at_ok (Market_k7 S) (by omega) (by rw [Market_n7 S]; decide)) (Nat.le_of_ble_eq_true rfl) ?_
          rintro _ _ ⟨rfl, rfl⟩
          rw [Market_n7 S, ca_in (show i < 8 by omega) (by omega), M.2.2.2.1 i (by omega)]
          refine wp_iload2 rfl ?_
          refine wp_icmp_ne rfl (fun c3 => ?_) (fun c3 => ?_)
          · skip
            refine wp_iinc3N rfl rfl ?_
            refine wp_goto rfl ?_
            exact ih (i + 1) (by omega) (by omega) (fun o ho => by
              rcases Nat.lt_or_ge o i with q | q
              · exact hno o q
              · obtain rfl : o = i := by omega
                rintro ⟨-, z⟩
                exact c3 ((hwv o).mpr z))
          · skip
            refine wp_iconst rfl ?_
            exact wp_zret rfl (by first | exact Or.inl rfl | exact Or.inr rfl) ⟨_, rfl, by rw [decide_eq_true ⟨i, by omega, c2, (hwv i).mp (Classical.not_not.mp c3)⟩]; rfl, rfl⟩
  refine wp_iconst rfl ?_
  refine wp_istore3 rfl rfl ?_
  exact loop (sg_n s) 0 (Nat.zero_le _) rfl (fun o ho => by omega)
/-- n places, and all as at first, but music, Lent and callers -/
def op_ (s : Sg_) (n : Nat) : Sg_ := (n, fun p => p, 0, sg_pl s, sg_le s, fun _ p => p, sg_mu s, fun _ => 8, sg_ca s, [], [])
theorem stays_ : (16434824 : Nat) = pq_ (fun p => p) 8 := by decide +kernel
theorem Market_open_ok {h : Hp_} {m n : Nat} {s : Sg_} (S : S_Market h m) (h3 : hp_I h m 3 = nI (sg_pl s)) (h4 : hp_I h m 4 = nI (sg_le s)) (hmu : ∀ f, f < 6 → hp_I h (m + 2) f = nI (sg_mu s f)) (hca : ∀ c, c < 2 → hp_I h (m + 4) c = nI (sg_ca s c)) : cV 2 mn_Market_open [.ref m, .int (nI n)] h (fun h' => MK_ h' m (op_ s n) ∧ fr_ (fun c => m ≤ c ∧ c ≤ m + 8) h h') := by
  refine cq_in (q := mi_Market_open) (L := [some (.ref m), some (.int (nI n))]) rfl (Nat.le_of_ble_eq_true rfl) rfl ?_
  show wq _ tb_Market_open none 0 _ _ _ _
  refine wp_aload0 rfl ?_
  refine wp_iload1 rfl ?_
  refine wp_putI rfl (Market_kd S) ?_
  refine wp_aload0 rfl ?_
  refine wp_ldc rfl ?_
  refine wp_putI rfl (Market_kd S) ?_
  refine wp_aload0 rfl ?_
  refine wp_iconst rfl ?_
  refine wp_putI rfl (Market_kd S) ?_
  refine wp_aload0 rfl ?_
  refine wp_getR rfl (Market_kd S) (Market_R5 S) (by first | decide | omega) ?_
  refine wp_ldc rfl ?_
  refine wp_callS2V rfl (Nat.le_of_ble_eq_true rfl) (Cells_fill_ok (Market_k5 S) (by omega) (Market_n5 S) (by decide)) (Nat.le_of_ble_eq_true rfl) ?_
  rintro _ rfl
  refine wp_aload0 rfl ?_
  refine wp_getR rfl (Market_kd S) (Market_R7 S) (by first | decide | omega) ?_
  refine wp_iconst rfl ?_
  refine wp_callS2V rfl (Nat.le_of_ble_eq_true rfl) (Cells_fill_ok (Market_k7 S) (by omega) (Market_n7 S) (by decide)) (Nat.le_of_ble_eq_true rfl) ?_
  rintro _ rfl
  refine wp_aload0 rfl ?_
  refine wp_getR rfl (Market_kd S) (Market_R9 S) (by first | decide | omega) ?_
  refine wp_iconst rfl ?_
  refine wp_putI rfl (Notes_kd (Market_s9 S)) ?_
  refine wp_aload0 rfl ?_
  refine wp_getR rfl (Market_kd S) (Market_R10 S) (by first | decide | omega) ?_
  refine wp_iconst rfl ?_
  refine wp_putI rfl (Notes_kd (Market_s10 S)) ?_
  refine wp_vret rfl ?_
  refine ⟨rfl, ?_, ?_⟩
  · refine ⟨⟨?_, ?_, ?_, ?_, ?_⟩, fun f hf => ?_, fun f hf => ?_, fun g hg => ?_, fun c hc => ?_, ⟨?_, fun i q hq => by cases hq⟩, ?_, fun i q hq => by cases hq⟩
    all_goals simp (disch := omega) only [hI_rI, va_up, if_pos, if_neg]
    · rfl
    · rw [stays_]; rfl
    · rfl
    · exact h3
    · exact h4
    · rw [stays_]; rfl
    · exact hmu f hf
    · rfl
    · exact hca c hc
    · rfl
    · rfl
  · exact fr_row (by omega) (fr_row (by omega) (fr_row (by omega) (fr_row (by omega) (fr_row (by omega) (fr_row (by omega) (fr_row (by omega) (fr_refl _ _)))))))
theorem wq_gen {d : Nat} {tab : Tab_} {sc : Sc_} {pc : Nat} {L : Lc_} {st : List Value} {h : Hp_} {Q : Option Value → Hp_ → Prop} (k : ∀ h1, h1 = h → wq d tab sc pc L st h1 Q) : wq d tab sc pc L st h Q := k h rfl
theorem Market_take_ok {h : Hp_} {m q : Nat} {s : Sg_} (S : S_Market h m) (S2 : S_Market h q) (M : MK_ h q s) (w : sg_wf s) (hne : m + 8 < q ∨ q + 8 < m) : cV 3 mn_Market_take [.ref m, .ref q] h (fun h' => MK_ h' m s ∧ fr_ (fun c => m ≤ c ∧ c ≤ m + 8) h h') := by
  obtain ⟨⟨m1, m2, m3, m4, m5⟩, m6, m7, m8, m9, ⟨m10, m11⟩, m12, m13⟩ := M
  refine cq_in (q := mi_Market_take) (L := [some (.ref m), some (.ref q)]) rfl (Nat.le_of_ble_eq_true rfl) rfl ?_
  show wq _ tb_Market_take none 0 _ _ _ _
  refine wp_aload0 rfl ?_
  refine wp_aload1 rfl ?_
  refine wp_getI rfl (Market_kd S2) ?_
  refine wp_putI rfl (Market_kd S) ?_
  refine wp_aload0 rfl ?_
  refine wp_aload1 rfl ?_
  refine wp_getI rfl (Market_kd S2) ?_
  rw [sd_rI_ne (show q ≠ m by omega)]
  refine wp_putI rfl (Market_kd S) ?_
  rw [sd_rI_eq, hp_rI_rI]
  refine wp_aload0 rfl ?_
  refine wp_aload1 rfl ?_
  refine wp_getI rfl (Market_kd S2) ?_
  rw [sd_rI_ne (show q ≠ m by omega)]
  refine wp_putI rfl (Market_kd S) ?_
  rw [sd_rI_eq, hp_rI_rI]
  refine wp_aload0 rfl ?_
  refine wp_aload1 rfl ?_
  refine wp_getI rfl (Market_kd S2) ?_
  rw [sd_rI_ne (show q ≠ m by omega)]
  refine wp_putI rfl (Market_kd S) ?_
  rw [sd_rI_eq, hp_rI_rI]
  refine wp_aload0 rfl ?_
  refine wp_aload1 rfl ?_
  refine wp_getI rfl (Market_kd S2) ?_
  rw [sd_rI_ne (show q ≠ m by omega)]
  refine wp_putI rfl (Market_kd S) ?_
  rw [sd_rI_eq, hp_rI_rI]
  refine wq_gen (fun h1 e1 => ?_)
  have S3 : S_Market h1 m := by rw [e1]; exact S
  have T3 : S_Market h1 q := by rw [e1]; exact S2
  have f1 : fr_ (fun c => c = m) h h1 := by rw [e1]; exact fr_row rfl (fr_refl _ _)
  refine wp_aload1 rfl ?_
  refine wp_getR rfl (Market_kd T3) (Market_R5 T3) (by first | decide | omega) ?_
  refine wp_aload0 rfl ?_
  refine wp_getR rfl (Market_kd S3) (Market_R5 S3) (by first | decide | omega) ?_
  refine wp_callS2V rfl (Nat.le_of_ble_eq_true rfl) (Cells_copy_ok (Market_k5 T3) (Market_k5 S3) (by omega) (by omega) (by omega) (Market_n5 T3) (Market_n5 S3) rfl (by decide)) (Nat.le_of_ble_eq_true rfl) ?_
  rintro _ rfl
  refine wq_gen (fun h2 e2 => ?_)
  have S4 : S_Market h2 m := by rw [e2]; exact S3
  have T4 : S_Market h2 q := by rw [e2]; exact T3
  have f2 : fr_ (fun c => c = m + 1) h1 h2 := by rw [e2]; exact fr_row rfl (fr_refl _ _)
  have r2 : ∀ f, f < 6 → hp_I h2 (m + 1) f = hp_I h (q + 1) f := fun f hf => by rw [e2, sd_rI_eq]; rw [if_pos hf, fr_I f1 (by omega)]
  refine wp_aload1 rfl ?_
  refine wp_getR rfl (Market_kd T4) (Market_R6 T4) (by first | decide | omega) ?_
  refine wp_aload0 rfl ?_
  refine wp_getR rfl (Market_kd S4) (Market_R6 S4) (by first | decide | omega) ?_
  refine wp_callS2V rfl (Nat.le_of_ble_eq_true rfl) (Cells_copy_ok (Market_k6 T4) (Market_k6 S4) (by omega) (by omega) (by omega) (Market_n6 T4) (Market_n6 S4) rfl (by decide)) (Nat.le_of_ble_eq_true rfl) ?_
  rintro _ rfl
  refine wq_gen (fun h3 e3 => ?_)
  have S5 : S_Market h3 m := by rw [e3]; exact S4
  have T5 : S_Market h3 q := by rw [e3]; exact T4
  have f3 : fr_ (fun c => c = m + 2) h2 h3 := by rw [e3]; exact fr_row rfl (fr_refl _ _)
  have r3 : ∀ f, f < 6 → hp_I h3 (m + 2) f = hp_I h (q + 2) f := fun f hf => by rw [e3, sd_rI_eq]; rw [if_pos hf, fr_I f2 (by omega), fr_I f1 (by omega)]
  refine wp_aload1 rfl ?_
  refine wp_getR rfl (Market_kd T5) (Market_R7 T5) (by first | decide | omega) ?_
  refine wp_aload0 rfl ?_
  refine wp_getR rfl (Market_kd S5) (Market_R7 S5) (by first | decide | omega) ?_
  refine wp_callS2V rfl (Nat.le_of_ble_eq_true rfl) (Cells_copy_ok (Market_k7 T5) (Market_k7 S5) (by omega) (by omega) (by omega) (Market_n7 T5) (Market_n7 S5) rfl (by decide)) (Nat.le_of_ble_eq_true rfl) ?_
  rintro _ rfl
  refine wq_gen (fun h4 e4 => ?_)
  have S6 : S_Market h4 m := by rw [e4]; exact S5
  have T6 : S_Market h4 q := by rw [e4]; exact T5
  have f4 : fr_ (fun c => c = m + 3) h3 h4 := by rw [e4]; exact fr_row rfl (fr_refl _ _)
  have r4 : ∀ f, f < 8 → hp_I h4 (m + 3) f = hp_I h (q + 3) f := fun f hf => by rw [e4, sd_rI_eq]; rw [if_pos hf, fr_I f3 (by omega), fr_I f2 (by omega), fr_I f1 (by omega)]
  refine wp_aload1 rfl ?_
  refine wp_getR rfl (Market_kd T6) (Market_R8 T6) (by first | decide | omega) ?_
  refine wp_aload0 rfl ?_
  refine wp_getR rfl (Market_kd S6) (Market_R8 S6) (by first | decide | omega) ?_
  refine wp_callS2V rfl (Nat.le_of_ble_eq_true rfl) (Cells_copy_ok (Market_k8 T6) (Market_k8 S6) (by omega) (by omega) (by omega) (Market_n8 T6) (Market_n8 S6) rfl (by decide)) (Nat.le_of_ble_eq_true rfl) ?_
  rintro _ rfl
  refine wq_gen (fun h5 e5 => ?_)
  have S7 : S_Market h5 m := by rw [e5]; exact S6
  have T7 : S_Market h5 q := by rw [e5]; exact T6
  have f5 : fr_ (fun c => c = m + 4) h4 h5 := by rw [e5]; exact fr_row rfl (fr_refl _ _)
  have r5 : ∀ f, f < 2 → hp_I h5 (m + 4) f = hp_I h (q + 4) f := fun f hf => by rw [e5, sd_rI_eq]; rw [if_pos hf, fr_I f4 (by omega), fr_I f3 (by omega), fr_I f2 (by omega), fr_I f1 (by omega)]
  have g5 : ∀ c, c < m ∨ m + 4 < c → hp_I h5 c = hp_I h c := fun c hc => by rw [fr_I f5 (by omega), fr_I f4 (by omega), fr_I f3 (by omega), fr_I f2 (by omega), fr_I f1 (by omega)]
  refine wp_aload0 rfl ?_
  refine wp_getR rfl (Market_kd S7) (Market_R9 S7) (by first | decide | omega) ?_
  refine wp_aload1 rfl ?_
  refine wp_getR rfl (Market_kd T7) (Market_R9 T7) (by first | decide | omega) ?_
  refine wp_callV1V rfl (Nat.le_of_ble_eq_true rfl) (Notes_kd (Market_s9 S7)) (Notes_take_ok (Market_s9 S7) (Market_s9 T7) (by omega)) (Nat.le_of_ble_eq_true rfl) ?_
  rintro _ rfl
  refine wq_gen (fun h6 e6 => ?_)
  have S8 : S_Market h6 m := by rw [e6]; exact S7
  have T8 : S_Market h6 q := by rw [e6]; exact T7
  have f6 : fr_ (fun c => c = m + 5 ∨ c = m + 6) h5 h6 := by rw [e6]; exact fr_row (Or.inl rfl) (fr_row (Or.inr rfl) (fr_refl _ _))
  have r6 : hp_I h6 (m + 5) 1 = hp_I h (q + 5) 1 := by rw [e6, sd_rI_eq, sd_up_eq, g5 _ (by omega)]
  have r6b : ∀ i, i < 6 → hp_I h6 (m + 6) i = hp_I h (q + 6) i := fun i hi => by rw [e6, sd_rI_ne (by omega), sd_rI_eq]; rw [if_pos hi, g5 _ (by omega)]
  refine wp_aload0 rfl ?_
  refine wp_getR rfl (Market_kd S8) (Market_R10 S8) (by first | decide | omega) ?_
  refine wp_aload1 rfl ?_
  refine wp_getR rfl (Market_kd T8) (Market_R10 T8) (by first | decide | omega) ?_
  refine wp_callV1V rfl (Nat.le_of_ble_eq_true rfl) (Notes_kd (Market_s10 S8)) (Notes_take_ok (Market_s10 S8) (Market_s10 T8) (by omega)) (Nat.le_of_ble_eq_true rfl) ?_
  rintro _ rfl
  refine wq_gen (fun h7 e7 => ?_)
  have f7 : fr_ (fun c => c = m + 7 ∨ c = m + 8) h6 h7 := by rw [e7]; exact fr_row (Or.inl rfl) (fr_row (Or.inr rfl) (fr_refl _ _))
  have r7 : hp_I h7 (m + 7) 1 = hp_I h (q + 7) 1 := by rw [e7, sd_rI_eq, sd_up_eq, fr_I f6 (by omega), g5 _ (by omega)]
  have r7b : ∀ i, i < 6 → hp_I h7 (m + 8) i = hp_I h (q + 8) i := fun i hi => by rw [e7, sd_rI_ne (by omega), sd_rI_eq]; rw [if_pos hi, fr_I f6 (by omega), g5 _ (by omega)]
  refine wp_vret rfl ?_
  have back : ∀ c, c < m + 5 → hp_I h7 c = hp_I h5 c := fun c hc => by rw [fr_I f7 (by omega), fr_I f6 (by omega)]
  have b0 : hp_I h7 m = hp_I h1 m := by rw [back _ (by omega), fr_I f5 (by omega), fr_I f4 (by omega), fr_I f3 (by omega), fr_I f2 (by omega)]
  refine ⟨rfl, ⟨⟨?_, ?_, ?_, ?_, ?_⟩, fun f hf => ?_, fun f hf => ?_, fun g hg => ?_, fun c hc => ?_, ⟨?_, fun i z hz => ?_⟩, ?_, fun i z hz => ?_⟩, ?_⟩
  · rw [b0, e1, sd_rI_eq, ← m1]; rfl
  · rw [b0, e1, sd_rI_eq, ← m2]; rfl
  · rw [b0, e1, sd_rI_eq, ← m3]; rfl
  · rw [b0, e1, sd_rI_eq, ← m4]; rfl
  · rw [b0, e1, sd_rI_eq, ← m5]; rfl
  · rw [back _ (by omega), fr_I f5 (by omega), fr_I f4 (by omega), fr_I f3 (by omega), r2 f hf]; exact m6 f hf
  · rw [back _ (by omega), fr_I f5 (by omega), fr_I f4 (by omega), r3 f hf]; exact m7 f hf
  · rw [back _ (by omega), fr_I f5 (by omega), r4 g hg]; exact m8 g hg
  · rw [back _ (by omega), r5 c hc]; exact m9 c hc
  · rw [fr_I f7 (by omega), r6]; exact m10
  · have hi : i < 6 := Nat.lt_of_lt_of_le (List.getElem?_eq_some_iff.mp hz).1 w.2.2.2.2.2.2.2.2.2.1
    rw [show m + 5 + 1 = m + 6 from rfl, fr_I f7 (by omega), r6b i hi]; exact m11 i z hz
  · rw [r7]; exact m12
  · have hi : i < 6 := Nat.lt_of_lt_of_le (List.getElem?_eq_some_iff.mp hz).1 w.2.2.2.2.2.2.2.2.2.2.2.1
    rw [show m + 7 + 1 = m + 8 from rfl, r7b i hi]; exact m13 i z hz
  · exact fr_trans (fr_mono (by intros; omega) f1) (fr_trans (fr_mono (by intros; omega) f2) (fr_trans (fr_mono (by intros; omega) f3) (fr_trans (fr_mono (by intros; omega) f4) (fr_trans (fr_mono (by intros; omega) f5) (fr_trans (fr_mono (by intros; omega) f6) (fr_mono (by intros; omega) f7))))))
end
section
-- ===== maps of eight places: inverses, orders, words =====
theorem IsP.mono {n : Nat} {f : Nat → Nat} (h : IsP n f) (hn : n ≤ 8) : IsP 8 f := ⟨h.lt8 hn, fun i j _ _ z => h.inj8 i j z, fun i hi => h.2.2 i (Nat.le_trans hn hi)⟩
theorem IsP.id (n : Nat) : IsP n (fun p => p) := ⟨fun i h => h, fun i j _ _ z => z, fun i _ => rfl⟩
theorem IsP.then {n : Nat} {f g : Nat → Nat} (hf : IsP n f) (hg : IsP n g) : IsP n (fun p => g (f p)) := ⟨fun i h => hg.1 _ (hf.1 i h), fun i j hi hj z => hf.2.1 i j hi hj (hg.2.1 _ _ (hf.1 i hi) (hf.1 j hj) z), fun i h => by dsimp only; rw [hf.2.2 i h, hg.2.2 i h]⟩
/-- the place that goes to q -/
def in_ (f : Nat → Nat) (q : Nat) : Nat := ((List.range 8).find? (fun p => decide (f p = q))).getD q
theorem in_left {f : Nat → Nat} (hf : IsP 8 f) (i : Nat) : in_ f (f i) = i := by
  unfold in_
  cases h : (List.range 8).find? (fun p => decide (f p = f i)) with
  | none =>
    rcases Nat.lt_or_ge i 8 with q | q
    · have := List.find?_eq_none.mp h i (List.mem_range.mpr q)
      exact absurd (decide_eq_true rfl) this
    · show f i = i
      exact hf.2.2 i q
  | some j =>
    have h1 := List.find?_some h
    show j = i
    exact hf.inj8 j i (of_decide_eq_true h1)
/-- an injective map of eight places to themselves is onto -/
theorem onto8 {f : Nat → Nat} (hf : IsP 8 f) : ∀ q, q < 8 → ∃ p, p < 8 ∧ f p = q := by
  intro q hq
  have key : ∀ n, n ≤ 8 → ∀ (g : Nat → Nat), (∀ i, i < n → g i < 8) → (∀ i j, i < n → j < n → g i = g j → i = j) → (∀ i, i < n → g i ≠ q) → n ≤ 7 := by
    intro n hn g h1 h2 h3
    rcases Nat.lt_or_ge n 8 with z | z
    · omega
    · exfalso
      obtain rfl : n = 8 := by omega
      -- eight different numbers below eight, none of them q: the map that closes the gap is into seven
      have hh : ∀ i, i < 8 → (if g i < q then g i else g i - 1) < 7 := by
        intro i hi
        have := h1 i hi
        have := h3 i hi
        split <;> omega
      have hi : ∀ i j, i < 8 → j < 8 → (if g i < q then g i else g i - 1) = (if g j < q then g j else g j - 1) → i = j := by
        intro i j hi hj e
        refine h2 i j hi hj ?_
        have := h3 i hi
        have := h3 j hj
        split at e <;> split at e <;> omega
      have pig : ∀ (m n : Nat) (f : Nat → Nat), (∀ i, i < n → f i < m) → (∀ i j, i < n → j < n → f i = f j → i = j) → n ≤ m := by
        intro m
        induction m with
        | zero =>
          intro n f h1 _
          rcases Nat.eq_zero_or_pos n with z | z
          · omega
          · exact absurd (h1 0 z) (Nat.not_lt_zero _)
        | succ m ih =>
          intro n f h1 h2
          rcases Nat.eq_zero_or_pos n with z | z
          · omega
          · obtain ⟨n, rfl⟩ : ∃ k, n = k + 1 := ⟨n - 1, by omega⟩
            have := ih n (fun i => if f i < f n then f i else f i - 1) (fun i hi => by
                have a1 := h1 i (by omega)
                have a2 := h1 n (by omega)
                have a3 : f i ≠ f n := fun e => by have := h2 i n (by omega) (by omega) e; omega
                split <;> omega) (fun i j hi hj e => by
                have a3 : f i ≠ f n := fun e => by have := h2 i n (by omega) (by omega) e; omega
                have a4 : f j ≠ f n := fun e => by have := h2 j n (by omega) (by omega) e; omega
                refine h2 i j (by omega) (by omega) ?_
                split at e <;> split at e <;> omega)
            omega
      have := pig 7 8 _ hh hi
      omega
  refine Classical.byContradiction fun hno => ?_
  have := key 8 (Nat.le_refl _) f hf.1 (fun i j _ _ e => hf.inj8 i j e) (fun i hi e => hno ⟨i, hi, e⟩)
  omega
theorem in_right {f : Nat → Nat} (hf : IsP 8 f) (i : Nat) : f (in_ f i) = i := by
  rcases Nat.lt_or_ge i 8 with q | q
  · obtain ⟨p, hp, e⟩ := onto8 hf i q
    rw [← e, in_left hf]
  · have : f i = i := hf.2.2 i q
    have h2 := in_left hf i
    rw [this] at h2
    rw [h2, this]
theorem in_P {f : Nat → Nat} (hf : IsP 8 f) : IsP 8 (in_ f) := by
  refine ⟨fun i hi => ?_, fun i j _ _ e => ?_, fun i hi => ?_⟩
  · obtain ⟨p, hp, e⟩ := onto8 hf i hi
    rw [← e, in_left hf]
    exact hp
  · rw [← in_right hf i, e, in_right hf j]
  · have h2 := in_left hf i
    rw [hf.2.2 i hi] at h2
    exact h2
/-- a map of n places, backwards -/
theorem in_Pn {n : Nat} {f : Nat → Nat} (hn : n ≤ 8) (hf : IsP n f) : IsP n (in_ f) := by
  have hP := in_P (hf.mono hn)
  refine ⟨fun i hi => ?_, fun i j _ _ e => hP.inj8 i j e, fun i hi => ?_⟩
  · rcases Nat.lt_or_ge (in_ f i) n with q | q
    · exact q
    · have h1 := in_right (hf.mono hn) i
      rw [hf.2.2 _ q] at h1
      omega
  · have h2 := in_left (hf.mono hn) i
    rw [hf.2.2 i hi] at h2
    exact h2
-- times
theorem it_add (f : Nat → Nat) (j k p : Nat) : it_ f (j + k) p = it_ f j (it_ f k p) := by
  induction j with
  | zero => rw [Nat.zero_add]; rfl
  | succ j ih => rw [Nat.succ_add]; show f _ = f _; rw [ih]
theorem it_P {n : Nat} {f : Nat → Nat} (hf : IsP n f) : ∀ k, IsP n (it_ f k)
  | 0 => IsP.id n
  | k + 1 => (it_P hf k).then hf
theorem it_mul {f : Nat → Nat} {c p : Nat} (h : it_ f c p = p) : ∀ k, it_ f (c * k) p = p
  | 0 => rfl
  | k + 1 => by rw [Nat.mul_succ, it_add, h]; exact it_mul h k
/-- each place comes back within eight times -/
theorem it_back {f : Nat → Nat} (hf : IsP 8 f) (p : Nat) (hp : p < 8) : ∃ c, 1 ≤ c ∧ c ≤ 8 ∧ it_ f c p = p := by
  refine Classical.byContradiction fun hno => ?_
  -- nine different places below eight
  have hd : ∀ i j, i < j → j < 9 → it_ f i p ≠ it_ f j p := by
    intro i j hij hj e
    refine hno ⟨j - i, by omega, by omega, ?_⟩
    rw [show j = i + (j - i) by omega, it_add] at e
    exact ((it_P hf i).inj8 _ _ e).symm
  have hP : IsP 8 (fun k => if k < 8 then it_ f k p else k) := ⟨fun i hi => by show (if i < 8 then it_ f i p else i) < 8; rw [if_pos hi]; exact (it_P hf i).1 p hp, fun i j hi hj e => by
      change (if i < 8 then it_ f i p else i) = (if j < 8 then it_ f j p else j) at e
      rw [if_pos hi, if_pos hj] at e
      rcases Nat.lt_trichotomy i j with z | z | z
      · exact absurd e (hd i j z (by omega))
      · exact z
      · exact absurd e.symm (hd j i z (by omega)), fun i hi => if_neg (by omega)⟩
  obtain ⟨k, hk, e⟩ := onto8 hP (it_ f 8 p) ((it_P hf 8).1 p hp)
  change (if k < 8 then it_ f k p else k) = _ at e
  rw [if_pos hk] at e
  exact hd k 8 hk (by omega) e
theorem it_840 {f : Nat → Nat} (hf : IsP 8 f) (p : Nat) : it_ f 840 p = p := by
  rcases Nat.lt_or_ge p 8 with q | q
  · obtain ⟨c, h1, h2, e⟩ := it_back hf p q
    have hc : ∀ c, c < 9 → 1 ≤ c → c * (840 / c) = 840 := by decide
    have := it_mul e (840 / c)
    rw [hc c (by omega) h1] at this
    exact this
  · exact (it_P hf 840).2.2 p q
theorem in_it {f : Nat → Nat} (hf : IsP 8 f) : in_ f = it_ f 839 := funext fun p => by
  have h := it_840 hf p
  have h2 : f (it_ f 839 p) = p := h
  have h3 := in_left hf (it_ f 839 p)
  rw [h2] at h3
  exact h3
/-- words: letters that are ok, each a map, the first first -/
def ac_ (mv : Nat → Nat → Nat) : List Nat → Nat → Nat
  | [], p => p
  | f :: w, p => ac_ mv w (mv f p)
theorem ac_app (mv : Nat → Nat → Nat) (u w : List Nat) (p : Nat) : ac_ mv (u ++ w) p = ac_ mv w (ac_ mv u p) := by
  induction u generalizing p with
  | nil => rfl
  | cons f u ih => exact ih (mv f p)
theorem ac_P {n : Nat} {mv : Nat → Nat → Nat} (h : ∀ f, IsP n (mv f)) : ∀ w, IsP n (ac_ mv w)
  | [] => IsP.id n
  | f :: w => (h f).then (ac_P h w)
def wok_ (ok : Nat → Bool) (w : List Nat) : Prop := ∀ f ∈ w, f < 6 ∧ ok f = true
theorem wok_app {ok : Nat → Bool} {u w : List Nat} (hu : wok_ ok u) (hw : wok_ ok w) : wok_ ok (u ++ w) := fun f hf => (List.mem_append.mp hf).elim (hu f) (hw f)
/-- what can be made of the letters -/
def GG_ (mv : Nat → Nat → Nat) (ok : Nat → Bool) (u : Nat → Nat) : Prop := ∃ w, wok_ ok w ∧ ac_ mv w = u
theorem GG_id (mv : Nat → Nat → Nat) (ok : Nat → Bool) : GG_ mv ok (fun p => p) := ⟨[], fun f hf => (by cases hf), funext fun _ => rfl⟩
theorem GG_then {mv : Nat → Nat → Nat} {ok : Nat → Bool} {u v : Nat → Nat} (hu : GG_ mv ok u) (hv : GG_ mv ok v) : GG_ mv ok (fun p => v (u p)) := by
  obtain ⟨w1, h1, rfl⟩ := hu
  obtain ⟨w2, h2, rfl⟩ := hv
  exact ⟨w1 ++ w2, wok_app h1 h2, funext fun p => ac_app mv w1 w2 p⟩
theorem GG_gen {mv : Nat → Nat → Nat} {ok : Nat → Bool} {f : Nat} (hf : f < 6) (ho : ok f = true) : GG_ mv ok (mv f) := ⟨[f], fun g hg => by rw [List.mem_singleton.mp hg]; exact ⟨hf, ho⟩, funext fun _ => rfl⟩
theorem GG_it {mv : Nat → Nat → Nat} {ok : Nat → Bool} {u : Nat → Nat} (hu : GG_ mv ok u) : ∀ k, GG_ mv ok (it_ u k)
  | 0 => GG_id mv ok
  | k + 1 => GG_then (u := it_ u k) (v := u) (GG_it hu k) hu
theorem GG_in {mv : Nat → Nat → Nat} {ok : Nat → Bool} {u : Nat → Nat} (hP : IsP 8 u) (hu : GG_ mv ok u) : GG_ mv ok (in_ u) := by
  rw [in_it hP]
  exact GG_it hu 839
theorem GG_P {mv : Nat → Nat → Nat} {ok : Nat → Bool} {u : Nat → Nat} (h : ∀ f, IsP 8 (mv f)) (hu : GG_ mv ok u) : IsP 8 u := by
  obtain ⟨w, -, rfl⟩ := hu
  exact ac_P h w
-- the danced map: the chain behind a place that is not lame comes to one that is not
theorem fn_it {f : Nat → Nat} {lm : Nat} : ∀ k p, ∃ j, j ≤ k ∧ fn_ f lm k p = it_ f j p ∧ (∀ i, i < j → lm.testBit (it_ f i p) = true) ∧ (j < k → lm.testBit (it_ f j p) = false)
  | 0, p => ⟨0, Nat.le_refl _, rfl, fun i hi => absurd hi (Nat.not_lt_zero _), fun h => absurd h (Nat.not_lt_zero _)⟩
  | k + 1, p => by
    cases hb : lm.testBit p with
    | false => exact ⟨0, Nat.zero_le _, by rw [fn_, if_neg (by rw [hb]; decide)]; rfl, fun i hi => absurd hi (Nat.not_lt_zero _), fun _ => hb⟩
    | true =>
      obtain ⟨j, h1, h2, h3, h4⟩ := fn_it (f := f) (lm := lm) k (f p)
      have sh : ∀ i, it_ f (i + 1) p = it_ f i (f p) := fun i => it_add f i 1 p
      refine ⟨j + 1, by omega, by rw [fn_, if_pos hb, h2, sh], fun i hi => ?_, fun hj => by rw [sh]; exact h4 (by omega)⟩
      cases i with
      | zero => exact hb
      | succ i => rw [sh]; exact h3 i (by omega)
theorem dz_it {f : Nat → Nat} {lm p : Nat} (hf : IsP 8 f) (hp : p < 8) (hb : lm.testBit p = false) : ∃ j, 1 ≤ j ∧ j ≤ 8 ∧ dz_ f lm p = it_ f j p ∧ (∀ i, 1 ≤ i → i < j → lm.testBit (it_ f i p) = true) ∧ lm.testBit (it_ f j p) = false := by
  obtain ⟨c, c1, c2, ce⟩ := it_back hf p hp
  obtain ⟨j, h1, h2, h3, h4⟩ := fn_it (f := f) (lm := lm) 8 (f p)
  have sh : ∀ i, it_ f (i + 1) p = it_ f i (f p) := fun i => it_add f i 1 p
  have hj7 : j ≤ 7 := by
    rcases Nat.lt_or_ge (c - 1) j with z | z
    · have := h3 (c - 1) z
      rw [← sh, show c - 1 + 1 = c by omega, ce, hb] at this
      cases this
    · omega
  refine ⟨j + 1, by omega, by omega, by rw [dz_, if_neg (by rw [hb]; decide), h2, sh], fun i hi hij => ?_, by rw [sh]; exact h4 (by omega)⟩
  have := h3 (i - 1) (by omega)
  rw [← sh, show i - 1 + 1 = i by omega] at this
  exact this
theorem it_low {n : Nat} {f : Nat → Nat} (hf : IsP n f) : ∀ k p, p < n → it_ f k p < n := fun k p hp => (it_P hf k).1 p hp
theorem dz_P {n : Nat} {f : Nat → Nat} {lm : Nat} (hn : n ≤ 8) (hf : IsP n f) : IsP n (dz_ f lm) := by
  have hf8 := hf.mono hn
  refine ⟨fun p hp => ?_, fun p q hp hq e => ?_, fun p hp => ?_⟩
  · cases hb : lm.testBit p with
    | true => rw [dz_, if_pos hb]; exact hp
    | false =>
      obtain ⟨j, -, -, e, -⟩ := dz_it hf8 (by omega : p < 8) hb
      rw [e]
      exact it_low hf j p hp
  · -- injective
    have two : ∀ p q, p < n → q < n → lm.testBit p = false → lm.testBit q = false → dz_ f lm p = dz_ f lm q → p = q := by
      intro p q hp hq hbp hbq e
      obtain ⟨j, j1, j8, je, jl, jb⟩ := dz_it hf8 (by omega : p < 8) hbp
      obtain ⟨k, k1, k8, ke, kl, kb⟩ := dz_it hf8 (by omega : q < 8) hbq
      rw [je, ke] at e
      rcases Nat.lt_trichotomy j k with z | z | z
      · rw [show k = j + (k - j) by omega, it_add] at e
        have := (it_P hf8 j).inj8 _ _ e
        have h2 := kl (k - j) (by omega) (by omega)
        rw [← this, hbp] at h2
        cases h2
      · subst z
        exact (it_P hf8 j).inj8 _ _ e
      · rw [show j = k + (j - k) by omega, it_add] at e
        have := (it_P hf8 k).inj8 _ _ e
        have h2 := jl (j - k) (by omega) (by omega)
        rw [this, hbq] at h2
        cases h2
    cases hbp : lm.testBit p with
    | true =>
      cases hbq : lm.testBit q with
      | true => rw [dz_, if_pos hbp, dz_, if_pos hbq] at e; exact e
      | false =>
        obtain ⟨k, k1, k8, ke, kl, kb⟩ := dz_it hf8 (by omega : q < 8) hbq
        rw [← ke, ← e, dz_, if_pos hbp, hbp] at kb
        cases kb
    | false =>
      cases hbq : lm.testBit q with
      | true =>
        obtain ⟨k, k1, k8, ke, kl, kb⟩ := dz_it hf8 (by omega : p < 8) hbp
        rw [← ke, e, dz_, if_pos hbq, hbq] at kb
        cases kb
      | false => exact two p q hp hq hbp hbq e
  · unfold dz_
    split
    · rfl
    · rw [hf.2.2 p hp]
      have : ∀ k, fn_ f lm k p = p := by
        intro k
        induction k with
        | zero => rfl
        | succ k ih =>
          unfold fn_
          split
          · rw [hf.2.2 p hp]; exact ih
          · rfl
      exact this 8
theorem mv_P {s : Sg_} (w : sg_wf s) (f : Nat) : IsP (sg_n s) (mv_ s f) := dz_P w.1.2 (w.2.2.2.2.2.1 f)
theorem mv_P8 {s : Sg_} (w : sg_wf s) (f : Nat) : IsP 8 (mv_ s f) := (mv_P w f).mono w.1.2
end
section
-- ===== a table as of Sims: what sifts through it, when it is whole, how many there are =====
abbrev Tb_ : Type := Nat → Nat → Option (Nat → Nat)
/-- k levels are left: the next one is 8 - k -/
def sf_ (T : Tb_) : Nat → (Nat → Nat) → (Nat → Nat)
  | 0, u => u
  | k + 1, u => if u (7 - k) = 7 - k then sf_ T k u else match T (7 - k) (u (7 - k)) with
    | none => u
    | some v => sf_ T k (fun i => in_ v (u i))
def TT_ (T : Tb_) (p : Nat) (t : Nat → Nat) : Prop := t = (fun i => i) ∨ ∃ q, T p q = some t
def SS_ (T : Tb_) : Nat → (Nat → Nat) → Prop
  | 0, u => u = fun i => i
  | k + 1, u => ∃ t v, TT_ T (7 - k) t ∧ SS_ T k v ∧ u = fun i => t (v i)
def Tok_ (T : Tb_) : Prop := ∀ p q t, T p q = some t → (p < q ∧ q < 8) ∧ IsP 8 t ∧ (∀ i, i < p → t i = i) ∧ t p = q
theorem TT_P {T : Tb_} (hT : Tok_ T) {p : Nat} {t : Nat → Nat} (h : TT_ T p t) : IsP 8 t ∧ (∀ i, i < p → t i = i) ∧ (t p = p → t = fun i => i) := by
  rcases h with rfl | ⟨q, hq⟩
  · exact ⟨IsP.id 8, fun i _ => rfl, fun _ => rfl⟩
  · obtain ⟨h1, h2, h3, h4⟩ := hT p q t hq
    exact ⟨h2, h3, fun z => by omega⟩
theorem SS_P {T : Tb_} (hT : Tok_ T) : ∀ k u, k ≤ 8 → SS_ T k u → IsP 8 u ∧ ∀ i, i < 8 - k → u i = i
  | 0, u, _, h => by rw [show u = fun i => i from h]; exact ⟨IsP.id 8, fun i _ => rfl⟩
  | k + 1, u, hk, h => by
    obtain ⟨t, v, ht, hv, rfl⟩ := h
    obtain ⟨h1, h2⟩ := SS_P hT k v (by omega) hv
    obtain ⟨h3, h4, -⟩ := TT_P hT ht
    exact ⟨h1.then h3, fun i hi => by dsimp only; rw [h2 i (by omega), h4 i (by omega)]⟩
theorem SS_id (T : Tb_) : ∀ k, SS_ T k (fun i => i)
  | 0 => rfl
  | k + 1 => ⟨fun i => i, fun i => i, Or.inl rfl, SS_id T k, rfl⟩
theorem SS_up {T : Tb_} {k : Nat} {u : Nat → Nat} (h : SS_ T k u) : ∀ j, SS_ T (k + j) u
  | 0 => h
  | j + 1 => ⟨fun i => i, u, Or.inl rfl, SS_up h j, rfl⟩
theorem SS_entry {T : Tb_} (hT : Tok_ T) {p q : Nat} {a : Nat → Nat} (h : T p q = some a) : SS_ T 8 a := by
  obtain ⟨⟨h1, h2⟩, -⟩ := hT p q a h
  have : SS_ T (7 - p + 1) a := ⟨a, fun i => i, Or.inr ⟨q, by rw [show 7 - (7 - p) = p by omega]; exact h⟩, SS_id T _, rfl⟩
  have := SS_up this p
  rw [show 7 - p + 1 + p = 8 by omega] at this
  exact this
theorem SS_down1 {T : Tb_} (hT : Tok_ T) {k : Nat} {u : Nat → Nat} (hk : k + 1 ≤ 8) (h : SS_ T (k + 1) u) (hf : u (7 - k) = 7 - k) : SS_ T k u := by
  obtain ⟨t, v, ht, hv, rfl⟩ := h
  obtain ⟨h1, h2⟩ := SS_P hT k v (by omega) hv
  obtain ⟨-, -, h5⟩ := TT_P hT ht
  dsimp only at hf
  rw [h2 _ (by omega)] at hf
  rw [h5 hf]
  exact hv
theorem SS_down {T : Tb_} (hT : Tok_ T) {u : Nat → Nat} : ∀ j k, k + j ≤ 8 → SS_ T (k + j) u → (∀ i, i < 8 - k → u i = i) → SS_ T k u
  | 0, k, _, h, _ => h
  | j + 1, k, hk, h, hf => SS_down hT j k (by omega) (SS_down1 hT (k := k + j) (by omega) h (hf _ (by omega))) hf
theorem SS_mono {T T' : Tb_} (hTT : ∀ p q t, T p q = some t → T' p q = some t) : ∀ k u, SS_ T k u → SS_ T' k u
  | 0, u, h => h
  | k + 1, u, h => by
    obtain ⟨t, v, ht, hv, rfl⟩ := h
    refine ⟨t, v, ?_, SS_mono hTT k v hv, rfl⟩
    rcases ht with z | ⟨q, z⟩
    · exact Or.inl z
    · exact Or.inr ⟨q, hTT _ _ _ z⟩
/-- what a sift comes to -/
theorem sf_spec {T : Tb_} (hT : Tok_ T) : ∀ k u, k ≤ 8 → IsP 8 u → (∀ i, i < 8 - k → u i = i) → IsP 8 (sf_ T k u) ∧ (∀ i, i < 8 - k → sf_ T k u i = i) ∧ ((∀ i, sf_ T k u i = i) ∨ ∃ p, p < 8 ∧ (∀ i, i < p → sf_ T k u i = i) ∧ sf_ T k u p ≠ p ∧ T p (sf_ T k u p) = none)
  | 0, u, _, hu, hf => ⟨hu, hf, Or.inl (fun i => by
      rcases Nat.lt_or_ge i 8 with q | q
      · exact hf i q
      · exact hu.2.2 i q)⟩
  | k + 1, u, hk, hu, hf => by
    rw [sf_]
    by_cases h1 : u (7 - k) = 7 - k
    · rw [if_pos h1]
      have hf2 : ∀ i, i < 8 - k → u i = i := fun i hi => by
        rcases Nat.lt_or_ge i (8 - (k + 1)) with q | q
        · exact hf i q
        · rw [show i = 7 - k by omega]; exact h1
      obtain ⟨a1, a2, a3⟩ := sf_spec hT k u (by omega) hu hf2
      exact ⟨a1, fun i hi => a2 i (by omega), a3⟩
    · rw [if_neg h1]
      cases hv : T (7 - k) (u (7 - k)) with
      | none => exact ⟨hu, hf, Or.inr ⟨7 - k, by omega, fun i hi => hf i (by omega), h1, hv⟩⟩
      | some v =>
        dsimp only
        obtain ⟨-, hv2, hv3, hv4⟩ := hT _ _ _ hv
        have hin := in_P hv2
        have hfix : ∀ i, i < 8 - k → in_ v (u i) = i := fun i hi => by
          rcases Nat.lt_or_ge i (7 - k) with q | q
          · rw [hf i (by omega)]
            have := in_left hv2 i
            rw [hv3 i q] at this
            exact this
          · obtain rfl : i = 7 - k := by omega
            rw [← hv4, in_left hv2]
        obtain ⟨a1, a2, a3⟩ := sf_spec hT k (fun i => in_ v (u i)) (by omega) (hu.then hin) hfix
        exact ⟨a1, fun i hi => a2 i (by omega), a3⟩
theorem sf_SS {T : Tb_} (hT : Tok_ T) : ∀ k u, k ≤ 8 → IsP 8 u → (∀ i, i < 8 - k → u i = i) → ((∀ i, sf_ T k u i = i) ↔ SS_ T k u)
  | 0, u, _, hu, hf => ⟨fun h => funext h, fun h i => by rw [show u = fun i => i from h]; rfl⟩
  | k + 1, u, hk, hu, hf => by
    rw [sf_]
    by_cases h1 : u (7 - k) = 7 - k
    · rw [if_pos h1]
      have hf2 : ∀ i, i < 8 - k → u i = i := fun i hi => by
        rcases Nat.lt_or_ge i (8 - (k + 1)) with q | q
        · exact hf i q
        · rw [show i = 7 - k by omega]; exact h1
      rw [sf_SS hT k u (by omega) hu hf2]
      exact ⟨fun h => SS_up h 1, fun h => SS_down1 hT hk h h1⟩
    · rw [if_neg h1]
      cases hv : T (7 - k) (u (7 - k)) with
      | none =>
        refine ⟨fun h => absurd (h _) h1, fun h => ?_⟩
        obtain ⟨t, v, ht, hv3, rfl⟩ := h
        obtain ⟨a1, a2⟩ := SS_P hT k v (by omega) hv3
        dsimp only at h1 hv
        rw [a2 _ (by omega)] at h1 hv
        rcases ht with rfl | ⟨q, z⟩
        · exact absurd rfl h1
        · have := (hT _ _ _ z).2.2.2
          rw [this, z] at hv
          cases hv
      | some v =>
        dsimp only
        obtain ⟨-, hv2, hv3, hv4⟩ := hT _ _ _ hv
        have hin := in_P hv2
        have hfix : ∀ i, i < 8 - k → in_ v (u i) = i := fun i hi => by
          rcases Nat.lt_or_ge i (7 - k) with q | q
          · rw [hf i (by omega)]
            have := in_left hv2 i
            rw [hv3 i q] at this
            exact this
          · obtain rfl : i = 7 - k := by omega
            rw [← hv4, in_left hv2]
        rw [sf_SS hT k (fun i => in_ v (u i)) (by omega) (hu.then hin) hfix]
        refine ⟨fun h => ⟨v, _, Or.inr ⟨_, hv⟩, h, funext fun i => (in_right hv2 (u i)).symm⟩, fun h => ?_⟩
        obtain ⟨t, x, ht, hx, e⟩ := h
        obtain ⟨a1, a2⟩ := SS_P hT k x (by omega) hx
        have hup : u (7 - k) = t (7 - k) := by rw [e]; dsimp only; rw [a2 _ (by omega)]
        have htv : t = v := by
          rcases ht with rfl | ⟨q, z⟩
          · exact absurd hup h1
          · have := (hT _ _ _ z).2.2.2
            rw [hup, this, z] at hv
            exact Option.some.inj hv
        subst htv
        rw [e]
        have : (fun i => in_ t ((fun i => t (x i)) i)) = x := funext fun i => in_left hv2 (x i)
        rw [this]
        exact hx
/-- with the rest of a sift in the table, it sifts -/
theorem sf_add {T T' : Tb_} (hT : Tok_ T) (hT' : Tok_ T') (hTT : ∀ p q t, T p q = some t → T' p q = some t) : ∀ k u, k ≤ 8 → IsP 8 u → (∀ i, i < 8 - k → u i = i) → SS_ T' k (sf_ T k u) → SS_ T' k u
  | 0, u, _, hu, hf, h => h
  | k + 1, u, hk, hu, hf, h => by
    rw [sf_] at h
    by_cases h1 : u (7 - k) = 7 - k
    · rw [if_pos h1] at h
      have hf2 : ∀ i, i < 8 - k → u i = i := fun i hi => by
        rcases Nat.lt_or_ge i (8 - (k + 1)) with q | q
        · exact hf i q
        · rw [show i = 7 - k by omega]; exact h1
      have hr := (sf_spec hT k u (by omega) hu hf2).2.1
      exact SS_up (sf_add hT hT' hTT k u (by omega) hu hf2 (SS_down1 hT' hk h (hr _ (by omega)))) 1
    · rw [if_neg h1] at h
      cases hv : T (7 - k) (u (7 - k)) with
      | none => rw [hv] at h; exact h
      | some v =>
        rw [hv] at h
        dsimp only at h
        obtain ⟨-, hv2, hv3, hv4⟩ := hT _ _ _ hv
        have hin := in_P hv2
        have hfix : ∀ i, i < 8 - k → in_ v (u i) = i := fun i hi => by
          rcases Nat.lt_or_ge i (7 - k) with q | q
          · rw [hf i (by omega)]
            have := in_left hv2 i
            rw [hv3 i q] at this
            exact this
          · obtain rfl : i = 7 - k := by omega
            rw [← hv4, in_left hv2]
        have hr := (sf_spec hT k (fun i => in_ v (u i)) (by omega) (hu.then hin) hfix).2.1
        have := sf_add hT hT' hTT k (fun i => in_ v (u i)) (by omega) (hu.then hin) hfix (SS_down1 hT' hk h (hr _ (by omega)))
        exact ⟨v, _, Or.inr ⟨_, hTT _ _ _ hv⟩, this, funext fun i => (in_right hv2 (u i)).symm⟩
theorem sf_GG {T : Tb_} (hT : Tok_ T) {G : (Nat → Nat) → Prop} (hthen : ∀ u v, G u → G v → G (fun i => v (u i))) (hin : ∀ u, IsP 8 u → G u → G (in_ u)) (he : ∀ p q t, T p q = some t → G t) : ∀ k u, G u → G (sf_ T k u)
  | 0, u, h => h
  | k + 1, u, h => by
    rw [sf_]
    split
    · exact sf_GG hT hthen hin he k u h
    · cases hv : T (7 - k) (u (7 - k)) with
      | none => exact h
      | some v => exact sf_GG hT hthen hin he k _ (hthen _ _ h (hin v (hT _ _ _ hv).2.1 (he _ _ _ hv)))
/-- Sims: when the products of two of the table sift, all products do -/
theorem SS_close {T : Tb_} (hT : Tok_ T) (hp : ∀ p q a p2 q2 b, T p q = some a → T p2 q2 = some b → SS_ T 8 (fun i => b (a i))) : ∀ k, k ≤ 8 → ∀ u w, SS_ T k u → SS_ T k w → SS_ T k (fun i => w (u i))
  | 0, _, u, w, hu, hw => by rw [show w = fun i => i from hw]; exact hu
  | k + 1, hk, u, w, hu, hw => by
    have hC := SS_close hT hp k (by omega)
    have hL : ∀ p q a x, 7 - k ≤ p → T p q = some a → SS_ T (k + 1) x → SS_ T (k + 1) (fun i => a (x i)) := by
      intro p q a x hpk ha hx
      obtain ⟨t, v, ht, hv, rfl⟩ := hx
      obtain ⟨-, aP, aF, -⟩ := hT _ _ _ ha
      obtain ⟨tP, tF, -⟩ := TT_P hT ht
      have h8 : SS_ T 8 (fun i => a (t i)) := by
        rcases ht with rfl | ⟨q2, z⟩
        · exact SS_entry hT ha
        · exact hp _ _ _ _ _ _ z ha
      have h9 : SS_ T (k + 1) (fun i => a (t i)) := by
        refine SS_down hT (8 - (k + 1)) (k + 1) (by omega) ?_ (fun i hi => ?_)
        · rw [show k + 1 + (8 - (k + 1)) = 8 by omega]; exact h8
        · rw [tF i (by omega), aF i (by omega)]
      obtain ⟨t2, y, ht2, hy, e⟩ := h9
      refine ⟨t2, fun i => y (v i), ht2, hC v y hv hy, funext fun i => ?_⟩
      exact congrFun e (v i)
    have hJ : ∀ j, j ≤ k + 1 → ∀ w, SS_ T j w → SS_ T (k + 1) (fun i => w (u i)) := by
      intro j
      induction j with
      | zero => intro _ w hw; rw [show w = fun i => i from hw]; exact hu
      | succ j ih =>
        intro hj w hw
        obtain ⟨t, v, ht, hv, rfl⟩ := hw
        have := ih (by omega) v hv
        rcases ht with rfl | ⟨q, z⟩
        · exact this
        · exact hL _ _ t _ (by omega) z this
    exact hJ (k + 1) (Nat.le_refl _) w hw
theorem SS_sub {T : Tb_} {G : (Nat → Nat) → Prop} (hid : G (fun i => i)) (hthen : ∀ u v, G u → G v → G (fun i => v (u i))) (he : ∀ p q t, T p q = some t → G t) : ∀ k u, SS_ T k u → G u
  | 0, u, h => by rw [show u = fun i => i from h]; exact hid
  | k + 1, u, h => by
    obtain ⟨t, v, ht, hv, rfl⟩ := h
    have h1 := SS_sub hid hthen he k v hv
    rcases ht with rfl | ⟨q, z⟩
    · exact h1
    · exact hthen _ _ h1 (he _ _ _ z)
/-- the table is whole: what sifts is what can be made -/
theorem SS_whole {T : Tb_} (hT : Tok_ T) {mv : Nat → Nat → Nat} {ok : Nat → Bool} (hp : ∀ p q a p2 q2 b, T p q = some a → T p2 q2 = some b → SS_ T 8 (fun i => b (a i))) (he : ∀ p q t, T p q = some t → GG_ mv ok t) (hg : ∀ f, f < 6 → ok f = true → SS_ T 8 (mv f)) (u : Nat → Nat) : SS_ T 8 u ↔ GG_ mv ok u := by
  refine ⟨SS_sub (GG_id mv ok) (fun u v hu hv => GG_then hu hv) he 8 u, ?_⟩
  rintro ⟨w, hw, rfl⟩
  induction w with
  | nil => exact SS_id T 8
  | cons f w ih =>
    have h1 := hw f List.mem_cons_self
    exact SS_close hT hp 8 (Nat.le_refl _) (mv f) (ac_ mv w) (hg f h1.1 h1.2) (ih (fun g hg => hw g (List.mem_cons_of_mem _ hg)))
-- how many there are
def CH_ (T : Tb_) (p : Nat) : List (Nat → Nat) := (fun i => i) :: (List.range' (p + 1) (7 - p)).filterMap (T p)
def LL_ (T : Tb_) : Nat → List (Nat → Nat)
  | 0 => [fun i => i]
  | k + 1 => (CH_ T (7 - k)).flatMap (fun t => (LL_ T k).map (fun v => fun i => t (v i)))
theorem CH_mem {T : Tb_} (hT : Tok_ T) (p : Nat) (t : Nat → Nat) : t ∈ CH_ T p ↔ TT_ T p t := by
  unfold CH_ TT_
  rw [List.mem_cons, List.mem_filterMap]
  refine or_congr Iff.rfl ⟨fun ⟨q, _, h⟩ => ⟨q, h⟩, fun ⟨q, h⟩ => ⟨q, ?_, h⟩⟩
  have := (hT _ _ _ h).1
  rw [List.mem_range'_1]
  omega
theorem LL_mem {T : Tb_} (hT : Tok_ T) : ∀ k u, u ∈ LL_ T k ↔ SS_ T k u
  | 0, u => by unfold LL_ SS_; rw [List.mem_singleton]
  | k + 1, u => by
    unfold LL_ SS_
    rw [List.mem_flatMap]
    constructor
    · rintro ⟨t, ht, hu⟩
      obtain ⟨v, hv, e⟩ := List.mem_map.mp hu
      exact ⟨t, v, (CH_mem hT _ _).mp ht, (LL_mem hT k v).mp hv, e.symm⟩
    · rintro ⟨t, v, ht, hv, e⟩
      exact ⟨t, (CH_mem hT _ _).mpr ht, List.mem_map.mpr ⟨v, (LL_mem hT k v).mpr hv, e.symm⟩⟩
theorem CH_apart {T : Tb_} (hT : Tok_ T) (p : Nat) : (CH_ T p).Pairwise (fun t t2 => t p ≠ t2 p) := by
  unfold CH_
  refine List.pairwise_cons.mpr ⟨fun t ht => ?_, ?_⟩
  · obtain ⟨q, hq, h⟩ := List.mem_filterMap.mp ht
    obtain ⟨⟨h1, -⟩, -, -, h4⟩ := hT _ _ _ h
    rw [h4]
    exact Nat.ne_of_lt h1
  · refine List.pairwise_filterMap.mpr (List.Pairwise.imp ?_ (List.pairwise_lt_range' (s := p + 1) (n := 7 - p) (step := 1)))
    intro a b hab t ht t2 ht2
    rw [(hT _ _ _ ht).2.2.2, (hT _ _ _ ht2).2.2.2]
    exact Nat.ne_of_lt hab
theorem LL_nodup {T : Tb_} (hT : Tok_ T) : ∀ k, k ≤ 8 → (LL_ T k).Nodup
  | 0, _ => List.nodup_cons.mpr ⟨List.not_mem_nil, List.nodup_nil⟩
  | k + 1, hk => by
    unfold LL_
    refine List.pairwise_flatMap.mpr ⟨fun t ht => ?_, ?_⟩
    · have htP := (TT_P hT ((CH_mem hT _ _).mp ht)).1
      refine List.pairwise_map.mpr (List.Pairwise.imp ?_ (LL_nodup hT k (by omega)))
      intro v v2 hne e
      exact hne (funext fun i => htP.inj8 _ _ (congrFun e i))
    · refine List.Pairwise.imp ?_ (CH_apart hT (7 - k))
      intro t t2 hne x hx y hy e
      obtain ⟨v, hv, rfl⟩ := List.mem_map.mp hx
      obtain ⟨v2, hv2, rfl⟩ := List.mem_map.mp hy
      have a1 := (SS_P hT k v (by omega) ((LL_mem hT k v).mp hv)).2 (7 - k) (by omega)
      have a2 := (SS_P hT k v2 (by omega) ((LL_mem hT k v2).mp hv2)).2 (7 - k) (by omega)
      have := congrFun e (7 - k)
      rw [a1, a2] at this
      exact hne this
/-- the choices of the levels ahead of p -/
def pr_ (T : Tb_) : Nat → Nat
  | 0 => 1
  | p + 1 => pr_ T p * (CH_ T p).length
theorem LL_len (T : Tb_) : ∀ k, k ≤ 8 → (LL_ T k).length * pr_ T (8 - k) = pr_ T 8
  | 0, _ => by unfold LL_; rw [List.length_singleton, Nat.one_mul]
  | k + 1, hk => by
    have ih := LL_len T k (by omega)
    have e : 8 - k = 8 - (k + 1) + 1 := by omega
    rw [e] at ih
    have hl : (LL_ T (k + 1)).length = (CH_ T (7 - k)).length * (LL_ T k).length := by
      rw [show LL_ T (k + 1) = (CH_ T (7 - k)).flatMap (fun t => (LL_ T k).map (fun v => fun i => t (v i))) from rfl, List.length_flatMap]
      simp only [List.length_map]
      generalize (LL_ T k).length = m
      induction CH_ T (7 - k) with
      | nil => simp
      | cons a l ih2 => simp only [List.map_cons, List.sum_cons, ih2, List.length_cons]; rw [Nat.succ_mul, Nat.add_comm]
    rw [hl, ← ih]
    show _ = (LL_ T k).length * (pr_ T (8 - (k + 1)) * (CH_ T (8 - (k + 1))).length)
    rw [show 8 - (k + 1) = 7 - k by omega, Nat.mul_comm (pr_ T (7 - k)), ← Nat.mul_assoc, Nat.mul_comm (LL_ T k).length]
theorem LL_len8 (T : Tb_) : (LL_ T 8).length = pr_ T 8 := by
  have := LL_len T 8 (Nat.le_refl _)
  rw [Nat.sub_self, show pr_ T 0 = 1 from rfl, Nat.mul_one] at this
  exact this
end
section
-- ===== Group =====
def S_Group (h : Hp_) (o : Nat) : Prop := hp_kd h o = 14 ∧ (hp_R h o 0 = o + 1 ∧ hp_R h o 1 = o + 2) ∧ (hp_kd h (o + 1) = 1 ∧ hp_ln h (o + 1) = 64) ∧ hp_kd h (o + 2) = 1 ∧ hp_ln h (o + 2) = 28
theorem Group_kd {h : Hp_} {o : Nat} (S : S_Group h o) : hp_kd h o = 14 := S.1
theorem Group_R0 {h : Hp_} {o : Nat} (S : S_Group h o) : hp_R h o 0 = o + 1 := S.2.1.1
theorem Group_R1 {h : Hp_} {o : Nat} (S : S_Group h o) : hp_R h o 1 = o + 2 := S.2.1.2
theorem Group_k0 {h : Hp_} {o : Nat} (S : S_Group h o) : hp_kd h (o + 1) = 1 := S.2.2.1.1
theorem Group_n0 {h : Hp_} {o : Nat} (S : S_Group h o) : hp_ln h (o + 1) = 64 := S.2.2.1.2
theorem Group_k1 {h : Hp_} {o : Nat} (S : S_Group h o) : hp_kd h (o + 2) = 1 := S.2.2.2.1
theorem Group_n1 {h : Hp_} {o : Nat} (S : S_Group h o) : hp_ln h (o + 2) = 28 := S.2.2.2.2
theorem S_Group_fr {P : Nat → Prop} {h h' : Hp_} {o : Nat} (hf : fr_ P h h') (S : S_Group h o) : S_Group h' o := by
  obtain ⟨g, rfl, hg⟩ := hf
  exact S
/-- a table's entry as an int -/
def te_ (t : Option (Nat → Nat)) : Int32 := match t with
  | none => -1
  | some u => nI (pq_ u 8)
theorem te_some {u : Nat → Nat} (hu : IsP 8 u) : nI (pq_ u 8) ≠ -1 := by
  intro z
  have := congrArg Int32.toInt z
  have h2 := pq_lt24 hu.1
  rw [nI_toInt (by omega)] at this
  have e1 : (-1 : Int32).toInt = -1 := by decide
  omega
def GT_ (h : Hp_) (o : Nat) (T : Tb_) : Prop := ∀ p q, p < 8 → q < 8 → hp_I h (o + 1) (8 * p + q) = te_ (T p q)
theorem Group_sift_ok {h : Hp_} {o : Nat} {T : Tb_} {u : Nat → Nat} (S : S_Group h o) (hT : Tok_ T) (hG : GT_ h o T) (hu : IsP 8 u) : cI 4 mn_Group_sift [.ref o, .int (nI (pq_ u 8))] h (fun x h' => x = nI (pq_ (sf_ T 8 u) 8) ∧ h' = h) := by
  refine cq_in (q := mi_Group_sift) (L := [some (.ref o), some (.int (nI (pq_ u 8))), none, none, none, none]) rfl (Nat.le_of_ble_eq_true rfl) rfl ?_
  show wq _ tb_Group_sift none 0 _ _ _ _
  have loop : ∀ k v (a4 a5 : Option Value), nl_ a4 = true → k ≤ 8 → IsP 8 v → wq 3 tb_Group_sift none 4 [some (.ref o), some (.int (nI (pq_ u 8))), some (.int (nI (pq_ v 8))), some (.int (nI (8 - k))), a4, a5] [] h (fun r h' => ∃ x, r = some (.int x) ∧ x = nI (pq_ (sf_ T k v) 8) ∧ h' = h) := by
    intro k
    induction k with
    | zero =>
      intro v a4 a5 hn hk hv
      refine wp_iload3 rfl ?_
      refine wp_bipush rfl ?_
      refine wp_icmp_geN (8 - 0) (8) (by omega) (by omega) rfl (fun c1 => ?_) (fun c1 => ?_)
      · skip
        refine wp_iload2 rfl ?_
        exact wp_iret rfl ⟨_, rfl, rfl, rfl⟩
      · exact absurd c1 (by omega)
    | succ k ih =>
      intro v a4 a5 hn hk hv
      have e7 : 8 - (k + 1) = 7 - k := by omega
      have e8 : 7 - k + 1 = 8 - k := by omega
      have hq := hv.1 (7 - k) (by omega)
      rw [e7]
      refine wp_iload3 rfl ?_
      refine wp_bipush rfl ?_
      refine wp_icmp_geN (7 - k) (8) (by omega) (by omega) rfl (fun c1 => ?_) (fun c1 => ?_)
      · exact absurd c1 (by omega)
      · skip
        refine wp_iload2 rfl ?_
        refine wp_iload3 rfl ?_
        refine wp_callS2I rfl (Nat.le_of_ble_eq_true rfl) (Maps_toP_ok hv.1 (show 7 - k < 8 by omega)) (Nat.le_of_ble_eq_true rfl) ?_
        rintro _ _ ⟨rfl, rfl⟩
        refine wp_istore4 rfl rfl ?_
        refine wp_iload4 rfl ?_
        refine wp_iload3 rfl ?_
        refine wp_icmp_eqN (v (7 - k)) (7 - k) (by omega) (by omega) rfl (fun c2 => ?_) (fun c2 => ?_)
        · skip
          refine wp_iinc3N rfl rfl ?_
          refine wp_goto rfl ?_
          have := ih v (some (.int (nI (v (7 - k))))) a5 rfl (by omega) hv
          rw [sf_, if_pos c2, e8]
          exact this
        · skip
          refine wp_aload0 rfl ?_
          refine wp_getR rfl (Group_kd S) (Group_R0 S) (by first | decide | omega) ?_
          refine wp_bipush rfl ?_
          refine wp_iload3 rfl ?_
          refine wp_imulE (nI (8 * (7 - k))) (pk_mul 8 _) rfl ?_
          refine wp_iload4 rfl ?_
          refine wp_iaddE (nI (8 * (7 - k) + v (7 - k))) (nI_add _ _) rfl ?_
          refine wp_callS2I rfl (Nat.le_of_ble_eq_true rfl) (Cells_at_ok (Group_k0 S) (by omega) (by rw [Group_n0 S]; decide)) (Nat.le_of_ble_eq_true rfl) ?_
          rintro _ _ ⟨rfl, rfl⟩
          rw [Group_n0 S, ca_in (show 8 * (7 - k) + v (7 - k) < 64 by omega) (by omega), hG _ _ (by omega) hq]
          refine wp_istore5 rfl rfl ?_
          refine wp_iload5 rfl ?_
          refine wp_iconst rfl ?_
          cases hTv : T (7 - k) (v (7 - k)) with
          | none =>
            refine wp_icmp_ne rfl (fun c3 => ?_) (fun c3 => ?_)
            · exact absurd rfl c3
            · skip
              refine wp_iload2 rfl ?_
              exact wp_iret rfl ⟨_, rfl, by rw [sf_, if_neg c2, hTv], rfl⟩
          | some w =>
            obtain ⟨-, wP, wF, wv⟩ := hT _ _ _ hTv
            refine wp_icmp_ne rfl (fun c3 => ?_) (fun c3 => ?_)
            · skip
              refine wp_iload2 rfl ?_
              refine wp_iload5 rfl ?_
              refine wp_callS1I rfl (Nat.le_of_ble_eq_true rfl) (Maps_undone_ok wP.1 (in_P wP).1 (fun i _ => in_left wP i) (fun i _ => in_right wP i)) (Nat.le_of_ble_eq_true rfl) ?_
              rintro _ _ ⟨rfl, rfl⟩
              refine wp_callS2I rfl (Nat.le_of_ble_eq_true rfl) (Maps_then_ok hv.1 (in_P wP).1) (Nat.le_of_ble_eq_true rfl) ?_
              rintro _ _ ⟨rfl, rfl⟩
              refine wp_istore2 rfl rfl ?_
              refine wp_iinc3N rfl rfl ?_
              refine wp_goto rfl ?_
              have := ih (fun i => in_ w (v i)) (some (.int (nI (v (7 - k))))) (some (.int (te_ (some w)))) rfl (by omega) (hv.then (in_P wP))
              rw [sf_, if_neg c2, hTv, e8]
              exact this
            · exact absurd (te_some wP) c3
  refine wp_iload1 rfl ?_
  refine wp_istore2 rfl rfl ?_
  refine wp_iconst rfl ?_
  refine wp_istore3 rfl rfl ?_
  exact loop 8 u none none rfl (Nat.le_refl _) hu
/-- how many places of the table are taken -/
def fc_ (T : Tb_) : Nat → Nat
  | 0 => 0
  | n + 1 => fc_ T n + if (T (n / 8) (n % 8)).isSome then 1 else 0
def fu_ : Nat → Nat
  | 0 => 0
  | n + 1 => fu_ n + if n / 8 < n % 8 then 1 else 0
theorem fc_le {T : Tb_} (hT : Tok_ T) : ∀ n, fc_ T n ≤ fu_ n
  | 0 => Nat.le_refl _
  | n + 1 => by
    have := fc_le hT n
    unfold fc_ fu_
    cases h : T (n / 8) (n % 8) with
    | none => simp; omega
    | some t =>
      have := (hT _ _ _ h).1.1
      rw [if_pos this]
      simp
      omega
theorem fc_lt {T : Tb_} (hT : Tok_ T) {p q : Nat} (hpq : p < q) (hq : q < 8) (hn : T p q = none) : ∀ n, 8 * p + q < n → fc_ T n < fu_ n
  | 0, h => absurd h (Nat.not_lt_zero _)
  | n + 1, h => by
    rcases Nat.lt_or_ge (8 * p + q) n with z | z
    · have := fc_lt hT hpq hq hn n z
      unfold fc_ fu_
      cases h : T (n / 8) (n % 8) with
      | none => simp; omega
      | some t =>
        have := (hT _ _ _ h).1.1
        rw [if_pos this]
        simp
        omega
    · have := fc_le hT n
      unfold fc_ fu_
      rw [show n / 8 = p by omega, show n % 8 = q by omega, hn, if_pos hpq]
      simp
      omega
theorem fu_64 : fu_ 64 = 28 := by decide
def tu_ (T : Tb_) (p q : Nat) (u : Nat → Nat) : Tb_ := fun a b => if a = p ∧ b = q then some u else T a b
theorem fc_tu {T : Tb_} {p q : Nat} {u : Nat → Nat} (hq : q < 8) (hn : T p q = none) : ∀ n, fc_ (tu_ T p q u) n = fc_ T n + if 8 * p + q < n then 1 else 0
  | 0 => by simp [fc_]
  | n + 1 => by
    have := fc_tu (u := u) hq hn n
    unfold fc_
    rw [this]
    by_cases z : n = 8 * p + q
    · have e1 : tu_ T p q u (n / 8) (n % 8) = some u := if_pos ⟨by omega, by omega⟩
      have e2 : T (n / 8) (n % 8) = none := by rw [show n / 8 = p by omega, show n % 8 = q by omega]; exact hn
      have e3 : (if 8 * p + q < n then 1 else 0) = 0 := if_neg (by omega)
      have e4 : (if 8 * p + q < n + 1 then 1 else 0) = 1 := if_pos (by omega)
      rw [e1, e2, e3, e4]
      simp
    · have e1 : tu_ T p q u (n / 8) (n % 8) = T (n / 8) (n % 8) := if_neg (by omega)
      rw [e1]
      by_cases z2 : 8 * p + q < n
      · have e3 : (if 8 * p + q < n then 1 else 0) = 1 := if_pos z2
        have e4 : (if 8 * p + q < n + 1 then 1 else 0) = 1 := if_pos (by omega)
        rw [e3, e4]; omega
      · have e3 : (if 8 * p + q < n then 1 else 0) = 0 := if_neg z2
        have e4 : (if 8 * p + q < n + 1 then 1 else 0) = 0 := if_neg (by omega)
        rw [e3, e4]; omega
/-- the table and the list of what was made -/
def GI_ (h : Hp_) (o : Nat) (T : Tb_) (ml : List (Nat → Nat)) : Prop := Tok_ T ∧ GT_ h o T ∧ hp_I h o 2 = nI ml.length ∧ (∀ (i : Nat) (u : Nat → Nat), ml[i]? = some u → hp_I h (o + 2) i = nI (pq_ u 8)) ∧ (∀ p q t, T p q = some t → t ∈ ml) ∧ (∀ t ∈ ml, ∃ p q, T p q = some t) ∧ ml.length = fc_ T 64
theorem GI_fr {P : Nat → Prop} {h h' : Hp_} {o : Nat} {T : Tb_} {ml : List (Nat → Nat)} (hf : fr_ P h h') (h0 : ¬ P o) (h1 : ¬ P (o + 1)) (h2 : ¬ P (o + 2)) (I : GI_ h o T ml) : GI_ h' o T ml := by
  obtain ⟨i1, i2, i3, i4, i5⟩ := I
  exact ⟨i1, fun p q hp hq => by rw [fr_I hf h1]; exact i2 p q hp hq, by rw [fr_I hf h0]; exact i3, fun i u hu => by rw [fr_I hf h2]; exact i4 i u hu, i5⟩
theorem Group_add_ok {h : Hp_} {o : Nat} {T : Tb_} {ml : List (Nat → Nat)} {u : Nat → Nat} {G : (Nat → Nat) → Prop} (hthen : ∀ u v, G u → G v → G (fun i => v (u i))) (hin : ∀ u, IsP 8 u → G u → G (in_ u)) (S : S_Group h o) (I : GI_ h o T ml) (hG : ∀ t ∈ ml, G t) (hu : IsP 8 u) (hGu : G u) : cV 5 mn_Group_add [.ref o, .int (nI (pq_ u 8))] h (fun h' => ∃ T' ml', GI_ h' o T' ml' ∧ (∀ p q t, T p q = some t → T' p q = some t) ∧ (∀ (i : Nat) (t : Nat → Nat), ml[i]? = some t → ml'[i]? = some t) ∧ (∀ t ∈ ml', G t) ∧ SS_ T' 8 u ∧ fr_ (fun c => o ≤ c ∧ c ≤ o + 2) h h') := by
  obtain ⟨hT, i2, i3, i4, i5, i6, i7⟩ := id I
  obtain ⟨rP, -, rC⟩ := sf_spec hT 8 u (Nat.le_refl _) hu (fun i hi => by omega)
  have hml : ml.length ≤ 28 := by rw [i7, ← fu_64]; exact fc_le hT 64
  refine cq_in (q := mi_Group_add) (L := [some (.ref o), some (.int (nI (pq_ u 8))), none, none]) rfl (Nat.le_of_ble_eq_true rfl) rfl ?_
  show wq _ tb_Group_add none 0 _ _ _ _
  refine wp_aload0 rfl ?_
  refine wp_iload1 rfl ?_
  refine wp_callV1I rfl (Nat.le_of_ble_eq_true rfl) (Group_kd S) (Group_sift_ok S hT i2 hu) (Nat.le_of_ble_eq_true rfl) ?_
  rintro _ hx ⟨rfl, ehx⟩
  rw [ehx]
  refine wp_istore2 rfl rfl ?_
  refine wp_iconst rfl ?_
  refine wp_istore3 rfl rfl ?_
  rcases rC with hid | ⟨p, hp, hfix, hne, hfree⟩
  · have hend : ∃ T' ml', GI_ h o T' ml' ∧ (∀ p q t, T p q = some t → T' p q = some t) ∧ (∀ (i : Nat) (t : Nat → Nat), ml[i]? = some t → ml'[i]? = some t) ∧ (∀ t ∈ ml', G t) ∧ SS_ T' 8 u ∧ fr_ (fun c => o ≤ c ∧ c ≤ o + 2) h h := ⟨T, ml, I, fun _ _ _ z => z, fun _ _ z => z, hG, (sf_SS hT 8 u (Nat.le_refl _) hu (fun i hi => by omega)).mp hid, fr_refl _ _⟩
    have loop : ∀ k i, i ≤ 8 → 8 - i = k → wq 4 tb_Group_add none 8 [some (.ref o), some (.int (nI (pq_ u 8))), some (.int (nI (pq_ (sf_ T 8 u) 8))), some (.int (nI i))] [] h (fun r h' => r = none ∧ ∃ T' ml', GI_ h' o T' ml' ∧ (∀ p q t, T p q = some t → T' p q = some t) ∧ (∀ (i : Nat) (t : Nat → Nat), ml[i]? = some t → ml'[i]? = some t) ∧ (∀ t ∈ ml', G t) ∧ SS_ T' 8 u ∧ fr_ (fun c => o ≤ c ∧ c ≤ o + 2) h h') := by
      intro k
      induction k with
      | zero =>
        intro i hi hk
        obtain rfl : i = 8 := by omega
        refine wp_iload3 rfl ?_
        refine wp_bipush rfl ?_
        refine wp_icmp_geN (8) (8) (by omega) (by omega) rfl (fun c1 => ?_) (fun c1 => ?_)
        · skip
          exact wp_vret rfl ⟨rfl, hend⟩
        · exact absurd c1 (by omega)
      | succ k ih =>
        intro i hi hk
        refine wp_iload3 rfl ?_
        refine wp_bipush rfl ?_
        refine wp_icmp_geN (i) (8) (by omega) (by omega) rfl (fun c1 => ?_) (fun c1 => ?_)
        · exact absurd c1 (by omega)
        · skip
          refine wp_aload0 rfl ?_
          refine wp_getI rfl (Group_kd S) ?_
          refine wp_bipush rfl ?_
          rw [i3]
          refine wp_icmp_geN (ml.length) (28) (by omega) (by omega) rfl (fun c2 => ?_) (fun c2 => ?_)
          · skip
            exact wp_vret rfl ⟨rfl, hend⟩
          · skip
            refine wp_iload2 rfl ?_
            refine wp_iload3 rfl ?_
            refine wp_callS2I rfl (Nat.le_of_ble_eq_true rfl) (Maps_toP_ok rP.1 (show i < 8 by omega)) (Nat.le_of_ble_eq_true rfl) ?_
            rintro _ _ ⟨rfl, rfl⟩
            rw [hid i]
            refine wp_iload3 rfl ?_
            refine wp_icmp_eqN (i) (i) (by omega) (by omega) rfl (fun c3 => ?_) (fun c3 => ?_)
            · skip
              refine wp_iinc3N rfl rfl ?_
              refine wp_goto rfl ?_
              exact ih (i + 1) (by omega) (by omega)
            · exact absurd rfl c3
    exact loop 8 0 (by omega) rfl
  · -- the first place that moves
    have hq := rP.1 p hp
    have hpq : p < sf_ T 8 u p := by
      rcases Nat.lt_or_ge (sf_ T 8 u p) p with z | z
      · have := hfix _ z
        exact absurd (rP.inj8 _ _ this) hne
      · omega
    have hlt : ml.length < 28 := by rw [i7, ← fu_64]; exact fc_lt hT hpq hq hfree 64 (by omega)
    have loop : ∀ k i, i ≤ p → p - i = k → wq 4 tb_Group_add none 8 [some (.ref o), some (.int (nI (pq_ u 8))), some (.int (nI (pq_ (sf_ T 8 u) 8))), some (.int (nI i))] [] h (fun r h' => r = none ∧ ∃ T' ml', GI_ h' o T' ml' ∧ (∀ p q t, T p q = some t → T' p q = some t) ∧ (∀ (i : Nat) (t : Nat → Nat), ml[i]? = some t → ml'[i]? = some t) ∧ (∀ t ∈ ml', G t) ∧ SS_ T' 8 u ∧ fr_ (fun c => o ≤ c ∧ c ≤ o + 2) h h') := by
      intro k
      induction k with
      | zero =>
        intro i hi hk
        obtain rfl : i = p := by omega
        refine wp_iload3 rfl ?_
        refine wp_bipush rfl ?_
        refine wp_icmp_geN (i) (8) (by omega) (by omega) rfl (fun c1 => ?_) (fun c1 => ?_)
        · exact absurd c1 (by omega)
        · skip
          refine wp_aload0 rfl ?_
          refine wp_getI rfl (Group_kd S) ?_
          refine wp_bipush rfl ?_
          rw [i3]
          refine wp_icmp_geN (ml.length) (28) (by omega) (by omega) rfl (fun c2 => ?_) (fun c2 => ?_)
          · exact absurd c2 (by omega)
          · skip
            refine wp_iload2 rfl ?_
            refine wp_iload3 rfl ?_
            refine wp_callS2I rfl (Nat.le_of_ble_eq_true rfl) (Maps_toP_ok rP.1 hp) (Nat.le_of_ble_eq_true rfl) ?_
            rintro _ _ ⟨rfl, rfl⟩
            refine wp_iload3 rfl ?_
            refine wp_icmp_eqN (sf_ T 8 u i) (i) (by omega) (by omega) rfl (fun c3 => ?_) (fun c3 => ?_)
            · exact absurd c3 hne
            · skip
              refine wp_aload0 rfl ?_
              refine wp_getR rfl (Group_kd S) (Group_R0 S) (by first | decide | omega) ?_
              refine wp_bipush rfl ?_
              refine wp_iload3 rfl ?_
              refine wp_imulE (nI (8 * i)) (pk_mul 8 i) rfl ?_
              refine wp_iload2 rfl ?_
              refine wp_iload3 rfl ?_
              refine wp_callS2I rfl (Nat.le_of_ble_eq_true rfl) (Maps_toP_ok rP.1 hp) (Nat.le_of_ble_eq_true rfl) ?_
              rintro _ _ ⟨rfl, rfl⟩
              refine wp_iaddE (nI (8 * i + sf_ T 8 u i)) (nI_add _ _) rfl ?_
              refine wp_iload2 rfl ?_
              refine wp_callS3V rfl (Nat.le_of_ble_eq_true rfl) (Cells_put_ok (Group_k0 S) (by omega) (by rw [Group_n0 S]; decide)) (Nat.le_of_ble_eq_true rfl) ?_
              rintro _ rfl
              rw [Group_n0 S, cp_in (show 8 * i + sf_ T 8 u i < 64 by omega) (by omega)]
              refine wp_aload0 rfl ?_
              refine wp_getR rfl (Group_kd S) (Group_R1 S) (by first | decide | omega) ?_
              refine wp_aload0 rfl ?_
              refine wp_getI rfl (Group_kd S) ?_
              rw [sd_rI_ne (show o ≠ o + 1 by omega), i3]
              refine wp_iload2 rfl ?_
              refine wp_callS3V rfl (Nat.le_of_ble_eq_true rfl) (Cells_putN_ok (Group_k1 S) (by omega) (Group_n1 S) hlt (by decide)) (Nat.le_of_ble_eq_true rfl) ?_
              rintro _ rfl
              rw [sd_rI_ne (show o + 2 ≠ o + 1 by omega)]
              refine wp_aload0 rfl ?_
              refine wp_dup rfl ?_
              refine wp_getI rfl (Group_kd S) ?_
              rw [sd_rI_ne (show o ≠ o + 2 by omega), sd_rI_ne (show o ≠ o + 1 by omega), i3]
              refine wp_iconst rfl ?_
              refine wp_iaddE (nI (ml.length + 1)) (nI_add _ 1) rfl ?_
              refine wp_putI rfl (Group_kd S) ?_
              rw [sd_rI_ne (show o ≠ o + 2 by omega), sd_rI_ne (show o ≠ o + 1 by omega)]
              refine wp_vret rfl ?_
              have hGr : G (sf_ T 8 u) := sf_GG hT hthen hin (fun a b t z => hG t (i5 a b t z)) 8 u hGu
              have hT' : Tok_ (tu_ T i (sf_ T 8 u i) (sf_ T 8 u)) := by
                intro a b t z
                unfold tu_ at z
                split at z
                · rename_i e
                  cases z
                  rw [e.1, e.2]
                  exact ⟨⟨hpq, hq⟩, rP, hfix, rfl⟩
                · exact hT a b t z
              have hTT : ∀ a b t, T a b = some t → tu_ T i (sf_ T 8 u i) (sf_ T 8 u) a b = some t := by
                intro a b t z
                unfold tu_
                rw [if_neg]
                · exact z
                · rintro ⟨e1, e2⟩
                  rw [e1, e2, hfree] at z
                  cases z
              refine ⟨rfl, tu_ T i (sf_ T 8 u i) (sf_ T 8 u), ml ++ [sf_ T 8 u], ⟨hT', fun a b ha hb => ?_, ?_, fun j v hj => ?_, fun a b t z => ?_, fun t ht => ?_, ?_⟩, hTT, fun j t z => ?_, fun t ht => ?_, ?_, ?_⟩
              · rw [sd_rI_ne (by omega), sd_rI_ne (by omega), sd_rI_eq]
                unfold va_up tu_
                by_cases e : a = i ∧ b = sf_ T 8 u i
                · rw [if_pos e, if_pos (by rw [e.1, e.2])]; rfl
                · rw [if_neg e, if_neg (fun z => e ⟨by omega, by omega⟩)]
                  exact i2 a b ha hb
              · rw [sd_rI_eq, sd_up_eq, List.length_append]; rfl
              · rw [sd_rI_ne (by omega), sd_rI_eq]
                unfold va_up
                rcases Nat.lt_or_ge j ml.length with z | z
                · rw [if_neg (by omega)]
                  rw [List.getElem?_append_left z] at hj
                  exact i4 j v hj
                · rw [List.getElem?_append_right z] at hj
                  have : j - ml.length = 0 := by
                    have := (List.getElem?_eq_some_iff.mp hj).1
                    simp at this
                    omega
                  rw [this] at hj
                  cases hj
                  rw [if_pos (by omega)]
              · unfold tu_ at z
                split at z
                · cases z
                  exact List.mem_append_right _ (List.mem_singleton.mpr rfl)
                · exact List.mem_append_left _ (i5 a b t z)
              · rcases List.mem_append.mp ht with z | z
                · obtain ⟨a, b, e⟩ := i6 t z
                  exact ⟨a, b, hTT a b t e⟩
                · rw [List.mem_singleton.mp z]
                  exact ⟨i, sf_ T 8 u i, if_pos ⟨rfl, rfl⟩⟩
              · rw [fc_tu hq hfree, if_pos (by omega), List.length_append, i7]; rfl
              · rw [List.getElem?_append_left (List.getElem?_eq_some_iff.mp z).1]; exact z
              · rcases List.mem_append.mp ht with z | z
                · exact hG t z
                · rw [List.mem_singleton.mp z]; exact hGr
              · refine sf_add hT hT' hTT 8 u (Nat.le_refl _) hu (fun i hi => by omega) ?_
                exact SS_entry hT' (show tu_ T i (sf_ T 8 u i) (sf_ T 8 u) i (sf_ T 8 u i) = _ from if_pos ⟨rfl, rfl⟩)
              · exact fr_row (by omega) (fr_row (by omega) (fr_row (by omega) (fr_refl _ _)))
      | succ k ih =>
        intro i hi hk
        refine wp_iload3 rfl ?_
        refine wp_bipush rfl ?_
        refine wp_icmp_geN (i) (8) (by omega) (by omega) rfl (fun c1 => ?_) (fun c1 => ?_)
        · exact absurd c1 (by omega)
        · skip
          refine wp_aload0 rfl ?_
          refine wp_getI rfl (Group_kd S) ?_
          refine wp_bipush rfl ?_
          rw [i3]
          refine wp_icmp_geN (ml.length) (28) (by omega) (by omega) rfl (fun c2 => ?_) (fun c2 => ?_)
          · exact absurd c2 (by omega)
          · skip
            refine wp_iload2 rfl ?_
            refine wp_iload3 rfl ?_
            refine wp_callS2I rfl (Nat.le_of_ble_eq_true rfl) (Maps_toP_ok rP.1 (show i < 8 by omega)) (Nat.le_of_ble_eq_true rfl) ?_
            rintro _ _ ⟨rfl, rfl⟩
            rw [hfix i (by omega)]
            refine wp_iload3 rfl ?_
            refine wp_icmp_eqN (i) (i) (by omega) (by omega) rfl (fun c3 => ?_) (fun c3 => ?_)
            · skip
              refine wp_iinc3N rfl rfl ?_
              refine wp_goto rfl ?_
              exact ih (i + 1) (by omega) (by omega)
            · exact absurd rfl c3
    exact loop p 0 (by omega) rfl
theorem Group_has_ok {h : Hp_} {o : Nat} {T : Tb_} {u : Nat → Nat} {b : Bool} (S : S_Group h o) (hT : Tok_ T) (hG : GT_ h o T) (hu : IsP 8 u) (hb : b = true ↔ SS_ T 8 u) : cI 5 mn_Group_has [.ref o, .int (nI (pq_ u 8))] h (fun x h' => x = bo_ b ∧ h' = h) := by
  refine cq_in (q := mi_Group_has) (L := [some (.ref o), some (.int (nI (pq_ u 8)))]) rfl (Nat.le_of_ble_eq_true rfl) rfl ?_
  show wq _ tb_Group_has none 0 _ _ _ _
  have hS := sf_SS hT 8 u (Nat.le_refl _) hu (fun i hi => by omega)
  have hP := (sf_spec hT 8 u (Nat.le_refl _) hu (fun i hi => by omega)).1
  have hlt := pq_lt24 hP.1
  refine wp_aload0 rfl ?_
  refine wp_iload1 rfl ?_
  refine wp_callV1I rfl (Nat.le_of_ble_eq_true rfl) (Group_kd S) (Group_sift_ok S hT hG hu) (Nat.le_of_ble_eq_true rfl) ?_
  rintro _ _ ⟨rfl, rfl⟩
  refine wp_ldc rfl ?_
  refine wp_icmp_neN (pq_ (sf_ T 8 u) 8) (16434824) (by omega) (by omega) rfl (fun c1 => ?_) (fun c1 => ?_)
  · skip
    refine wp_iconst rfl ?_
    have : b = false := by
      cases b with
      | false => rfl
      | true =>
        exfalso
        refine c1 ?_
        rw [stays_]
        exact pq_cong 8 (fun i hi => hS.mpr (hb.mp rfl) i)
    exact wp_zret rfl (by first | exact Or.inl rfl | exact Or.inr rfl) ⟨_, rfl, by rw [this]; rfl, rfl⟩
  · skip
    refine wp_iconst rfl ?_
    refine wp_goto rfl ?_
    have : b = true := by
      refine hb.mpr (hS.mp fun i => ?_)
      rcases Nat.lt_or_ge i 8 with z | z
      · rw [stays_] at c1
        exact pq_inj hP.1 (fun i hi => hi) c1 i z
      · exact hP.2.2 i z
    exact wp_zret rfl (by first | exact Or.inl rfl | exact Or.inr rfl) ⟨_, rfl, by rw [this]; rfl, rfl⟩
theorem CH_len_step (T : Tb_) (p j : Nat) : (((List.range' (p + 1) (j + 1)).filterMap (T p)).length) = ((List.range' (p + 1) j).filterMap (T p)).length + if (T p (p + 1 + j)).isSome then 1 else 0 := by
  rw [List.range'_concat, List.filterMap_append, List.length_append]
  congr 1
  rw [Nat.one_mul]
  cases h : T p (p + 1 + j) with
  | none => simp [h]
  | some t => simp [h]
theorem CH_len_le (T : Tb_) (p j : Nat) : ((List.range' (p + 1) j).filterMap (T p)).length ≤ j := by
  have := List.length_filterMap_le (T p) (List.range' (p + 1) j)
  rw [List.length_range'] at this
  exact this
theorem pr_le (T : Tb_) : ∀ p, p ≤ 8 → pr_ T p ≤ 8 ^ p
  | 0, _ => Nat.le_refl _
  | p + 1, hp => by
    have h1 := pr_le T p (by omega)
    have h2 := CH_len_le T p (7 - p)
    have h3 : (CH_ T p).length ≤ 8 := by unfold CH_; rw [List.length_cons]; omega
    rw [Nat.pow_succ]
    exact Nat.mul_le_mul h1 h3
theorem Group_members_ok {h : Hp_} {o : Nat} {T : Tb_} (S : S_Group h o) (hT : Tok_ T) (hG : GT_ h o T) : cI 2 mn_Group_members [.ref o] h (fun x h' => x = nI (pr_ T 8) ∧ h' = h) := by
  refine cq_in (q := mi_Group_members) (L := [some (.ref o), none, none, none, none]) rfl (Nat.le_of_ble_eq_true rfl) rfl ?_
  show wq _ tb_Group_members none 0 _ _ _ _
  have loop : ∀ k p (a3 a4 : Option Value), nl_ a3 = true → p ≤ 8 → 8 - p = k → wq 1 tb_Group_members none 4 [some (.ref o), some (.int (nI (pr_ T p))), some (.int (nI p)), a3, a4] [] h (fun r h' => ∃ x, r = some (.int x) ∧ x = nI (pr_ T 8) ∧ h' = h) := by
    intro k
    induction k with
    | zero =>
      intro p a3 a4 hn hp hk
      obtain rfl : p = 8 := by omega
      refine wp_iload2 rfl ?_
      refine wp_bipush rfl ?_
      refine wp_icmp_geN (8) (8) (by omega) (by omega) rfl (fun c1 => ?_) (fun c1 => ?_)
      · skip
        refine wp_iload1 rfl ?_
        exact wp_iret rfl ⟨_, rfl, rfl, rfl⟩
      · exact absurd c1 (by omega)
    | succ k ih =>
      intro p a3 a4 hn hp hk
      have inner : ∀ k2 j, p + 1 + j ≤ 8 → 7 - p - j = k2 → wq 1 tb_Group_members none 17 [some (.ref o), some (.int (nI (pr_ T p))), some (.int (nI p)), some (.int (nI (1 + ((List.range' (p + 1) j).filterMap (T p)).length))), some (.int (nI (p + 1 + j)))] [] h (fun r h' => ∃ x, r = some (.int x) ∧ x = nI (pr_ T 8) ∧ h' = h) := by
        intro k2
        induction k2 with
        | zero =>
          intro j hj hk2
          obtain rfl : j = 7 - p := by omega
          refine wp_iload4 rfl ?_
          refine wp_bipush rfl ?_
          refine wp_icmp_geN (p + 1 + (7 - p)) (8) (by omega) (by omega) rfl (fun c1 => ?_) (fun c1 => ?_)
          · skip
            refine wp_iload1 rfl ?_
            refine wp_iload3 rfl ?_
            refine wp_imulE (nI (pr_ T (p + 1))) (by rw [pk_mul]; refine congrArg nI ?_; show _ = pr_ T p * (CH_ T p).length; rw [CH_, List.length_cons, Nat.add_comm 1]) rfl ?_
            refine wp_istore1 rfl rfl ?_
            refine wp_iinc2N rfl rfl ?_
            refine wp_goto rfl ?_
            exact ih (p + 1) _ _ rfl (by omega) (by omega)
          · exact absurd c1 (by omega)
        | succ k2 ih2 =>
          intro j hj hk2
          refine wp_iload4 rfl ?_
          refine wp_bipush rfl ?_
          refine wp_icmp_geN (p + 1 + j) (8) (by omega) (by omega) rfl (fun c1 => ?_) (fun c1 => ?_)
          · exact absurd c1 (by omega)
          · skip
            refine wp_aload0 rfl ?_
            refine wp_getR rfl (Group_kd S) (Group_R0 S) (by first | decide | omega) ?_
            refine wp_bipush rfl ?_
            refine wp_iload2 rfl ?_
            refine wp_imulE (nI (8 * p)) (pk_mul 8 _) rfl ?_
            refine wp_iload4 rfl ?_
            refine wp_iaddE (nI (8 * p + (p + 1 + j))) (nI_add _ _) rfl ?_
            refine wp_callS2I rfl (Nat.le_of_ble_eq_true rfl) (Cells_atN_ok (Group_k0 S) (by omega) (Group_n0 S) (show 8 * p + (p + 1 + j) < 64 by omega) (by decide)) (Nat.le_of_ble_eq_true rfl) ?_
            rintro _ _ ⟨rfl, rfl⟩
            rw [hG p _ (by omega) c1]
            refine wp_iconst rfl ?_
            have hst := CH_len_step T p j
            have := ih2 (j + 1) (by omega) (by omega)
            rw [hst] at this
            cases hTv : T p (p + 1 + j) with
            | none =>
              rw [hTv] at this
              refine wp_icmp_eq rfl (fun c2 => ?_) (fun c2 => ?_)
              · skip
                refine wp_iinc4N rfl rfl ?_
                refine wp_goto rfl ?_
                exact this
              · exact absurd rfl c2
            | some t =>
              rw [hTv] at this
              refine wp_icmp_eq rfl (fun c2 => ?_) (fun c2 => ?_)
              · exact absurd c2 (te_some (hT _ _ _ hTv).2.1)
              · skip
                refine wp_iinc3N rfl rfl ?_
                refine wp_iinc4N rfl rfl ?_
                refine wp_goto rfl ?_
                exact this
      refine wp_iload2 rfl ?_
      refine wp_bipush rfl ?_
      refine wp_icmp_geN (p) (8) (by omega) (by omega) rfl (fun c1 => ?_) (fun c1 => ?_)
      · exact absurd c1 (by omega)
      · skip
        refine wp_iconst rfl ?_
        refine wp_istore3 rfl rfl ?_
        refine wp_iload2 rfl ?_
        refine wp_iconst rfl ?_
        refine wp_iaddE (nI (p + 1)) (nI_add _ 1) rfl ?_
        refine wp_istore4 rfl rfl ?_
        exact inner (7 - p) 0 (by omega) rfl
  refine wp_iconst rfl ?_
  refine wp_istore1 rfl rfl ?_
  refine wp_iconst rfl ?_
  refine wp_istore2 rfl rfl ?_
  exact loop 8 0 none none rfl (by omega) rfl
end
section
-- ===== Group.gather =====
theorem ms_may {s : Sg_} (w : sg_wf s) (f : Nat) : ms_ s f = -1 ↔ may_ s f = false := by
  unfold ms_
  cases h : may_ s f with
  | true =>
    rw [if_pos rfl]
    exact ⟨fun z => absurd z (te_some (mv_P8 w f)), fun z => by cases z⟩
  | false => rw [if_neg Bool.false_ne_true]; exact ⟨fun _ => rfl, fun _ => rfl⟩
/-- the pairs below i sift, both ways round -/
def pi_ (T : Tb_) (ml : List (Nat → Nat)) (i : Nat) : Prop := ∀ x y a b, x < i → y < i → ml[x]? = some a → ml[y]? = some b → SS_ T 8 (fun p => b (a p))
theorem Group_gather_ok {h : Hp_} {o a : Nat} {s : Sg_} (S : S_Group h o) (w : sg_wf s) (hk : hp_kd h a = 1) (hl : hp_ln h a = 6) (h0 : a ≠ 0) (ha : a < o ∨ o + 2 < a) (hrow : ∀ f, f < 6 → hp_I h a f = ms_ s f) : cV 6 mn_Group_gather [.ref o, .ref a] h (fun h' => ∃ T, Tok_ T ∧ GT_ h' o T ∧ (∀ u, SS_ T 8 u ↔ GG_ (mv_ s) (may_ s) u) ∧ fr_ (fun c => o ≤ c ∧ c ≤ o + 2) h h') := by
  have hthen : ∀ u v, GG_ (mv_ s) (may_ s) u → GG_ (mv_ s) (may_ s) v → GG_ (mv_ s) (may_ s) (fun i => v (u i)) := fun u v hu hv => GG_then hu hv
  have hin : ∀ u, IsP 8 u → GG_ (mv_ s) (may_ s) u → GG_ (mv_ s) (may_ s) (in_ u) := fun u hP hu => GG_in hP hu
  refine cq_in (q := mi_Group_gather) (L := [some (.ref o), some (.ref a), none, none, none, none]) rfl (Nat.le_of_ble_eq_true rfl) rfl ?_
  show wq _ tb_Group_gather none 0 _ _ _ _
  -- the products
  have loop2 : ∀ k i (a3 a4 a5 : Option Value) (hc : Hp_) (T : Tb_) (ml : List (Nat → Nat)), nl_ a3 = true → nl_ a4 = true → i ≤ 28 → 28 - i = k → fr_ (fun c => o ≤ c ∧ c ≤ o + 2) h hc → GI_ hc o T ml → (∀ t ∈ ml, GG_ (mv_ s) (may_ s) t) → (∀ f, f < 6 → may_ s f = true → SS_ T 8 (mv_ s f)) → pi_ T ml i → wq 5 tb_Group_gather none 43 [some (.ref o), some (.ref a), some (.int (nI i)), a3, a4, a5] [] hc (fun r h' => r = none ∧ ∃ T, Tok_ T ∧ GT_ h' o T ∧ (∀ u, SS_ T 8 u ↔ GG_ (mv_ s) (may_ s) u) ∧ fr_ (fun c => o ≤ c ∧ c ≤ o + 2) h h') := by
    intro k
    have hend : ∀ (i : Nat) (hc : Hp_) (T : Tb_) (ml : List (Nat → Nat)), fr_ (fun c => o ≤ c ∧ c ≤ o + 2) h hc → GI_ hc o T ml → (∀ t ∈ ml, GG_ (mv_ s) (may_ s) t) → (∀ f, f < 6 → may_ s f = true → SS_ T 8 (mv_ s f)) → pi_ T ml i → ml.length ≤ i → ∃ T, Tok_ T ∧ GT_ hc o T ∧ (∀ u, SS_ T 8 u ↔ GG_ (mv_ s) (may_ s) u) ∧ fr_ (fun c => o ≤ c ∧ c ≤ o + 2) h hc := by
      intro i hc T ml hfr I hG hg hpi hli
      refine ⟨T, I.1, I.2.1, fun u => SS_whole I.1 (fun p q a p2 q2 b h1 h2 => ?_) (fun p q t z => hG t (I.2.2.2.2.1 p q t z)) hg u, hfr⟩
      obtain ⟨x, hx⟩ := List.getElem?_of_mem (I.2.2.2.2.1 p q a h1)
      obtain ⟨y, hy⟩ := List.getElem?_of_mem (I.2.2.2.2.1 p2 q2 b h2)
      exact hpi x y a b (Nat.lt_of_lt_of_le (List.getElem?_eq_some_iff.mp hx).1 hli) (Nat.lt_of_lt_of_le (List.getElem?_eq_some_iff.mp hy).1 hli) hx hy
    induction k with
    | zero =>
      intro i a3 a4 a5 hc T ml n3 n4 hi hk2 hfr I hG hg hpi
      obtain rfl : i = 28 := by omega
      have hml : ml.length ≤ 28 := by rw [I.2.2.2.2.2.2, ← fu_64]; exact fc_le I.1 64
      refine wp_iload2 rfl ?_
      refine wp_bipush rfl ?_
      refine wp_icmp_geN (28) (28) (by omega) (by omega) rfl (fun c1 => ?_) (fun c1 => ?_)
      · skip
        exact wp_vret rfl ⟨rfl, hend 28 hc T ml hfr I hG hg hpi hml⟩
      · exact absurd c1 (by omega)
    | succ k ih =>
      intro i a3 a4 a5 hc T ml n3 n4 hi hk2 hfr I hG hg hpi
      have hml : ml.length ≤ 28 := by rw [I.2.2.2.2.2.2, ← fu_64]; exact fc_le I.1 64
      have Sc := S_Group_fr hfr S
      refine wp_iload2 rfl ?_
      refine wp_bipush rfl ?_
      refine wp_icmp_geN (i) (28) (by omega) (by omega) rfl (fun c1 => ?_) (fun c1 => ?_)
      · exact absurd c1 (by omega)
      · skip
        refine wp_iload2 rfl ?_
        refine wp_aload0 rfl ?_
        refine wp_getI rfl (Group_kd Sc) ?_
        rw [I.2.2.1]
        refine wp_icmp_geN (i) (ml.length) (by omega) (by omega) rfl (fun c2 => ?_) (fun c2 => ?_)
        · skip
          exact wp_vret rfl ⟨rfl, hend i hc T ml hfr I hG hg hpi c2⟩
        · skip
          refine wp_iconst rfl ?_
          refine wp_istore3 rfl rfl ?_
          have inner : ∀ k2 j (a4 a5 : Option Value) (hc : Hp_) (T : Tb_) (ml : List (Nat → Nat)), nl_ a4 = true → j ≤ i + 1 → i + 1 - j = k2 → i < ml.length → fr_ (fun c => o ≤ c ∧ c ≤ o + 2) h hc → GI_ hc o T ml → (∀ t ∈ ml, GG_ (mv_ s) (may_ s) t) → (∀ f, f < 6 → may_ s f = true → SS_ T 8 (mv_ s f)) → pi_ T ml i → (∀ y a b, y < j → ml[i]? = some a → ml[y]? = some b → SS_ T 8 (fun p => b (a p)) ∧ SS_ T 8 (fun p => a (b p))) → wq 5 tb_Group_gather none 59 [some (.ref o), some (.ref a), some (.int (nI i)), some (.int (nI j)), a4, a5] [] hc (fun r h' => r = none ∧ ∃ T, Tok_ T ∧ GT_ h' o T ∧ (∀ u, SS_ T 8 u ↔ GG_ (mv_ s) (may_ s) u) ∧ fr_ (fun c => o ≤ c ∧ c ≤ o + 2) h h') := by
            intro k2
            induction k2 with
            | zero =>
              intro j a4 a5 hc T ml n4 hj hk3 hil hfr I hG hg hpi hpj
              obtain rfl : j = i + 1 := by omega
              refine wp_iload3 rfl ?_
              refine wp_iload2 rfl ?_
              refine wp_icmp_gtN (i + 1) (i) (by omega) (by omega) rfl (fun c3 => ?_) (fun c3 => ?_)
              · skip
                refine wp_iinc2N rfl rfl ?_
                refine wp_goto rfl ?_
                refine ih (i + 1) _ _ _ hc T ml rfl n4 (by omega) (by omega) hfr I hG hg ?_
                intro x y a1 b1 hx hy h1 h2
                rcases Nat.lt_or_ge x i with q1 | q1
                · rcases Nat.lt_or_ge y i with q2 | q2
                  · exact hpi x y a1 b1 q1 q2 h1 h2
                  · obtain rfl : y = i := by omega
                    exact (hpj x b1 a1 (by omega) h2 h1).2
                · obtain rfl : x = i := by omega
                  exact (hpj y a1 b1 hy h1 h2).1
              · exact absurd c3 (by omega)
            | succ k2 ih2 =>
              intro j a4 a5 hc T ml n4 hj hk3 hil hfr I hG hg hpi hpj
              have hml : ml.length ≤ 28 := by rw [I.2.2.2.2.2.2, ← fu_64]; exact fc_le I.1 64
              have Sc := S_Group_fr hfr S
              obtain ⟨u1, hu1⟩ : ∃ u1, ml[i]? = some u1 := ⟨_, List.getElem?_eq_getElem hil⟩
              obtain ⟨v1, hv1⟩ : ∃ v1, ml[j]? = some v1 := ⟨_, List.getElem?_eq_getElem (show j < ml.length by omega)⟩
              have hGu := hG u1 (List.mem_of_getElem? hu1)
              have hGv := hG v1 (List.mem_of_getElem? hv1)
              have hPu := GG_P (fun f => mv_P8 w f) hGu
              have hPv := GG_P (fun f => mv_P8 w f) hGv
              refine wp_iload3 rfl ?_
              refine wp_iload2 rfl ?_
              refine wp_icmp_gtN (j) (i) (by omega) (by omega) rfl (fun c3 => ?_) (fun c3 => ?_)
              · exact absurd c3 (by omega)
              · skip
                refine wp_aload0 rfl ?_
                refine wp_getR rfl (Group_kd Sc) (Group_R1 Sc) (by first | decide | omega) ?_
                refine wp_iload2 rfl ?_
                refine wp_callS2I rfl (Nat.le_of_ble_eq_true rfl) (Cells_atN_ok (Group_k1 Sc) (by omega) (Group_n1 Sc) (show i < 28 by omega) (by decide)) (Nat.le_of_ble_eq_true rfl) ?_
                rintro _ hx1 ⟨rfl, ehx1⟩
                rw [ehx1, I.2.2.2.1 i u1 hu1]
                refine wp_istore4 rfl rfl ?_
                refine wp_aload0 rfl ?_
                refine wp_getR rfl (Group_kd Sc) (Group_R1 Sc) (by first | decide | omega) ?_
                refine wp_iload3 rfl ?_
                refine wp_callS2I rfl (Nat.le_of_ble_eq_true rfl) (Cells_atN_ok (Group_k1 Sc) (by omega) (Group_n1 Sc) (show j < 28 by omega) (by decide)) (Nat.le_of_ble_eq_true rfl) ?_
                rintro _ hx2 ⟨rfl, ehx2⟩
                rw [ehx2, I.2.2.2.1 j v1 hv1]
                refine wp_istore5 rfl rfl ?_
                refine wp_aload0 rfl ?_
                refine wp_iload4 rfl ?_
                refine wp_iload5 rfl ?_
                refine wp_callS2I rfl (Nat.le_of_ble_eq_true rfl) (Maps_then_ok hPu.1 hPv.1) (Nat.le_of_ble_eq_true rfl) ?_
                rintro _ hx3 ⟨rfl, ehx3⟩
                rw [ehx3]
                refine wp_callV1V rfl (Nat.le_of_ble_eq_true rfl) (Group_kd Sc) (Group_add_ok hthen hin Sc I hG (hPu.then hPv) (hthen _ _ hGu hGv)) (Nat.le_of_ble_eq_true rfl) ?_
                rintro h5 ⟨T5, m5, I5, t5, l5, g5, s5, f5⟩
                have fr5 := fr_trans hfr f5
                have S5 := S_Group_fr fr5 S
                refine wp_aload0 rfl ?_
                refine wp_iload5 rfl ?_
                refine wp_iload4 rfl ?_
                refine wp_callS2I rfl (Nat.le_of_ble_eq_true rfl) (Maps_then_ok hPv.1 hPu.1) (Nat.le_of_ble_eq_true rfl) ?_
                rintro _ hx4 ⟨rfl, ehx4⟩
                rw [ehx4]
                refine wp_callV1V rfl (Nat.le_of_ble_eq_true rfl) (Group_kd S5) (Group_add_ok hthen hin S5 I5 g5 (hPv.then hPu) (hthen _ _ hGv hGu)) (Nat.le_of_ble_eq_true rfl) ?_
                rintro h6 ⟨T6, m6, I6, t6, l6, g6, s6, f6⟩
                refine wp_iinc3N rfl rfl ?_
                refine wp_goto rfl ?_
                have hmono : ∀ u, SS_ T 8 u → SS_ T6 8 u := fun u z => SS_mono t6 8 u (SS_mono t5 8 u z)
                have hlm : ∀ (x : Nat) (t : Nat → Nat), ml[x]? = some t → m6[x]? = some t := fun x t z => l6 x t (l5 x t z)
                have hback : ∀ (x : Nat) (t : Nat → Nat), x < ml.length → m6[x]? = some t → ml[x]? = some t := by
                  intro x t hx z
                  have e := hlm x ml[x] (List.getElem?_eq_getElem hx)
                  rw [e] at z
                  rw [List.getElem?_eq_getElem hx]
                  exact z
                have hil6 : i < m6.length := (List.getElem?_eq_some_iff.mp (hlm i u1 hu1)).1
                refine ih2 (j + 1) _ _ h6 T6 m6 rfl (by omega) (by omega) hil6 (fr_trans fr5 f6) I6 g6 (fun f hf ho => hmono _ (hg f hf ho)) ?_ ?_
                · intro x y a1 b1 hx hy h1 h2
                  exact hmono _ (hpi x y a1 b1 hx hy (hback x a1 (by omega) h1) (hback y b1 (by omega) h2))
                · intro y a1 b1 hy h1 h2
                  have e1 := hback i a1 hil h1
                  have e2 := hback y b1 (by omega) h2
                  rcases Nat.lt_or_ge y j with q | q
                  · exact ⟨hmono _ (hpj y a1 b1 q e1 e2).1, hmono _ (hpj y a1 b1 q e1 e2).2⟩
                  · obtain rfl : y = j := by omega
                    rw [hu1] at e1
                    rw [hv1] at e2
                    cases e1
                    cases e2
                    exact ⟨SS_mono t6 8 _ s5, s6⟩
          exact inner (i + 1) 0 a4 a5 hc T ml n4 (by omega) rfl c2 hfr I hG hg hpi (fun y a1 b1 hy => absurd hy (Nat.not_lt_zero _))
  -- the figures
  have loop1 : ∀ k i (a3 a4 a5 : Option Value) (hc : Hp_) (T : Tb_) (ml : List (Nat → Nat)), nl_ a3 = true → nl_ a4 = true → i ≤ 6 → 6 - i = k → fr_ (fun c => o ≤ c ∧ c ≤ o + 2) h hc → GI_ hc o T ml → (∀ t ∈ ml, GG_ (mv_ s) (may_ s) t) → (∀ f, f < i → may_ s f = true → SS_ T 8 (mv_ s f)) → wq 5 tb_Group_gather none 15 [some (.ref o), some (.ref a), some (.int (nI i)), a3, a4, a5] [] hc (fun r h' => r = none ∧ ∃ T, Tok_ T ∧ GT_ h' o T ∧ (∀ u, SS_ T 8 u ↔ GG_ (mv_ s) (may_ s) u) ∧ fr_ (fun c => o ≤ c ∧ c ≤ o + 2) h h') := by
    intro k
    induction k with
    | zero =>
      intro i a3 a4 a5 hc T ml n3 n4 hi hk2 hfr I hG hg
      obtain rfl : i = 6 := by omega
      have Sc := S_Group_fr hfr S
      have hkc : hp_kd hc a = 1 := by rw [(fr_S hfr).2.2.1]; exact hk
      have hlc : hp_ln hc a = 6 := by rw [(fr_S hfr).2.2.2.1]; exact hl
      refine wp_iload2 rfl ?_
      refine wp_aload1 rfl ?_
      refine wp_alenE rfl h0 (Or.inl hkc) hlc ?_
      refine wp_icmp_geN (6) (6) (by omega) (by omega) rfl (fun c1 => ?_) (fun c1 => ?_)
      · skip
        refine wp_iconst rfl ?_
        refine wp_istore2 rfl rfl ?_
        exact loop2 28 0 a3 a4 a5 hc T ml n3 n4 (by omega) rfl hfr I hG hg (fun x y a b hx => absurd hx (Nat.not_lt_zero _))
      · exact absurd c1 (by omega)
    | succ k ih =>
      intro i a3 a4 a5 hc T ml n3 n4 hi hk2 hfr I hG hg
      have Sc := S_Group_fr hfr S
      have hkc : hp_kd hc a = 1 := by rw [(fr_S hfr).2.2.1]; exact hk
      have hlc : hp_ln hc a = 6 := by rw [(fr_S hfr).2.2.2.1]; exact hl
      have hrc : hp_I hc a i = ms_ s i := by rw [fr_I hfr (by omega)]; exact hrow i (by omega)
      have hm := ms_may w i
      refine wp_iload2 rfl ?_
      refine wp_aload1 rfl ?_
      refine wp_alenE rfl h0 (Or.inl hkc) hlc ?_
      refine wp_icmp_geN (i) (6) (by omega) (by omega) rfl (fun c1 => ?_) (fun c1 => ?_)
      · exact absurd c1 (by omega)
      · skip
        refine wp_aload1 rfl ?_
        refine wp_iload2 rfl ?_
        refine wp_iald i rfl hkc h0 (by omega) (by omega) rfl ?_
        rw [hrc]
        refine wp_iconst rfl ?_
        refine wp_icmp_eq rfl (fun c2 => ?_) (fun c2 => ?_)
        · skip
          refine wp_iinc2N rfl rfl ?_
          refine wp_goto rfl ?_
          refine ih (i + 1) a3 a4 a5 hc T ml n3 n4 (by omega) (by omega) hfr I hG (fun f hf ho => ?_)
          rcases Nat.lt_or_ge f i with q | q
          · exact hg f q ho
          · obtain rfl : f = i := by omega
            rw [hm.mp c2] at ho
            cases ho
        · skip
          refine wp_aload0 rfl ?_
          refine wp_aload1 rfl ?_
          refine wp_iload2 rfl ?_
          refine wp_iald i rfl hkc h0 (by omega) (by omega) rfl ?_
          rw [hrc]
          have hmay : may_ s i = true := by
            cases z : may_ s i with
            | true => rfl
            | false => exact absurd (hm.mpr z) c2
          rw [show ms_ s i = nI (pq_ (mv_ s i) 8) from if_pos hmay]
          refine wp_callV1V rfl (Nat.le_of_ble_eq_true rfl) (Group_kd Sc) (Group_add_ok hthen hin Sc I hG (mv_P8 w i) (GG_gen (by omega) hmay)) (Nat.le_of_ble_eq_true rfl) ?_
          rintro h5 ⟨T5, m5, I5, t5, l5, g5, s5, f5⟩
          refine wp_iinc2N rfl rfl ?_
          refine wp_goto rfl ?_
          refine ih (i + 1) a3 a4 a5 h5 T5 m5 n3 n4 (by omega) (by omega) (fr_trans hfr f5) I5 g5 (fun f hf ho => ?_)
          rcases Nat.lt_or_ge f i with q | q
          · exact SS_mono t5 8 _ (hg f q ho)
          · obtain rfl : f = i := by omega
            exact s5
  refine wp_aload0 rfl ?_
  refine wp_getR rfl (Group_kd S) (Group_R0 S) (by first | decide | omega) ?_
  refine wp_iconst rfl ?_
  refine wp_callS2V rfl (Nat.le_of_ble_eq_true rfl) (Cells_fill_ok (Group_k0 S) (by omega) (Group_n0 S) (by decide)) (Nat.le_of_ble_eq_true rfl) ?_
  rintro h1 e1
  have S1 : S_Group h1 o := by rw [e1]; exact S
  refine wp_aload0 rfl ?_
  refine wp_iconst rfl ?_
  refine wp_putI rfl (Group_kd S1) ?_
  refine wp_iconst rfl ?_
  refine wp_istore2 rfl rfl ?_
  refine wq_gen (fun h2 e2 => ?_)
  refine loop1 6 0 none none none h2 (fun _ _ => none) [] rfl rfl (by omega) rfl ?_ ⟨fun p q t z => (by cases z), fun p q hp hq => ?_, ?_, fun i u z => (by cases z), fun p q t z => (by cases z), fun t ht => (by cases ht), ?_⟩ (fun t ht => (by cases ht)) (fun f hf => absurd hf (Nat.not_lt_zero _))
  · rw [e2, e1]
    exact fr_row (by omega) (fr_row (by omega) (fr_refl _ _))
  · rw [e2, sd_rI_ne (by omega), e1, sd_rI_eq]
    exact if_pos (by omega)
  · rw [e2, sd_rI_eq, sd_up_eq]
    rfl
  · decide
end
section
-- ===== the pad's faults =====
theorem ni_sub {a b : Nat} (hb : b ≤ a) : nI a - nI b = nI (a - b) := by
  have e := nI_add (a - b) b
  rw [Nat.sub_add_cancel hb] at e
  rw [← e, Int32.add_sub_cancel]
theorem ni_neg {a b : Nat} (hab : a < b) (hb : b < 2 ^ 31) : nI a - nI b < 0 := by
  rw [Int32.lt_iff_toInt_lt, Int32.toInt_sub, nI_toInt (by omega), nI_toInt hb, Int.bmod_def]
  show _ < (0 : Int)
  split <;> omega
/-- the first i from a on, of k, with P -/
def ff_ (P : Nat → Bool) : Nat → Nat → Option Nat
  | 0, _ => none
  | k + 1, i => if P i then some i else ff_ P k (i + 1)
theorem ff_cong {P Q : Nat → Bool} : ∀ k i, (∀ j, i ≤ j → j < i + k → P j = Q j) → ff_ P k i = ff_ Q k i := by
  intro k
  induction k with
  | zero => intro i _; rfl
  | succ k ih =>
    intro i h
    show (if P i then some i else ff_ P k (i + 1)) = (if Q i then some i else ff_ Q k (i + 1))
    rw [h i (Nat.le_refl _) (by omega), ih (i + 1) (fun j h1 h2 => h j (by omega) (by omega))]
/-- none before: first bad is none iff no bad -/
theorem ff_none {P : Nat → Bool} : ∀ k i, ff_ P k i = none → ∀ j, i ≤ j → j < i + k → P j = false := by
  intro k
  induction k with
  | zero => intro i _ j h1 h2; omega
  | succ k ih =>
    intro i h j h1 h2
    have h' : (if P i then some i else ff_ P k (i + 1)) = none := h
    by_cases q : P i = true
    · rw [if_pos q] at h'; cases h'
    · rw [if_neg q] at h'
      by_cases e : j = i
      · rw [e]; exact Bool.eq_false_iff.mpr q
      · exact ih (i + 1) h' j (by omega) (by omega)
/-- the signs from base on that stand among the first i -/
def um_ (g : Nat → Nat) (base : Nat) : Nat → Nat
  | 0 => 0
  | i + 1 => um_ g base i ||| 2 ^ (g i - base)
def eb_ (g : Nat → Nat) (base n i : Nat) : Bool := decide (g i < base) || decide (base + n ≤ g i) || (um_ g base i).testBit (g i - base)
/-- the answer of fault for an order of n signs from base on -/
def fo_ (g : Nat → Nat) (c base n : Nat) : Int32 := match ff_ (eb_ g base n) c 0 with
  | some i => nI i
  | none => if c < n then nI c else -6
def rb_ (g : Nat → Nat) (base kinds i : Nat) : Bool := decide (20 ≤ i) || decide (g i < base) || decide (base + kinds ≤ g i)
def fw_ (g : Nat → Nat) (c base kinds : Nat) : Int32 := match ff_ (rb_ g base kinds) c 0 with
  | some i => nI i
  | none => -6
/-- the pad holds the signs g, c of them -/
def P_is (h : Hp_) (o : Nat) (g : Nat → Nat) (c : Nat) : Prop := hp_I h o 1 = nI c ∧ c ≤ 30 ∧ (∀ i, i < c → hp_I h (o + 1) i = nI (g i)) ∧ ∀ i, g i < 127
theorem um_lt {g : Nat → Nat} {base n : Nat} : ∀ i, (∀ j, j < i → eb_ g base n j = false) → um_ g base i < 2 ^ n := by
  intro i
  induction i with
  | zero => intro _; exact Nat.two_pow_pos n
  | succ i ih =>
    intro h
    have h1 := h i (Nat.lt_succ_self i)
    have h2 : g i < base + n := by
      unfold eb_ at h1
      rw [Bool.or_eq_false_iff, Bool.or_eq_false_iff] at h1
      have := of_decide_eq_false h1.1.2
      omega
    have h3 : base ≤ g i := by
      unfold eb_ at h1
      rw [Bool.or_eq_false_iff, Bool.or_eq_false_iff] at h1
      have := of_decide_eq_false h1.1.1
      omega
    exact Nat.or_lt_two_pow (ih (fun j hj => h j (by omega))) (Nat.pow_lt_pow_right (by decide) (by omega))
theorem Pad_faultEachOnce_ok {h : Hp_} {o c base n : Nat} {g : Nat → Nat} (S : S_Pad h o) (W : P_is h o g c) (hb : base < 128) (hn : n ≤ 8) : cI 3 mn_Pad_faultEachOnce [.ref o, .int (nI base), .int (nI n)] h (fun x h' => x = fo_ g c base n ∧ h' = h) := by
  obtain ⟨hc, h30, hr, hg⟩ := W
  refine cq_in (q := mi_Pad_faultEachOnce) (L := [some (.ref o), some (.int (nI base)), some (.int (nI n)), none, none, none]) rfl (Nat.le_of_ble_eq_true rfl) rfl ?_
  show wq _ tb_Pad_faultEachOnce none 0 _ _ _ _
  have loop : ∀ k i (a5 : Option Value), i ≤ c → c - i = k → (∀ j, j < i → eb_ g base n j = false) → fo_ g c base n = (match ff_ (eb_ g base n) k i with | some i => nI i | none => if c < n then nI c else -6) → wq 2 tb_Pad_faultEachOnce none 5 [some (.ref o), some (.int (nI base)), some (.int (nI n)), some (.int (nI (um_ g base i))), some (.int (nI i)), a5] [] h (fun r h' => ∃ x, r = some (.int x) ∧ x = fo_ g c base n ∧ h' = h) := by
    intro k
    induction k with
    | zero =>
      intro i a5 hi hk0 hno hfo
      obtain rfl : i = c := by omega
      have hfo2 : fo_ g i base n = if i < n then nI i else -6 := hfo
      refine wp_iload4 rfl ?_
      refine wp_aload0 rfl ?_
      refine wp_getI rfl (Pad_kd S) ?_
      rw [hc]
      refine wp_icmp_geN (i) (i) (by omega) (by omega) rfl (fun c1 => ?_) (fun c1 => ?_)
      · skip
        refine wp_aload0 rfl ?_
        refine wp_getI rfl (Pad_kd S) ?_
        refine wp_iload2 rfl ?_
        rw [hc]
        refine wp_icmp_geN (i) (n) (by omega) (by omega) rfl (fun c2 => ?_) (fun c2 => ?_)
        · skip
          refine wp_bipush rfl ?_
          exact wp_iret rfl ⟨_, rfl, by rw [hfo2, if_neg (by omega)], rfl⟩
        · skip
          refine wp_aload0 rfl ?_
          refine wp_getI rfl (Pad_kd S) ?_
          refine wp_goto rfl ?_
          rw [hc]
          exact wp_iret rfl ⟨_, rfl, by rw [hfo2, if_pos c2], rfl⟩
      · exact absurd c1 (Nat.lt_irrefl _)
    | succ k ih =>
      intro i a5 hi hk0 hno hfo
      have hum := um_lt i hno
      have hum8 : um_ g base i < 256 := Nat.lt_of_lt_of_le hum (Nat.pow_le_pow_right (by decide) hn)
      have hbad : eb_ g base n i = true → fo_ g c base n = nI i := by
        intro z
        rw [hfo]
        show (match (if eb_ g base n i then some i else ff_ (eb_ g base n) k (i + 1)) with | some i => nI i | none => if c < n then nI c else -6) = nI i
        rw [if_pos z]
      have hok : eb_ g base n i = false → fo_ g c base n = (match ff_ (eb_ g base n) k (i + 1) with | some i => nI i | none => if c < n then nI c else -6) := by
        intro z
        rw [hfo]
        show (match (if eb_ g base n i then some i else ff_ (eb_ g base n) k (i + 1)) with | some i => nI i | none => if c < n then nI c else -6) = _
        rw [if_neg (by rw [z]; exact Bool.false_ne_true)]
      refine wp_iload4 rfl ?_
      refine wp_aload0 rfl ?_
      refine wp_getI rfl (Pad_kd S) ?_
      rw [hc]
      refine wp_icmp_geN (i) (c) (by omega) (by omega) rfl (fun c1 => ?_) (fun c1 => ?_)
      · exact absurd c1 (by omega)
      · skip
        refine wp_aload0 rfl ?_
        refine wp_iload4 rfl ?_
        refine wp_callV1I rfl (Nat.le_of_ble_eq_true rfl) (Pad_kd S) (Pad_signAt_ok S (show i < 30 by omega)) (Nat.le_of_ble_eq_true rfl) ?_
        rintro _ hx1 ⟨rfl, ehx1⟩
        rw [ehx1, hr i c1]
        refine wp_iload1 rfl ?_
        refine wp_isub rfl ?_
        refine wp_istore5 rfl rfl ?_
        refine wp_iload5 rfl ?_
        have hgi := hg i
        rcases Nat.lt_or_ge (g i) base with q | q
        · refine wp_if_lt rfl (fun _ => ?_) (fun z => absurd (ni_neg q (by omega)) z)
          refine wp_iload4 rfl ?_
          exact wp_iret rfl ⟨_, rfl, (hbad (by unfold eb_; rw [decide_eq_true q]; rfl)).symm, rfl⟩
        · rw [ni_sub q]
          refine wp_if_ltN (g i - base) 0 (by omega) (by omega) rfl ?_
          refine wp_iload5 rfl ?_
          refine wp_iload2 rfl ?_
          refine wp_icmp_geN (g i - base) (n) (by omega) (by omega) rfl (fun c2 => ?_) (fun c2 => ?_)
          · skip
            refine wp_iload4 rfl ?_
            exact wp_iret rfl ⟨_, rfl, (hbad (by unfold eb_; rw [decide_eq_true (show base + n ≤ g i by omega), Bool.or_true, Bool.true_or])).symm, rfl⟩
          · skip
            refine wp_iload3 rfl ?_
            refine wp_iload5 rfl ?_
            refine wp_callS2I rfl (Nat.le_of_ble_eq_true rfl) (Cells_isIn_ok (show um_ g base i < 2 ^ 32 by omega) (show g i - base < 32 by omega)) (Nat.le_of_ble_eq_true rfl) ?_
            rintro _ hx2 ⟨rfl, ehx2⟩
            rw [ehx2]
            refine wp_if_eqB rfl (fun c3 => ?_) (fun c3 => ?_)
            · skip
              refine wp_iload3 rfl ?_
              refine wp_iconst rfl ?_
              refine wp_iload5 rfl ?_
              have hf : eb_ g base n i = false := by
                unfold eb_
                rw [decide_eq_false (show ¬ g i < base by omega), decide_eq_false (show ¬ base + n ≤ g i by omega), c3]
                rfl
              refine wp_ishlE (nI (1 * 2 ^ (g i - base))) (nn_shl 1 _ (by omega)) rfl ?_
              rw [Nat.one_mul]
              refine wp_iorE (nI (um_ g base i ||| 2 ^ (g i - base))) (nn_or _ _) rfl ?_
              refine wp_istore3 rfl rfl ?_
              refine wp_iinc4N rfl rfl ?_
              refine wp_goto rfl ?_
              refine ih (i + 1) _ (by omega) (by omega) (fun j hj => ?_) (hok hf)
              rcases Nat.lt_or_ge j i with q2 | q2
              · exact hno j q2
              · obtain rfl : j = i := by omega
                exact hf
            · skip
              refine wp_iload4 rfl ?_
              exact wp_iret rfl ⟨_, rfl, (hbad (by unfold eb_; rw [c3, Bool.or_true])).symm, rfl⟩
  refine wp_iconst rfl ?_
  refine wp_istore3 rfl rfl ?_
  refine wp_iconst rfl ?_
  refine wp_istore4 rfl rfl ?_
  exact loop c 0 none (Nat.zero_le _) (by omega) (fun j hj => absurd hj (Nat.not_lt_zero _)) rfl
theorem Pad_faultRow_ok {h : Hp_} {o c base n : Nat} {g : Nat → Nat} (S : S_Pad h o) (W : P_is h o g c) (hb : base < 128) (hn : n ≤ 8) : cI 3 mn_Pad_faultRow [.ref o, .int (nI base), .int (nI n)] h (fun x h' => x = fw_ g c base n ∧ h' = h) := by
  obtain ⟨hc, h30, hr, hg⟩ := W
  refine cq_in (q := mi_Pad_faultRow) (L := [some (.ref o), some (.int (nI base)), some (.int (nI n)), none, none]) rfl (Nat.le_of_ble_eq_true rfl) rfl ?_
  show wq _ tb_Pad_faultRow none 0 _ _ _ _
  have loop : ∀ k i (a5 : Option Value), i ≤ c → c - i = k → fw_ g c base n = (match ff_ (rb_ g base n) k i with | some i => nI i | none => -6) → wq 2 tb_Pad_faultRow none 2 [some (.ref o), some (.int (nI base)), some (.int (nI n)), some (.int (nI i)), a5] [] h (fun r h' => ∃ x, r = some (.int x) ∧ x = fw_ g c base n ∧ h' = h) := by
    intro k
    induction k with
    | zero =>
      intro i a5 hi hk0 hfo
      obtain rfl : i = c := by omega
      have hfo2 : fw_ g i base n = -6 := hfo
      refine wp_iload3 rfl ?_
      refine wp_aload0 rfl ?_
      refine wp_getI rfl (Pad_kd S) ?_
      rw [hc]
      refine wp_icmp_geN (i) (i) (by omega) (by omega) rfl (fun c1 => ?_) (fun c1 => ?_)
      · skip
        refine wp_bipush rfl ?_
        exact wp_iret rfl ⟨_, rfl, by rw [hfo2], rfl⟩
      · exact absurd c1 (Nat.lt_irrefl _)
    | succ k ih =>
      intro i a5 hi hk0 hfo
      have hbad : rb_ g base n i = true → fw_ g c base n = nI i := by
        intro z
        rw [hfo]
        show (match (if rb_ g base n i then some i else ff_ (rb_ g base n) k (i + 1)) with | some i => nI i | none => -6) = nI i
        rw [if_pos z]
      have hok : rb_ g base n i = false → fw_ g c base n = (match ff_ (rb_ g base n) k (i + 1) with | some i => nI i | none => -6) := by
        intro z
        rw [hfo]
        show (match (if rb_ g base n i then some i else ff_ (rb_ g base n) k (i + 1)) with | some i => nI i | none => -6) = _
        rw [if_neg (by rw [z]; exact Bool.false_ne_true)]
      refine wp_iload3 rfl ?_
      refine wp_aload0 rfl ?_
      refine wp_getI rfl (Pad_kd S) ?_
      rw [hc]
      refine wp_icmp_geN (i) (c) (by omega) (by omega) rfl (fun c1 => ?_) (fun c1 => ?_)
      · exact absurd c1 (by omega)
      · skip
        refine wp_aload0 rfl ?_
        refine wp_iload3 rfl ?_
        refine wp_callV1I rfl (Nat.le_of_ble_eq_true rfl) (Pad_kd S) (Pad_signAt_ok S (show i < 30 by omega)) (Nat.le_of_ble_eq_true rfl) ?_
        rintro _ hx1 ⟨rfl, ehx1⟩
        rw [ehx1, hr i c1]
        refine wp_iload1 rfl ?_
        refine wp_isub rfl ?_
        refine wp_istore4 rfl rfl ?_
        refine wp_iload3 rfl ?_
        refine wp_bipush rfl ?_
        refine wp_icmp_geN (i) (20) (by omega) (by omega) rfl (fun c0 => ?_) (fun c0 => ?_)
        · skip
          refine wp_iload3 rfl ?_
          exact wp_iret rfl ⟨_, rfl, (hbad (by unfold rb_; rw [decide_eq_true c0]; rfl)).symm, rfl⟩
        · skip
          refine wp_iload4 rfl ?_
          have hgi := hg i
          rcases Nat.lt_or_ge (g i) base with q | q
          · refine wp_if_lt rfl (fun _ => ?_) (fun z => absurd (ni_neg q (by omega)) z)
            refine wp_iload3 rfl ?_
            exact wp_iret rfl ⟨_, rfl, (hbad (by unfold rb_; rw [decide_eq_true q, Bool.or_true]; rfl)).symm, rfl⟩
          · rw [ni_sub q]
            refine wp_if_ltN (g i - base) 0 (by omega) (by omega) rfl ?_
            refine wp_iload4 rfl ?_
            refine wp_iload2 rfl ?_
            refine wp_icmp_ltN (g i - base) (n) (by omega) (by omega) rfl (fun c2 => ?_) (fun c2 => ?_)
            · skip
              refine wp_iinc3N rfl rfl ?_
              refine wp_goto rfl ?_
              refine ih (i + 1) _ (by omega) (by omega) (hok ?_)
              unfold rb_
              rw [decide_eq_false (show ¬ 20 ≤ i by omega), decide_eq_false (show ¬ g i < base by omega), decide_eq_false (show ¬ base + n ≤ g i by omega)]
              rfl
            · skip
              refine wp_iload3 rfl ?_
              exact wp_iret rfl ⟨_, rfl, (hbad (by unfold rb_; rw [decide_eq_true (show base + n ≤ g i by omega), Bool.or_true])).symm, rfl⟩
  refine wp_iconst rfl ?_
  refine wp_istore3 rfl rfl ?_
  exact loop c 0 none (Nat.zero_le _) (by omega) rfl
end
