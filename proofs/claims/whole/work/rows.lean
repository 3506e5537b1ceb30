section
-- ===== PART A: goes FIRST, ahead of the names: the tables' words, and 'selects' of the private methods out of them =====
/-- a private method of a class that the tables say can be made, by its rows of tables_1 -/
def lw_okq (q : MethodName × Nat) : Prop := (q.1.cls ≠ "java/lang/invoke/MethodHandle" ∧ q.1.cls ≠ "java/lang/invoke/VarHandle") ∧ Cond.instantiable q.1.cls q.2 ∈ tables_1 ∧ Cond.privateMethod q.1 ∈ tables_1 ∧ Cond.instanceMethod q.1 ∈ tables_1
theorem lw_p0 : lw_okq (⟨"LostDesk", "refuse", "(I)I"⟩, 15) := ⟨⟨by decide +kernel, by decide +kernel⟩, List.mem_of_getElem? (i := 15) (by decide +kernel), List.mem_of_getElem? (i := 302) (by decide +kernel), List.mem_of_getElem? (i := 303) (by decide +kernel)⟩
theorem lw_p1 : lw_okq (⟨"LostDesk", "answer", "(I)I"⟩, 15) := ⟨⟨by decide +kernel, by decide +kernel⟩, List.mem_of_getElem? (i := 15) (by decide +kernel), List.mem_of_getElem? (i := 314) (by decide +kernel), List.mem_of_getElem? (i := 315) (by decide +kernel)⟩
theorem lw_p2 : lw_okq (⟨"LostDesk", "deny", "(I)Z"⟩, 15) := ⟨⟨by decide +kernel, by decide +kernel⟩, List.mem_of_getElem? (i := 15) (by decide +kernel), List.mem_of_getElem? (i := 328) (by decide +kernel), List.mem_of_getElem? (i := 329) (by decide +kernel)⟩
theorem lw_p3 : lw_okq (⟨"LostDesk", "grant", "()Z"⟩, 15) := ⟨⟨by decide +kernel, by decide +kernel⟩, List.mem_of_getElem? (i := 15) (by decide +kernel), List.mem_of_getElem? (i := 340) (by decide +kernel), List.mem_of_getElem? (i := 341) (by decide +kernel)⟩
theorem lw_p4 : lw_okq (⟨"LostDesk$Places", "forgetFar", "()V"⟩, 4) := ⟨⟨by decide +kernel, by decide +kernel⟩, List.mem_of_getElem? (i := 55) (by decide +kernel), List.mem_of_getElem? (i := 373) (by decide +kernel), List.mem_of_getElem? (i := 374) (by decide +kernel)⟩
theorem lw_p5 : lw_okq (⟨"LostDesk$Places", "measureFrom", "(I)V"⟩, 4) := ⟨⟨by decide +kernel, by decide +kernel⟩, List.mem_of_getElem? (i := 55) (by decide +kernel), List.mem_of_getElem? (i := 385) (by decide +kernel), List.mem_of_getElem? (i := 386) (by decide +kernel)⟩
theorem lw_p6 : lw_okq (⟨"LostDesk$Places", "nearest", "([II)I"⟩, 4) := ⟨⟨by decide +kernel, by decide +kernel⟩, List.mem_of_getElem? (i := 55) (by decide +kernel), List.mem_of_getElem? (i := 389) (by decide +kernel), List.mem_of_getElem? (i := 390) (by decide +kernel)⟩
theorem lw_p7 : lw_okq (⟨"LostDesk$Places", "lookFrom", "(I[I)V"⟩, 4) := ⟨⟨by decide +kernel, by decide +kernel⟩, List.mem_of_getElem? (i := 55) (by decide +kernel), List.mem_of_getElem? (i := 393) (by decide +kernel), List.mem_of_getElem? (i := 394) (by decide +kernel)⟩
theorem lw_p8 : lw_okq (⟨"LostDesk", "pairCost", "(II)I"⟩, 15) := ⟨⟨by decide +kernel, by decide +kernel⟩, List.mem_of_getElem? (i := 15) (by decide +kernel), List.mem_of_getElem? (i := 447) (by decide +kernel), List.mem_of_getElem? (i := 448) (by decide +kernel)⟩
theorem lw_p9 : lw_okq (⟨"LostDesk", "freshenBest", "()V"⟩, 15) := ⟨⟨by decide +kernel, by decide +kernel⟩, List.mem_of_getElem? (i := 15) (by decide +kernel), List.mem_of_getElem? (i := 486) (by decide +kernel), List.mem_of_getElem? (i := 487) (by decide +kernel)⟩
theorem lw_p10 : lw_okq (⟨"LostDesk$Matcher", "seatAll", "()V"⟩, 15) := ⟨⟨by decide +kernel, by decide +kernel⟩, List.mem_of_getElem? (i := 159) (by decide +kernel), List.mem_of_getElem? (i := 511) (by decide +kernel), List.mem_of_getElem? (i := 512) (by decide +kernel)⟩
theorem lw_p11 : lw_okq (⟨"LostDesk$Matcher", "seatOne", "(I)V"⟩, 15) := ⟨⟨by decide +kernel, by decide +kernel⟩, List.mem_of_getElem? (i := 159) (by decide +kernel), List.mem_of_getElem? (i := 516) (by decide +kernel), List.mem_of_getElem? (i := 517) (by decide +kernel)⟩
theorem lw_p12 : lw_okq (⟨"LostDesk$Matcher", "nextSeat", "(III)I"⟩, 15) := ⟨⟨by decide +kernel, by decide +kernel⟩, List.mem_of_getElem? (i := 159) (by decide +kernel), List.mem_of_getElem? (i := 520) (by decide +kernel), List.mem_of_getElem? (i := 521) (by decide +kernel)⟩
theorem lw_p13 : lw_okq (⟨"LostDesk$Matcher", "slack", "(II)I"⟩, 15) := ⟨⟨by decide +kernel, by decide +kernel⟩, List.mem_of_getElem? (i := 159) (by decide +kernel), List.mem_of_getElem? (i := 524) (by decide +kernel), List.mem_of_getElem? (i := 525) (by decide +kernel)⟩
theorem lw_p14 : lw_okq (⟨"LostDesk$Matcher", "raiseDues", "(III)V"⟩, 15) := ⟨⟨by decide +kernel, by decide +kernel⟩, List.mem_of_getElem? (i := 159) (by decide +kernel), List.mem_of_getElem? (i := 528) (by decide +kernel), List.mem_of_getElem? (i := 529) (by decide +kernel)⟩
theorem lw_p15 : lw_okq (⟨"LostDesk$Matcher", "isEmpty", "(I)Z"⟩, 15) := ⟨⟨by decide +kernel, by decide +kernel⟩, List.mem_of_getElem? (i := 159) (by decide +kernel), List.mem_of_getElem? (i := 532) (by decide +kernel), List.mem_of_getElem? (i := 533) (by decide +kernel)⟩
def lw_privs_1 : List (MethodName × Nat) := [(⟨"LostDesk", "refuse", "(I)I"⟩, 15), (⟨"LostDesk", "answer", "(I)I"⟩, 15), (⟨"LostDesk", "deny", "(I)Z"⟩, 15), (⟨"LostDesk", "grant", "()Z"⟩, 15), (⟨"LostDesk$Places", "forgetFar", "()V"⟩, 4), (⟨"LostDesk$Places", "measureFrom", "(I)V"⟩, 4), (⟨"LostDesk$Places", "nearest", "([II)I"⟩, 4), (⟨"LostDesk$Places", "lookFrom", "(I[I)V"⟩, 4), (⟨"LostDesk", "pairCost", "(II)I"⟩, 15), (⟨"LostDesk", "freshenBest", "()V"⟩, 15), (⟨"LostDesk$Matcher", "seatAll", "()V"⟩, 15), (⟨"LostDesk$Matcher", "seatOne", "(I)V"⟩, 15), (⟨"LostDesk$Matcher", "nextSeat", "(III)I"⟩, 15), (⟨"LostDesk$Matcher", "slack", "(II)I"⟩, 15), (⟨"LostDesk$Matcher", "raiseDues", "(III)V"⟩, 15), (⟨"LostDesk$Matcher", "isEmpty", "(I)Z"⟩, 15)]
theorem lw_r1 : ∀ q ∈ lw_privs_1, lw_okq q := List.forall_mem_cons.mpr ⟨lw_p0, List.forall_mem_cons.mpr ⟨lw_p1, List.forall_mem_cons.mpr ⟨lw_p2, List.forall_mem_cons.mpr ⟨lw_p3, List.forall_mem_cons.mpr ⟨lw_p4, List.forall_mem_cons.mpr ⟨lw_p5, List.forall_mem_cons.mpr ⟨lw_p6, List.forall_mem_cons.mpr ⟨lw_p7, List.forall_mem_cons.mpr ⟨lw_p8, List.forall_mem_cons.mpr ⟨lw_p9, List.forall_mem_cons.mpr ⟨lw_p10, List.forall_mem_cons.mpr ⟨lw_p11, List.forall_mem_cons.mpr ⟨lw_p12, List.forall_mem_cons.mpr ⟨lw_p13, List.forall_mem_cons.mpr ⟨lw_p14, List.forall_mem_cons.mpr ⟨lw_p15, fun _ h => absurd h List.not_mem_nil⟩⟩⟩⟩⟩⟩⟩⟩⟩⟩⟩⟩⟩⟩⟩⟩
theorem lw_p16 : lw_okq (⟨"LostDesk$Matcher", "moveUp", "(II)V"⟩, 15) := ⟨⟨by decide +kernel, by decide +kernel⟩, List.mem_of_getElem? (i := 159) (by decide +kernel), List.mem_of_getElem? (i := 536) (by decide +kernel), List.mem_of_getElem? (i := 537) (by decide +kernel)⟩
theorem lw_p17 : lw_okq (⟨"LostDesk$Matcher", "sit", "(II)V"⟩, 15) := ⟨⟨by decide +kernel, by decide +kernel⟩, List.mem_of_getElem? (i := 159) (by decide +kernel), List.mem_of_getElem? (i := 540) (by decide +kernel), List.mem_of_getElem? (i := 541) (by decide +kernel)⟩
theorem lw_p18 : lw_okq (⟨"LostDesk$Matcher", "settle", "(I)V"⟩, 15) := ⟨⟨by decide +kernel, by decide +kernel⟩, List.mem_of_getElem? (i := 159) (by decide +kernel), List.mem_of_getElem? (i := 544) (by decide +kernel), List.mem_of_getElem? (i := 545) (by decide +kernel)⟩
theorem lw_p19 : lw_okq (⟨"LostDesk$Matcher", "leastSeat", "(III)I"⟩, 15) := ⟨⟨by decide +kernel, by decide +kernel⟩, List.mem_of_getElem? (i := 159) (by decide +kernel), List.mem_of_getElem? (i := 548) (by decide +kernel), List.mem_of_getElem? (i := 549) (by decide +kernel)⟩
theorem lw_p20 : lw_okq (⟨"LostDesk$Matcher", "seatsThatLead", "(II)I"⟩, 15) := ⟨⟨by decide +kernel, by decide +kernel⟩, List.mem_of_getElem? (i := 159) (by decide +kernel), List.mem_of_getElem? (i := 552) (by decide +kernel), List.mem_of_getElem? (i := 553) (by decide +kernel)⟩
theorem lw_p21 : lw_okq (⟨"LostDesk$Matcher", "freeMover", "(III)I"⟩, 15) := ⟨⟨by decide +kernel, by decide +kernel⟩, List.mem_of_getElem? (i := 159) (by decide +kernel), List.mem_of_getElem? (i := 556) (by decide +kernel), List.mem_of_getElem? (i := 557) (by decide +kernel)⟩
theorem lw_p22 : lw_okq (⟨"LostDesk$Matcher", "moveRound", "(III)V"⟩, 15) := ⟨⟨by decide +kernel, by decide +kernel⟩, List.mem_of_getElem? (i := 159) (by decide +kernel), List.mem_of_getElem? (i := 560) (by decide +kernel), List.mem_of_getElem? (i := 561) (by decide +kernel)⟩
theorem lw_p23 : lw_okq (⟨"LostDesk$Matcher", "leaveEmpty", "(I)V"⟩, 15) := ⟨⟨by decide +kernel, by decide +kernel⟩, List.mem_of_getElem? (i := 159) (by decide +kernel), List.mem_of_getElem? (i := 564) (by decide +kernel), List.mem_of_getElem? (i := 565) (by decide +kernel)⟩
theorem lw_p24 : lw_okq (⟨"LostDesk$Matcher", "seatingCost", "()I"⟩, 15) := ⟨⟨by decide +kernel, by decide +kernel⟩, List.mem_of_getElem? (i := 159) (by decide +kernel), List.mem_of_getElem? (i := 568) (by decide +kernel), List.mem_of_getElem? (i := 569) (by decide +kernel)⟩
theorem lw_p25 : lw_okq (⟨"LostDesk", "differingMarks", "(II)I"⟩, 15) := ⟨⟨by decide +kernel, by decide +kernel⟩, List.mem_of_getElem? (i := 15) (by decide +kernel), List.mem_of_getElem? (i := 588) (by decide +kernel), List.mem_of_getElem? (i := 589) (by decide +kernel)⟩
theorem lw_p26 : lw_okq (⟨"LostDesk", "isKeptInLine", "(II)Z"⟩, 15) := ⟨⟨by decide +kernel, by decide +kernel⟩, List.mem_of_getElem? (i := 15) (by decide +kernel), List.mem_of_getElem? (i := 592) (by decide +kernel), List.mem_of_getElem? (i := 593) (by decide +kernel)⟩
theorem lw_p27 : lw_okq (⟨"LostDesk$MarkSearch", "sumUp", "()V"⟩, 5) := ⟨⟨by decide +kernel, by decide +kernel⟩, List.mem_of_getElem? (i := 214) (by decide +kernel), List.mem_of_getElem? (i := 613) (by decide +kernel), List.mem_of_getElem? (i := 614) (by decide +kernel)⟩
theorem lw_p28 : lw_okq (⟨"LostDesk$MarkSearch", "leastSum", "(III)I"⟩, 5) := ⟨⟨by decide +kernel, by decide +kernel⟩, List.mem_of_getElem? (i := 214) (by decide +kernel), List.mem_of_getElem? (i := 619) (by decide +kernel), List.mem_of_getElem? (i := 620) (by decide +kernel)⟩
theorem lw_p29 : lw_okq (⟨"LostDesk", "hasRival", "(II)Z"⟩, 15) := ⟨⟨by decide +kernel, by decide +kernel⟩, List.mem_of_getElem? (i := 15) (by decide +kernel), List.mem_of_getElem? (i := 631) (by decide +kernel), List.mem_of_getElem? (i := 632) (by decide +kernel)⟩
theorem lw_p30 : lw_okq (⟨"LostDesk", "bagDue", "(I)I"⟩, 15) := ⟨⟨by decide +kernel, by decide +kernel⟩, List.mem_of_getElem? (i := 15) (by decide +kernel), List.mem_of_getElem? (i := 659) (by decide +kernel), List.mem_of_getElem? (i := 660) (by decide +kernel)⟩
theorem lw_p31 : lw_okq (⟨"LostDesk", "readShares", "(II)I"⟩, 15) := ⟨⟨by decide +kernel, by decide +kernel⟩, List.mem_of_getElem? (i := 15) (by decide +kernel), List.mem_of_getElem? (i := 681) (by decide +kernel), List.mem_of_getElem? (i := 682) (by decide +kernel)⟩
def lw_privs_2 : List (MethodName × Nat) := [(⟨"LostDesk$Matcher", "moveUp", "(II)V"⟩, 15), (⟨"LostDesk$Matcher", "sit", "(II)V"⟩, 15), (⟨"LostDesk$Matcher", "settle", "(I)V"⟩, 15), (⟨"LostDesk$Matcher", "leastSeat", "(III)I"⟩, 15), (⟨"LostDesk$Matcher", "seatsThatLead", "(II)I"⟩, 15), (⟨"LostDesk$Matcher", "freeMover", "(III)I"⟩, 15), (⟨"LostDesk$Matcher", "moveRound", "(III)V"⟩, 15), (⟨"LostDesk$Matcher", "leaveEmpty", "(I)V"⟩, 15), (⟨"LostDesk$Matcher", "seatingCost", "()I"⟩, 15), (⟨"LostDesk", "differingMarks", "(II)I"⟩, 15), (⟨"LostDesk", "isKeptInLine", "(II)Z"⟩, 15), (⟨"LostDesk$MarkSearch", "sumUp", "()V"⟩, 5), (⟨"LostDesk$MarkSearch", "leastSum", "(III)I"⟩, 5), (⟨"LostDesk", "hasRival", "(II)Z"⟩, 15), (⟨"LostDesk", "bagDue", "(I)I"⟩, 15), (⟨"LostDesk", "readShares", "(II)I"⟩, 15)]
theorem lw_r2 : ∀ q ∈ lw_privs_2, lw_okq q := List.forall_mem_cons.mpr ⟨lw_p16, List.forall_mem_cons.mpr ⟨lw_p17, List.forall_mem_cons.mpr ⟨lw_p18, List.forall_mem_cons.mpr ⟨lw_p19, List.forall_mem_cons.mpr ⟨lw_p20, List.forall_mem_cons.mpr ⟨lw_p21, List.forall_mem_cons.mpr ⟨lw_p22, List.forall_mem_cons.mpr ⟨lw_p23, List.forall_mem_cons.mpr ⟨lw_p24, List.forall_mem_cons.mpr ⟨lw_p25, List.forall_mem_cons.mpr ⟨lw_p26, List.forall_mem_cons.mpr ⟨lw_p27, List.forall_mem_cons.mpr ⟨lw_p28, List.forall_mem_cons.mpr ⟨lw_p29, List.forall_mem_cons.mpr ⟨lw_p30, List.forall_mem_cons.mpr ⟨lw_p31, fun _ h => absurd h List.not_mem_nil⟩⟩⟩⟩⟩⟩⟩⟩⟩⟩⟩⟩⟩⟩⟩⟩
theorem lw_p32 : lw_okq (⟨"LostDesk", "partPennies", "(II)V"⟩, 15) := ⟨⟨by decide +kernel, by decide +kernel⟩, List.mem_of_getElem? (i := 15) (by decide +kernel), List.mem_of_getElem? (i := 685) (by decide +kernel), List.mem_of_getElem? (i := 686) (by decide +kernel)⟩
theorem lw_p33 : lw_okq (⟨"LostDeskModel", "isKind", "(I)Z"⟩, 47) := ⟨⟨by decide +kernel, by decide +kernel⟩, List.mem_of_getElem? (i := 693) (by decide +kernel), List.mem_of_getElem? (i := 849) (by decide +kernel), List.mem_of_getElem? (i := 850) (by decide +kernel)⟩
theorem lw_p34 : lw_okq (⟨"LostDeskModel", "refuse", "(I)I"⟩, 47) := ⟨⟨by decide +kernel, by decide +kernel⟩, List.mem_of_getElem? (i := 693) (by decide +kernel), List.mem_of_getElem? (i := 853) (by decide +kernel), List.mem_of_getElem? (i := 854) (by decide +kernel)⟩
theorem lw_p35 : lw_okq (⟨"LostDeskModel", "no", "(I)Z"⟩, 47) := ⟨⟨by decide +kernel, by decide +kernel⟩, List.mem_of_getElem? (i := 693) (by decide +kernel), List.mem_of_getElem? (i := 864) (by decide +kernel), List.mem_of_getElem? (i := 865) (by decide +kernel)⟩
theorem lw_p36 : lw_okq (⟨"LostDeskModel", "isPlace", "(I)Z"⟩, 47) := ⟨⟨by decide +kernel, by decide +kernel⟩, List.mem_of_getElem? (i := 693) (by decide +kernel), List.mem_of_getElem? (i := 877) (by decide +kernel), List.mem_of_getElem? (i := 878) (by decide +kernel)⟩
theorem lw_p37 : lw_okq (⟨"LostDeskModel", "ways", "()V"⟩, 47) := ⟨⟨by decide +kernel, by decide +kernel⟩, List.mem_of_getElem? (i := 693) (by decide +kernel), List.mem_of_getElem? (i := 885) (by decide +kernel), List.mem_of_getElem? (i := 886) (by decide +kernel)⟩
theorem lw_p38 : lw_okq (⟨"LostDeskModel", "isFind", "(I)Z"⟩, 47) := ⟨⟨by decide +kernel, by decide +kernel⟩, List.mem_of_getElem? (i := 693) (by decide +kernel), List.mem_of_getElem? (i := 910) (by decide +kernel), List.mem_of_getElem? (i := 911) (by decide +kernel)⟩
theorem lw_p39 : lw_okq (⟨"LostDeskModel", "isLoss", "(I)Z"⟩, 47) := ⟨⟨by decide +kernel, by decide +kernel⟩, List.mem_of_getElem? (i := 693) (by decide +kernel), List.mem_of_getElem? (i := 918) (by decide +kernel), List.mem_of_getElem? (i := 919) (by decide +kernel)⟩
theorem lw_p40 : lw_okq (⟨"LostDeskModel", "costOf", "(II)I"⟩, 47) := ⟨⟨by decide +kernel, by decide +kernel⟩, List.mem_of_getElem? (i := 693) (by decide +kernel), List.mem_of_getElem? (i := 922) (by decide +kernel), List.mem_of_getElem? (i := 923) (by decide +kernel)⟩
theorem lw_p41 : lw_okq (⟨"LostDeskModel", "below", "(II)I"⟩, 47) := ⟨⟨by decide +kernel, by decide +kernel⟩, List.mem_of_getElem? (i := 693) (by decide +kernel), List.mem_of_getElem? (i := 926) (by decide +kernel), List.mem_of_getElem? (i := 927) (by decide +kernel)⟩
theorem lw_p42 : lw_okq (⟨"LostDeskModel", "gather", "()V"⟩, 47) := ⟨⟨by decide +kernel, by decide +kernel⟩, List.mem_of_getElem? (i := 693) (by decide +kernel), List.mem_of_getElem? (i := 940) (by decide +kernel), List.mem_of_getElem? (i := 941) (by decide +kernel)⟩
theorem lw_p43 : lw_okq (⟨"LostDeskModel", "columns", "()I"⟩, 47) := ⟨⟨by decide +kernel, by decide +kernel⟩, List.mem_of_getElem? (i := 693) (by decide +kernel), List.mem_of_getElem? (i := 944) (by decide +kernel), List.mem_of_getElem? (i := 945) (by decide +kernel)⟩
theorem lw_p44 : lw_okq (⟨"LostDeskModel", "solve", "()I"⟩, 47) := ⟨⟨by decide +kernel, by decide +kernel⟩, List.mem_of_getElem? (i := 693) (by decide +kernel), List.mem_of_getElem? (i := 949) (by decide +kernel), List.mem_of_getElem? (i := 950) (by decide +kernel)⟩
theorem lw_p45 : lw_okq (⟨"LostDeskModel", "step", "(II)I"⟩, 47) := ⟨⟨by decide +kernel, by decide +kernel⟩, List.mem_of_getElem? (i := 693) (by decide +kernel), List.mem_of_getElem? (i := 954) (by decide +kernel), List.mem_of_getElem? (i := 955) (by decide +kernel)⟩
theorem lw_p46 : lw_okq (⟨"LostDeskModel", "matches", "()I"⟩, 47) := ⟨⟨by decide +kernel, by decide +kernel⟩, List.mem_of_getElem? (i := 693) (by decide +kernel), List.mem_of_getElem? (i := 962) (by decide +kernel), List.mem_of_getElem? (i := 963) (by decide +kernel)⟩
theorem lw_p47 : lw_okq (⟨"LostDeskModel", "only", "(II)V"⟩, 47) := ⟨⟨by decide +kernel, by decide +kernel⟩, List.mem_of_getElem? (i := 693) (by decide +kernel), List.mem_of_getElem? (i := 966) (by decide +kernel), List.mem_of_getElem? (i := 967) (by decide +kernel)⟩
def lw_privs_3 : List (MethodName × Nat) := [(⟨"LostDesk", "partPennies", "(II)V"⟩, 15), (⟨"LostDeskModel", "isKind", "(I)Z"⟩, 47), (⟨"LostDeskModel", "refuse", "(I)I"⟩, 47), (⟨"LostDeskModel", "no", "(I)Z"⟩, 47), (⟨"LostDeskModel", "isPlace", "(I)Z"⟩, 47), (⟨"LostDeskModel", "ways", "()V"⟩, 47), (⟨"LostDeskModel", "isFind", "(I)Z"⟩, 47), (⟨"LostDeskModel", "isLoss", "(I)Z"⟩, 47), (⟨"LostDeskModel", "costOf", "(II)I"⟩, 47), (⟨"LostDeskModel", "below", "(II)I"⟩, 47), (⟨"LostDeskModel", "gather", "()V"⟩, 47), (⟨"LostDeskModel", "columns", "()I"⟩, 47), (⟨"LostDeskModel", "solve", "()I"⟩, 47), (⟨"LostDeskModel", "step", "(II)I"⟩, 47), (⟨"LostDeskModel", "matches", "()I"⟩, 47), (⟨"LostDeskModel", "only", "(II)V"⟩, 47)]
theorem lw_r3 : ∀ q ∈ lw_privs_3, lw_okq q := List.forall_mem_cons.mpr ⟨lw_p32, List.forall_mem_cons.mpr ⟨lw_p33, List.forall_mem_cons.mpr ⟨lw_p34, List.forall_mem_cons.mpr ⟨lw_p35, List.forall_mem_cons.mpr ⟨lw_p36, List.forall_mem_cons.mpr ⟨lw_p37, List.forall_mem_cons.mpr ⟨lw_p38, List.forall_mem_cons.mpr ⟨lw_p39, List.forall_mem_cons.mpr ⟨lw_p40, List.forall_mem_cons.mpr ⟨lw_p41, List.forall_mem_cons.mpr ⟨lw_p42, List.forall_mem_cons.mpr ⟨lw_p43, List.forall_mem_cons.mpr ⟨lw_p44, List.forall_mem_cons.mpr ⟨lw_p45, List.forall_mem_cons.mpr ⟨lw_p46, List.forall_mem_cons.mpr ⟨lw_p47, fun _ h => absurd h List.not_mem_nil⟩⟩⟩⟩⟩⟩⟩⟩⟩⟩⟩⟩⟩⟩⟩⟩
theorem lw_p48 : lw_okq (⟨"LostDeskModel", "kins", "(I)V"⟩, 47) := ⟨⟨by decide +kernel, by decide +kernel⟩, List.mem_of_getElem? (i := 693) (by decide +kernel), List.mem_of_getElem? (i := 978) (by decide +kernel), List.mem_of_getElem? (i := 979) (by decide +kernel)⟩
theorem lw_p49 : lw_okq (⟨"LostDeskModel", "areKin", "(II)Z"⟩, 47) := ⟨⟨by decide +kernel, by decide +kernel⟩, List.mem_of_getElem? (i := 693) (by decide +kernel), List.mem_of_getElem? (i := 982) (by decide +kernel), List.mem_of_getElem? (i := 983) (by decide +kernel)⟩
theorem lw_p50 : lw_okq (⟨"LostDeskModel", "alikes", "(II)I"⟩, 47) := ⟨⟨by decide +kernel, by decide +kernel⟩, List.mem_of_getElem? (i := 693) (by decide +kernel), List.mem_of_getElem? (i := 986) (by decide +kernel), List.mem_of_getElem? (i := 987) (by decide +kernel)⟩
theorem lw_p51 : lw_okq (⟨"LostDeskModel", "dueOf", "(I)I"⟩, 47) := ⟨⟨by decide +kernel, by decide +kernel⟩, List.mem_of_getElem? (i := 693) (by decide +kernel), List.mem_of_getElem? (i := 1014) (by decide +kernel), List.mem_of_getElem? (i := 1015) (by decide +kernel)⟩
def lw_privs_4 : List (MethodName × Nat) := [(⟨"LostDeskModel", "kins", "(I)V"⟩, 47), (⟨"LostDeskModel", "areKin", "(II)Z"⟩, 47), (⟨"LostDeskModel", "alikes", "(II)I"⟩, 47), (⟨"LostDeskModel", "dueOf", "(I)I"⟩, 47)]
theorem lw_r4 : ∀ q ∈ lw_privs_4, lw_okq q := List.forall_mem_cons.mpr ⟨lw_p48, List.forall_mem_cons.mpr ⟨lw_p49, List.forall_mem_cons.mpr ⟨lw_p50, List.forall_mem_cons.mpr ⟨lw_p51, fun _ h => absurd h List.not_mem_nil⟩⟩⟩⟩
def lw_privs : List (MethodName × Nat) := lw_privs_1 ++ (lw_privs_2 ++ (lw_privs_3 ++ (lw_privs_4)))
def lw_tbl : List Cond := k2_sels lw_privs ++ tables_1
theorem lw_privs_ok : ∀ q ∈ lw_privs, lw_okq q := by
  show ∀ q ∈ lw_privs_1 ++ (lw_privs_2 ++ (lw_privs_3 ++ (lw_privs_4))), lw_okq q
  exact List.forall_mem_append.mpr ⟨lw_r1, List.forall_mem_append.mpr ⟨lw_r2, List.forall_mem_append.mpr ⟨lw_r3, lw_r4⟩⟩⟩
end
section
def RX0 : String := "LostDesk$Colours"
def TX0 : u_T := fun k => match k with
  | _ => ("LostDesk$Colours", "nearTo", "[I", true)
def tyX0 : Nat → FieldType := fun k => match k with
  | _ => .array .int
theorem nmX0 : ∀ a, a < 1 → ∀ b, b < 1 → a ≠ b → (TX0 a).2.1 ≠ (TX0 b).2.1 := by decide +kernel
theorem tyX0_ok : ∀ k, k < 1 → parseFieldDescriptor (TX0 k).2.2.1 = some (tyX0 k) := by decide +kernel
def RX1 : String := "LostDesk$Finds"
def TX1 : u_T := fun k => match k with
  | 0 => ("LostDesk$Finds", "kindOf", "[I", true)
  | 1 => ("LostDesk$Finds", "colourOf", "[I", true)
  | 2 => ("LostDesk$Finds", "marksOf", "[I", true)
  | 3 => ("LostDesk$Finds", "placeOf", "[I", true)
  | 4 => ("LostDesk$Finds", "tickOf", "[I", true)
  | 5 => ("LostDesk$Finds", "stateOf", "[I", true)
  | 6 => ("LostDesk$Finds", "handedTo", "[I", true)
  | 7 => ("LostDesk$Finds", "bagOf", "[I", true)
  | _ => ("LostDesk$Finds", "count", "I", false)
def tyX1 : Nat → FieldType := fun k => match k with
  | 0 => .array .int
  | 1 => .array .int
  | 2 => .array .int
  | 3 => .array .int
  | 4 => .array .int
  | 5 => .array .int
  | 6 => .array .int
  | 7 => .array .int
  | _ => .int
theorem nmX1 : ∀ a, a < 9 → ∀ b, b < 9 → a ≠ b → (TX1 a).2.1 ≠ (TX1 b).2.1 := by decide +kernel
theorem tyX1_ok : ∀ k, k < 9 → parseFieldDescriptor (TX1 k).2.2.1 = some (tyX1 k) := by decide +kernel
def RX2 : String := "LostDesk$Kinds"
def TX2 : u_T := fun k => match k with
  | 0 => ("LostDesk$Kinds", "aboveOf", "[I", true)
  | 1 => ("LostDesk$Kinds", "lineOf", "[J", true)
  | 2 => ("LostDesk$Kinds", "daysOf", "[I", true)
  | _ => ("LostDesk$Kinds", "count", "I", false)
def tyX2 : Nat → FieldType := fun k => match k with
  | 0 => .array .int
  | 1 => .array .long
  | 2 => .array .int
  | _ => .int
theorem nmX2 : ∀ a, a < 4 → ∀ b, b < 4 → a ≠ b → (TX2 a).2.1 ≠ (TX2 b).2.1 := by decide +kernel
theorem tyX2_ok : ∀ k, k < 4 → parseFieldDescriptor (TX2 k).2.2.1 = some (tyX2 k) := by decide +kernel
def RX3 : String := "LostDesk$Losses"
def TX3 : u_T := fun k => match k with
  | 0 => ("LostDesk$Losses", "kindOf", "[I", true)
  | 1 => ("LostDesk$Losses", "colourOf", "[I", true)
  | 2 => ("LostDesk$Losses", "marksOf", "[I", true)
  | 3 => ("LostDesk$Losses", "placeOf", "[I", true)
  | 4 => ("LostDesk$Losses", "fromOf", "[I", true)
  | 5 => ("LostDesk$Losses", "toOf", "[I", true)
  | 6 => ("LostDesk$Losses", "isHanded", "[Z", true)
  | _ => ("LostDesk$Losses", "count", "I", false)
def tyX3 : Nat → FieldType := fun k => match k with
  | 0 => .array .int
  | 1 => .array .int
  | 2 => .array .int
  | 3 => .array .int
  | 4 => .array .int
  | 5 => .array .int
  | 6 => .array .boolean
  | _ => .int
theorem nmX3 : ∀ a, a < 8 → ∀ b, b < 8 → a ≠ b → (TX3 a).2.1 ≠ (TX3 b).2.1 := by decide +kernel
theorem tyX3_ok : ∀ k, k < 8 → parseFieldDescriptor (TX3 k).2.2.1 = some (tyX3 k) := by decide +kernel
def RX4 : String := "LostDesk$MarkSearch"
def TX4 : u_T := fun k => match k with
  | 0 => ("LostDesk$MarkSearch", "partedBy", "[I", true)
  | 1 => ("LostDesk$MarkSearch", "partedBelow", "[I", true)
  | 2 => ("LostDesk$MarkSearch", "count", "I", false)
  | 3 => ("LostDesk$MarkSearch", "need", "I", false)
  | _ => ("LostDesk$MarkSearch", "mostByOne", "I", false)
def tyX4 : Nat → FieldType := fun k => match k with
  | 0 => .array .int
  | 1 => .array .int
  | 2 => .int
  | 3 => .int
  | _ => .int
theorem nmX4 : ∀ a, a < 5 → ∀ b, b < 5 → a ≠ b → (TX4 a).2.1 ≠ (TX4 b).2.1 := by decide +kernel
theorem tyX4_ok : ∀ k, k < 5 → parseFieldDescriptor (TX4 k).2.2.1 = some (tyX4 k) := by decide +kernel
def RX5 : String := "LostDesk$Matcher"
def TX5 : u_T := fun k => match k with
  | 0 => ("LostDesk$Matcher", "priceOf", "[[I", true)
  | 1 => ("LostDesk$Matcher", "isOpen", "[Z", true)
  | 2 => ("LostDesk$Matcher", "bestFindOf", "[I", true)
  | 3 => ("LostDesk$Matcher", "seatOf", "[I", true)
  | 4 => ("LostDesk$Matcher", "sitterOf", "[I", true)
  | 5 => ("LostDesk$Matcher", "lossDue", "[I", true)
  | 6 => ("LostDesk$Matcher", "seatDue", "[I", true)
  | 7 => ("LostDesk$Matcher", "slackOf", "[I", true)
  | 8 => ("LostDesk$Matcher", "seatBefore", "[I", true)
  | 9 => ("LostDesk$Matcher", "moverOf", "[I", true)
  | 10 => ("LostDesk$Matcher", "seatAfter", "[I", true)
  | 11 => ("LostDesk$Matcher", "queue", "[I", true)
  | 12 => ("LostDesk$Matcher", "lossCount", "I", false)
  | 13 => ("LostDesk$Matcher", "bench", "I", false)
  | _ => ("LostDesk$Matcher", "bestCost", "I", false)
def tyX5 : Nat → FieldType := fun k => match k with
  | 0 => .array (.array .int)
  | 1 => .array .boolean
  | 2 => .array .int
  | 3 => .array .int
  | 4 => .array .int
  | 5 => .array .int
  | 6 => .array .int
  | 7 => .array .int
  | 8 => .array .int
  | 9 => .array .int
  | 10 => .array .int
  | 11 => .array .int
  | 12 => .int
  | 13 => .int
  | _ => .int
theorem nmX5 : ∀ a, a < 15 → ∀ b, b < 15 → a ≠ b → (TX5 a).2.1 ≠ (TX5 b).2.1 := by decide +kernel
theorem tyX5_ok : ∀ k, k < 15 → parseFieldDescriptor (TX5 k).2.2.1 = some (tyX5 k) := by decide +kernel
def RX6 : String := "LostDesk$Places"
def TX6 : u_T := fun k => match k with
  | 0 => ("LostDesk$Places", "ticksOf", "[[I", true)
  | 1 => ("LostDesk$Places", "farOf", "[[I", true)
  | 2 => ("LostDesk$Places", "isMeasured", "[Z", true)
  | _ => ("LostDesk$Places", "count", "I", false)
def tyX6 : Nat → FieldType := fun k => match k with
  | 0 => .array (.array .int)
  | 1 => .array (.array .int)
  | 2 => .array .boolean
  | _ => .int
theorem nmX6 : ∀ a, a < 4 → ∀ b, b < 4 → a ≠ b → (TX6 a).2.1 ≠ (TX6 b).2.1 := by decide +kernel
theorem tyX6_ok : ∀ k, k < 4 → parseFieldDescriptor (TX6 k).2.2.1 = some (tyX6 k) := by decide +kernel
def RX7 : String := "LostDesk"
def TX7 : u_T := fun k => match k with
  | 0 => ("LostDesk", "kinds", "LLostDesk$Kinds;", true)
  | 1 => ("LostDesk", "colours", "LLostDesk$Colours;", true)
  | 2 => ("LostDesk", "places", "LLostDesk$Places;", true)
  | 3 => ("LostDesk", "finds", "LLostDesk$Finds;", true)
  | 4 => ("LostDesk", "losses", "LLostDesk$Losses;", true)
  | 5 => ("LostDesk", "matcher", "LLostDesk$Matcher;", true)
  | 6 => ("LostDesk", "markSearch", "LLostDesk$MarkSearch;", true)
  | 7 => ("LostDesk", "claims", "[[I", true)
  | 8 => ("LostDesk", "shares", "[I", true)
  | 9 => ("LostDesk", "out", "[I", true)
  | 10 => ("LostDesk", "outCount", "I", false)
  | 11 => ("LostDesk", "status", "I", false)
  | 12 => ("LostDesk", "now", "I", false)
  | 13 => ("LostDesk", "gap", "I", false)
  | _ => ("LostDesk", "bestIsOld", "Z", false)
def tyX7 : Nat → FieldType := fun k => match k with
  | 0 => .object "LostDesk$Kinds"
  | 1 => .object "LostDesk$Colours"
  | 2 => .object "LostDesk$Places"
  | 3 => .object "LostDesk$Finds"
  | 4 => .object "LostDesk$Losses"
  | 5 => .object "LostDesk$Matcher"
  | 6 => .object "LostDesk$MarkSearch"
  | 7 => .array (.array .int)
  | 8 => .array .int
  | 9 => .array .int
  | 10 => .int
  | 11 => .int
  | 12 => .int
  | 13 => .int
  | _ => .boolean
theorem nmX7 : ∀ a, a < 15 → ∀ b, b < 15 → a ≠ b → (TX7 a).2.1 ≠ (TX7 b).2.1 := by decide +kernel
theorem tyX7_ok : ∀ k, k < 15 → parseFieldDescriptor (TX7 k).2.2.1 = some (tyX7 k) := by decide +kernel
def RX8 : String := "LostDeskModel"
def TX8 : u_T := fun k => match k with
  | 0 => ("LostDeskModel", "status", "I", false)
  | 1 => ("LostDeskModel", "thrown", "I", false)
  | 2 => ("LostDeskModel", "kinds", "I", false)
  | 3 => ("LostDeskModel", "places", "I", false)
  | 4 => ("LostDeskModel", "finds", "I", false)
  | 5 => ("LostDeskModel", "losses", "I", false)
  | 6 => ("LostDeskModel", "gap", "I", false)
  | 7 => ("LostDeskModel", "now", "I", false)
  | 8 => ("LostDeskModel", "above", "[I", true)
  | 9 => ("LostDeskModel", "keep", "[I", true)
  | 10 => ("LostDeskModel", "isNear", "[Z", true)
  | 11 => ("LostDeskModel", "way", "[I", true)
  | 12 => ("LostDeskModel", "far", "[I", true)
  | 13 => ("LostDeskModel", "findKind", "[I", true)
  | 14 => ("LostDeskModel", "findColour", "[I", true)
  | 15 => ("LostDeskModel", "findMarks", "[I", true)
  | 16 => ("LostDeskModel", "findPlace", "[I", true)
  | 17 => ("LostDeskModel", "findTick", "[I", true)
  | 18 => ("LostDeskModel", "state", "[I", true)
  | 19 => ("LostDeskModel", "handedTo", "[I", true)
  | 20 => ("LostDeskModel", "bag", "[I", true)
  | 21 => ("LostDeskModel", "lossKind", "[I", true)
  | 22 => ("LostDeskModel", "lossColour", "[I", true)
  | 23 => ("LostDeskModel", "lossMarks", "[I", true)
  | 24 => ("LostDeskModel", "lossPlace", "[I", true)
  | 25 => ("LostDeskModel", "lossFrom", "[I", true)
  | 26 => ("LostDeskModel", "lossTo", "[I", true)
  | 27 => ("LostDeskModel", "isHanded", "[Z", true)
  | 28 => ("LostDeskModel", "claimed", "[Z", true)
  | 29 => ("LostDeskModel", "right", "[I", true)
  | 30 => ("LostDeskModel", "lossOf", "[I", true)
  | 31 => ("LostDeskModel", "findOf", "[I", true)
  | 32 => ("LostDeskModel", "best", "[I", true)
  | 33 => ("LostDeskModel", "lossMany", "I", false)
  | 34 => ("LostDeskModel", "findMany", "I", false)
  | 35 => ("LostDeskModel", "price", "[I", true)
  | 36 => ("LostDeskModel", "kept", "[I", true)
  | 37 => ("LostDeskModel", "rise", "[I", true)
  | 38 => ("LostDeskModel", "fall", "[I", true)
  | 39 => ("LostDeskModel", "taken", "[I", true)
  | 40 => ("LostDeskModel", "from", "[I", true)
  | 41 => ("LostDeskModel", "least", "[I", true)
  | 42 => ("LostDeskModel", "seen", "[Z", true)
  | 43 => ("LostDeskModel", "out", "[I", true)
  | 44 => ("LostDeskModel", "outs", "I", false)
  | 45 => ("LostDeskModel", "kin", "[I", true)
  | _ => ("LostDeskModel", "kinMany", "I", false)
def tyX8 : Nat → FieldType := fun k => match k with
  | 0 => .int
  | 1 => .int
  | 2 => .int
  | 3 => .int
  | 4 => .int
  | 5 => .int
  | 6 => .int
  | 7 => .int
  | 8 => .array .int
  | 9 => .array .int
  | 10 => .array .boolean
  | 11 => .array .int
  | 12 => .array .int
  | 13 => .array .int
  | 14 => .array .int
  | 15 => .array .int
  | 16 => .array .int
  | 17 => .array .int
  | 18 => .array .int
  | 19 => .array .int
  | 20 => .array .int
  | 21 => .array .int
  | 22 => .array .int
  | 23 => .array .int
  | 24 => .array .int
  | 25 => .array .int
  | 26 => .array .int
  | 27 => .array .boolean
  | 28 => .array .boolean
  | 29 => .array .int
  | 30 => .array .int
  | 31 => .array .int
  | 32 => .array .int
  | 33 => .int
  | 34 => .int
  | 35 => .array .int
  | 36 => .array .int
  | 37 => .array .int
  | 38 => .array .int
  | 39 => .array .int
  | 40 => .array .int
  | 41 => .array .int
  | 42 => .array .boolean
  | 43 => .array .int
  | 44 => .int
  | 45 => .array .int
  | _ => .int
theorem nmX8 : ∀ a, a < 47 → ∀ b, b < 47 → a ≠ b → (TX8 a).2.1 ≠ (TX8 b).2.1 := by decide +kernel
theorem tyX8_ok : ∀ k, k < 47 → parseFieldDescriptor (TX8 k).2.2.1 = some (tyX8 k) := by decide +kernel
abbrev vwCl : List vw_C := [(RX0, TX0, 1), (RX1, TX1, 9), (RX2, TX2, 4), (RX3, TX3, 8), (RX4, TX4, 5), (RX5, TX5, 15), (RX6, TX6, 4), (RX7, TX7, 15), (RX8, TX8, 47)]
/-- the places: kind, length, width, first row, fields -/
def ab_sh (k : Nat) : Nat × Nat × Nat × Nat × List (Option Nat) := if k < 41 then (if k < 20 then (if k < 10 then (if k < 5 then (if k < 2 then (if k < 1 then ((11, 0, 0, 0, [some 1, some 2, some 3, some 4, some 5, some 6, some 7, some 9, some 10, some 11, none, none, none, none, none])) else ((6, 0, 0, 0, [some 12, some 13, some 14, none]))) else (if k < 3 then ((4, 0, 0, 0, [some 15])) else (if k < 4 then ((10, 0, 0, 0, [some 16, some 17, some 18, none])) else ((5, 0, 0, 0, [some 19, some 20, some 21, some 22, some 23, some 24, some 25, some 26, none]))))) else (if k < 7 then (if k < 6 then ((7, 0, 0, 0, [some 27, some 28, some 29, some 30, some 31, some 32, some 33, none])) else ((9, 0, 0, 0, [some 34, some 35, some 36, some 37, some 38, some 39, some 40, some 41, some 42, some 43, some 44, some 45, none, none, none]))) else (if k < 8 then ((8, 0, 0, 0, [some 46, some 47, none, none, none])) else (if k < 9 then ((12, 0, 0, 0, [none, none, none, none, none, none, none, none, some 48, some 49, some 50, some 51, some 52, some 53, some 54, some 55, some 56, some 57, some 58, some 59, some 60, some 61, some 62, some 63, some 64, some 65, some 66, some 67, some 68, some 69, some 70, some 71, some 72, none, none, some 73, some 74, some 75, some 76, some 77, some 78, some 79, some 80, some 81, none, some 82, none])) else ((3, 24, 24, 0, [])))))) else (if k < 15 then (if k < 12 then (if k < 11 then ((0, 8, 0, 0, [])) else ((0, 8, 0, 0, []))) else (if k < 13 then ((0, 40, 0, 0, [])) else (if k < 14 then ((2, 40, 0, 0, [])) else ((0, 40, 0, 0, []))))) else (if k < 17 then (if k < 16 then ((0, 12, 0, 0, [])) else ((3, 20, 20, 24, []))) else (if k < 18 then ((3, 20, 20, 44, [])) else (if k < 19 then ((1, 20, 0, 0, [])) else ((0, 24, 0, 0, []))))))) else (if k < 30 then (if k < 25 then (if k < 22 then (if k < 21 then ((0, 24, 0, 0, [])) else ((0, 24, 0, 0, []))) else (if k < 23 then ((0, 24, 0, 0, [])) else (if k < 24 then ((0, 24, 0, 0, [])) else ((0, 24, 0, 0, []))))) else (if k < 27 then (if k < 26 then ((0, 24, 0, 0, [])) else ((0, 24, 0, 0, []))) else (if k < 28 then ((0, 24, 0, 0, [])) else (if k < 29 then ((0, 24, 0, 0, [])) else ((0, 24, 0, 0, [])))))) else (if k < 35 then (if k < 32 then (if k < 31 then ((0, 24, 0, 0, [])) else ((0, 24, 0, 0, []))) else (if k < 33 then ((0, 24, 0, 0, [])) else (if k < 34 then ((1, 24, 0, 0, [])) else ((3, 24, 25, 64, []))))) else (if k < 38 then (if k < 36 then ((1, 24, 0, 0, [])) else (if k < 37 then ((0, 24, 0, 0, [])) else ((0, 24, 0, 0, [])))) else (if k < 39 then ((0, 24, 0, 0, [])) else (if k < 40 then ((0, 24, 0, 0, [])) else ((0, 25, 0, 0, [])))))))) else (if k < 62 then (if k < 51 then (if k < 46 then (if k < 43 then (if k < 42 then ((0, 25, 0, 0, [])) else ((0, 25, 0, 0, []))) else (if k < 44 then ((0, 25, 0, 0, [])) else (if k < 45 then ((0, 25, 0, 0, [])) else ((0, 25, 0, 0, []))))) else (if k < 48 then (if k < 47 then ((0, 16, 0, 0, [])) else ((0, 17, 0, 0, []))) else (if k < 49 then ((0, 40, 0, 0, [])) else (if k < 50 then ((0, 40, 0, 0, [])) else ((1, 144, 0, 0, [])))))) else (if k < 56 then (if k < 53 then (if k < 52 then ((0, 400, 0, 0, [])) else ((0, 400, 0, 0, []))) else (if k < 54 then ((0, 24, 0, 0, [])) else (if k < 55 then ((0, 24, 0, 0, [])) else ((0, 24, 0, 0, []))))) else (if k < 59 then (if k < 57 then ((0, 24, 0, 0, [])) else (if k < 58 then ((0, 24, 0, 0, [])) else ((0, 24, 0, 0, [])))) else (if k < 60 then ((0, 24, 0, 0, [])) else (if k < 61 then ((0, 24, 0, 0, [])) else ((0, 24, 0, 0, []))))))) else (if k < 72 then (if k < 67 then (if k < 64 then (if k < 63 then ((0, 24, 0, 0, [])) else ((0, 24, 0, 0, []))) else (if k < 65 then ((0, 24, 0, 0, [])) else (if k < 66 then ((0, 24, 0, 0, [])) else ((0, 24, 0, 0, []))))) else (if k < 69 then (if k < 68 then ((1, 24, 0, 0, [])) else ((1, 576, 0, 0, []))) else (if k < 70 then ((0, 576, 0, 0, [])) else (if k < 71 then ((0, 24, 0, 0, [])) else ((0, 24, 0, 0, [])))))) else (if k < 77 then (if k < 74 then (if k < 73 then ((0, 24, 0, 0, [])) else ((0, 1152, 0, 0, []))) else (if k < 75 then ((0, 1152, 0, 0, [])) else (if k < 76 then ((0, 25, 0, 0, [])) else ((0, 49, 0, 0, []))))) else (if k < 80 then (if k < 78 then ((0, 49, 0, 0, [])) else (if k < 79 then ((0, 49, 0, 0, [])) else ((0, 49, 0, 0, [])))) else (if k < 81 then ((1, 49, 0, 0, [])) else (if k < 82 then ((0, 8, 0, 0, [])) else ((0, 24, 0, 0, []))))))))
/-- row r: its array, its number there, its width -/
def ab_rw (r : Nat) : Nat × Nat × Nat := if r < 24 then (9, r - 0, 24) else (if r < 44 then (16, r - 24, 20) else (if r < 64 then (17, r - 44, 20) else ((34, r - 64, 25))))
def ab_NP : Nat := 83
def ab_NR : Nat := 88
def ab_NM : Nat := 148
def ab_mY (k : Nat) : MethodName := if k < 74 then (if k < 37 then (if k < 18 then (if k < 9 then (if k < 4 then (if k < 2 then (if k < 1 then (⟨"LostDesk$Colours", "areNear", "(II)Z"⟩) else (⟨"LostDesk$Colours", "turn", "(II)V"⟩)) else (if k < 3 then (⟨"LostDesk$Colours", "shades", "(II)I"⟩) else (⟨"LostDesk$Finds", "has", "(I)Z"⟩))) else (if k < 6 then (if k < 5 then (⟨"LostDesk$Finds", "isFull", "()Z"⟩) else (⟨"LostDesk$Finds", "add", "(IIIII)I"⟩)) else (if k < 7 then (⟨"LostDesk$Finds", "isKept", "(I)Z"⟩) else (if k < 8 then (⟨"LostDesk$Finds", "joinBags", "(II)V"⟩) else (⟨"LostDesk$Finds", "handBag", "(II)V"⟩))))) else (if k < 13 then (if k < 11 then (if k < 10 then (⟨"LostDesk$Finds", "dropBag", "(I)I"⟩) else (⟨"LostDesk$Kinds", "has", "(I)Z"⟩)) else (if k < 12 then (⟨"LostDesk$Kinds", "isFull", "()Z"⟩) else (⟨"LostDesk$Kinds", "canBeAbove", "(I)Z"⟩))) else (if k < 15 then (if k < 14 then (⟨"LostDesk$Kinds", "add", "(I)I"⟩) else (⟨"LostDesk$Kinds", "steps", "(II)I"⟩)) else (if k < 16 then (⟨"LostDesk$Kinds", "keepingOf", "(I)I"⟩) else (if k < 17 then (⟨"LostDesk$Losses", "has", "(I)Z"⟩) else (⟨"LostDesk$Losses", "isFull", "()Z"⟩)))))) else (if k < 27 then (if k < 22 then (if k < 20 then (if k < 19 then (⟨"LostDesk$Losses", "add", "(IIIIII)I"⟩) else (⟨"LostDesk$MarkSearch", "clear", "()V"⟩)) else (if k < 21 then (⟨"LostDesk$MarkSearch", "add", "(II)V"⟩) else (⟨"LostDesk$MarkSearch", "fewestMarks", "(I)I"⟩))) else (if k < 24 then (if k < 23 then (⟨"LostDesk$MarkSearch", "sumUp", "()V"⟩) else (⟨"LostDesk$MarkSearch", "leastSum", "(III)I"⟩)) else (if k < 25 then (⟨"LostDesk$Matcher", "begin", "(II)V"⟩) else (if k < 26 then (⟨"LostDesk$Matcher", "setLoss", "(IZI)V"⟩) else (⟨"LostDesk$Matcher", "setPrice", "(III)V"⟩))))) else (if k < 32 then (if k < 29 then (if k < 28 then (⟨"LostDesk$Matcher", "findBest", "()V"⟩) else (⟨"LostDesk$Matcher", "leastCostWithout", "(II)I"⟩)) else (if k < 30 then (⟨"LostDesk$Matcher", "seatAll", "()V"⟩) else (if k < 31 then (⟨"LostDesk$Matcher", "seatingCost", "()I"⟩) else (⟨"LostDesk$Matcher", "slack", "(II)I"⟩)))) else (if k < 34 then (if k < 33 then (⟨"LostDesk$Matcher", "isEmpty", "(I)Z"⟩) else (⟨"LostDesk$Matcher", "sit", "(II)V"⟩)) else (if k < 35 then (⟨"LostDesk$Matcher", "leaveEmpty", "(I)V"⟩) else (if k < 36 then (⟨"LostDesk$Matcher", "seatOne", "(I)V"⟩) else (⟨"LostDesk$Matcher", "nextSeat", "(III)I"⟩))))))) else (if k < 55 then (if k < 46 then (if k < 41 then (if k < 39 then (if k < 38 then (⟨"LostDesk$Matcher", "raiseDues", "(III)V"⟩) else (⟨"LostDesk$Matcher", "moveUp", "(II)V"⟩)) else (if k < 40 then (⟨"LostDesk$Matcher", "settle", "(I)V"⟩) else (⟨"LostDesk$Matcher", "leastSeat", "(III)I"⟩))) else (if k < 43 then (if k < 42 then (⟨"LostDesk$Matcher", "seatsThatLead", "(II)I"⟩) else (⟨"LostDesk$Matcher", "freeMover", "(III)I"⟩)) else (if k < 44 then (⟨"LostDesk$Matcher", "moveRound", "(III)V"⟩) else (if k < 45 then (⟨"LostDesk$Places", "has", "(I)Z"⟩) else (⟨"LostDesk$Places", "isFull", "()Z"⟩))))) else (if k < 50 then (if k < 48 then (if k < 47 then (⟨"LostDesk$Places", "add", "()I"⟩) else (⟨"LostDesk$Places", "hasWay", "(II)Z"⟩)) else (if k < 49 then (⟨"LostDesk$Places", "setWay", "(III)V"⟩) else (⟨"LostDesk$Places", "distance", "(II)I"⟩))) else (if k < 52 then (if k < 51 then (⟨"LostDesk$Places", "forgetFar", "()V"⟩) else (⟨"LostDesk$Places", "measureFrom", "(I)V"⟩)) else (if k < 53 then (⟨"LostDesk$Places", "nearest", "([II)I"⟩) else (if k < 54 then (⟨"LostDesk$Places", "lookFrom", "(I[I)V"⟩) else (⟨"LostDesk", "status", "()I"⟩)))))) else (if k < 64 then (if k < 59 then (if k < 57 then (if k < 56 then (⟨"LostDesk", "kind", "(I)I"⟩) else (⟨"LostDesk", "near", "(IIZ)Z"⟩)) else (if k < 58 then (⟨"LostDesk", "place", "()I"⟩) else (⟨"LostDesk", "way", "(III)Z"⟩))) else (if k < 61 then (if k < 60 then (⟨"LostDesk", "far", "(II)I"⟩) else (⟨"LostDesk", "found", "(IIIII)I"⟩)) else (if k < 62 then (⟨"LostDesk", "lost", "(IIIIII)I"⟩) else (if k < 63 then (⟨"LostDesk", "told", "(II)I"⟩) else (⟨"LostDesk", "cost", "(II)I"⟩))))) else (if k < 69 then (if k < 66 then (if k < 65 then (⟨"LostDesk", "gap", "(I)Z"⟩) else (⟨"LostDesk", "match", "()I"⟩)) else (if k < 67 then (⟨"LostDesk", "matched", "(I)I"⟩) else (if k < 68 then (⟨"LostDesk", "sure", "(II)I"⟩) else (⟨"LostDesk", "alike", "(II)I"⟩)))) else (if k < 71 then (if k < 70 then (⟨"LostDesk", "questions", "(II)I"⟩) else (⟨"LostDesk", "claim", "(IIII)I"⟩)) else (if k < 72 then (⟨"LostDesk", "hand", "(II)Z"⟩) else (if k < 73 then (⟨"LostDesk", "bag", "(II)Z"⟩) else (⟨"LostDesk", "keeping", "(II)Z"⟩)))))))) else (if k < 111 then (if k < 92 then (if k < 83 then (if k < 78 then (if k < 76 then (if k < 75 then (⟨"LostDesk", "due", "(I)I"⟩) else (⟨"LostDesk", "tick", "(I)I"⟩)) else (if k < 77 then (⟨"LostDesk", "reward", "(IIII)I"⟩) else (⟨"LostDesk", "out", "(I)I"⟩))) else (if k < 80 then (if k < 79 then (⟨"LostDesk", "answer", "(I)I"⟩) else (⟨"LostDesk", "refuse", "(I)I"⟩)) else (if k < 81 then (⟨"LostDesk", "grant", "()Z"⟩) else (if k < 82 then (⟨"LostDesk", "deny", "(I)Z"⟩) else (⟨"LostDesk", "isWithin", "(III)Z"⟩))))) else (if k < 87 then (if k < 85 then (if k < 84 then (⟨"LostDesk", "isColour", "(I)Z"⟩) else (⟨"LostDesk", "isColourOrNone", "(I)Z"⟩)) else (if k < 86 then (⟨"LostDesk", "areMarks", "(I)Z"⟩) else (⟨"LostDesk", "pairCost", "(II)I"⟩))) else (if k < 89 then (if k < 88 then (⟨"LostDesk", "freshenBest", "()V"⟩) else (⟨"LostDesk", "differingMarks", "(II)I"⟩)) else (if k < 90 then (⟨"LostDesk", "isKeptInLine", "(II)Z"⟩) else (if k < 91 then (⟨"LostDesk", "hasRival", "(II)Z"⟩) else (⟨"LostDesk", "bagDue", "(I)I"⟩)))))) else (if k < 101 then (if k < 96 then (if k < 94 then (if k < 93 then (⟨"LostDesk", "readShares", "(II)I"⟩) else (⟨"LostDesk", "partPennies", "(II)V"⟩)) else (if k < 95 then (⟨"LostDeskModel", "status", "()I"⟩) else (⟨"LostDeskModel", "refuse", "(I)I"⟩))) else (if k < 98 then (if k < 97 then (⟨"LostDeskModel", "no", "(I)Z"⟩) else (⟨"LostDeskModel", "isKind", "(I)Z"⟩)) else (if k < 99 then (⟨"LostDeskModel", "isPlace", "(I)Z"⟩) else (if k < 100 then (⟨"LostDeskModel", "isFind", "(I)Z"⟩) else (⟨"LostDeskModel", "isLoss", "(I)Z"⟩))))) else (if k < 106 then (if k < 103 then (if k < 102 then (⟨"LostDeskModel", "isColour", "(I)Z"⟩) else (⟨"LostDeskModel", "kind", "(I)I"⟩)) else (if k < 104 then (⟨"LostDeskModel", "near", "(IIZ)Z"⟩) else (if k < 105 then (⟨"LostDeskModel", "place", "()I"⟩) else (⟨"LostDeskModel", "way", "(III)Z"⟩)))) else (if k < 108 then (if k < 107 then (⟨"LostDeskModel", "ways", "()V"⟩) else (⟨"LostDeskModel", "far", "(II)I"⟩)) else (if k < 109 then (⟨"LostDeskModel", "areMarks", "(I)Z"⟩) else (if k < 110 then (⟨"LostDeskModel", "isTick", "(I)Z"⟩) else (⟨"LostDeskModel", "found", "(IIIII)I"⟩))))))) else (if k < 129 then (if k < 120 then (if k < 115 then (if k < 113 then (if k < 112 then (⟨"LostDeskModel", "lost", "(IIIIII)I"⟩) else (⟨"LostDeskModel", "told", "(II)I"⟩)) else (if k < 114 then (⟨"LostDeskModel", "below", "(II)I"⟩) else (⟨"LostDeskModel", "costOf", "(II)I"⟩))) else (if k < 117 then (if k < 116 then (⟨"LostDeskModel", "cost", "(II)I"⟩) else (⟨"LostDeskModel", "gap", "(I)Z"⟩)) else (if k < 118 then (⟨"LostDeskModel", "columns", "()I"⟩) else (if k < 119 then (⟨"LostDeskModel", "gather", "()V"⟩) else (⟨"LostDeskModel", "solve", "()I"⟩))))) else (if k < 124 then (if k < 122 then (if k < 121 then (⟨"LostDeskModel", "step", "(II)I"⟩) else (⟨"LostDeskModel", "only", "(II)V"⟩)) else (if k < 123 then (⟨"LostDeskModel", "matches", "()I"⟩) else (⟨"LostDeskModel", "match", "()I"⟩))) else (if k < 126 then (if k < 125 then (⟨"LostDeskModel", "matched", "(I)I"⟩) else (⟨"LostDeskModel", "sure", "(II)I"⟩)) else (if k < 127 then (⟨"LostDeskModel", "areKin", "(II)Z"⟩) else (if k < 128 then (⟨"LostDeskModel", "kins", "(I)V"⟩) else (⟨"LostDeskModel", "alikes", "(II)I"⟩)))))) else (if k < 138 then (if k < 133 then (if k < 131 then (if k < 130 then (⟨"LostDeskModel", "alike", "(II)I"⟩) else (⟨"LostDeskModel", "questions", "(II)I"⟩)) else (if k < 132 then (⟨"LostDeskModel", "claim", "(IIII)I"⟩) else (⟨"LostDeskModel", "hand", "(II)Z"⟩))) else (if k < 135 then (if k < 134 then (⟨"LostDeskModel", "bag", "(II)Z"⟩) else (⟨"LostDeskModel", "keeping", "(II)Z"⟩)) else (if k < 136 then (⟨"LostDeskModel", "dueOf", "(I)I"⟩) else (if k < 137 then (⟨"LostDeskModel", "due", "(I)I"⟩) else (⟨"LostDeskModel", "tick", "(I)I"⟩))))) else (if k < 143 then (if k < 140 then (if k < 139 then (⟨"LostDeskModel", "share", "(III)I"⟩) else (⟨"LostDeskModel", "reward", "(IIII)I"⟩)) else (if k < 141 then (⟨"LostDeskModel", "out", "(I)I"⟩) else (if k < 142 then (⟨"java/lang/Integer", "bitCount", "(I)I"⟩) else (⟨"java/lang/Long", "bitCount", "(J)I"⟩)))) else (if k < 145 then (if k < 144 then (⟨"java/lang/Math", "abs", "(I)I"⟩) else (⟨"java/lang/Math", "max", "(II)I"⟩)) else (if k < 146 then (⟨"java/lang/Math", "min", "(II)I"⟩) else (if k < 147 then (⟨"java/util/Arrays", "fill", "([II)V"⟩) else (⟨"LostDeskLaw", "law", "([I)Z"⟩))))))))
def ab_mB (k : Nat) : ByteArray := if k < 74 then (if k < 37 then (if k < 18 then (if k < 9 then (if k < 4 then (if k < 2 then (if k < 1 then (prog_2_method_2_code) else (prog_2_method_3_code)) else (if k < 3 then (prog_2_method_4_code) else (prog_3_method_2_code))) else (if k < 6 then (if k < 5 then (prog_3_method_3_code) else (prog_3_method_4_code)) else (if k < 7 then (prog_3_method_5_code) else (if k < 8 then (prog_3_method_6_code) else (prog_3_method_7_code))))) else (if k < 13 then (if k < 11 then (if k < 10 then (prog_3_method_8_code) else (prog_4_method_2_code)) else (if k < 12 then (prog_4_method_3_code) else (prog_4_method_4_code))) else (if k < 15 then (if k < 14 then (prog_4_method_5_code) else (prog_4_method_6_code)) else (if k < 16 then (prog_4_method_7_code) else (if k < 17 then (prog_5_method_2_code) else (prog_5_method_3_code)))))) else (if k < 27 then (if k < 22 then (if k < 20 then (if k < 19 then (prog_5_method_4_code) else (prog_6_method_2_code)) else (if k < 21 then (prog_6_method_3_code) else (prog_6_method_4_code))) else (if k < 24 then (if k < 23 then (prog_6_method_5_code) else (prog_6_method_6_code)) else (if k < 25 then (prog_7_method_2_code) else (if k < 26 then (prog_7_method_3_code) else (prog_7_method_4_code))))) else (if k < 32 then (if k < 29 then (if k < 28 then (prog_7_method_5_code) else (prog_7_method_6_code)) else (if k < 30 then (prog_7_method_7_code) else (if k < 31 then (prog_7_method_8_code) else (prog_7_method_9_code)))) else (if k < 34 then (if k < 33 then (prog_7_method_10_code) else (prog_7_method_11_code)) else (if k < 35 then (prog_7_method_12_code) else (if k < 36 then (prog_7_method_13_code) else (prog_7_method_14_code))))))) else (if k < 55 then (if k < 46 then (if k < 41 then (if k < 39 then (if k < 38 then (prog_7_method_15_code) else (prog_7_method_16_code)) else (if k < 40 then (prog_7_method_17_code) else (prog_7_method_18_code))) else (if k < 43 then (if k < 42 then (prog_7_method_19_code) else (prog_7_method_20_code)) else (if k < 44 then (prog_7_method_21_code) else (if k < 45 then (prog_8_method_2_code) else (prog_8_method_3_code))))) else (if k < 50 then (if k < 48 then (if k < 47 then (prog_8_method_4_code) else (prog_8_method_5_code)) else (if k < 49 then (prog_8_method_6_code) else (prog_8_method_7_code))) else (if k < 52 then (if k < 51 then (prog_8_method_8_code) else (prog_8_method_9_code)) else (if k < 53 then (prog_8_method_10_code) else (if k < 54 then (prog_8_method_11_code) else (prog_1_method_2_code)))))) else (if k < 64 then (if k < 59 then (if k < 57 then (if k < 56 then (prog_1_method_3_code) else (prog_1_method_4_code)) else (if k < 58 then (prog_1_method_5_code) else (prog_1_method_6_code))) else (if k < 61 then (if k < 60 then (prog_1_method_7_code) else (prog_1_method_8_code)) else (if k < 62 then (prog_1_method_9_code) else (if k < 63 then (prog_1_method_10_code) else (prog_1_method_11_code))))) else (if k < 69 then (if k < 66 then (if k < 65 then (prog_1_method_12_code) else (prog_1_method_13_code)) else (if k < 67 then (prog_1_method_14_code) else (if k < 68 then (prog_1_method_15_code) else (prog_1_method_16_code)))) else (if k < 71 then (if k < 70 then (prog_1_method_17_code) else (prog_1_method_18_code)) else (if k < 72 then (prog_1_method_19_code) else (if k < 73 then (prog_1_method_20_code) else (prog_1_method_21_code)))))))) else (if k < 111 then (if k < 92 then (if k < 83 then (if k < 78 then (if k < 76 then (if k < 75 then (prog_1_method_22_code) else (prog_1_method_23_code)) else (if k < 77 then (prog_1_method_24_code) else (prog_1_method_25_code))) else (if k < 80 then (if k < 79 then (prog_1_method_26_code) else (prog_1_method_27_code)) else (if k < 81 then (prog_1_method_28_code) else (if k < 82 then (prog_1_method_29_code) else (prog_1_method_30_code))))) else (if k < 87 then (if k < 85 then (if k < 84 then (prog_1_method_31_code) else (prog_1_method_32_code)) else (if k < 86 then (prog_1_method_33_code) else (prog_1_method_34_code))) else (if k < 89 then (if k < 88 then (prog_1_method_35_code) else (prog_1_method_36_code)) else (if k < 90 then (prog_1_method_37_code) else (if k < 91 then (prog_1_method_38_code) else (prog_1_method_39_code)))))) else (if k < 101 then (if k < 96 then (if k < 94 then (if k < 93 then (prog_1_method_40_code) else (prog_1_method_41_code)) else (if k < 95 then (prog_10_method_3_code) else (prog_10_method_4_code))) else (if k < 98 then (if k < 97 then (prog_10_method_5_code) else (prog_10_method_6_code)) else (if k < 99 then (prog_10_method_7_code) else (if k < 100 then (prog_10_method_8_code) else (prog_10_method_9_code))))) else (if k < 106 then (if k < 103 then (if k < 102 then (prog_10_method_10_code) else (prog_10_method_11_code)) else (if k < 104 then (prog_10_method_12_code) else (if k < 105 then (prog_10_method_13_code) else (prog_10_method_14_code)))) else (if k < 108 then (if k < 107 then (prog_10_method_15_code) else (prog_10_method_16_code)) else (if k < 109 then (prog_10_method_17_code) else (if k < 110 then (prog_10_method_18_code) else (prog_10_method_19_code))))))) else (if k < 129 then (if k < 120 then (if k < 115 then (if k < 113 then (if k < 112 then (prog_10_method_20_code) else (prog_10_method_21_code)) else (if k < 114 then (prog_10_method_22_code) else (prog_10_method_23_code))) else (if k < 117 then (if k < 116 then (prog_10_method_24_code) else (prog_10_method_25_code)) else (if k < 118 then (prog_10_method_26_code) else (if k < 119 then (prog_10_method_27_code) else (prog_10_method_28_code))))) else (if k < 124 then (if k < 122 then (if k < 121 then (prog_10_method_29_code) else (prog_10_method_30_code)) else (if k < 123 then (prog_10_method_31_code) else (prog_10_method_32_code))) else (if k < 126 then (if k < 125 then (prog_10_method_33_code) else (prog_10_method_34_code)) else (if k < 127 then (prog_10_method_35_code) else (if k < 128 then (prog_10_method_36_code) else (prog_10_method_37_code)))))) else (if k < 138 then (if k < 133 then (if k < 131 then (if k < 130 then (prog_10_method_38_code) else (prog_10_method_39_code)) else (if k < 132 then (prog_10_method_40_code) else (prog_10_method_41_code))) else (if k < 135 then (if k < 134 then (prog_10_method_42_code) else (prog_10_method_43_code)) else (if k < 136 then (prog_10_method_44_code) else (if k < 137 then (prog_10_method_45_code) else (prog_10_method_46_code))))) else (if k < 143 then (if k < 140 then (if k < 139 then (prog_10_method_47_code) else (prog_10_method_48_code)) else (if k < 141 then (prog_10_method_49_code) else (if k < 142 then (prog_11_method_49_code) else (prog_12_method_50_code)))) else (if k < 145 then (if k < 144 then (prog_13_method_59_code) else (prog_13_method_65_code)) else (if k < 146 then (prog_13_method_69_code) else (if k < 147 then (prog_14_method_103_code) else (code))))))))
/-- of a method: maxLocals, what it returns, how many values it takes (its object too), its class (99: none of the places) -/
def ab_mI (k : Nat) : Nat × Option FieldType × Nat × Nat := if k < 74 then (if k < 37 then (if k < 18 then (if k < 9 then (if k < 4 then (if k < 2 then (if k < 1 then ((3, (some .boolean), 3, 0)) else ((3, none, 3, 0))) else (if k < 3 then ((3, (some .int), 3, 0)) else ((2, (some .boolean), 2, 1)))) else (if k < 6 then (if k < 5 then ((1, (some .boolean), 1, 1)) else ((7, (some .int), 6, 1))) else (if k < 7 then ((2, (some .boolean), 2, 1)) else (if k < 8 then ((6, none, 3, 1)) else ((4, none, 3, 1)))))) else (if k < 13 then (if k < 11 then (if k < 10 then ((4, (some .int), 2, 1)) else ((2, (some .boolean), 2, 2))) else (if k < 12 then ((1, (some .boolean), 1, 2)) else ((2, (some .boolean), 2, 2)))) else (if k < 15 then (if k < 14 then ((5, (some .int), 2, 2)) else ((4, (some .int), 3, 2))) else (if k < 16 then ((4, (some .int), 2, 2)) else (if k < 17 then ((2, (some .boolean), 2, 3)) else ((1, (some .boolean), 1, 3))))))) else (if k < 27 then (if k < 22 then (if k < 20 then (if k < 19 then ((8, (some .int), 7, 3)) else ((1, none, 1, 4))) else (if k < 21 then ((4, none, 3, 4)) else ((4, (some .int), 2, 4)))) else (if k < 24 then (if k < 23 then ((2, none, 1, 4)) else ((7, (some .int), 4, 4))) else (if k < 25 then ((3, none, 3, 5)) else (if k < 26 then ((4, none, 4, 5)) else ((4, none, 4, 5)))))) else (if k < 32 then (if k < 29 then (if k < 28 then ((2, none, 1, 5)) else ((4, (some .int), 3, 5))) else (if k < 30 then ((2, none, 1, 5)) else (if k < 31 then ((4, (some .int), 1, 5)) else ((3, (some .int), 3, 5))))) else (if k < 34 then (if k < 33 then ((2, (some .boolean), 2, 5)) else ((3, none, 3, 5))) else (if k < 35 then ((2, none, 2, 5)) else (if k < 36 then ((6, none, 2, 5)) else ((7, (some .int), 4, 5)))))))) else (if k < 55 then (if k < 46 then (if k < 41 then (if k < 39 then (if k < 38 then ((6, none, 4, 5)) else ((6, none, 3, 5))) else (if k < 40 then ((5, none, 2, 5)) else ((5, (some .int), 4, 5)))) else (if k < 43 then (if k < 42 then ((8, (some .int), 3, 5)) else ((5, (some .int), 4, 5))) else (if k < 44 then ((7, none, 4, 5)) else (if k < 45 then ((2, (some .boolean), 2, 6)) else ((1, (some .boolean), 1, 6)))))) else (if k < 50 then (if k < 48 then (if k < 47 then ((3, (some .int), 1, 6)) else ((3, (some .boolean), 3, 6))) else (if k < 49 then ((4, none, 4, 6)) else ((3, (some .int), 3, 6)))) else (if k < 52 then (if k < 51 then ((2, none, 1, 6)) else ((6, none, 2, 6))) else (if k < 53 then ((6, (some .int), 3, 6)) else (if k < 54 then ((5, none, 3, 6)) else ((1, (some .int), 1, 7))))))) else (if k < 64 then (if k < 59 then (if k < 57 then (if k < 56 then ((2, (some .int), 2, 7)) else ((4, (some .boolean), 4, 7))) else (if k < 58 then ((1, (some .int), 1, 7)) else ((4, (some .boolean), 4, 7)))) else (if k < 61 then (if k < 60 then ((4, (some .int), 3, 7)) else ((6, (some .int), 6, 7))) else (if k < 62 then ((7, (some .int), 7, 7)) else (if k < 63 then ((3, (some .int), 3, 7)) else ((4, (some .int), 3, 7)))))) else (if k < 69 then (if k < 66 then (if k < 65 then ((2, (some .boolean), 2, 7)) else ((1, (some .int), 1, 7))) else (if k < 67 then ((3, (some .int), 2, 7)) else (if k < 68 then ((4, (some .int), 3, 7)) else ((6, (some .int), 3, 7))))) else (if k < 71 then (if k < 70 then ((4, (some .int), 3, 7)) else ((6, (some .int), 5, 7))) else (if k < 72 then ((3, (some .boolean), 3, 7)) else (if k < 73 then ((3, (some .boolean), 3, 7)) else ((3, (some .boolean), 3, 7))))))))) else (if k < 111 then (if k < 92 then (if k < 83 then (if k < 78 then (if k < 76 then (if k < 75 then ((2, (some .int), 2, 7)) else ((5, (some .int), 2, 7))) else (if k < 77 then ((6, (some .int), 5, 7)) else ((2, (some .int), 2, 7)))) else (if k < 80 then (if k < 79 then ((2, (some .int), 2, 7)) else ((2, (some .int), 2, 7))) else (if k < 81 then ((1, (some .boolean), 1, 7)) else (if k < 82 then ((2, (some .boolean), 2, 7)) else ((3, (some .boolean), 3, 7)))))) else (if k < 87 then (if k < 85 then (if k < 84 then ((1, (some .boolean), 1, 7)) else ((1, (some .boolean), 1, 7))) else (if k < 86 then ((1, (some .boolean), 1, 7)) else ((9, (some .int), 3, 7)))) else (if k < 89 then (if k < 88 then ((5, none, 1, 7)) else ((3, (some .int), 3, 7))) else (if k < 90 then ((3, (some .boolean), 3, 7)) else (if k < 91 then ((5, (some .boolean), 3, 7)) else ((5, (some .int), 2, 7))))))) else (if k < 101 then (if k < 96 then (if k < 94 then (if k < 93 then ((8, (some .int), 3, 7)) else ((6, none, 3, 7))) else (if k < 95 then ((1, (some .int), 1, 8)) else ((2, (some .int), 2, 8)))) else (if k < 98 then (if k < 97 then ((2, (some .boolean), 2, 8)) else ((2, (some .boolean), 2, 8))) else (if k < 99 then ((2, (some .boolean), 2, 8)) else (if k < 100 then ((2, (some .boolean), 2, 8)) else ((2, (some .boolean), 2, 8)))))) else (if k < 106 then (if k < 103 then (if k < 102 then ((1, (some .boolean), 1, 8)) else ((2, (some .int), 2, 8))) else (if k < 104 then ((4, (some .boolean), 4, 8)) else (if k < 105 then ((2, (some .int), 1, 8)) else ((4, (some .boolean), 4, 8))))) else (if k < 108 then (if k < 107 then ((4, none, 1, 8)) else ((3, (some .int), 3, 8))) else (if k < 109 then ((1, (some .boolean), 1, 8)) else (if k < 110 then ((1, (some .boolean), 1, 8)) else ((6, (some .int), 6, 8)))))))) else (if k < 129 then (if k < 120 then (if k < 115 then (if k < 113 then (if k < 112 then ((7, (some .int), 7, 8)) else ((3, (some .int), 3, 8))) else (if k < 114 then ((5, (some .int), 3, 8)) else ((8, (some .int), 3, 8)))) else (if k < 117 then (if k < 116 then ((4, (some .int), 3, 8)) else ((2, (some .boolean), 2, 8))) else (if k < 118 then ((1, (some .int), 1, 8)) else (if k < 119 then ((4, none, 1, 8)) else ((6, (some .int), 1, 8)))))) else (if k < 124 then (if k < 122 then (if k < 121 then ((8, (some .int), 3, 8)) else ((4, none, 3, 8))) else (if k < 123 then ((4, (some .int), 1, 8)) else ((1, (some .int), 1, 8)))) else (if k < 126 then (if k < 125 then ((2, (some .int), 2, 8)) else ((6, (some .int), 3, 8))) else (if k < 127 then ((3, (some .boolean), 3, 8)) else (if k < 128 then ((3, none, 2, 8)) else ((5, (some .int), 3, 8))))))) else (if k < 138 then (if k < 133 then (if k < 131 then (if k < 130 then ((3, (some .int), 3, 8)) else ((6, (some .int), 3, 8))) else (if k < 132 then ((6, (some .int), 5, 8)) else ((5, (some .boolean), 3, 8)))) else (if k < 135 then (if k < 134 then ((6, (some .boolean), 3, 8)) else ((3, (some .boolean), 3, 8))) else (if k < 136 then ((5, (some .int), 2, 8)) else (if k < 137 then ((2, (some .int), 2, 8)) else ((4, (some .int), 2, 8)))))) else (if k < 143 then (if k < 140 then (if k < 139 then ((3, (some .int), 3, 8)) else ((9, (some .int), 5, 8))) else (if k < 141 then ((2, (some .int), 2, 8)) else (if k < 142 then ((1, (some .int), 1, 99)) else ((2, (some .int), 1, 99))))) else (if k < 145 then (if k < 144 then ((1, (some .int), 1, 99)) else ((2, (some .int), 2, 99))) else (if k < 146 then ((2, (some .int), 2, 99)) else (if k < 147 then ((4, none, 2, 99)) else ((4, (some .boolean), 1, 99)))))))))
/-- where its words stand in the tables: code, instance or static, selects, initialized; whether it is static -/
def ab_mJ (k : Nat) : Nat × Nat × Nat × Nat × Bool := if k < 74 then (if k < 37 then (if k < 18 then (if k < 9 then (if k < 4 then (if k < 2 then (if k < 1 then ((386, 384, 385, 55, false)) else ((390, 388, 389, 55, false))) else (if k < 3 then ((518, 516, 517, 55, false)) else ((489, 487, 488, 57, false)))) else (if k < 6 then (if k < 5 then ((465, 463, 464, 57, false)) else ((469, 467, 468, 57, false))) else (if k < 7 then ((552, 550, 551, 57, false)) else (if k < 8 then ((697, 695, 696, 57, false)) else ((689, 687, 688, 57, false)))))) else (if k < 13 then (if k < 11 then (if k < 10 then ((726, 724, 725, 57, false)) else ((352, 350, 351, 54, false))) else (if k < 12 then ((360, 358, 359, 54, false)) else ((348, 346, 347, 54, false)))) else (if k < 15 then (if k < 14 then ((364, 362, 363, 54, false)) else ((505, 503, 504, 54, false))) else (if k < 16 then ((717, 715, 716, 54, false)) else (if k < 17 then ((497, 495, 496, 58, false)) else ((477, 475, 476, 58, false))))))) else (if k < 27 then (if k < 22 then (if k < 20 then (if k < 19 then ((481, 479, 480, 58, false)) else ((654, 652, 653, 60, false))) else (if k < 21 then ((659, 657, 658, 60, false)) else ((663, 661, 662, 60, false)))) else (if k < 24 then (if k < 23 then ((667, 666, 27, 60, false)) else ((673, 672, 28, 60, false))) else (if k < 25 then ((544, 542, 543, 59, false)) else (if k < 26 then ((548, 546, 547, 59, false)) else ((556, 554, 555, 59, false)))))) else (if k < 32 then (if k < 29 then (if k < 28 then ((561, 559, 560, 59, false)) else ((634, 632, 633, 59, false))) else (if k < 30 then ((565, 564, 10, 59, false)) else (if k < 31 then ((622, 621, 24, 59, false)) else ((578, 577, 13, 59, false))))) else (if k < 34 then (if k < 33 then ((586, 585, 15, 59, false)) else ((594, 593, 17, 59, false))) else (if k < 35 then ((618, 617, 23, 59, false)) else (if k < 36 then ((570, 569, 11, 59, false)) else ((574, 573, 12, 59, false)))))))) else (if k < 55 then (if k < 46 then (if k < 41 then (if k < 39 then (if k < 38 then ((582, 581, 14, 59, false)) else ((590, 589, 16, 59, false))) else (if k < 40 then ((598, 597, 18, 59, false)) else ((602, 601, 19, 59, false)))) else (if k < 43 then (if k < 42 then ((606, 605, 20, 59, false)) else ((610, 609, 21, 59, false))) else (if k < 44 then ((614, 613, 22, 59, false)) else (if k < 45 then ((415, 413, 414, 56, false)) else ((402, 400, 401, 56, false)))))) else (if k < 50 then (if k < 48 then (if k < 47 then ((406, 404, 405, 56, false)) else ((419, 417, 418, 56, false))) else (if k < 49 then ((423, 421, 422, 56, false)) else ((435, 433, 434, 56, false)))) else (if k < 52 then (if k < 51 then ((427, 426, 4, 56, false)) else ((439, 438, 5, 56, false))) else (if k < 53 then ((443, 442, 6, 56, false)) else (if k < 54 then ((447, 446, 7, 56, false)) else ((340, 338, 339, 53, false))))))) else (if k < 64 then (if k < 59 then (if k < 57 then (if k < 56 then ((344, 342, 343, 53, false)) else ((372, 370, 371, 53, false))) else (if k < 58 then ((398, 396, 397, 53, false)) else ((411, 409, 410, 53, false)))) else (if k < 61 then (if k < 60 then ((431, 429, 430, 53, false)) else ((452, 450, 451, 53, false))) else (if k < 62 then ((473, 471, 472, 53, false)) else (if k < 63 then ((485, 483, 484, 53, false)) else ((493, 491, 492, 53, false)))))) else (if k < 69 then (if k < 66 then (if k < 65 then ((532, 530, 531, 53, false)) else ((536, 534, 535, 53, false))) else (if k < 67 then ((626, 624, 625, 53, false)) else (if k < 68 then ((630, 628, 629, 53, false)) else ((638, 636, 637, 53, false))))) else (if k < 71 then (if k < 70 then ((650, 648, 649, 53, false)) else ((677, 675, 676, 53, false))) else (if k < 72 then ((681, 679, 680, 53, false)) else (if k < 73 then ((693, 691, 692, 53, false)) else ((705, 703, 704, 53, false))))))))) else (if k < 111 then (if k < 92 then (if k < 83 then (if k < 78 then (if k < 76 then (if k < 75 then ((709, 707, 708, 53, false)) else ((721, 719, 720, 53, false))) else (if k < 77 then ((730, 728, 729, 53, false)) else ((743, 741, 742, 53, false)))) else (if k < 80 then (if k < 79 then ((368, 367, 1, 53, false)) else ((356, 355, 0, 53, false))) else (if k < 81 then ((394, 393, 3, 53, false)) else (if k < 82 then ((382, 381, 2, 53, false)) else ((378, 377, 0, 53, true)))))) else (if k < 87 then (if k < 85 then (if k < 84 then ((375, 374, 0, 53, true)) else ((456, 455, 0, 53, true))) else (if k < 86 then ((459, 458, 0, 53, true)) else ((501, 500, 8, 53, false)))) else (if k < 89 then (if k < 88 then ((540, 539, 9, 53, false)) else ((642, 641, 25, 53, false))) else (if k < 90 then ((646, 645, 26, 53, false)) else (if k < 91 then ((685, 684, 29, 53, false)) else ((713, 712, 30, 53, false))))))) else (if k < 101 then (if k < 96 then (if k < 94 then (if k < 93 then ((735, 734, 31, 53, false)) else ((739, 738, 32, 53, false))) else (if k < 95 then ((895, 893, 894, 62, false)) else ((907, 906, 34, 62, false)))) else (if k < 98 then (if k < 97 then ((918, 917, 35, 62, false)) else ((903, 902, 33, 62, false))) else (if k < 99 then ((931, 930, 36, 62, false)) else (if k < 100 then ((964, 963, 38, 62, false)) else ((972, 971, 39, 62, false)))))) else (if k < 106 then (if k < 103 then (if k < 102 then ((914, 913, 0, 62, true)) else ((899, 897, 898, 62, false))) else (if k < 104 then ((911, 909, 910, 62, false)) else (if k < 105 then ((922, 920, 921, 62, false)) else ((927, 925, 926, 62, false))))) else (if k < 108 then (if k < 107 then ((939, 938, 37, 62, false)) else ((935, 933, 934, 62, false))) else (if k < 109 then ((947, 946, 0, 62, true)) else (if k < 110 then ((951, 950, 0, 62, true)) else ((944, 942, 943, 62, false)))))))) else (if k < 129 then (if k < 120 then (if k < 115 then (if k < 113 then (if k < 112 then ((956, 954, 955, 62, false)) else ((960, 958, 959, 62, false))) else (if k < 114 then ((980, 979, 41, 62, false)) else ((976, 975, 40, 62, false)))) else (if k < 117 then (if k < 116 then ((968, 966, 967, 62, false)) else ((986, 984, 985, 62, false))) else (if k < 118 then ((998, 997, 43, 62, false)) else (if k < 119 then ((994, 993, 42, 62, false)) else ((1003, 1002, 44, 62, false)))))) else (if k < 124 then (if k < 122 then (if k < 121 then ((1008, 1007, 45, 62, false)) else ((1020, 1019, 47, 62, false))) else (if k < 123 then ((1016, 1015, 46, 62, false)) else ((990, 988, 989, 62, false)))) else (if k < 126 then (if k < 125 then ((1012, 1010, 1011, 62, false)) else ((1024, 1022, 1023, 62, false))) else (if k < 127 then ((1036, 1035, 49, 62, false)) else (if k < 128 then ((1032, 1031, 48, 62, false)) else ((1040, 1039, 50, 62, false))))))) else (if k < 138 then (if k < 133 then (if k < 131 then (if k < 130 then ((1028, 1026, 1027, 62, false)) else ((1044, 1042, 1043, 62, false))) else (if k < 132 then ((1048, 1046, 1047, 62, false)) else ((1052, 1050, 1051, 62, false)))) else (if k < 135 then (if k < 134 then ((1056, 1054, 1055, 62, false)) else ((1060, 1058, 1059, 62, false))) else (if k < 136 then ((1068, 1067, 51, 62, false)) else (if k < 137 then ((1064, 1062, 1063, 62, false)) else ((1072, 1070, 1071, 62, false)))))) else (if k < 143 then (if k < 140 then (if k < 139 then ((1080, 1079, 0, 62, true)) else ((1077, 1075, 1076, 62, false))) else (if k < 141 then ((1085, 1083, 1084, 62, false)) else (if k < 142 then ((522, 521, 0, 65, true)) else ((508, 507, 0, 64, true))))) else (if k < 145 then (if k < 144 then ((514, 513, 0, 63, true)) else ((528, 527, 0, 63, true))) else (if k < 146 then ((700, 699, 0, 63, true)) else (if k < 147 then ((290, 289, 0, 61, true)) else ((0, 0, 0, 0, true)))))))))
def ab_lc (k : Nat) : Int64 := if k < 2 then (if k < 1 then (0) else (1)) else (if k < 3 then (6148914691236517205) else (if k < 4 then (3689348814741910323) else (1085102592571150095)))
end
section
/-! ===== an abstract machine over the places: what the cells hold is a function; a path of instructions is run in one step ===== -/
abbrev ab_M : Type := (Nat → Nat → Int32) × (Nat → Nat → Int64)
abbrev ab_V : Type := Value ⊕ (Nat × Int32)
abbrev ab_S : Type := Nat × List (Nat × ab_V) × List ab_V × ab_M
abbrev ab_E : Type := Nat × Instr × Nat × Nat × Int32 × Nat
abbrev ab_O : Type := Nat × Option Int32 × ab_M
abbrev ab_Z : Type := Launch × va_G × (Nat → Nat) × (Nat → Nat) × ClassId × ClassId × ClassId × ClassId
abbrev ab_X : Type := Program × Env × Room × State × MethodId × Array Value × List Frame × Method × Code × Nat × Nat × (State → Prop) × (Nat → Prop) × Nat × Nat × (Nat → Int32) × Nat × Nat
abbrev ab_D (Z : ab_Z) : va_G := Z.2.1
abbrev ab_ad (Z : ab_Z) : Nat → Nat := Z.2.2.1
abbrev ab_ar (Z : ab_Z) : Nat → Nat := Z.2.2.2.1
abbrev ab_cI (Z : ab_Z) : ClassId := Z.2.2.2.2.1
abbrev ab_cZ (Z : ab_Z) : ClassId := Z.2.2.2.2.2.1
abbrev ab_cJ (Z : ab_Z) : ClassId := Z.2.2.2.2.2.2.1
abbrev ab_cA (Z : ab_Z) : ClassId := Z.2.2.2.2.2.2.2
/-- what is read and written -/
def ab_rd (m : ab_M) (p i : Nat) : Int32 := m.1 p i
def ab_rl (m : ab_M) (p i : Nat) : Int64 := m.2 p i
def ab_wr (m : ab_M) (p i : Nat) (v : Int32) : ab_M := (va_up m.1 p (upd (m.1 p) i v), m.2)
def ab_wl (m : ab_M) (p i : Nat) (v : Int64) : ab_M := (m.1, va_up m.2 p (vp_updL (m.2 p) i v))
def ab_fv (Z : ab_Z) (m : ab_M) (k i : Nat) (f : Option Nat) : Value := match f with
  | none => .int (m.1 k i)
  | some q => .ref (ab_ad Z q)
def ab_cell (Z : ab_Z) (m : ab_M) (k : Nat) : va_E := match (ab_sh k).1 with
  | 0 => .inl (ab_cI Z, (ab_sh k).2.1, .inl (m.1 k))
  | 1 => .inl (ab_cZ Z, (ab_sh k).2.1, .inl (m.1 k))
  | 2 => .inl (ab_cJ Z, (ab_sh k).2.1, .inr (.inl (m.2 k)))
  | 3 => .inl (ab_cA Z, (ab_sh k).2.1, .inr (.inr (.inr (.inr (fun i => if i < (ab_sh k).2.1 then some (ab_ar Z ((ab_sh k).2.2.2.1 + i)) else none)))))
  | t + 4 => .inr (t, (ab_sh k).2.2.2.2.mapIdx (fun i f => ab_fv Z m k i f))
def ab_row (Z : ab_Z) (m : ab_M) (r : Nat) : va_E := .inl (ab_cI Z, (ab_rw r).2.2, .inl (fun j => m.1 (ab_rw r).1 ((ab_rw r).2.1 * (ab_rw r).2.2 + j)))
def ab_w (Z : ab_Z) (m : ab_M) : va_W := (List.range ab_NP).map (fun k => (ab_ad Z k, ab_cell Z m k)) ++ (List.range ab_NR).map (fun r => (ab_ar Z r, ab_row Z m r))
def ab_A (Z : ab_Z) (q : Nat) : Prop := (∃ k, k < ab_NP ∧ q = ab_ad Z k) ∨ ∃ r, r < ab_NR ∧ q = ab_ar Z r
def ab_ty (Z : ab_Z) : List (ClassId × FieldType) := [(ab_cI Z, .int), (ab_cZ Z, .boolean), (ab_cJ Z, .long), (ab_cA Z, .array .int)]
def ab_okZ (Z : ab_Z) : Prop := ∀ m, va_D (fun _ => True) (ab_w Z m)
def ab_cv (Z : ab_Z) (b : Nat) (v : ab_V) : Value := match v with
  | .inl w => (match w with
    | .ref k => .ref (if k = 999 then b else ab_ad Z k)
    | w => w)
  | .inr q => .ref (ab_ar Z ((ab_sh q.1).2.2.2.1 + q.2.toNatClampNeg))
def ab_cvL (Z : ab_Z) (b : Nat) (L : List (Nat × ab_V)) : List (Nat × Value) := L.map (fun q => (q.1, ab_cv Z b q.2))
def ab_cat (v : ab_V) : Nat := match v with
  | .inl (.long _) => 2
  | .inl (.double _) => 2
  | _ => 1
theorem ab_cat_cv (Z : ab_Z) (b : Nat) (v : ab_V) : (ab_cv Z b v).category = ab_cat v := by
  rcases v with v | v
  · cases v <;> rfl
  · rfl
/-- the words of the tables that last -/
def ab_tb : List Jvm.Cond := lw_tbl.filter goodWord
def ab_isn (w : Jvm.Cond) : Bool := match w with
  | .fieldLinkNest _ _ _ _ _ _ => true
  | _ => false
def ab_nw : List Jvm.Cond := lw_tbl.filter ab_isn
theorem ab_nw_of {w : Jvm.Cond} {j : Nat} (h : lw_tbl[j]? = some w) (hg : ab_isn w = true) : w ∈ ab_nw := List.mem_filter.mpr ⟨List.mem_of_getElem? h, hg⟩
theorem ab_tb_of {w : Jvm.Cond} {j : Nat} (h : lw_tbl[j]? = some w) (hg : goodWord w = true) : w ∈ ab_tb := List.mem_filter.mpr ⟨List.mem_of_getElem? h, hg⟩
def ab_mL (k : Nat) : Nat := (ab_mI k).1
def ab_mR (k : Nat) : Option FieldType := (ab_mI k).2.1
def ab_mW (k : Nat) : List Jvm.Cond := .code (ab_mY k) (ab_mB k) (ab_mL k) (ab_mR k) :: ab_tb
def ab_rm (d : Nat) : Room := { frames := d, cells := 0, slots := 0, locals := 64 * d }
/-- a method's contract: with the values A and the cells m it answers r and leaves the cells m' -/
def ab_C (Z : ab_Z) (d k : Nat) (A : List ab_V) (m : ab_M) (r : Option Int32) (m' : ab_M) : Prop :=
  Met Z.1 (ab_mY k) (ab_mW k) (ab_rm d) (va_Pc (A.map (ab_cv Z 0)) (fun U => va_P (ab_D Z) vwCl (ab_w Z m) U.heap ∧ va_K (ab_D Z) vwCl (ab_ty Z) U ∧ ∀ w ∈ ab_nw, va_Nw w U))
    (fun _ st oc t => (oc = .returned (r.map Value.int) ∧ va_P (ab_D Z) vwCl (ab_w Z m') t.heap) ∧ va_F (ab_A Z) st t) 0 0 (ab_A Z)
/-- the machine goes on well from here -/
def ab_G (Z : ab_Z) (X : ab_X) (st : ab_S) : Prop := match X with
  | (p, e, R, s, m, args, below, meth, c, cells, slots, Q, A, b, _, _, k, _) => ∀ (H : Heap) (locs : List Loc) (ls : Array Slot), va_P (ab_D Z) vwCl (ab_w Z st.2.2.2) H → va_S A s.heap H locs → lv_has ls (ab_mL k) (ab_cvL Z b st.2.1) →
    W p Z.1 e R s m args below meth c H locs cells slots Q (F0 m st.1 ls (st.2.2.1.map (ab_cv Z b)))
/-- what is known of a frame -/
def ab_okX (Z : ab_Z) (X : ab_X) : Prop := match X with
  | (p, _, R, s, m, args, _, _, c, cells, slots, _, A, _, _, _, k, d) => p.tables.exec = Jvm.exec ∧ c.code = ab_mB k ∧ c.maxLocals = ab_mL k ∧ s.vm.findClass (ab_mY k).cls = some m.cls ∧ (∀ w ∈ ab_tb, w.before args s = true) ∧ (∀ w ∈ ab_nw, va_Nw w s) ∧ va_K (ab_D Z) vwCl (ab_ty Z) s ∧ (∀ q, ab_A Z q → A q) ∧ d ≤ R.frames ∧ 64 * d ≤ R.locals ∧ cells ≤ R.cells ∧ slots ≤ R.slots ∧ ab_okZ Z
/-- the script may be read -/
def ab_scr (X : ab_X) : Prop := match X with
  | (_, _, _, s, _, _, _, _, _, _, _, _, A, b, L, xs, _, _) => va_X b L xs s s.heap ∧ b < s.heap.size ∧ ¬ A b
abbrev ab_xL (X : ab_X) : Nat := X.2.2.2.2.2.2.2.2.2.2.2.2.2.2.1
abbrev ab_xs (X : ab_X) : Nat → Int32 := X.2.2.2.2.2.2.2.2.2.2.2.2.2.2.2.1
abbrev ab_xk (X : ab_X) : Nat := X.2.2.2.2.2.2.2.2.2.2.2.2.2.2.2.2.1
abbrev ab_xd (X : ab_X) : Nat := X.2.2.2.2.2.2.2.2.2.2.2.2.2.2.2.2.2
/-! locals -/
def ab_ld (i : Nat) : List (Nat × ab_V) → Option ab_V
  | [] => none
  | q :: t => if q.1 = i then some q.2 else ab_ld i t
def ab_ins (i : Nat) (v : ab_V) : List (Nat × ab_V) → List (Nat × ab_V)
  | [] => [(i, v)]
  | q :: t => if i < q.1 then (i, v) :: q :: t else q :: ab_ins i v t
def ab_del (i : Nat) (L : List (Nat × ab_V)) : List (Nat × ab_V) := L.filter (fun q => !(q.1 == i) && !(q.1 + 1 == i && ab_cat q.2 == 2))
def ab_de2 (i : Nat) (L : List (Nat × ab_V)) : List (Nat × ab_V) := L.filter (fun q => !(q.1 == i) && (!(q.1 == i + 1) && !(q.1 + 1 == i && ab_cat q.2 == 2)))
def ab_zk (v : Int32) : Prop := v = 0 ∨ v = 1
/-! one instruction: a condition (or none), the oracles left, the next state -/
abbrev ab_R : Type := Option (Option Prop × List ab_O × ab_S)
def ab_c2 (c : Jvm.ClassFile.Cond) (t : Nat) (x y : Int32) : Prop := match c, t with
  | .eq, 0 => ¬ x = y
  | .eq, _ => x = y
  | .ne, 0 => x = y
  | .ne, _ => ¬ x = y
  | .lt, 0 => ¬ x < y
  | .lt, _ => x < y
  | .ge, 0 => ¬ y ≤ x
  | .ge, _ => y ≤ x
  | .gt, 0 => ¬ y < x
  | .gt, _ => y < x
  | .le, 0 => ¬ x ≤ y
  | .le, _ => x ≤ y
def ab_pi (v : Int32) (nx : Nat) (o : List ab_O) (st : ab_S) : ab_R := some (none, o, (nx, st.2.1, .inl (.int v) :: st.2.2.1, st.2.2.2))
def ab_pl (v : Int64) (nx : Nat) (o : List ab_O) (st : ab_S) : ab_R := some (none, o, (nx, st.2.1, .inl (.long v) :: st.2.2.1, st.2.2.2))
def ab_li (i nx : Nat) (o : List ab_O) (st : ab_S) : ab_R := match ab_ld i st.2.1 with
  | some (.inl (.int x)) => some (none, o, (nx, st.2.1, .inl (.int x) :: st.2.2.1, st.2.2.2))
  | _ => none
def ab_ll (i nx : Nat) (o : List ab_O) (st : ab_S) : ab_R := match ab_ld i st.2.1 with
  | some (.inl (.long x)) => some (none, o, (nx, st.2.1, .inl (.long x) :: st.2.2.1, st.2.2.2))
  | _ => none
def ab_la (i nx : Nat) (o : List ab_O) (st : ab_S) : ab_R := match ab_ld i st.2.1 with
  | some (.inl (.ref k)) => some (none, o, (nx, st.2.1, .inl (.ref k) :: st.2.2.1, st.2.2.2))
  | some (.inr q) => some (none, o, (nx, st.2.1, .inr q :: st.2.2.1, st.2.2.2))
  | _ => none
def ab_si (k i nx : Nat) (o : List ab_O) (st : ab_S) : ab_R := match st.2.2.1 with
  | .inl (.int x) :: r => if i < ab_mL k then some (none, o, (nx, ab_ins i (.inl (.int x)) (ab_del i st.2.1), r, st.2.2.2)) else none
  | _ => none
def ab_sl (k i nx : Nat) (o : List ab_O) (st : ab_S) : ab_R := match st.2.2.1 with
  | .inl (.long x) :: r => if i + 1 < ab_mL k then some (none, o, (nx, ab_ins i (.inl (.long x)) (ab_de2 i st.2.1), r, st.2.2.2)) else none
  | _ => none
def ab_sa (k i nx : Nat) (o : List ab_O) (st : ab_S) : ab_R := match st.2.2.1 with
  | .inl (.ref x) :: r => if i < ab_mL k then some (none, o, (nx, ab_ins i (.inl (.ref x)) (ab_del i st.2.1), r, st.2.2.2)) else none
  | .inr q :: r => if i < ab_mL k then some (none, o, (nx, ab_ins i (.inr q) (ab_del i st.2.1), r, st.2.2.2)) else none
  | _ => none
def ab_inc (k i : Nat) (v : Int32) (nx : Nat) (o : List ab_O) (st : ab_S) : ab_R := match ab_ld i st.2.1 with
  | some (.inl (.int x)) => if i < ab_mL k then some (none, o, (nx, ab_ins i (.inl (.int (x + v))) (ab_del i st.2.1), st.2.2.1, st.2.2.2)) else none
  | _ => none
def ab_b2 (f : Int32 → Int32 → Int32) (nx : Nat) (o : List ab_O) (st : ab_S) : ab_R := match st.2.2.1 with
  | .inl (.int y) :: .inl (.int x) :: r => some (none, o, (nx, st.2.1, .inl (.int (f x y)) :: r, st.2.2.2))
  | _ => none
def ab_b2n (f : Int32 → Int32 → Int32) (nx : Nat) (o : List ab_O) (st : ab_S) : ab_R := match st.2.2.1 with
  | .inl (.int y) :: .inl (.int x) :: r => some (some (¬ y = 0), o, (nx, st.2.1, .inl (.int (f x y)) :: r, st.2.2.2))
  | _ => none
def ab_neg (nx : Nat) (o : List ab_O) (st : ab_S) : ab_R := match st.2.2.1 with
  | .inl (.int x) :: r => some (none, o, (nx, st.2.1, .inl (.int (-x)) :: r, st.2.2.2))
  | _ => none
def ab_l2 (f : Int64 → Int64 → Int64) (nx : Nat) (o : List ab_O) (st : ab_S) : ab_R := match st.2.2.1 with
  | .inl (.long y) :: .inl (.long x) :: r => some (none, o, (nx, st.2.1, .inl (.long (f x y)) :: r, st.2.2.2))
  | _ => none
def ab_l2n (f : Int64 → Int64 → Int64) (nx : Nat) (o : List ab_O) (st : ab_S) : ab_R := match st.2.2.1 with
  | .inl (.long y) :: .inl (.long x) :: r => some (some (¬ y = 0), o, (nx, st.2.1, .inl (.long (f x y)) :: r, st.2.2.2))
  | _ => none
def ab_lsh (f : Int64 → Int32 → Int64) (nx : Nat) (o : List ab_O) (st : ab_S) : ab_R := match st.2.2.1 with
  | .inl (.int y) :: .inl (.long x) :: r => some (none, o, (nx, st.2.1, .inl (.long (f x y)) :: r, st.2.2.2))
  | _ => none
def ab_lcm (nx : Nat) (o : List ab_O) (st : ab_S) : ab_R := match st.2.2.1 with
  | .inl (.long y) :: .inl (.long x) :: r => some (none, o, (nx, st.2.1, .inl (.int (lg_cmp x y)) :: r, st.2.2.2))
  | _ => none
def ab_i2l (nx : Nat) (o : List ab_O) (st : ab_S) : ab_R := match st.2.2.1 with
  | .inl (.int x) :: r => some (none, o, (nx, st.2.1, .inl (.long x.toInt64) :: r, st.2.2.2))
  | _ => none
def ab_l2i (nx : Nat) (o : List ab_O) (st : ab_S) : ab_R := match st.2.2.1 with
  | .inl (.long x) :: r => some (none, o, (nx, st.2.1, .inl (.int x.toInt32) :: r, st.2.2.2))
  | _ => none
def ab_dup (nx : Nat) (o : List ab_O) (st : ab_S) : ab_R := match st.2.2.1 with
  | v :: r => if ab_cat v = 1 then some (none, o, (nx, st.2.1, v :: v :: r, st.2.2.2)) else none
  | _ => none
def ab_pop (nx : Nat) (o : List ab_O) (st : ab_S) : ab_R := match st.2.2.1 with
  | v :: r => if ab_cat v = 1 then some (none, o, (nx, st.2.1, r, st.2.2.2)) else none
  | _ => none
def ab_du2 (nx : Nat) (o : List ab_O) (st : ab_S) : ab_R := match st.2.2.1 with
  | v :: w :: r => if ab_cat v = 1 ∧ ab_cat w = 1 then some (none, o, (nx, st.2.1, v :: w :: v :: w :: r, st.2.2.2)) else none
  | _ => none
def ab_if1 (c : Jvm.ClassFile.Cond) (t nx : Nat) (o : List ab_O) (st : ab_S) : ab_R := match st.2.2.1 with
  | .inl (.int x) :: r => some (some (ab_c2 c t x 0), o, (nx, st.2.1, r, st.2.2.2))
  | _ => none
def ab_if2 (c : Jvm.ClassFile.Cond) (t nx : Nat) (o : List ab_O) (st : ab_S) : ab_R := match st.2.2.1 with
  | .inl (.int y) :: .inl (.int x) :: r => some (some (ab_c2 c t x y), o, (nx, st.2.1, r, st.2.2.2))
  | _ => none
def ab_sw (hi : Nat) (t : Nat) (v : Int32) (nx : Nat) (o : List ab_O) (st : ab_S) : ab_R := match st.2.2.1 with
  | .inl (.int x) :: r => some (some (match t with | 0 => x.toInt < 0 ∨ (hi : Int) < x.toInt | _ => x = v), o, (nx, st.2.1, r, st.2.2.2))
  | _ => none
def ab_gf (a nx : Nat) (o : List ab_O) (st : ab_S) : ab_R := match st.2.2.1 with
  | .inl (.ref p) :: r => if p < ab_NP ∧ (ab_sh p).1 = 4 + a / 100 % 100 then (match (ab_sh p).2.2.2.2[a % 100]? with
    | some none => some (none, o, (nx, st.2.1, .inl (.int (ab_rd st.2.2.2 p (a % 100))) :: r, st.2.2.2))
    | some (some q) => if q < 999 then some (none, o, (nx, st.2.1, .inl (.ref q) :: r, st.2.2.2)) else none
    | none => none) else none
  | _ => none
def ab_pf (a nx : Nat) (o : List ab_O) (st : ab_S) : ab_R := match st.2.2.1 with
  | .inl (.int v) :: .inl (.ref p) :: r => if p < ab_NP ∧ (ab_sh p).1 = 4 + a / 100 % 100 then (match (ab_sh p).2.2.2.2[a % 100]? with
    | some none => some (if a < 10000 then none else some (ab_zk v), o, (nx, st.2.1, r, ab_wr st.2.2.2 p (a % 100) v))
    | _ => none) else none
  | _ => none
def ab_ial (X : ab_X) (nx : Nat) (o : List ab_O) (st : ab_S) : ab_R := match st.2.2.1 with
  | .inl (.int i) :: .inl (.ref p) :: r => if p = 999 then some (some (ab_scr X ∧ vp_in i (ab_xL X)), o, (nx, st.2.1, .inl (.int (ab_xs X i.toNatClampNeg)) :: r, st.2.2.2)) else
    if p < ab_NP ∧ (ab_sh p).1 = 0 then some (some (vp_in i (ab_sh p).2.1), o, (nx, st.2.1, .inl (.int (ab_rd st.2.2.2 p i.toNatClampNeg)) :: r, st.2.2.2)) else none
  | .inl (.int i) :: .inr q :: r => if (ab_sh q.1).1 = 3 then some (some (vp_in q.2 (ab_sh q.1).2.1 ∧ vp_in i (ab_sh q.1).2.2.1), o, (nx, st.2.1, .inl (.int (ab_rd st.2.2.2 q.1 (q.2.toNatClampNeg * (ab_sh q.1).2.2.1 + i.toNatClampNeg))) :: r, st.2.2.2)) else none
  | _ => none
def ab_ias (nx : Nat) (o : List ab_O) (st : ab_S) : ab_R := match st.2.2.1 with
  | .inl (.int x) :: .inl (.int i) :: .inl (.ref p) :: r => if p < ab_NP ∧ (ab_sh p).1 = 0 then some (some (vp_in i (ab_sh p).2.1), o, (nx, st.2.1, r, ab_wr st.2.2.2 p i.toNatClampNeg x)) else none
  | .inl (.int x) :: .inl (.int i) :: .inr q :: r => if (ab_sh q.1).1 = 3 then some (some (vp_in q.2 (ab_sh q.1).2.1 ∧ vp_in i (ab_sh q.1).2.2.1), o, (nx, st.2.1, r, ab_wr st.2.2.2 q.1 (q.2.toNatClampNeg * (ab_sh q.1).2.2.1 + i.toNatClampNeg) x)) else none
  | _ => none
def ab_bal (nx : Nat) (o : List ab_O) (st : ab_S) : ab_R := match st.2.2.1 with
  | .inl (.int i) :: .inl (.ref p) :: r => if p < ab_NP ∧ (ab_sh p).1 = 1 then some (some (vp_in i (ab_sh p).2.1), o, (nx, st.2.1, .inl (.int (ab_rd st.2.2.2 p i.toNatClampNeg)) :: r, st.2.2.2)) else none
  | _ => none
def ab_bas (nx : Nat) (o : List ab_O) (st : ab_S) : ab_R := match st.2.2.1 with
  | .inl (.int x) :: .inl (.int i) :: .inl (.ref p) :: r => if p < ab_NP ∧ (ab_sh p).1 = 1 then some (some (vp_in i (ab_sh p).2.1 ∧ ab_zk x), o, (nx, st.2.1, r, ab_wr st.2.2.2 p i.toNatClampNeg x)) else none
  | _ => none
def ab_lal (nx : Nat) (o : List ab_O) (st : ab_S) : ab_R := match st.2.2.1 with
  | .inl (.int i) :: .inl (.ref p) :: r => if p < ab_NP ∧ (ab_sh p).1 = 2 then some (some (vp_in i (ab_sh p).2.1), o, (nx, st.2.1, .inl (.long (ab_rl st.2.2.2 p i.toNatClampNeg)) :: r, st.2.2.2)) else none
  | _ => none
def ab_las (nx : Nat) (o : List ab_O) (st : ab_S) : ab_R := match st.2.2.1 with
  | .inl (.long x) :: .inl (.int i) :: .inl (.ref p) :: r => if p < ab_NP ∧ (ab_sh p).1 = 2 then some (some (vp_in i (ab_sh p).2.1), o, (nx, st.2.1, r, ab_wl st.2.2.2 p i.toNatClampNeg x)) else none
  | _ => none
def ab_aal (nx : Nat) (o : List ab_O) (st : ab_S) : ab_R := match st.2.2.1 with
  | .inl (.int i) :: .inl (.ref p) :: r => if p < ab_NP ∧ (ab_sh p).1 = 3 then some (some (vp_in i (ab_sh p).2.1), o, (nx, st.2.1, .inr (p, i) :: r, st.2.2.2)) else none
  | _ => none
def ab_aln (X : ab_X) (nx : Nat) (o : List ab_O) (st : ab_S) : ab_R := match st.2.2.1 with
  | .inl (.ref p) :: r => if p = 999 then some (some (ab_scr X), o, (nx, st.2.1, .inl (.int (Int32.ofNat (ab_xL X))) :: r, st.2.2.2)) else
    if p < ab_NP ∧ (ab_sh p).1 = 0 then some (none, o, (nx, st.2.1, .inl (.int (Int32.ofNat (ab_sh p).2.1)) :: r, st.2.2.2)) else none
  | .inr q :: r => if (ab_sh q.1).1 = 3 then some (some (vp_in q.2 (ab_sh q.1).2.1), o, (nx, st.2.1, .inl (.int (Int32.ofNat (ab_sh q.1).2.2.1)) :: r, st.2.2.2)) else none
  | _ => none
def ab_ref (v : ab_V) : Bool := match v with
  | .inl (.ref k) => k < 83
  | .inl (.int _) => true
  | .inl (.long _) => true
  | .inr _ => true
  | _ => false
def ab_cok (a : Nat) (S : List ab_V) (r : Option Int32) : Bool :=
  decide (((S.drop (ab_mI a).2.2.1).map ab_cat).sum ≤ 8) && ((S.take (ab_mI a).2.2.1).all ab_ref && (decide ((S.take (ab_mI a).2.2.1).length = (ab_mI a).2.2.1) && (((ab_mR a).isSome == r.isSome) &&
    ((ab_mJ a).2.2.2.2 || match (S.take (ab_mI a).2.2.1).reverse with
      | .inl (.ref p) :: _ => decide (p < ab_NP) && decide ((ab_sh p).1 = 4 + (ab_mI a).2.2.2)
      | _ => false))))
/-- a call of method a: its values are the top of the stack, the oracle tells what comes back -/
def ab_cal (Z : ab_Z) (d a nx : Nat) (o : List ab_O) (st : ab_S) : ab_R := match o with
  | [] => none
  | q :: o' => if ab_cok a st.2.2.1 q.2.1 = true then
      some (some (q.1 < d ∧ ab_C Z q.1 a (st.2.2.1.take (ab_mI a).2.2.1).reverse st.2.2.2 q.2.1 q.2.2), o', (nx, st.2.1, (q.2.1.toList.map (fun x => .inl (.int x))) ++ st.2.2.1.drop (ab_mI a).2.2.1, q.2.2)) else none
def ab_stp (Z : ab_Z) (X : ab_X) (k : Nat) (e : ab_E) (o : List ab_O) (st : ab_S) : ab_R := if e.1 = st.1 then (match e.2.1 with
  | .nop => some (none, o, (st.1, st.2.1.filter (fun q => !(q.1 == e.2.2.1)), st.2.2.1, st.2.2.2))
  | .iconst _ => ab_pi e.2.2.2.2.1 e.2.2.2.2.2 o st
  | .bipush _ => ab_pi e.2.2.2.2.1 e.2.2.2.2.2 o st
  | .sipush _ => ab_pi e.2.2.2.2.1 e.2.2.2.2.2 o st
  | .ldc _ => ab_pi e.2.2.2.2.1 e.2.2.2.2.2 o st
  | .ldc_w _ => ab_pi e.2.2.2.2.1 e.2.2.2.2.2 o st
  | .lconst _ => ab_pl (ab_lc e.2.2.1) e.2.2.2.2.2 o st
  | .ldc2_w _ => ab_pl (ab_lc e.2.2.1) e.2.2.2.2.2 o st
  | .iload i => ab_li i e.2.2.2.2.2 o st
  | .iload_n i => ab_li i.val e.2.2.2.2.2 o st
  | .lload_n i => ab_ll i.val e.2.2.2.2.2 o st
  | .aload i => ab_la i e.2.2.2.2.2 o st
  | .aload_n i => ab_la i.val e.2.2.2.2.2 o st
  | .istore i => ab_si k i e.2.2.2.2.2 o st
  | .istore_n i => ab_si k i.val e.2.2.2.2.2 o st
  | .lstore_n i => ab_sl k i.val e.2.2.2.2.2 o st
  | .astore_n i => ab_sa k i.val e.2.2.2.2.2 o st
  | .iinc i _ => ab_inc k i e.2.2.2.2.1 e.2.2.2.2.2 o st
  | .iadd => ab_b2 (fun x y => x + y) e.2.2.2.2.2 o st
  | .isub => ab_b2 (fun x y => x - y) e.2.2.2.2.2 o st
  | .imul => ab_b2 (fun x y => x * y) e.2.2.2.2.2 o st
  | .idiv => ab_b2n (fun x y => x / y) e.2.2.2.2.2 o st
  | .irem => ab_b2n (fun x y => x - x / y * y) e.2.2.2.2.2 o st
  | .iand => ab_b2 (fun x y => x &&& y) e.2.2.2.2.2 o st
  | .ior => ab_b2 (fun x y => x ||| y) e.2.2.2.2.2 o st
  | .ixor => ab_b2 (fun x y => x ^^^ y) e.2.2.2.2.2 o st
  | .ishl => ab_b2 (fun x y => x <<< (y &&& 31)) e.2.2.2.2.2 o st
  | .ishr => ab_b2 (fun x y => x >>> (y &&& 31)) e.2.2.2.2.2 o st
  | .iushr => ab_b2 (fun x y => (x.toUInt32 >>> (y.toUInt32 &&& Int32.toUInt32 31)).toInt32) e.2.2.2.2.2 o st
  | .ineg => ab_neg e.2.2.2.2.2 o st
  | .ladd => ab_l2 (fun x y => x + y) e.2.2.2.2.2 o st
  | .lsub => ab_l2 (fun x y => x - y) e.2.2.2.2.2 o st
  | .lmul => ab_l2 (fun x y => x * y) e.2.2.2.2.2 o st
  | .land => ab_l2 (fun x y => x &&& y) e.2.2.2.2.2 o st
  | .lor => ab_l2 (fun x y => x ||| y) e.2.2.2.2.2 o st
  | .ldiv => ab_l2n (fun x y => x / y) e.2.2.2.2.2 o st
  | .lshl => ab_lsh (fun x y => x <<< (y.toInt64 &&& 63)) e.2.2.2.2.2 o st
  | .lushr => ab_lsh (fun x y => (x.toUInt64 >>> (y.toInt64.toUInt64 &&& Int64.toUInt64 63)).toInt64) e.2.2.2.2.2 o st
  | .lcmp => ab_lcm e.2.2.2.2.2 o st
  | .i2l => ab_i2l e.2.2.2.2.2 o st
  | .l2i => ab_l2i e.2.2.2.2.2 o st
  | .dup => ab_dup e.2.2.2.2.2 o st
  | .pop => ab_pop e.2.2.2.2.2 o st
  | .dup2 => ab_du2 e.2.2.2.2.2 o st
  | .ifCond c _ => ab_if1 c e.2.2.1 e.2.2.2.2.2 o st
  | .if_icmp c _ => ab_if2 c e.2.2.1 e.2.2.2.2.2 o st
  | .goto _ => some (none, o, (e.2.2.2.2.2, st.2.1, st.2.2.1, st.2.2.2))
  | .tableswitch _ _ hi _ => ab_sw hi.toNat e.2.2.1 e.2.2.2.2.1 e.2.2.2.2.2 o st
  | .getfield _ => ab_gf e.2.2.1 e.2.2.2.2.2 o st
  | .putfield _ => ab_pf e.2.2.1 e.2.2.2.2.2 o st
  | .iaload => ab_ial X e.2.2.2.2.2 o st
  | .iastore => ab_ias e.2.2.2.2.2 o st
  | .baload => ab_bal e.2.2.2.2.2 o st
  | .bastore => ab_bas e.2.2.2.2.2 o st
  | .laload => ab_lal e.2.2.2.2.2 o st
  | .lastore => ab_las e.2.2.2.2.2 o st
  | .aaload => ab_aal e.2.2.2.2.2 o st
  | .arraylength => ab_aln X e.2.2.2.2.2 o st
  | .invokevirtual _ => ab_cal Z (ab_xd X) e.2.2.1 e.2.2.2.2.2 o st
  | .invokestatic _ => ab_cal Z (ab_xd X) e.2.2.1 e.2.2.2.2.2 o st
  | _ => none) else none
def ab_run (Z : ab_Z) (X : ab_X) (k : Nat) : List ab_E → List ab_O → ab_S → Option (Prop × ab_S)
  | [], _, st => some (True, st)
  | e :: t, o, st => match ab_stp Z X k e o st with
    | none => none
    | some (c, o', st') => match ab_run Z X k t o' st' with
      | none => none
      | some (C, st'') => some (match c with | none => C | some c => c ∧ C, st'')
/-! what is checked of an entry, once for a method -/
def ab_wd (j : Nat) (w : Jvm.Cond) : Bool := decide (lw_tbl[j]? = some w) && goodWord w
def ab_wn (j : Nat) (w : Jvm.Cond) : Bool := decide (lw_tbl[j]? = some w)
def ab_fok (own : String) (ix a j : Nat) (put : Bool) : Bool := match vwCl[a / 100 % 100]? with
  | none => false
  | some (C, T, N) => decide (a % 100 < N) && ((ab_wd j (.fieldLink own ix (T (a % 100)).1 (T (a % 100)).2.1 (T (a % 100)).2.2.1) || ab_wn j (.fieldLinkNest own ix (T (a % 100)).1 (T (a % 100)).2.1 (T (a % 100)).2.2.1 "LostDesk")) &&
    (!put || (!(T (a % 100)).2.2.2 && decide (parseFieldDescriptor (T (a % 100)).2.2.1 = some (if a < 10000 then .int else .boolean)))))
def ab_oki (k pc len : Nat) (ins : Instr) (a j : Nat) (v : Int32) (nx : Nat) : Bool := match ins with
  | .iconst n => decide (len = 1) && decide (nx = pc + 1) && decide (Int32.ofInt n = v)
  | .bipush n => decide (len = 2) && decide (nx = pc + 2) && decide ((Int8.ofInt n).toInt32 = v)
  | .sipush n => decide (len = 3) && decide (nx = pc + 3) && decide ((Int16.ofInt n).toInt32 = v)
  | .ldc i => decide (len = 2) && decide (nx = pc + 2) && ab_wd j (.constant (ab_mY k).cls i v)
  | .ldc_w i => decide (len = 3) && decide (nx = pc + 3) && ab_wd j (.constant (ab_mY k).cls i v)
  | .lconst n => decide (len = 1) && decide (nx = pc + 1) && decide (Int64.ofNat (n : Nat) = ab_lc a)
  | .ldc2_w i => decide (len = 3) && decide (nx = pc + 3) && ab_wd j (.constantLong (ab_mY k).cls i (ab_lc a))
  | .iload _ => decide (len = 2) && decide (nx = pc + 2)
  | .aload _ => decide (len = 2) && decide (nx = pc + 2)
  | .istore _ => decide (len = 2) && decide (nx = pc + 2)
  | .iinc _ n => decide (len = 3) && decide (nx = pc + 3) && decide (Int32.ofInt n = v)
  | .ifCond _ off => decide (len = 3) && (if a = 0 then decide (nx = pc + 3) else decide ((pc : Int) + off = (nx : Int)))
  | .if_icmp _ off => decide (len = 3) && (if a = 0 then decide (nx = pc + 3) else decide ((pc : Int) + off = (nx : Int)))
  | .goto off => decide (len = 3) && decide ((pc : Int) + off = (nx : Int))
  | .tableswitch dflt lo hi offs => decide (lo = 0) && (decide (0 ≤ hi) && (if a = 0 then decide ((pc : Int) + dflt = (nx : Int)) else (decide (v = Int32.ofNat j) && (decide (v.toInt = (j : Int)) && (decide ((j : Int) ≤ hi) && match offs[j]? with | some off => decide ((pc : Int) + off = (nx : Int)) | none => false)))))
  | .getfield i => decide (len = 3) && decide (nx = pc + 3) && ab_fok (ab_mY k).cls i a j false
  | .putfield i => decide (len = 3) && decide (nx = pc + 3) && ab_fok (ab_mY k).cls i a j true
  | .invokevirtual i => decide (len = 3) && decide (nx = pc + 3) && (decide (a < ab_NM - 1) && (!(ab_mJ a).2.2.2.2 && ab_wd j (.methodLink (ab_mY k).cls i (ab_mY a))))
  | .invokestatic i => decide (len = 3) && decide (nx = pc + 3) && (decide (a < ab_NM - 1) && ((ab_mJ a).2.2.2.2 && ab_wd j (.methodLink (ab_mY k).cls i (ab_mY a))))
  | _ => decide (len = 1) && decide (nx = pc + 1)
def ab_ok (k : Nat) (e : ab_E) : Bool := match e.2.1 with
  | .nop => true
  | ins => match decode (ab_mB k) e.1 with
    | .ok (i2, len) => decide (i2 = ins) && ab_oki k e.1 len ins e.2.2.1 e.2.2.2.1 e.2.2.2.2.1 e.2.2.2.2.2
    | .error _ => false
end
section
theorem ab_all_app {α : Type} {f : α → Bool} {a b : List α} (h1 : a.all f = true) (h2 : b.all f = true) : (a ++ b).all f = true := by rw [List.all_append, h1, h2]; rfl
/-- LostDesk$Colours.areNear -/
def cd_Colours_areNear : List ab_E := [(0, .aload_n 0, 0, 0, 0, 1), (1, .getfield 9, 0, 102, 0, 4), (4, .iload_n 1, 0, 0, 0, 5), (5, .iaload, 0, 0, 0, 6), (6, .iload_n 2, 0, 0, 0, 7), (7, .iushr, 0, 0, 0, 8), (8, .iconst 1, 0, 0, 1, 9), (9, .iand, 0, 0, 0, 10), (10, .ifCond .eq 7, 0, 0, 0, 13), (10, .ifCond .eq 7, 1, 0, 0, 17), (13, .iconst 1, 0, 0, 1, 14), (14, .goto 4, 0, 0, 0, 18), (17, .iconst 0, 0, 0, 0, 18), (18, .ireturn, 0, 0, 0, 19)]
set_option maxRecDepth 100000 in
theorem ck_Colours_areNear : cd_Colours_areNear.all (ab_ok 0) = true := by decide +kernel
/-- LostDesk$Colours.turn -/
def cd_Colours_turn : List ab_E := [(0, .aload_n 0, 0, 0, 0, 1), (1, .getfield 9, 0, 102, 0, 4), (4, .iload_n 1, 0, 0, 0, 5), (5, .dup2, 0, 0, 0, 6), (6, .iaload, 0, 0, 0, 7), (7, .iconst 1, 0, 0, 1, 8), (8, .iload_n 2, 0, 0, 0, 9), (9, .ishl, 0, 0, 0, 10), (10, .ixor, 0, 0, 0, 11), (11, .iastore, 0, 0, 0, 12), (12, .aload_n 0, 0, 0, 0, 13), (13, .getfield 9, 0, 102, 0, 16), (16, .iload_n 2, 0, 0, 0, 17), (17, .dup2, 0, 0, 0, 18), (18, .iaload, 0, 0, 0, 19), (19, .iconst 1, 0, 0, 1, 20), (20, .iload_n 1, 0, 0, 0, 21), (21, .ishl, 0, 0, 0, 22), (22, .ixor, 0, 0, 0, 23), (23, .iastore, 0, 0, 0, 24), (24, .return_, 0, 0, 0, 25)]
set_option maxRecDepth 100000 in
theorem ck_Colours_turn : cd_Colours_turn.all (ab_ok 1) = true := by decide +kernel
/-- LostDesk$Colours.shades -/
def cd_Colours_shades : List ab_E := [(0, .iload_n 1, 0, 0, 0, 1), (1, .iload_n 2, 0, 0, 0, 2), (2, .if_icmp .ne 5, 0, 0, 0, 5), (2, .if_icmp .ne 5, 1, 0, 0, 7), (5, .iconst 0, 0, 0, 0, 6), (6, .ireturn, 0, 0, 0, 7), (7, .iload_n 1, 0, 0, 0, 8), (8, .iconst (-1), 0, 0, (-1), 9), (9, .if_icmp .eq 8, 0, 0, 0, 12), (9, .if_icmp .eq 8, 1, 0, 0, 17), (12, .iload_n 2, 0, 0, 0, 13), (13, .iconst (-1), 0, 0, (-1), 14), (14, .if_icmp .ne 5, 0, 0, 0, 17), (14, .if_icmp .ne 5, 1, 0, 0, 19), (17, .iconst 2, 0, 0, 2, 18), (18, .ireturn, 0, 0, 0, 19), (19, .aload_n 0, 0, 0, 0, 20), (20, .iload_n 1, 0, 0, 0, 21), (21, .iload_n 2, 0, 0, 0, 22), (22, .invokevirtual 15, 0, 519, 0, 25), (25, .ifCond .eq 7, 0, 0, 0, 28), (25, .ifCond .eq 7, 1, 0, 0, 32), (28, .iconst 1, 0, 0, 1, 29), (29, .goto 4, 0, 0, 0, 33), (32, .iconst (-1), 0, 0, (-1), 33), (33, .ireturn, 0, 0, 0, 34)]
set_option maxRecDepth 100000 in
theorem ck_Colours_shades : cd_Colours_shades.all (ab_ok 2) = true := by decide +kernel
/-- LostDesk$Finds.has -/
def cd_Finds_has : List ab_E := [(0, .iload_n 1, 0, 0, 0, 1), (1, .ifCond .lt 15, 0, 0, 0, 4), (1, .ifCond .lt 15, 1, 0, 0, 16), (4, .iload_n 1, 0, 0, 0, 5), (5, .aload_n 0, 0, 0, 0, 6), (6, .getfield 36, 108, 150, 0, 9), (9, .if_icmp .ge 7, 0, 0, 0, 12), (9, .if_icmp .ge 7, 1, 0, 0, 16), (12, .iconst 1, 0, 0, 1, 13), (13, .goto 4, 0, 0, 0, 17), (16, .iconst 0, 0, 0, 0, 17), (17, .ireturn, 0, 0, 0, 18)]
set_option maxRecDepth 100000 in
theorem ck_Finds_has : cd_Finds_has.all (ab_ok 3) = true := by decide +kernel
/-- LostDesk$Finds.isFull -/
def cd_Finds_isFull : List ab_E := [(0, .aload_n 0, 0, 0, 0, 1), (1, .getfield 36, 108, 150, 0, 4), (4, .bipush 24, 0, 0, 24, 6), (6, .if_icmp .lt 7, 0, 0, 0, 9), (6, .if_icmp .lt 7, 1, 0, 0, 13), (9, .iconst 1, 0, 0, 1, 10), (10, .goto 4, 0, 0, 0, 14), (13, .iconst 0, 0, 0, 0, 14), (14, .ireturn, 0, 0, 0, 15)]
set_option maxRecDepth 100000 in
theorem ck_Finds_isFull : cd_Finds_isFull.all (ab_ok 4) = true := by decide +kernel
def cd_Finds_add_0 : List ab_E := [(0, .aload_n 0, 0, 0, 0, 1), (1, .getfield 36, 108, 150, 0, 4), (4, .istore 6, 0, 0, 0, 6), (6, .aload_n 0, 0, 0, 0, 7), (7, .getfield 9, 100, 134, 0, 10), (10, .iload 6, 0, 0, 0, 12), (12, .iload_n 1, 0, 0, 0, 13), (13, .iastore, 0, 0, 0, 14), (14, .aload_n 0, 0, 0, 0, 15), (15, .getfield 15, 101, 136, 0, 18), (18, .iload 6, 0, 0, 0, 20), (20, .iload_n 2, 0, 0, 0, 21), (21, .iastore, 0, 0, 0, 22), (22, .aload_n 0, 0, 0, 0, 23), (23, .getfield 18, 102, 138, 0, 26), (26, .iload 6, 0, 0, 0, 28), (28, .iload_n 3, 0, 0, 0, 29), (29, .iastore, 0, 0, 0, 30), (30, .aload_n 0, 0, 0, 0, 31), (31, .getfield 21, 103, 140, 0, 34), (34, .iload 6, 0, 0, 0, 36), (36, .iload 4, 0, 0, 0, 38), (38, .iastore, 0, 0, 0, 39), (39, .aload_n 0, 0, 0, 0, 40), (40, .getfield 24, 104, 142, 0, 43), (43, .iload 6, 0, 0, 0, 45), (45, .iload 5, 0, 0, 0, 47), (47, .iastore, 0, 0, 0, 48), (48, .aload_n 0, 0, 0, 0, 49), (49, .getfield 27, 105, 144, 0, 52), (52, .iload 6, 0, 0, 0, 54), (54, .iconst 0, 0, 0, 0, 55), (55, .iastore, 0, 0, 0, 56), (56, .aload_n 0, 0, 0, 0, 57), (57, .getfield 30, 106, 146, 0, 60), (60, .iload 6, 0, 0, 0, 62), (62, .iconst (-1), 0, 0, (-1), 63), (63, .iastore, 0, 0, 0, 64), (64, .aload_n 0, 0, 0, 0, 65), (65, .getfield 33, 107, 148, 0, 68), (68, .iload 6, 0, 0, 0, 70), (70, .iload 6, 0, 0, 0, 72), (72, .iastore, 0, 0, 0, 73), (73, .aload_n 0, 0, 0, 0, 74), (74, .dup, 0, 0, 0, 75), (75, .getfield 36, 108, 150, 0, 78), (78, .iconst 1, 0, 0, 1, 79), (79, .iadd, 0, 0, 0, 80)]
set_option maxRecDepth 100000 in
theorem ck_Finds_add_0 : cd_Finds_add_0.all (ab_ok 5) = true := by decide +kernel
def cd_Finds_add_1 : List ab_E := [(80, .putfield 36, 108, 150, 0, 83), (83, .iload 6, 0, 0, 0, 85), (85, .ireturn, 0, 0, 0, 86)]
set_option maxRecDepth 100000 in
theorem ck_Finds_add_1 : cd_Finds_add_1.all (ab_ok 5) = true := by decide +kernel
/-- LostDesk$Finds.add -/
def cd_Finds_add : List ab_E := cd_Finds_add_0 ++ (cd_Finds_add_1)
theorem ck_Finds_add : cd_Finds_add.all (ab_ok 5) = true := ab_all_app ck_Finds_add_0 (ck_Finds_add_1)
/-- LostDesk$Finds.isKept -/
def cd_Finds_isKept : List ab_E := [(0, .aload_n 0, 0, 0, 0, 1), (1, .getfield 27, 105, 144, 0, 4), (4, .iload_n 1, 0, 0, 0, 5), (5, .iaload, 0, 0, 0, 6), (6, .ifCond .ne 7, 0, 0, 0, 9), (6, .ifCond .ne 7, 1, 0, 0, 13), (9, .iconst 1, 0, 0, 1, 10), (10, .goto 4, 0, 0, 0, 14), (13, .iconst 0, 0, 0, 0, 14), (14, .ireturn, 0, 0, 0, 15)]
set_option maxRecDepth 100000 in
theorem ck_Finds_isKept : cd_Finds_isKept.all (ab_ok 6) = true := by decide +kernel
/-- LostDesk$Finds.joinBags -/
def cd_Finds_joinBags : List ab_E := [(0, .aload_n 0, 0, 0, 0, 1), (1, .getfield 33, 107, 148, 0, 4), (4, .iload_n 1, 0, 0, 0, 5), (5, .iaload, 0, 0, 0, 6), (6, .aload_n 0, 0, 0, 0, 7), (7, .getfield 33, 107, 148, 0, 10), (10, .iload_n 2, 0, 0, 0, 11), (11, .iaload, 0, 0, 0, 12), (12, .invokestatic 40, 145, 698, 0, 15), (15, .istore_n 3, 0, 0, 0, 16), (16, .aload_n 0, 0, 0, 0, 17), (17, .getfield 33, 107, 148, 0, 20), (20, .iload_n 1, 0, 0, 0, 21), (21, .iaload, 0, 0, 0, 22), (22, .aload_n 0, 0, 0, 0, 23), (23, .getfield 33, 107, 148, 0, 26), (26, .iload_n 2, 0, 0, 0, 27), (27, .iaload, 0, 0, 0, 28), (28, .invokestatic 46, 144, 701, 0, 31), (31, .istore 4, 0, 0, 0, 33), (33, .iconst 0, 0, 0, 0, 34), (34, .istore 5, 0, 0, 0, 36), (36, .iload 5, 0, 0, 0, 38), (38, .aload_n 0, 0, 0, 0, 39), (39, .getfield 36, 108, 150, 0, 42), (42, .if_icmp .ge 29, 0, 0, 0, 45), (42, .if_icmp .ge 29, 1, 0, 0, 71), (45, .aload_n 0, 0, 0, 0, 46), (46, .getfield 33, 107, 148, 0, 49), (49, .iload 5, 0, 0, 0, 51), (51, .iaload, 0, 0, 0, 52), (52, .iload 4, 0, 0, 0, 54), (54, .if_icmp .ne 11, 0, 0, 0, 57), (54, .if_icmp .ne 11, 1, 0, 0, 65), (57, .aload_n 0, 0, 0, 0, 58), (58, .getfield 33, 107, 148, 0, 61), (61, .iload 5, 0, 0, 0, 63), (63, .iload_n 3, 0, 0, 0, 64), (64, .iastore, 0, 0, 0, 65), (65, .iinc 5 1, 0, 0, 1, 68), (68, .goto (-32), 0, 0, 0, 36), (71, .return_, 0, 0, 0, 72)]
set_option maxRecDepth 100000 in
theorem ck_Finds_joinBags : cd_Finds_joinBags.all (ab_ok 7) = true := by decide +kernel
/-- LostDesk$Finds.handBag -/
def cd_Finds_handBag : List ab_E := [(0, .iconst 0, 0, 0, 0, 1), (1, .istore_n 3, 0, 0, 0, 2), (2, .iload_n 3, 0, 0, 0, 3), (3, .aload_n 0, 0, 0, 0, 4), (4, .getfield 36, 108, 150, 0, 7), (7, .if_icmp .ge 38, 0, 0, 0, 10), (7, .if_icmp .ge 38, 1, 0, 0, 45), (10, .aload_n 0, 0, 0, 0, 11), (11, .getfield 33, 107, 148, 0, 14), (14, .iload_n 3, 0, 0, 0, 15), (15, .iaload, 0, 0, 0, 16), (16, .aload_n 0, 0, 0, 0, 17), (17, .getfield 33, 107, 148, 0, 20), (20, .iload_n 1, 0, 0, 0, 21), (21, .iaload, 0, 0, 0, 22), (22, .if_icmp .ne 17, 0, 0, 0, 25), (22, .if_icmp .ne 17, 1, 0, 0, 39), (25, .aload_n 0, 0, 0, 0, 26), (26, .getfield 27, 105, 144, 0, 29), (29, .iload_n 3, 0, 0, 0, 30), (30, .iconst 1, 0, 0, 1, 31), (31, .iastore, 0, 0, 0, 32), (32, .aload_n 0, 0, 0, 0, 33), (33, .getfield 30, 106, 146, 0, 36), (36, .iload_n 3, 0, 0, 0, 37), (37, .iload_n 2, 0, 0, 0, 38), (38, .iastore, 0, 0, 0, 39), (39, .iinc 3 1, 0, 0, 1, 42), (42, .goto (-40), 0, 0, 0, 2), (45, .return_, 0, 0, 0, 46)]
set_option maxRecDepth 100000 in
theorem ck_Finds_handBag : cd_Finds_handBag.all (ab_ok 8) = true := by decide +kernel
/-- LostDesk$Finds.dropBag -/
def cd_Finds_dropBag : List ab_E := [(0, .iconst 0, 0, 0, 0, 1), (1, .istore_n 2, 0, 0, 0, 2), (2, .iconst 0, 0, 0, 0, 3), (3, .istore_n 3, 0, 0, 0, 4), (4, .iload_n 3, 0, 0, 0, 5), (5, .aload_n 0, 0, 0, 0, 6), (6, .getfield 36, 108, 150, 0, 9), (9, .if_icmp .ge 34, 0, 0, 0, 12), (9, .if_icmp .ge 34, 1, 0, 0, 43), (12, .aload_n 0, 0, 0, 0, 13), (13, .getfield 33, 107, 148, 0, 16), (16, .iload_n 3, 0, 0, 0, 17), (17, .iaload, 0, 0, 0, 18), (18, .aload_n 0, 0, 0, 0, 19), (19, .getfield 33, 107, 148, 0, 22), (22, .iload_n 1, 0, 0, 0, 23), (23, .iaload, 0, 0, 0, 24), (24, .if_icmp .ne 13, 0, 0, 0, 27), (24, .if_icmp .ne 13, 1, 0, 0, 37), (27, .aload_n 0, 0, 0, 0, 28), (28, .getfield 27, 105, 144, 0, 31), (31, .iload_n 3, 0, 0, 0, 32), (32, .iconst 2, 0, 0, 2, 33), (33, .iastore, 0, 0, 0, 34), (34, .iinc 2 1, 0, 0, 1, 37), (37, .iinc 3 1, 0, 0, 1, 40), (40, .goto (-36), 0, 0, 0, 4), (43, .iload_n 2, 0, 0, 0, 44), (44, .ireturn, 0, 0, 0, 45)]
set_option maxRecDepth 100000 in
theorem ck_Finds_dropBag : cd_Finds_dropBag.all (ab_ok 9) = true := by decide +kernel
/-- LostDesk$Kinds.has -/
def cd_Kinds_has : List ab_E := [(0, .iload_n 1, 0, 0, 0, 1), (1, .ifCond .lt 15, 0, 0, 0, 4), (1, .ifCond .lt 15, 1, 0, 0, 16), (4, .iload_n 1, 0, 0, 0, 5), (5, .aload_n 0, 0, 0, 0, 6), (6, .getfield 22, 203, 84, 0, 9), (9, .if_icmp .ge 7, 0, 0, 0, 12), (9, .if_icmp .ge 7, 1, 0, 0, 16), (12, .iconst 1, 0, 0, 1, 13), (13, .goto 4, 0, 0, 0, 17), (16, .iconst 0, 0, 0, 0, 17), (17, .ireturn, 0, 0, 0, 18)]
set_option maxRecDepth 100000 in
theorem ck_Kinds_has : cd_Kinds_has.all (ab_ok 10) = true := by decide +kernel
/-- LostDesk$Kinds.isFull -/
def cd_Kinds_isFull : List ab_E := [(0, .aload_n 0, 0, 0, 0, 1), (1, .getfield 22, 203, 84, 0, 4), (4, .bipush 40, 0, 0, 40, 6), (6, .if_icmp .lt 7, 0, 0, 0, 9), (6, .if_icmp .lt 7, 1, 0, 0, 13), (9, .iconst 1, 0, 0, 1, 10), (10, .goto 4, 0, 0, 0, 14), (13, .iconst 0, 0, 0, 0, 14), (14, .ireturn, 0, 0, 0, 15)]
set_option maxRecDepth 100000 in
theorem ck_Kinds_isFull : cd_Kinds_isFull.all (ab_ok 11) = true := by decide +kernel
/-- LostDesk$Kinds.canBeAbove -/
def cd_Kinds_canBeAbove : List ab_E := [(0, .aload_n 0, 0, 0, 0, 1), (1, .getfield 22, 203, 84, 0, 4), (4, .ifCond .ne 16, 0, 0, 0, 7), (4, .ifCond .ne 16, 1, 0, 0, 20), (7, .iload_n 1, 0, 0, 0, 8), (8, .iconst (-1), 0, 0, (-1), 9), (9, .if_icmp .ne 7, 0, 0, 0, 12), (9, .if_icmp .ne 7, 1, 0, 0, 16), (12, .iconst 1, 0, 0, 1, 13), (13, .goto 12, 0, 0, 0, 25), (16, .iconst 0, 0, 0, 0, 17), (17, .goto 8, 0, 0, 0, 25), (20, .aload_n 0, 0, 0, 0, 21), (21, .iload_n 1, 0, 0, 0, 22), (22, .invokevirtual 26, 10, 349, 0, 25), (25, .ireturn, 0, 0, 0, 26)]
set_option maxRecDepth 100000 in
theorem ck_Kinds_canBeAbove : cd_Kinds_canBeAbove.all (ab_ok 12) = true := by decide +kernel
/-- LostDesk$Kinds.add -/
def cd_Kinds_add : List ab_E := [(0, .aload_n 0, 0, 0, 0, 1), (1, .getfield 22, 203, 84, 0, 4), (4, .istore_n 2, 0, 0, 0, 5), (5, .aload_n 0, 0, 0, 0, 6), (6, .iload_n 1, 0, 0, 0, 7), (7, .invokevirtual 26, 10, 349, 0, 10), (10, .ifCond .eq 12, 0, 0, 0, 13), (10, .ifCond .eq 12, 1, 0, 0, 22), (13, .aload_n 0, 0, 0, 0, 14), (14, .getfield 15, 201, 81, 0, 17), (17, .iload_n 1, 0, 0, 0, 18), (18, .laload, 0, 0, 0, 19), (19, .goto 4, 0, 0, 0, 23), (22, .lconst 0, 0, 0, 0, 23), (23, .lstore_n 3, 0, 0, 0, 24), (24, .aload_n 0, 0, 0, 0, 25), (25, .getfield 15, 201, 81, 0, 28), (28, .iload_n 2, 0, 0, 0, 29), (29, .lload_n 3, 0, 0, 0, 30), (30, .lconst 1, 1, 0, 0, 31), (31, .iload_n 2, 0, 0, 0, 32), (32, .lshl, 0, 0, 0, 33), (33, .lor, 0, 0, 0, 34), (34, .lastore, 0, 0, 0, 35), (35, .aload_n 0, 0, 0, 0, 36), (36, .getfield 9, 200, 80, 0, 39), (39, .iload_n 2, 0, 0, 0, 40), (40, .iload_n 1, 0, 0, 0, 41), (41, .iastore, 0, 0, 0, 42), (42, .aload_n 0, 0, 0, 0, 43), (43, .getfield 19, 202, 82, 0, 46), (46, .iload_n 2, 0, 0, 0, 47), (47, .iconst (-1), 0, 0, (-1), 48), (48, .iastore, 0, 0, 0, 49), (49, .aload_n 0, 0, 0, 0, 50), (50, .dup, 0, 0, 0, 51), (51, .getfield 22, 203, 84, 0, 54), (54, .iconst 1, 0, 0, 1, 55), (55, .iadd, 0, 0, 0, 56), (56, .putfield 22, 203, 84, 0, 59), (59, .iload_n 2, 0, 0, 0, 60), (60, .ireturn, 0, 0, 0, 61)]
set_option maxRecDepth 100000 in
theorem ck_Kinds_add : cd_Kinds_add.all (ab_ok 13) = true := by decide +kernel
/-- LostDesk$Kinds.steps -/
def cd_Kinds_steps : List ab_E := [(0, .aload_n 0, 0, 0, 0, 1), (1, .getfield 15, 201, 81, 0, 4), (4, .iload_n 1, 0, 0, 0, 5), (5, .laload, 0, 0, 0, 6), (6, .iload_n 2, 0, 0, 0, 7), (7, .lushr, 0, 0, 0, 8), (8, .lconst 1, 1, 0, 0, 9), (9, .land, 0, 0, 0, 10), (10, .lconst 0, 0, 0, 0, 11), (11, .lcmp, 0, 0, 0, 12), (12, .ifCond .ne 18, 0, 0, 0, 15), (12, .ifCond .ne 18, 1, 0, 0, 30), (15, .aload_n 0, 0, 0, 0, 16), (16, .getfield 15, 201, 81, 0, 19), (19, .iload_n 2, 0, 0, 0, 20), (20, .laload, 0, 0, 0, 21), (21, .iload_n 1, 0, 0, 0, 22), (22, .lushr, 0, 0, 0, 23), (23, .lconst 1, 1, 0, 0, 24), (24, .land, 0, 0, 0, 25), (25, .lconst 0, 0, 0, 0, 26), (26, .lcmp, 0, 0, 0, 27), (27, .ifCond .eq 7, 0, 0, 0, 30), (27, .ifCond .eq 7, 1, 0, 0, 34), (30, .iconst 1, 0, 0, 1, 31), (31, .goto 4, 0, 0, 0, 35), (34, .iconst 0, 0, 0, 0, 35), (35, .istore_n 3, 0, 0, 0, 36), (36, .iload_n 3, 0, 0, 0, 37), (37, .ifCond .eq 28, 0, 0, 0, 40), (37, .ifCond .eq 28, 1, 0, 0, 65), (40, .aload_n 0, 0, 0, 0, 41), (41, .getfield 15, 201, 81, 0, 44), (44, .iload_n 1, 0, 0, 0, 45), (45, .laload, 0, 0, 0, 46), (46, .invokestatic 30, 142, 506, 0, 49), (49, .aload_n 0, 0, 0, 0, 50), (50, .getfield 15, 201, 81, 0, 53), (53, .iload_n 2, 0, 0, 0, 54), (54, .laload, 0, 0, 0, 55), (55, .invokestatic 30, 142, 506, 0, 58), (58, .isub, 0, 0, 0, 59), (59, .invokestatic 36, 143, 512, 0, 62), (62, .goto 4, 0, 0, 0, 66), (65, .iconst (-1), 0, 0, (-1), 66), (66, .ireturn, 0, 0, 0, 67)]
set_option maxRecDepth 100000 in
theorem ck_Kinds_steps : cd_Kinds_steps.all (ab_ok 14) = true := by decide +kernel
/-- LostDesk$Kinds.keepingOf -/
def cd_Kinds_keepingOf : List ab_E := [(0, .iload_n 1, 0, 0, 0, 1), (1, .istore_n 2, 0, 0, 0, 2), (2, .iconst 0, 0, 0, 0, 3), (3, .istore_n 3, 0, 0, 0, 4), (4, .iload_n 3, 0, 0, 0, 5), (5, .bipush 40, 0, 0, 40, 7), (7, .if_icmp .ge 41, 0, 0, 0, 10), (7, .if_icmp .ge 41, 1, 0, 0, 48), (10, .aload_n 0, 0, 0, 0, 11), (11, .iload_n 2, 0, 0, 0, 12), (12, .invokevirtual 26, 10, 349, 0, 15), (15, .ifCond .eq 33, 0, 0, 0, 18), (15, .ifCond .eq 33, 1, 0, 0, 48), (18, .aload_n 0, 0, 0, 0, 19), (19, .getfield 19, 202, 82, 0, 22), (22, .iload_n 2, 0, 0, 0, 23), (23, .iaload, 0, 0, 0, 24), (24, .iconst (-1), 0, 0, (-1), 25), (25, .if_icmp .eq 10, 0, 0, 0, 28), (25, .if_icmp .eq 10, 1, 0, 0, 35), (28, .aload_n 0, 0, 0, 0, 29), (29, .getfield 19, 202, 82, 0, 32), (32, .iload_n 2, 0, 0, 0, 33), (33, .iaload, 0, 0, 0, 34), (34, .ireturn, 0, 0, 0, 35), (35, .aload_n 0, 0, 0, 0, 36), (36, .getfield 9, 200, 80, 0, 39), (39, .iload_n 2, 0, 0, 0, 40), (40, .iaload, 0, 0, 0, 41), (41, .istore_n 2, 0, 0, 0, 42), (42, .iinc 3 1, 0, 0, 1, 45), (45, .goto (-41), 0, 0, 0, 4), (48, .bipush 30, 0, 0, 30, 50), (50, .ireturn, 0, 0, 0, 51)]
set_option maxRecDepth 100000 in
theorem ck_Kinds_keepingOf : cd_Kinds_keepingOf.all (ab_ok 15) = true := by decide +kernel
/-- LostDesk$Losses.has -/
def cd_Losses_has : List ab_E := [(0, .iload_n 1, 0, 0, 0, 1), (1, .ifCond .lt 15, 0, 0, 0, 4), (1, .ifCond .lt 15, 1, 0, 0, 16), (4, .iload_n 1, 0, 0, 0, 5), (5, .aload_n 0, 0, 0, 0, 6), (6, .getfield 34, 307, 191, 0, 9), (9, .if_icmp .ge 7, 0, 0, 0, 12), (9, .if_icmp .ge 7, 1, 0, 0, 16), (12, .iconst 1, 0, 0, 1, 13), (13, .goto 4, 0, 0, 0, 17), (16, .iconst 0, 0, 0, 0, 17), (17, .ireturn, 0, 0, 0, 18)]
set_option maxRecDepth 100000 in
theorem ck_Losses_has : cd_Losses_has.all (ab_ok 16) = true := by decide +kernel
/-- LostDesk$Losses.isFull -/
def cd_Losses_isFull : List ab_E := [(0, .aload_n 0, 0, 0, 0, 1), (1, .getfield 34, 307, 191, 0, 4), (4, .bipush 24, 0, 0, 24, 6), (6, .if_icmp .lt 7, 0, 0, 0, 9), (6, .if_icmp .lt 7, 1, 0, 0, 13), (9, .iconst 1, 0, 0, 1, 10), (10, .goto 4, 0, 0, 0, 14), (13, .iconst 0, 0, 0, 0, 14), (14, .ireturn, 0, 0, 0, 15)]
set_option maxRecDepth 100000 in
theorem ck_Losses_isFull : cd_Losses_isFull.all (ab_ok 17) = true := by decide +kernel
/-- LostDesk$Losses.add -/
def cd_Losses_add : List ab_E := [(0, .aload_n 0, 0, 0, 0, 1), (1, .getfield 34, 307, 191, 0, 4), (4, .istore 7, 0, 0, 0, 6), (6, .aload_n 0, 0, 0, 0, 7), (7, .getfield 9, 300, 177, 0, 10), (10, .iload 7, 0, 0, 0, 12), (12, .iload_n 1, 0, 0, 0, 13), (13, .iastore, 0, 0, 0, 14), (14, .aload_n 0, 0, 0, 0, 15), (15, .getfield 15, 301, 179, 0, 18), (18, .iload 7, 0, 0, 0, 20), (20, .iload_n 2, 0, 0, 0, 21), (21, .iastore, 0, 0, 0, 22), (22, .aload_n 0, 0, 0, 0, 23), (23, .getfield 18, 302, 181, 0, 26), (26, .iload 7, 0, 0, 0, 28), (28, .iload_n 3, 0, 0, 0, 29), (29, .iastore, 0, 0, 0, 30), (30, .aload_n 0, 0, 0, 0, 31), (31, .getfield 21, 303, 183, 0, 34), (34, .iload 7, 0, 0, 0, 36), (36, .iload 4, 0, 0, 0, 38), (38, .iastore, 0, 0, 0, 39), (39, .aload_n 0, 0, 0, 0, 40), (40, .getfield 24, 304, 185, 0, 43), (43, .iload 7, 0, 0, 0, 45), (45, .iload 5, 0, 0, 0, 47), (47, .iastore, 0, 0, 0, 48), (48, .aload_n 0, 0, 0, 0, 49), (49, .getfield 27, 305, 187, 0, 52), (52, .iload 7, 0, 0, 0, 54), (54, .iload 6, 0, 0, 0, 56), (56, .iastore, 0, 0, 0, 57), (57, .aload_n 0, 0, 0, 0, 58), (58, .getfield 30, 306, 189, 0, 61), (61, .iload 7, 0, 0, 0, 63), (63, .iconst 0, 0, 0, 0, 64), (64, .bastore, 0, 0, 0, 65), (65, .aload_n 0, 0, 0, 0, 66), (66, .dup, 0, 0, 0, 67), (67, .getfield 34, 307, 191, 0, 70), (70, .iconst 1, 0, 0, 1, 71), (71, .iadd, 0, 0, 0, 72), (72, .putfield 34, 307, 191, 0, 75), (75, .iload 7, 0, 0, 0, 77), (77, .ireturn, 0, 0, 0, 78)]
set_option maxRecDepth 100000 in
theorem ck_Losses_add : cd_Losses_add.all (ab_ok 18) = true := by decide +kernel
/-- LostDesk$MarkSearch.clear -/
def cd_MarkSearch_clear : List ab_E := [(0, .aload_n 0, 0, 0, 0, 1), (1, .getfield 9, 400, 271, 0, 4), (4, .iconst 0, 0, 0, 0, 5), (5, .invokestatic 28, 146, 655, 0, 8), (8, .aload_n 0, 0, 0, 0, 9), (9, .iconst 0, 0, 0, 0, 10), (10, .putfield 18, 402, 273, 0, 13), (13, .return_, 0, 0, 0, 14)]
set_option maxRecDepth 100000 in
theorem ck_MarkSearch_clear : cd_MarkSearch_clear.all (ab_ok 19) = true := by decide +kernel
/-- LostDesk$MarkSearch.add -/
def cd_MarkSearch_add : List ab_E := [(0, .aload_n 0, 0, 0, 0, 1), (1, .dup, 0, 0, 0, 2), (2, .getfield 18, 402, 273, 0, 5), (5, .iconst 1, 0, 0, 1, 6), (6, .iadd, 0, 0, 0, 7), (7, .putfield 18, 402, 273, 0, 10), (10, .iconst 0, 0, 0, 0, 11), (11, .istore_n 3, 0, 0, 0, 12), (12, .iload_n 3, 0, 0, 0, 13), (13, .bipush 16, 0, 0, 16, 15), (15, .if_icmp .ge 29, 0, 0, 0, 18), (15, .if_icmp .ge 29, 1, 0, 0, 44), (18, .iload_n 2, 0, 0, 0, 19), (19, .iload_n 3, 0, 0, 0, 20), (20, .iushr, 0, 0, 0, 21), (21, .iconst 1, 0, 0, 1, 22), (22, .iand, 0, 0, 0, 23), (23, .ifCond .eq 15, 0, 0, 0, 26), (23, .ifCond .eq 15, 1, 0, 0, 38), (26, .aload_n 0, 0, 0, 0, 27), (27, .getfield 9, 400, 271, 0, 30), (30, .iload_n 3, 0, 0, 0, 31), (31, .dup2, 0, 0, 0, 32), (32, .iaload, 0, 0, 0, 33), (33, .iconst 1, 0, 0, 1, 34), (34, .iload_n 1, 0, 0, 0, 35), (35, .ishl, 0, 0, 0, 36), (36, .ior, 0, 0, 0, 37), (37, .iastore, 0, 0, 0, 38), (38, .iinc 3 1, 0, 0, 1, 41), (41, .goto (-29), 0, 0, 0, 12), (44, .return_, 0, 0, 0, 45)]
set_option maxRecDepth 100000 in
theorem ck_MarkSearch_add : cd_MarkSearch_add.all (ab_ok 20) = true := by decide +kernel
/-- LostDesk$MarkSearch.fewestMarks -/
def cd_MarkSearch_fewestMarks : List ab_E := [(0, .aload_n 0, 0, 0, 0, 1), (1, .aload_n 0, 0, 0, 0, 2), (2, .getfield 18, 402, 273, 0, 5), (5, .iload_n 1, 0, 0, 0, 6), (6, .isub, 0, 0, 0, 7), (7, .putfield 22, 403, 274, 0, 10), (10, .aload_n 0, 0, 0, 0, 11), (11, .invokevirtual 34, 22, 664, 0, 14), (14, .iconst 0, 0, 0, 0, 15), (15, .istore_n 2, 0, 0, 0, 16), (16, .iload_n 2, 0, 0, 0, 17), (17, .bipush 16, 0, 0, 16, 19), (19, .if_icmp .gt 25, 0, 0, 0, 22), (19, .if_icmp .gt 25, 1, 0, 0, 44), (22, .aload_n 0, 0, 0, 0, 23), (23, .iload_n 2, 0, 0, 0, 24), (24, .bipush 16, 0, 0, 16, 26), (26, .iconst 0, 0, 0, 0, 27), (27, .invokevirtual 37, 23, 670, 0, 30), (30, .istore_n 3, 0, 0, 0, 31), (31, .iload_n 3, 0, 0, 0, 32), (32, .iconst (-1), 0, 0, (-1), 33), (33, .if_icmp .eq 5, 0, 0, 0, 36), (33, .if_icmp .eq 5, 1, 0, 0, 38), (36, .iload_n 3, 0, 0, 0, 37), (37, .ireturn, 0, 0, 0, 38), (38, .iinc 2 1, 0, 0, 1, 41), (41, .goto (-25), 0, 0, 0, 16), (44, .iconst (-1), 0, 0, (-1), 45), (45, .ireturn, 0, 0, 0, 46)]
set_option maxRecDepth 100000 in
theorem ck_MarkSearch_fewestMarks : cd_MarkSearch_fewestMarks.all (ab_ok 21) = true := by decide +kernel
/-- LostDesk$MarkSearch.sumUp -/
def cd_MarkSearch_sumUp : List ab_E := [(0, .aload_n 0, 0, 0, 0, 1), (1, .iconst 0, 0, 0, 0, 2), (2, .putfield 25, 404, 275, 0, 5), (5, .iconst 0, 0, 0, 0, 6), (6, .istore_n 1, 0, 0, 0, 7), (7, .iload_n 1, 0, 0, 0, 8), (8, .bipush 16, 0, 0, 16, 10), (10, .if_icmp .ge 50, 0, 0, 0, 13), (10, .if_icmp .ge 50, 1, 0, 0, 60), (13, .aload_n 0, 0, 0, 0, 14), (14, .getfield 15, 401, 272, 0, 17), (17, .iload_n 1, 0, 0, 0, 18), (18, .iconst 1, 0, 0, 1, 19), (19, .iadd, 0, 0, 0, 20), (20, .aload_n 0, 0, 0, 0, 21), (21, .getfield 15, 401, 272, 0, 24), (24, .iload_n 1, 0, 0, 0, 25), (25, .iaload, 0, 0, 0, 26), (26, .aload_n 0, 0, 0, 0, 27), (27, .getfield 9, 400, 271, 0, 30), (30, .iload_n 1, 0, 0, 0, 31), (31, .iaload, 0, 0, 0, 32), (32, .ior, 0, 0, 0, 33), (33, .iastore, 0, 0, 0, 34), (34, .aload_n 0, 0, 0, 0, 35), (35, .aload_n 0, 0, 0, 0, 36), (36, .getfield 25, 404, 275, 0, 39), (39, .aload_n 0, 0, 0, 0, 40), (40, .getfield 9, 400, 271, 0, 43), (43, .iload_n 1, 0, 0, 0, 44), (44, .iaload, 0, 0, 0, 45), (45, .invokestatic 41, 141, 668, 0, 48), (48, .invokestatic 47, 144, 669, 0, 51), (51, .putfield 25, 404, 275, 0, 54), (54, .iinc 1 1, 0, 0, 1, 57), (57, .goto (-50), 0, 0, 0, 7), (60, .return_, 0, 0, 0, 61)]
set_option maxRecDepth 100000 in
theorem ck_MarkSearch_sumUp : cd_MarkSearch_sumUp.all (ab_ok 22) = true := by decide +kernel
def cd_MarkSearch_leastSum_0 : List ab_E := [(0, .iload_n 3, 0, 0, 0, 1), (1, .invokestatic 41, 141, 668, 0, 4), (4, .istore 4, 0, 0, 0, 6), (6, .iload_n 1, 0, 0, 0, 7), (7, .ifCond .gt 18, 0, 0, 0, 10), (7, .ifCond .gt 18, 1, 0, 0, 25), (10, .iload 4, 0, 0, 0, 12), (12, .aload_n 0, 0, 0, 0, 13), (13, .getfield 22, 403, 274, 0, 16), (16, .if_icmp .lt 7, 0, 0, 0, 19), (16, .if_icmp .lt 7, 1, 0, 0, 23), (19, .iconst 0, 0, 0, 0, 20), (20, .goto 4, 0, 0, 0, 24), (23, .iconst (-1), 0, 0, (-1), 24), (24, .ireturn, 0, 0, 0, 25), (25, .iload 4, 0, 0, 0, 27), (27, .iload_n 1, 0, 0, 0, 28), (28, .aload_n 0, 0, 0, 0, 29), (29, .getfield 25, 404, 275, 0, 32), (32, .imul, 0, 0, 0, 33), (33, .iadd, 0, 0, 0, 34), (34, .aload_n 0, 0, 0, 0, 35), (35, .getfield 22, 403, 274, 0, 38), (38, .if_icmp .ge 5, 0, 0, 0, 41), (38, .if_icmp .ge 5, 1, 0, 0, 43), (41, .iconst (-1), 0, 0, (-1), 42), (42, .ireturn, 0, 0, 0, 43), (43, .iload_n 3, 0, 0, 0, 44), (44, .aload_n 0, 0, 0, 0, 45), (45, .getfield 15, 401, 272, 0, 48), (48, .iload_n 2, 0, 0, 0, 49), (49, .iaload, 0, 0, 0, 50), (50, .ior, 0, 0, 0, 51), (51, .invokestatic 41, 141, 668, 0, 54), (54, .aload_n 0, 0, 0, 0, 55), (55, .getfield 22, 403, 274, 0, 58), (58, .if_icmp .ge 5, 0, 0, 0, 61), (58, .if_icmp .ge 5, 1, 0, 0, 63), (61, .iconst (-1), 0, 0, (-1), 62), (62, .ireturn, 0, 0, 0, 63), (63, .iload_n 1, 0, 0, 0, 64), (64, .iconst 1, 0, 0, 1, 65), (65, .isub, 0, 0, 0, 66), (66, .istore 5, 0, 0, 0, 68), (68, .iload 5, 0, 0, 0, 70), (70, .iload_n 2, 0, 0, 0, 71), (71, .if_icmp .ge 43, 0, 0, 0, 74), (71, .if_icmp .ge 43, 1, 0, 0, 114)]
set_option maxRecDepth 100000 in
theorem ck_MarkSearch_leastSum_0 : cd_MarkSearch_leastSum_0.all (ab_ok 23) = true := by decide +kernel
def cd_MarkSearch_leastSum_1 : List ab_E := [(74, .aload_n 0, 0, 0, 0, 75), (75, .iload_n 1, 0, 0, 0, 76), (76, .iconst 1, 0, 0, 1, 77), (77, .isub, 0, 0, 0, 78), (78, .iload 5, 0, 0, 0, 80), (80, .iload_n 3, 0, 0, 0, 81), (81, .aload_n 0, 0, 0, 0, 82), (82, .getfield 9, 400, 271, 0, 85), (85, .iload 5, 0, 0, 0, 87), (87, .iaload, 0, 0, 0, 88), (88, .ior, 0, 0, 0, 89), (89, .invokevirtual 37, 23, 670, 0, 92), (92, .istore 6, 0, 0, 0, 94), (94, .iload 6, 0, 0, 0, 96), (96, .iconst (-1), 0, 0, (-1), 97), (97, .if_icmp .eq 11, 0, 0, 0, 100), (97, .if_icmp .eq 11, 1, 0, 0, 108), (100, .iload 6, 0, 0, 0, 102), (102, .iconst 1, 0, 0, 1, 103), (103, .iload 5, 0, 0, 0, 105), (105, .ishl, 0, 0, 0, 106), (106, .ior, 0, 0, 0, 107), (107, .ireturn, 0, 0, 0, 108), (108, .iinc 5 1, 0, 0, 1, 111), (111, .goto (-43), 0, 0, 0, 68), (114, .iconst (-1), 0, 0, (-1), 115), (115, .ireturn, 0, 0, 0, 116)]
set_option maxRecDepth 100000 in
theorem ck_MarkSearch_leastSum_1 : cd_MarkSearch_leastSum_1.all (ab_ok 23) = true := by decide +kernel
/-- LostDesk$MarkSearch.leastSum -/
def cd_MarkSearch_leastSum : List ab_E := cd_MarkSearch_leastSum_0 ++ (cd_MarkSearch_leastSum_1)
theorem ck_MarkSearch_leastSum : cd_MarkSearch_leastSum.all (ab_ok 23) = true := ab_all_app ck_MarkSearch_leastSum_0 (ck_MarkSearch_leastSum_1)
/-- LostDesk$Matcher.begin -/
def cd_Matcher_begin : List ab_E := [(0, .aload_n 0, 0, 0, 0, 1), (1, .iload_n 1, 0, 0, 0, 2), (2, .putfield 51, 512, 230, 0, 5), (5, .aload_n 0, 0, 0, 0, 6), (6, .iload_n 2, 0, 0, 0, 7), (7, .putfield 55, 513, 231, 0, 10), (10, .return_, 0, 0, 0, 11)]
set_option maxRecDepth 100000 in
theorem ck_Matcher_begin : cd_Matcher_begin.all (ab_ok 24) = true := by decide +kernel
/-- LostDesk$Matcher.setLoss -/
def cd_Matcher_setLoss : List ab_E := [(0, .aload_n 0, 0, 0, 0, 1), (1, .getfield 16, 501, 218, 0, 4), (4, .iload_n 1, 0, 0, 0, 5), (5, .iload_n 2, 0, 0, 0, 6), (6, .bastore, 0, 0, 0, 7), (7, .aload_n 0, 0, 0, 0, 8), (8, .getfield 11, 500, 217, 0, 11), (11, .iload_n 1, 0, 0, 0, 12), (12, .aaload, 0, 0, 0, 13), (13, .aload_n 0, 0, 0, 0, 14), (14, .getfield 55, 513, 231, 0, 17), (17, .iload_n 3, 0, 0, 0, 18), (18, .iastore, 0, 0, 0, 19), (19, .return_, 0, 0, 0, 20)]
set_option maxRecDepth 100000 in
theorem ck_Matcher_setLoss : cd_Matcher_setLoss.all (ab_ok 25) = true := by decide +kernel
/-- LostDesk$Matcher.setPrice -/
def cd_Matcher_setPrice : List ab_E := [(0, .aload_n 0, 0, 0, 0, 1), (1, .getfield 11, 500, 217, 0, 4), (4, .iload_n 1, 0, 0, 0, 5), (5, .aaload, 0, 0, 0, 6), (6, .iload_n 2, 0, 0, 0, 7), (7, .iload_n 3, 0, 0, 0, 8), (8, .iconst (-1), 0, 0, (-1), 9), (9, .if_icmp .ne 8, 0, 0, 0, 12), (9, .if_icmp .ne 8, 1, 0, 0, 17), (12, .ldc 61, 0, 557, 1000000, 14), (14, .goto 4, 0, 0, 0, 18), (17, .iload_n 3, 0, 0, 0, 18), (18, .iastore, 0, 0, 0, 19), (19, .return_, 0, 0, 0, 20)]
set_option maxRecDepth 100000 in
theorem ck_Matcher_setPrice : cd_Matcher_setPrice.all (ab_ok 26) = true := by decide +kernel
def cd_Matcher_findBest_0 : List ab_E := [(0, .aload_n 0, 0, 0, 0, 1), (1, .invokevirtual 62, 29, 562, 0, 4), (4, .iconst 0, 0, 0, 0, 5), (5, .istore_n 1, 0, 0, 0, 6), (6, .iload_n 1, 0, 0, 0, 7), (7, .aload_n 0, 0, 0, 0, 8), (8, .getfield 51, 512, 230, 0, 11), (11, .if_icmp .ge 24, 0, 0, 0, 14), (11, .if_icmp .ge 24, 1, 0, 0, 35), (14, .aload_n 0, 0, 0, 0, 15), (15, .getfield 24, 503, 221, 0, 18), (18, .iload_n 1, 0, 0, 0, 19), (19, .iaload, 0, 0, 0, 20), (20, .iconst (-1), 0, 0, (-1), 21), (21, .if_icmp .eq 8, 0, 0, 0, 24), (21, .if_icmp .eq 8, 1, 0, 0, 29), (24, .aload_n 0, 0, 0, 0, 25), (25, .iload_n 1, 0, 0, 0, 26), (26, .invokevirtual 65, 39, 595, 0, 29), (29, .iinc 1 1, 0, 0, 1, 32), (32, .goto (-26), 0, 0, 0, 6), (35, .aload_n 0, 0, 0, 0, 36), (36, .aload_n 0, 0, 0, 0, 37), (37, .invokevirtual 69, 30, 619, 0, 40), (40, .putfield 58, 514, 232, 0, 43), (43, .iconst 0, 0, 0, 0, 44), (44, .istore_n 1, 0, 0, 0, 45), (45, .iload_n 1, 0, 0, 0, 46), (46, .aload_n 0, 0, 0, 0, 47), (47, .getfield 51, 512, 230, 0, 50), (50, .if_icmp .ge 38, 0, 0, 0, 53), (50, .if_icmp .ge 38, 1, 0, 0, 88), (53, .aload_n 0, 0, 0, 0, 54), (54, .getfield 20, 502, 219, 0, 57), (57, .iload_n 1, 0, 0, 0, 58), (58, .aload_n 0, 0, 0, 0, 59), (59, .getfield 24, 503, 221, 0, 62), (62, .iload_n 1, 0, 0, 0, 63), (63, .iaload, 0, 0, 0, 64), (64, .aload_n 0, 0, 0, 0, 65), (65, .getfield 55, 513, 231, 0, 68), (68, .if_icmp .ne 7, 0, 0, 0, 71), (68, .if_icmp .ne 7, 1, 0, 0, 75), (71, .iconst (-1), 0, 0, (-1), 72), (72, .goto 9, 0, 0, 0, 81), (75, .aload_n 0, 0, 0, 0, 76), (76, .getfield 24, 503, 221, 0, 79), (79, .iload_n 1, 0, 0, 0, 80)]
set_option maxRecDepth 100000 in
theorem ck_Matcher_findBest_0 : cd_Matcher_findBest_0.all (ab_ok 27) = true := by decide +kernel
def cd_Matcher_findBest_1 : List ab_E := [(80, .iaload, 0, 0, 0, 81), (81, .iastore, 0, 0, 0, 82), (82, .iinc 1 1, 0, 0, 1, 85), (85, .goto (-40), 0, 0, 0, 45), (88, .return_, 0, 0, 0, 89)]
set_option maxRecDepth 100000 in
theorem ck_Matcher_findBest_1 : cd_Matcher_findBest_1.all (ab_ok 27) = true := by decide +kernel
/-- LostDesk$Matcher.findBest -/
def cd_Matcher_findBest : List ab_E := cd_Matcher_findBest_0 ++ (cd_Matcher_findBest_1)
theorem ck_Matcher_findBest : cd_Matcher_findBest.all (ab_ok 27) = true := ab_all_app ck_Matcher_findBest_0 (ck_Matcher_findBest_1)
/-- LostDesk$Matcher.leastCostWithout -/
def cd_Matcher_leastCostWithout : List ab_E := [(0, .aload_n 0, 0, 0, 0, 1), (1, .getfield 11, 500, 217, 0, 4), (4, .iload_n 1, 0, 0, 0, 5), (5, .aaload, 0, 0, 0, 6), (6, .iload_n 2, 0, 0, 0, 7), (7, .iaload, 0, 0, 0, 8), (8, .istore_n 3, 0, 0, 0, 9), (9, .aload_n 0, 0, 0, 0, 10), (10, .getfield 11, 500, 217, 0, 13), (13, .iload_n 1, 0, 0, 0, 14), (14, .aaload, 0, 0, 0, 15), (15, .iload_n 2, 0, 0, 0, 16), (16, .ldc 61, 0, 557, 1000000, 18), (18, .iastore, 0, 0, 0, 19), (19, .aload_n 0, 0, 0, 0, 20), (20, .invokevirtual 62, 29, 562, 0, 23), (23, .aload_n 0, 0, 0, 0, 24), (24, .getfield 11, 500, 217, 0, 27), (27, .iload_n 1, 0, 0, 0, 28), (28, .aaload, 0, 0, 0, 29), (29, .iload_n 2, 0, 0, 0, 30), (30, .iload_n 3, 0, 0, 0, 31), (31, .iastore, 0, 0, 0, 32), (32, .aload_n 0, 0, 0, 0, 33), (33, .invokevirtual 69, 30, 619, 0, 36), (36, .ireturn, 0, 0, 0, 37)]
set_option maxRecDepth 100000 in
theorem ck_Matcher_leastCostWithout : cd_Matcher_leastCostWithout.all (ab_ok 28) = true := by decide +kernel
/-- LostDesk$Matcher.seatAll -/
def cd_Matcher_seatAll : List ab_E := [(0, .aload_n 0, 0, 0, 0, 1), (1, .getfield 30, 505, 223, 0, 4), (4, .iconst 0, 0, 0, 0, 5), (5, .invokestatic 73, 146, 566, 0, 8), (8, .aload_n 0, 0, 0, 0, 9), (9, .getfield 33, 506, 224, 0, 12), (12, .iconst 0, 0, 0, 0, 13), (13, .invokestatic 73, 146, 566, 0, 16), (16, .aload_n 0, 0, 0, 0, 17), (17, .getfield 27, 504, 222, 0, 20), (20, .iconst (-1), 0, 0, (-1), 21), (21, .invokestatic 73, 146, 566, 0, 24), (24, .aload_n 0, 0, 0, 0, 25), (25, .getfield 24, 503, 221, 0, 28), (28, .iconst (-1), 0, 0, (-1), 29), (29, .invokestatic 73, 146, 566, 0, 32), (32, .iconst 0, 0, 0, 0, 33), (33, .istore_n 1, 0, 0, 0, 34), (34, .iload_n 1, 0, 0, 0, 35), (35, .aload_n 0, 0, 0, 0, 36), (36, .getfield 51, 512, 230, 0, 39), (39, .if_icmp .ge 23, 0, 0, 0, 42), (39, .if_icmp .ge 23, 1, 0, 0, 62), (42, .aload_n 0, 0, 0, 0, 43), (43, .getfield 16, 501, 218, 0, 46), (46, .iload_n 1, 0, 0, 0, 47), (47, .baload, 0, 0, 0, 48), (48, .ifCond .eq 8, 0, 0, 0, 51), (48, .ifCond .eq 8, 1, 0, 0, 56), (51, .aload_n 0, 0, 0, 0, 52), (52, .iload_n 1, 0, 0, 0, 53), (53, .invokevirtual 79, 35, 567, 0, 56), (56, .iinc 1 1, 0, 0, 1, 59), (59, .goto (-25), 0, 0, 0, 34), (62, .return_, 0, 0, 0, 63)]
set_option maxRecDepth 100000 in
theorem ck_Matcher_seatAll : cd_Matcher_seatAll.all (ab_ok 29) = true := by decide +kernel
/-- LostDesk$Matcher.seatingCost -/
def cd_Matcher_seatingCost : List ab_E := [(0, .iconst 0, 0, 0, 0, 1), (1, .istore_n 1, 0, 0, 0, 2), (2, .iconst 0, 0, 0, 0, 3), (3, .istore_n 2, 0, 0, 0, 4), (4, .iload_n 2, 0, 0, 0, 5), (5, .aload_n 0, 0, 0, 0, 6), (6, .getfield 51, 512, 230, 0, 9), (9, .if_icmp .ge 32, 0, 0, 0, 12), (9, .if_icmp .ge 32, 1, 0, 0, 41), (12, .aload_n 0, 0, 0, 0, 13), (13, .getfield 24, 503, 221, 0, 16), (16, .iload_n 2, 0, 0, 0, 17), (17, .iaload, 0, 0, 0, 18), (18, .istore_n 3, 0, 0, 0, 19), (19, .iload_n 3, 0, 0, 0, 20), (20, .iconst (-1), 0, 0, (-1), 21), (21, .if_icmp .eq 14, 0, 0, 0, 24), (21, .if_icmp .eq 14, 1, 0, 0, 35), (24, .iload_n 1, 0, 0, 0, 25), (25, .aload_n 0, 0, 0, 0, 26), (26, .getfield 11, 500, 217, 0, 29), (29, .iload_n 2, 0, 0, 0, 30), (30, .aaload, 0, 0, 0, 31), (31, .iload_n 3, 0, 0, 0, 32), (32, .iaload, 0, 0, 0, 33), (33, .iadd, 0, 0, 0, 34), (34, .istore_n 1, 0, 0, 0, 35), (35, .iinc 2 1, 0, 0, 1, 38), (38, .goto (-34), 0, 0, 0, 4), (41, .iload_n 1, 0, 0, 0, 42), (42, .ireturn, 0, 0, 0, 43)]
set_option maxRecDepth 100000 in
theorem ck_Matcher_seatingCost : cd_Matcher_seatingCost.all (ab_ok 30) = true := by decide +kernel
/-- LostDesk$Matcher.slack -/
def cd_Matcher_slack : List ab_E := [(0, .aload_n 0, 0, 0, 0, 1), (1, .getfield 11, 500, 217, 0, 4), (4, .iload_n 1, 0, 0, 0, 5), (5, .aaload, 0, 0, 0, 6), (6, .iload_n 2, 0, 0, 0, 7), (7, .iaload, 0, 0, 0, 8), (8, .aload_n 0, 0, 0, 0, 9), (9, .getfield 30, 505, 223, 0, 12), (12, .iload_n 1, 0, 0, 0, 13), (13, .iaload, 0, 0, 0, 14), (14, .isub, 0, 0, 0, 15), (15, .aload_n 0, 0, 0, 0, 16), (16, .getfield 33, 506, 224, 0, 19), (19, .iload_n 2, 0, 0, 0, 20), (20, .iaload, 0, 0, 0, 21), (21, .isub, 0, 0, 0, 22), (22, .ireturn, 0, 0, 0, 23)]
set_option maxRecDepth 100000 in
theorem ck_Matcher_slack : cd_Matcher_slack.all (ab_ok 31) = true := by decide +kernel
/-- LostDesk$Matcher.isEmpty -/
def cd_Matcher_isEmpty : List ab_E := [(0, .iload_n 1, 0, 0, 0, 1), (1, .aload_n 0, 0, 0, 0, 2), (2, .getfield 55, 513, 231, 0, 5), (5, .if_icmp .eq 13, 0, 0, 0, 8), (5, .if_icmp .eq 13, 1, 0, 0, 18), (8, .aload_n 0, 0, 0, 0, 9), (9, .getfield 27, 504, 222, 0, 12), (12, .iload_n 1, 0, 0, 0, 13), (13, .iaload, 0, 0, 0, 14), (14, .iconst (-1), 0, 0, (-1), 15), (15, .if_icmp .ne 7, 0, 0, 0, 18), (15, .if_icmp .ne 7, 1, 0, 0, 22), (18, .iconst 1, 0, 0, 1, 19), (19, .goto 4, 0, 0, 0, 23), (22, .iconst 0, 0, 0, 0, 23), (23, .ireturn, 0, 0, 0, 24)]
set_option maxRecDepth 100000 in
theorem ck_Matcher_isEmpty : cd_Matcher_isEmpty.all (ab_ok 32) = true := by decide +kernel
/-- LostDesk$Matcher.sit -/
def cd_Matcher_sit : List ab_E := [(0, .aload_n 0, 0, 0, 0, 1), (1, .getfield 24, 503, 221, 0, 4), (4, .iload_n 1, 0, 0, 0, 5), (5, .iload_n 2, 0, 0, 0, 6), (6, .iastore, 0, 0, 0, 7), (7, .iload_n 2, 0, 0, 0, 8), (8, .aload_n 0, 0, 0, 0, 9), (9, .getfield 55, 513, 231, 0, 12), (12, .if_icmp .eq 10, 0, 0, 0, 15), (12, .if_icmp .eq 10, 1, 0, 0, 22), (15, .aload_n 0, 0, 0, 0, 16), (16, .getfield 27, 504, 222, 0, 19), (19, .iload_n 2, 0, 0, 0, 20), (20, .iload_n 1, 0, 0, 0, 21), (21, .iastore, 0, 0, 0, 22), (22, .return_, 0, 0, 0, 23)]
set_option maxRecDepth 100000 in
theorem ck_Matcher_sit : cd_Matcher_sit.all (ab_ok 33) = true := by decide +kernel
/-- LostDesk$Matcher.leaveEmpty -/
def cd_Matcher_leaveEmpty : List ab_E := [(0, .iload_n 1, 0, 0, 0, 1), (1, .aload_n 0, 0, 0, 0, 2), (2, .getfield 55, 513, 231, 0, 5), (5, .if_icmp .eq 10, 0, 0, 0, 8), (5, .if_icmp .eq 10, 1, 0, 0, 15), (8, .aload_n 0, 0, 0, 0, 9), (9, .getfield 27, 504, 222, 0, 12), (12, .iload_n 1, 0, 0, 0, 13), (13, .iconst (-1), 0, 0, (-1), 14), (14, .iastore, 0, 0, 0, 15), (15, .return_, 0, 0, 0, 16)]
set_option maxRecDepth 100000 in
theorem ck_Matcher_leaveEmpty : cd_Matcher_leaveEmpty.all (ab_ok 34) = true := by decide +kernel
def cd_Matcher_seatOne_0 : List ab_E := [(0, .aload_n 0, 0, 0, 0, 1), (1, .getfield 36, 507, 225, 0, 4), (4, .ldc 61, 0, 557, 1000000, 6), (6, .invokestatic 73, 146, 566, 0, 9), (9, .iconst 0, 0, 0, 0, 10), (10, .istore_n 2, 0, 0, 0, 11), (11, .iconst (-1), 0, 0, (-1), 12), (12, .istore_n 3, 0, 0, 0, 13), (13, .iload_n 1, 0, 0, 0, 14), (14, .istore 4, 0, 0, 0, 16), (16, .iconst 0, 0, 0, 0, 17), (17, .istore 5, 0, 0, 0, 19), (19, .iload 5, 0, 0, 0, 21), (21, .aload_n 0, 0, 0, 0, 22), (22, .getfield 55, 513, 231, 0, 25), (25, .if_icmp .gt 55, 0, 0, 0, 28), (25, .if_icmp .gt 55, 1, 0, 0, 80), (28, .aload_n 0, 0, 0, 0, 29), (29, .iload 4, 0, 0, 0, 31), (31, .iload_n 3, 0, 0, 0, 32), (32, .iload_n 2, 0, 0, 0, 33), (33, .invokevirtual 82, 36, 571, 0, 36), (36, .istore_n 3, 0, 0, 0, 37), (37, .aload_n 0, 0, 0, 0, 38), (38, .iload_n 1, 0, 0, 0, 39), (39, .iload_n 2, 0, 0, 0, 40), (40, .aload_n 0, 0, 0, 0, 41), (41, .getfield 36, 507, 225, 0, 44), (44, .iload_n 3, 0, 0, 0, 45), (45, .iaload, 0, 0, 0, 46), (46, .invokevirtual 86, 37, 579, 0, 49), (49, .aload_n 0, 0, 0, 0, 50), (50, .iload_n 3, 0, 0, 0, 51), (51, .invokevirtual 90, 32, 583, 0, 54), (54, .ifCond .eq 6, 0, 0, 0, 57), (54, .ifCond .eq 6, 1, 0, 0, 60), (57, .goto 23, 0, 0, 0, 80), (60, .iload_n 2, 0, 0, 0, 61), (61, .iconst 1, 0, 0, 1, 62), (62, .iload_n 3, 0, 0, 0, 63), (63, .ishl, 0, 0, 0, 64), (64, .ior, 0, 0, 0, 65), (65, .istore_n 2, 0, 0, 0, 66), (66, .aload_n 0, 0, 0, 0, 67), (67, .getfield 27, 504, 222, 0, 70), (70, .iload_n 3, 0, 0, 0, 71), (71, .iaload, 0, 0, 0, 72), (72, .istore 4, 0, 0, 0, 74)]
set_option maxRecDepth 100000 in
theorem ck_Matcher_seatOne_0 : cd_Matcher_seatOne_0.all (ab_ok 35) = true := by decide +kernel
def cd_Matcher_seatOne_1 : List ab_E := [(74, .iinc 5 1, 0, 0, 1, 77), (77, .goto (-58), 0, 0, 0, 19), (80, .aload_n 0, 0, 0, 0, 81), (81, .iload_n 1, 0, 0, 0, 82), (82, .iload_n 3, 0, 0, 0, 83), (83, .invokevirtual 94, 38, 587, 0, 86), (86, .return_, 0, 0, 0, 87)]
set_option maxRecDepth 100000 in
theorem ck_Matcher_seatOne_1 : cd_Matcher_seatOne_1.all (ab_ok 35) = true := by decide +kernel
/-- LostDesk$Matcher.seatOne -/
def cd_Matcher_seatOne : List ab_E := cd_Matcher_seatOne_0 ++ (cd_Matcher_seatOne_1)
theorem ck_Matcher_seatOne : cd_Matcher_seatOne.all (ab_ok 35) = true := ab_all_app ck_Matcher_seatOne_0 (ck_Matcher_seatOne_1)
def cd_Matcher_nextSeat_0 : List ab_E := [(0, .aload_n 0, 0, 0, 0, 1), (1, .getfield 55, 513, 231, 0, 4), (4, .istore 4, 0, 0, 0, 6), (6, .iconst 0, 0, 0, 0, 7), (7, .istore 5, 0, 0, 0, 9), (9, .iload 5, 0, 0, 0, 11), (11, .aload_n 0, 0, 0, 0, 12), (12, .getfield 55, 513, 231, 0, 15), (15, .if_icmp .gt 80, 0, 0, 0, 18), (15, .if_icmp .gt 80, 1, 0, 0, 95), (18, .iload_n 3, 0, 0, 0, 19), (19, .iload 5, 0, 0, 0, 21), (21, .iushr, 0, 0, 0, 22), (22, .iconst 1, 0, 0, 1, 23), (23, .iand, 0, 0, 0, 24), (24, .ifCond .eq 6, 0, 0, 0, 27), (24, .ifCond .eq 6, 1, 0, 0, 30), (27, .goto 62, 0, 0, 0, 89), (30, .aload_n 0, 0, 0, 0, 31), (31, .iload_n 1, 0, 0, 0, 32), (32, .iload 5, 0, 0, 0, 34), (34, .invokevirtual 98, 31, 575, 0, 37), (37, .istore 6, 0, 0, 0, 39), (39, .iload 6, 0, 0, 0, 41), (41, .aload_n 0, 0, 0, 0, 42), (42, .getfield 36, 507, 225, 0, 45), (45, .iload 5, 0, 0, 0, 47), (47, .iaload, 0, 0, 0, 48), (48, .if_icmp .ge 20, 0, 0, 0, 51), (48, .if_icmp .ge 20, 1, 0, 0, 68), (51, .aload_n 0, 0, 0, 0, 52), (52, .getfield 36, 507, 225, 0, 55), (55, .iload 5, 0, 0, 0, 57), (57, .iload 6, 0, 0, 0, 59), (59, .iastore, 0, 0, 0, 60), (60, .aload_n 0, 0, 0, 0, 61), (61, .getfield 39, 508, 226, 0, 64), (64, .iload 5, 0, 0, 0, 66), (66, .iload_n 2, 0, 0, 0, 67), (67, .iastore, 0, 0, 0, 68), (68, .aload_n 0, 0, 0, 0, 69), (69, .getfield 36, 507, 225, 0, 72), (72, .iload 5, 0, 0, 0, 74), (74, .iaload, 0, 0, 0, 75), (75, .aload_n 0, 0, 0, 0, 76), (76, .getfield 36, 507, 225, 0, 79), (79, .iload 4, 0, 0, 0, 81), (81, .iaload, 0, 0, 0, 82)]
set_option maxRecDepth 100000 in
theorem ck_Matcher_nextSeat_0 : cd_Matcher_nextSeat_0.all (ab_ok 36) = true := by decide +kernel
def cd_Matcher_nextSeat_1 : List ab_E := [(82, .if_icmp .ge 7, 0, 0, 0, 85), (82, .if_icmp .ge 7, 1, 0, 0, 89), (85, .iload 5, 0, 0, 0, 87), (87, .istore 4, 0, 0, 0, 89), (89, .iinc 5 1, 0, 0, 1, 92), (92, .goto (-83), 0, 0, 0, 9), (95, .iload 4, 0, 0, 0, 97), (97, .ireturn, 0, 0, 0, 98)]
set_option maxRecDepth 100000 in
theorem ck_Matcher_nextSeat_1 : cd_Matcher_nextSeat_1.all (ab_ok 36) = true := by decide +kernel
/-- LostDesk$Matcher.nextSeat -/
def cd_Matcher_nextSeat : List ab_E := cd_Matcher_nextSeat_0 ++ (cd_Matcher_nextSeat_1)
theorem ck_Matcher_nextSeat : cd_Matcher_nextSeat.all (ab_ok 36) = true := ab_all_app ck_Matcher_nextSeat_0 (ck_Matcher_nextSeat_1)
def cd_Matcher_raiseDues_0 : List ab_E := [(0, .aload_n 0, 0, 0, 0, 1), (1, .getfield 30, 505, 223, 0, 4), (4, .iload_n 1, 0, 0, 0, 5), (5, .dup2, 0, 0, 0, 6), (6, .iaload, 0, 0, 0, 7), (7, .iload_n 3, 0, 0, 0, 8), (8, .iadd, 0, 0, 0, 9), (9, .iastore, 0, 0, 0, 10), (10, .iconst 0, 0, 0, 0, 11), (11, .istore 4, 0, 0, 0, 13), (13, .iload 4, 0, 0, 0, 15), (15, .aload_n 0, 0, 0, 0, 16), (16, .getfield 55, 513, 231, 0, 19), (19, .if_icmp .gt 73, 0, 0, 0, 22), (19, .if_icmp .gt 73, 1, 0, 0, 92), (22, .iload_n 2, 0, 0, 0, 23), (23, .iload 4, 0, 0, 0, 25), (25, .iushr, 0, 0, 0, 26), (26, .iconst 1, 0, 0, 1, 27), (27, .iand, 0, 0, 0, 28), (28, .ifCond .eq 13, 0, 0, 0, 31), (28, .ifCond .eq 13, 1, 0, 0, 41), (31, .aload_n 0, 0, 0, 0, 32), (32, .getfield 27, 504, 222, 0, 35), (35, .iload 4, 0, 0, 0, 37), (37, .iaload, 0, 0, 0, 38), (38, .goto 4, 0, 0, 0, 42), (41, .iconst (-1), 0, 0, (-1), 42), (42, .istore 5, 0, 0, 0, 44), (44, .iload 5, 0, 0, 0, 46), (46, .iconst (-1), 0, 0, (-1), 47), (47, .if_icmp .ne 17, 0, 0, 0, 50), (47, .if_icmp .ne 17, 1, 0, 0, 64), (50, .aload_n 0, 0, 0, 0, 51), (51, .getfield 36, 507, 225, 0, 54), (54, .iload 4, 0, 0, 0, 56), (56, .dup2, 0, 0, 0, 57), (57, .iaload, 0, 0, 0, 58), (58, .iload_n 3, 0, 0, 0, 59), (59, .isub, 0, 0, 0, 60), (60, .iastore, 0, 0, 0, 61), (61, .goto 25, 0, 0, 0, 86), (64, .aload_n 0, 0, 0, 0, 65), (65, .getfield 30, 505, 223, 0, 68), (68, .iload 5, 0, 0, 0, 70), (70, .dup2, 0, 0, 0, 71), (71, .iaload, 0, 0, 0, 72), (72, .iload_n 3, 0, 0, 0, 73)]
set_option maxRecDepth 100000 in
theorem ck_Matcher_raiseDues_0 : cd_Matcher_raiseDues_0.all (ab_ok 37) = true := by decide +kernel
def cd_Matcher_raiseDues_1 : List ab_E := [(73, .iadd, 0, 0, 0, 74), (74, .iastore, 0, 0, 0, 75), (75, .aload_n 0, 0, 0, 0, 76), (76, .getfield 33, 506, 224, 0, 79), (79, .iload 4, 0, 0, 0, 81), (81, .dup2, 0, 0, 0, 82), (82, .iaload, 0, 0, 0, 83), (83, .iload_n 3, 0, 0, 0, 84), (84, .isub, 0, 0, 0, 85), (85, .iastore, 0, 0, 0, 86), (86, .iinc 4 1, 0, 0, 1, 89), (89, .goto (-76), 0, 0, 0, 13), (92, .return_, 0, 0, 0, 93)]
set_option maxRecDepth 100000 in
theorem ck_Matcher_raiseDues_1 : cd_Matcher_raiseDues_1.all (ab_ok 37) = true := by decide +kernel
/-- LostDesk$Matcher.raiseDues -/
def cd_Matcher_raiseDues : List ab_E := cd_Matcher_raiseDues_0 ++ (cd_Matcher_raiseDues_1)
theorem ck_Matcher_raiseDues : cd_Matcher_raiseDues.all (ab_ok 37) = true := ab_all_app ck_Matcher_raiseDues_0 (ck_Matcher_raiseDues_1)
/-- LostDesk$Matcher.moveUp -/
def cd_Matcher_moveUp : List ab_E := [(0, .iload_n 2, 0, 0, 0, 1), (1, .istore_n 3, 0, 0, 0, 2), (2, .iconst 0, 0, 0, 0, 3), (3, .istore 4, 0, 0, 0, 5), (5, .iload 4, 0, 0, 0, 7), (7, .aload_n 0, 0, 0, 0, 8), (8, .getfield 55, 513, 231, 0, 11), (11, .if_icmp .gt 47, 0, 0, 0, 14), (11, .if_icmp .gt 47, 1, 0, 0, 58), (14, .iload_n 3, 0, 0, 0, 15), (15, .iconst (-1), 0, 0, (-1), 16), (16, .if_icmp .eq 42, 0, 0, 0, 19), (16, .if_icmp .eq 42, 1, 0, 0, 58), (19, .aload_n 0, 0, 0, 0, 20), (20, .getfield 39, 508, 226, 0, 23), (23, .iload_n 3, 0, 0, 0, 24), (24, .iaload, 0, 0, 0, 25), (25, .istore 5, 0, 0, 0, 27), (27, .aload_n 0, 0, 0, 0, 28), (28, .iload 5, 0, 0, 0, 30), (30, .iconst (-1), 0, 0, (-1), 31), (31, .if_icmp .ne 7, 0, 0, 0, 34), (31, .if_icmp .ne 7, 1, 0, 0, 38), (34, .iload_n 1, 0, 0, 0, 35), (35, .goto 10, 0, 0, 0, 45), (38, .aload_n 0, 0, 0, 0, 39), (39, .getfield 27, 504, 222, 0, 42), (42, .iload 5, 0, 0, 0, 44), (44, .iaload, 0, 0, 0, 45), (45, .iload_n 3, 0, 0, 0, 46), (46, .invokevirtual 102, 33, 591, 0, 49), (49, .iload 5, 0, 0, 0, 51), (51, .istore_n 3, 0, 0, 0, 52), (52, .iinc 4 1, 0, 0, 1, 55), (55, .goto (-50), 0, 0, 0, 5), (58, .return_, 0, 0, 0, 59)]
set_option maxRecDepth 100000 in
theorem ck_Matcher_moveUp : cd_Matcher_moveUp.all (ab_ok 38) = true := by decide +kernel
/-- LostDesk$Matcher.settle -/
def cd_Matcher_settle : List ab_E := [(0, .aload_n 0, 0, 0, 0, 1), (1, .getfield 24, 503, 221, 0, 4), (4, .iload_n 1, 0, 0, 0, 5), (5, .iaload, 0, 0, 0, 6), (6, .istore_n 2, 0, 0, 0, 7), (7, .iconst (-1), 0, 0, (-1), 8), (8, .istore_n 3, 0, 0, 0, 9), (9, .aload_n 0, 0, 0, 0, 10), (10, .iload_n 1, 0, 0, 0, 11), (11, .iload_n 2, 0, 0, 0, 12), (12, .iload_n 3, 0, 0, 0, 13), (13, .invokevirtual 105, 40, 599, 0, 16), (16, .iload_n 2, 0, 0, 0, 17), (17, .if_icmp .ne 4, 0, 0, 0, 20), (17, .if_icmp .ne 4, 1, 0, 0, 21), (20, .return_, 0, 0, 0, 21), (21, .aload_n 0, 0, 0, 0, 22), (22, .iload_n 1, 0, 0, 0, 23), (23, .iload_n 2, 0, 0, 0, 24), (24, .aload_n 0, 0, 0, 0, 25), (25, .iload_n 1, 0, 0, 0, 26), (26, .iload_n 2, 0, 0, 0, 27), (27, .invokevirtual 108, 41, 603, 0, 30), (30, .invokevirtual 105, 40, 599, 0, 33), (33, .istore 4, 0, 0, 0, 35), (35, .iload 4, 0, 0, 0, 37), (37, .iload_n 2, 0, 0, 0, 38), (38, .if_icmp .eq 11, 0, 0, 0, 41), (38, .if_icmp .eq 11, 1, 0, 0, 49), (41, .aload_n 0, 0, 0, 0, 42), (42, .iload_n 1, 0, 0, 0, 43), (43, .iload 4, 0, 0, 0, 45), (45, .iload_n 2, 0, 0, 0, 46), (46, .invokevirtual 111, 43, 611, 0, 49), (49, .return_, 0, 0, 0, 50)]
set_option maxRecDepth 100000 in
theorem ck_Matcher_settle : cd_Matcher_settle.all (ab_ok 39) = true := by decide +kernel
/-- LostDesk$Matcher.leastSeat -/
def cd_Matcher_leastSeat : List ab_E := [(0, .iconst 0, 0, 0, 0, 1), (1, .istore 4, 0, 0, 0, 3), (3, .iload 4, 0, 0, 0, 5), (5, .iload_n 2, 0, 0, 0, 6), (6, .if_icmp .ge 31, 0, 0, 0, 9), (6, .if_icmp .ge 31, 1, 0, 0, 37), (9, .iload_n 3, 0, 0, 0, 10), (10, .iload 4, 0, 0, 0, 12), (12, .iushr, 0, 0, 0, 13), (13, .iconst 1, 0, 0, 1, 14), (14, .iand, 0, 0, 0, 15), (15, .ifCond .eq 16, 0, 0, 0, 18), (15, .ifCond .eq 16, 1, 0, 0, 31), (18, .aload_n 0, 0, 0, 0, 19), (19, .iload_n 1, 0, 0, 0, 20), (20, .iload 4, 0, 0, 0, 22), (22, .invokevirtual 98, 31, 575, 0, 25), (25, .ifCond .ne 6, 0, 0, 0, 28), (25, .ifCond .ne 6, 1, 0, 0, 31), (28, .iload 4, 0, 0, 0, 30), (30, .ireturn, 0, 0, 0, 31), (31, .iinc 4 1, 0, 0, 1, 34), (34, .goto (-31), 0, 0, 0, 3), (37, .iload_n 2, 0, 0, 0, 38), (38, .ireturn, 0, 0, 0, 39)]
set_option maxRecDepth 100000 in
theorem ck_Matcher_leastSeat : cd_Matcher_leastSeat.all (ab_ok 40) = true := by decide +kernel
def cd_Matcher_seatsThatLead_0 : List ab_E := [(0, .iconst 1, 0, 0, 1, 1), (1, .iload_n 2, 0, 0, 0, 2), (2, .ishl, 0, 0, 0, 3), (3, .istore_n 3, 0, 0, 0, 4), (4, .aload_n 0, 0, 0, 0, 5), (5, .getfield 48, 511, 229, 0, 8), (8, .iconst 0, 0, 0, 0, 9), (9, .iload_n 2, 0, 0, 0, 10), (10, .iastore, 0, 0, 0, 11), (11, .iconst 1, 0, 0, 1, 12), (12, .istore 4, 0, 0, 0, 14), (14, .iconst 0, 0, 0, 0, 15), (15, .istore 5, 0, 0, 0, 17), (17, .iload 5, 0, 0, 0, 19), (19, .iload 4, 0, 0, 0, 21), (21, .if_icmp .ge 116, 0, 0, 0, 24), (21, .if_icmp .ge 116, 1, 0, 0, 137), (24, .iload 5, 0, 0, 0, 26), (26, .aload_n 0, 0, 0, 0, 27), (27, .getfield 55, 513, 231, 0, 30), (30, .if_icmp .gt 107, 0, 0, 0, 33), (30, .if_icmp .gt 107, 1, 0, 0, 137), (33, .iconst 0, 0, 0, 0, 34), (34, .istore 6, 0, 0, 0, 36), (36, .iload 6, 0, 0, 0, 38), (38, .aload_n 0, 0, 0, 0, 39), (39, .getfield 55, 513, 231, 0, 42), (42, .if_icmp .gt 89, 0, 0, 0, 45), (42, .if_icmp .gt 89, 1, 0, 0, 131), (45, .iload_n 3, 0, 0, 0, 46), (46, .iload 6, 0, 0, 0, 48), (48, .iushr, 0, 0, 0, 49), (49, .iconst 1, 0, 0, 1, 50), (50, .iand, 0, 0, 0, 51), (51, .ifCond .eq 6, 0, 0, 0, 54), (51, .ifCond .eq 6, 1, 0, 0, 57), (54, .goto 71, 0, 0, 0, 125), (57, .aload_n 0, 0, 0, 0, 58), (58, .iload 6, 0, 0, 0, 60), (60, .aload_n 0, 0, 0, 0, 61), (61, .getfield 48, 511, 229, 0, 64), (64, .iload 5, 0, 0, 0, 66), (66, .iaload, 0, 0, 0, 67), (67, .iload_n 1, 0, 0, 0, 68), (68, .invokevirtual 114, 42, 607, 0, 71), (71, .istore 7, 0, 0, 0, 73), (73, .iload 7, 0, 0, 0, 75), (75, .bipush (-2), 0, 0, (-2), 77)]
set_option maxRecDepth 100000 in
theorem ck_Matcher_seatsThatLead_0 : cd_Matcher_seatsThatLead_0.all (ab_ok 41) = true := by decide +kernel
def cd_Matcher_seatsThatLead_1 : List ab_E := [(77, .if_icmp .ne 6, 0, 0, 0, 80), (77, .if_icmp .ne 6, 1, 0, 0, 83), (80, .goto 45, 0, 0, 0, 125), (83, .iload_n 3, 0, 0, 0, 84), (84, .iconst 1, 0, 0, 1, 85), (85, .iload 6, 0, 0, 0, 87), (87, .ishl, 0, 0, 0, 88), (88, .ior, 0, 0, 0, 89), (89, .istore_n 3, 0, 0, 0, 90), (90, .aload_n 0, 0, 0, 0, 91), (91, .getfield 42, 509, 227, 0, 94), (94, .iload 6, 0, 0, 0, 96), (96, .iload 7, 0, 0, 0, 98), (98, .iastore, 0, 0, 0, 99), (99, .aload_n 0, 0, 0, 0, 100), (100, .getfield 45, 510, 228, 0, 103), (103, .iload 6, 0, 0, 0, 105), (105, .aload_n 0, 0, 0, 0, 106), (106, .getfield 48, 511, 229, 0, 109), (109, .iload 5, 0, 0, 0, 111), (111, .iaload, 0, 0, 0, 112), (112, .iastore, 0, 0, 0, 113), (113, .aload_n 0, 0, 0, 0, 114), (114, .getfield 48, 511, 229, 0, 117), (117, .iload 4, 0, 0, 0, 119), (119, .iload 6, 0, 0, 0, 121), (121, .iastore, 0, 0, 0, 122), (122, .iinc 4 1, 0, 0, 1, 125), (125, .iinc 6 1, 0, 0, 1, 128), (128, .goto (-92), 0, 0, 0, 36), (131, .iinc 5 1, 0, 0, 1, 134), (134, .goto (-117), 0, 0, 0, 17), (137, .iload_n 3, 0, 0, 0, 138), (138, .ireturn, 0, 0, 0, 139)]
set_option maxRecDepth 100000 in
theorem ck_Matcher_seatsThatLead_1 : cd_Matcher_seatsThatLead_1.all (ab_ok 41) = true := by decide +kernel
/-- LostDesk$Matcher.seatsThatLead -/
def cd_Matcher_seatsThatLead : List ab_E := cd_Matcher_seatsThatLead_0 ++ (cd_Matcher_seatsThatLead_1)
theorem ck_Matcher_seatsThatLead : cd_Matcher_seatsThatLead.all (ab_ok 41) = true := ab_all_app ck_Matcher_seatsThatLead_0 (ck_Matcher_seatsThatLead_1)
def cd_Matcher_freeMover_0 : List ab_E := [(0, .aload_n 0, 0, 0, 0, 1), (1, .iload_n 1, 0, 0, 0, 2), (2, .invokevirtual 90, 32, 583, 0, 5), (5, .ifCond .eq 14, 0, 0, 0, 8), (5, .ifCond .eq 14, 1, 0, 0, 19), (8, .aload_n 0, 0, 0, 0, 9), (9, .getfield 33, 506, 224, 0, 12), (12, .iload_n 2, 0, 0, 0, 13), (13, .iaload, 0, 0, 0, 14), (14, .ifCond .ne 5, 0, 0, 0, 17), (14, .ifCond .ne 5, 1, 0, 0, 19), (17, .iconst (-1), 0, 0, (-1), 18), (18, .ireturn, 0, 0, 0, 19), (19, .iload_n 1, 0, 0, 0, 20), (20, .aload_n 0, 0, 0, 0, 21), (21, .getfield 55, 513, 231, 0, 24), (24, .if_icmp .eq 35, 0, 0, 0, 27), (24, .if_icmp .eq 35, 1, 0, 0, 59), (27, .aload_n 0, 0, 0, 0, 28), (28, .getfield 27, 504, 222, 0, 31), (31, .iload_n 1, 0, 0, 0, 32), (32, .iaload, 0, 0, 0, 33), (33, .istore 4, 0, 0, 0, 35), (35, .iload 4, 0, 0, 0, 37), (37, .iload_n 3, 0, 0, 0, 38), (38, .if_icmp .le 18, 0, 0, 0, 41), (38, .if_icmp .le 18, 1, 0, 0, 56), (41, .aload_n 0, 0, 0, 0, 42), (42, .iload 4, 0, 0, 0, 44), (44, .iload_n 2, 0, 0, 0, 45), (45, .invokevirtual 98, 31, 575, 0, 48), (48, .ifCond .ne 8, 0, 0, 0, 51), (48, .ifCond .ne 8, 1, 0, 0, 56), (51, .iload 4, 0, 0, 0, 53), (53, .goto 5, 0, 0, 0, 58), (56, .bipush (-2), 0, 0, (-2), 58), (58, .ireturn, 0, 0, 0, 59), (59, .iload_n 3, 0, 0, 0, 60), (60, .iconst 1, 0, 0, 1, 61), (61, .iadd, 0, 0, 0, 62), (62, .istore 4, 0, 0, 0, 64), (64, .iload 4, 0, 0, 0, 66), (66, .aload_n 0, 0, 0, 0, 67), (67, .getfield 51, 512, 230, 0, 70), (70, .if_icmp .ge 36, 0, 0, 0, 73), (70, .if_icmp .ge 36, 1, 0, 0, 106), (73, .aload_n 0, 0, 0, 0, 74), (74, .getfield 24, 503, 221, 0, 77)]
set_option maxRecDepth 100000 in
theorem ck_Matcher_freeMover_0 : cd_Matcher_freeMover_0.all (ab_ok 42) = true := by decide +kernel
def cd_Matcher_freeMover_1 : List ab_E := [(77, .iload 4, 0, 0, 0, 79), (79, .iaload, 0, 0, 0, 80), (80, .aload_n 0, 0, 0, 0, 81), (81, .getfield 55, 513, 231, 0, 84), (84, .if_icmp .ne 16, 0, 0, 0, 87), (84, .if_icmp .ne 16, 1, 0, 0, 100), (87, .aload_n 0, 0, 0, 0, 88), (88, .iload 4, 0, 0, 0, 90), (90, .iload_n 2, 0, 0, 0, 91), (91, .invokevirtual 98, 31, 575, 0, 94), (94, .ifCond .ne 6, 0, 0, 0, 97), (94, .ifCond .ne 6, 1, 0, 0, 100), (97, .iload 4, 0, 0, 0, 99), (99, .ireturn, 0, 0, 0, 100), (100, .iinc 4 1, 0, 0, 1, 103), (103, .goto (-39), 0, 0, 0, 64), (106, .bipush (-2), 0, 0, (-2), 108), (108, .ireturn, 0, 0, 0, 109)]
set_option maxRecDepth 100000 in
theorem ck_Matcher_freeMover_1 : cd_Matcher_freeMover_1.all (ab_ok 42) = true := by decide +kernel
/-- LostDesk$Matcher.freeMover -/
def cd_Matcher_freeMover : List ab_E := cd_Matcher_freeMover_0 ++ (cd_Matcher_freeMover_1)
theorem ck_Matcher_freeMover : cd_Matcher_freeMover.all (ab_ok 42) = true := ab_all_app ck_Matcher_freeMover_0 (ck_Matcher_freeMover_1)
/-- LostDesk$Matcher.moveRound -/
def cd_Matcher_moveRound : List ab_E := [(0, .aload_n 0, 0, 0, 0, 1), (1, .iload_n 1, 0, 0, 0, 2), (2, .iload_n 2, 0, 0, 0, 3), (3, .invokevirtual 102, 33, 591, 0, 6), (6, .iload_n 2, 0, 0, 0, 7), (7, .istore 4, 0, 0, 0, 9), (9, .iconst 0, 0, 0, 0, 10), (10, .istore 5, 0, 0, 0, 12), (12, .iload 5, 0, 0, 0, 14), (14, .aload_n 0, 0, 0, 0, 15), (15, .getfield 55, 513, 231, 0, 18), (18, .if_icmp .gt 61, 0, 0, 0, 21), (18, .if_icmp .gt 61, 1, 0, 0, 79), (21, .iload 4, 0, 0, 0, 23), (23, .iload_n 3, 0, 0, 0, 24), (24, .if_icmp .eq 55, 0, 0, 0, 27), (24, .if_icmp .eq 55, 1, 0, 0, 79), (27, .aload_n 0, 0, 0, 0, 28), (28, .getfield 45, 510, 228, 0, 31), (31, .iload 4, 0, 0, 0, 33), (33, .iaload, 0, 0, 0, 34), (34, .istore 6, 0, 0, 0, 36), (36, .aload_n 0, 0, 0, 0, 37), (37, .getfield 42, 509, 227, 0, 40), (40, .iload 4, 0, 0, 0, 42), (42, .iaload, 0, 0, 0, 43), (43, .iconst (-1), 0, 0, (-1), 44), (44, .if_icmp .ne 12, 0, 0, 0, 47), (44, .if_icmp .ne 12, 1, 0, 0, 56), (47, .aload_n 0, 0, 0, 0, 48), (48, .iload 6, 0, 0, 0, 50), (50, .invokevirtual 117, 34, 615, 0, 53), (53, .goto 16, 0, 0, 0, 69), (56, .aload_n 0, 0, 0, 0, 57), (57, .aload_n 0, 0, 0, 0, 58), (58, .getfield 42, 509, 227, 0, 61), (61, .iload 4, 0, 0, 0, 63), (63, .iaload, 0, 0, 0, 64), (64, .iload 6, 0, 0, 0, 66), (66, .invokevirtual 102, 33, 591, 0, 69), (69, .iload 6, 0, 0, 0, 71), (71, .istore 4, 0, 0, 0, 73), (73, .iinc 5 1, 0, 0, 1, 76), (76, .goto (-64), 0, 0, 0, 12), (79, .return_, 0, 0, 0, 80)]
set_option maxRecDepth 100000 in
theorem ck_Matcher_moveRound : cd_Matcher_moveRound.all (ab_ok 43) = true := by decide +kernel
/-- LostDesk$Places.has -/
def cd_Places_has : List ab_E := [(0, .iload_n 1, 0, 0, 0, 1), (1, .ifCond .lt 15, 0, 0, 0, 4), (1, .ifCond .lt 15, 1, 0, 0, 16), (4, .iload_n 1, 0, 0, 0, 5), (5, .aload_n 0, 0, 0, 0, 6), (6, .getfield 23, 603, 117, 0, 9), (9, .if_icmp .ge 7, 0, 0, 0, 12), (9, .if_icmp .ge 7, 1, 0, 0, 16), (12, .iconst 1, 0, 0, 1, 13), (13, .goto 4, 0, 0, 0, 17), (16, .iconst 0, 0, 0, 0, 17), (17, .ireturn, 0, 0, 0, 18)]
set_option maxRecDepth 100000 in
theorem ck_Places_has : cd_Places_has.all (ab_ok 44) = true := by decide +kernel
/-- LostDesk$Places.isFull -/
def cd_Places_isFull : List ab_E := [(0, .aload_n 0, 0, 0, 0, 1), (1, .getfield 23, 603, 117, 0, 4), (4, .bipush 20, 0, 0, 20, 6), (6, .if_icmp .lt 7, 0, 0, 0, 9), (6, .if_icmp .lt 7, 1, 0, 0, 13), (9, .iconst 1, 0, 0, 1, 10), (10, .goto 4, 0, 0, 0, 14), (13, .iconst 0, 0, 0, 0, 14), (14, .ireturn, 0, 0, 0, 15)]
set_option maxRecDepth 100000 in
theorem ck_Places_isFull : cd_Places_isFull.all (ab_ok 45) = true := by decide +kernel
/-- LostDesk$Places.add -/
def cd_Places_add : List ab_E := [(0, .aload_n 0, 0, 0, 0, 1), (1, .getfield 23, 603, 117, 0, 4), (4, .istore_n 1, 0, 0, 0, 5), (5, .aload_n 0, 0, 0, 0, 6), (6, .getfield 11, 600, 114, 0, 9), (9, .iload_n 1, 0, 0, 0, 10), (10, .aaload, 0, 0, 0, 11), (11, .iconst (-1), 0, 0, (-1), 12), (12, .invokestatic 27, 146, 407, 0, 15), (15, .iconst 0, 0, 0, 0, 16), (16, .istore_n 2, 0, 0, 0, 17), (17, .iload_n 2, 0, 0, 0, 18), (18, .iload_n 1, 0, 0, 0, 19), (19, .if_icmp .ge 18, 0, 0, 0, 22), (19, .if_icmp .ge 18, 1, 0, 0, 37), (22, .aload_n 0, 0, 0, 0, 23), (23, .getfield 11, 600, 114, 0, 26), (26, .iload_n 2, 0, 0, 0, 27), (27, .aaload, 0, 0, 0, 28), (28, .iload_n 1, 0, 0, 0, 29), (29, .iconst (-1), 0, 0, (-1), 30), (30, .iastore, 0, 0, 0, 31), (31, .iinc 2 1, 0, 0, 1, 34), (34, .goto (-17), 0, 0, 0, 17), (37, .aload_n 0, 0, 0, 0, 38), (38, .dup, 0, 0, 0, 39), (39, .getfield 23, 603, 117, 0, 42), (42, .iconst 1, 0, 0, 1, 43), (43, .iadd, 0, 0, 0, 44), (44, .putfield 23, 603, 117, 0, 47), (47, .iload_n 1, 0, 0, 0, 48), (48, .ireturn, 0, 0, 0, 49)]
set_option maxRecDepth 100000 in
theorem ck_Places_add : cd_Places_add.all (ab_ok 46) = true := by decide +kernel
/-- LostDesk$Places.hasWay -/
def cd_Places_hasWay : List ab_E := [(0, .aload_n 0, 0, 0, 0, 1), (1, .getfield 11, 600, 114, 0, 4), (4, .iload_n 1, 0, 0, 0, 5), (5, .aaload, 0, 0, 0, 6), (6, .iload_n 2, 0, 0, 0, 7), (7, .iaload, 0, 0, 0, 8), (8, .iconst (-1), 0, 0, (-1), 9), (9, .if_icmp .eq 7, 0, 0, 0, 12), (9, .if_icmp .eq 7, 1, 0, 0, 16), (12, .iconst 1, 0, 0, 1, 13), (13, .goto 4, 0, 0, 0, 17), (16, .iconst 0, 0, 0, 0, 17), (17, .ireturn, 0, 0, 0, 18)]
set_option maxRecDepth 100000 in
theorem ck_Places_hasWay : cd_Places_hasWay.all (ab_ok 47) = true := by decide +kernel
/-- LostDesk$Places.setWay -/
def cd_Places_setWay : List ab_E := [(0, .aload_n 0, 0, 0, 0, 1), (1, .getfield 11, 600, 114, 0, 4), (4, .iload_n 1, 0, 0, 0, 5), (5, .aaload, 0, 0, 0, 6), (6, .iload_n 2, 0, 0, 0, 7), (7, .iload_n 3, 0, 0, 0, 8), (8, .iastore, 0, 0, 0, 9), (9, .aload_n 0, 0, 0, 0, 10), (10, .getfield 11, 600, 114, 0, 13), (13, .iload_n 2, 0, 0, 0, 14), (14, .aaload, 0, 0, 0, 15), (15, .iload_n 1, 0, 0, 0, 16), (16, .iload_n 3, 0, 0, 0, 17), (17, .iastore, 0, 0, 0, 18), (18, .aload_n 0, 0, 0, 0, 19), (19, .invokevirtual 33, 50, 424, 0, 22), (22, .return_, 0, 0, 0, 23)]
set_option maxRecDepth 100000 in
theorem ck_Places_setWay : cd_Places_setWay.all (ab_ok 48) = true := by decide +kernel
/-- LostDesk$Places.distance -/
def cd_Places_distance : List ab_E := [(0, .aload_n 0, 0, 0, 0, 1), (1, .getfield 19, 602, 116, 0, 4), (4, .iload_n 1, 0, 0, 0, 5), (5, .baload, 0, 0, 0, 6), (6, .ifCond .ne 8, 0, 0, 0, 9), (6, .ifCond .ne 8, 1, 0, 0, 14), (9, .aload_n 0, 0, 0, 0, 10), (10, .iload_n 1, 0, 0, 0, 11), (11, .invokevirtual 36, 51, 436, 0, 14), (14, .aload_n 0, 0, 0, 0, 15), (15, .getfield 16, 601, 115, 0, 18), (18, .iload_n 1, 0, 0, 0, 19), (19, .aaload, 0, 0, 0, 20), (20, .iload_n 2, 0, 0, 0, 21), (21, .iaload, 0, 0, 0, 22), (22, .ireturn, 0, 0, 0, 23)]
set_option maxRecDepth 100000 in
theorem ck_Places_distance : cd_Places_distance.all (ab_ok 49) = true := by decide +kernel
/-- LostDesk$Places.forgetFar -/
def cd_Places_forgetFar : List ab_E := [(0, .iconst 0, 0, 0, 0, 1), (1, .istore_n 1, 0, 0, 0, 2), (2, .iload_n 1, 0, 0, 0, 3), (3, .aload_n 0, 0, 0, 0, 4), (4, .getfield 23, 603, 117, 0, 7), (7, .if_icmp .ge 16, 0, 0, 0, 10), (7, .if_icmp .ge 16, 1, 0, 0, 23), (10, .aload_n 0, 0, 0, 0, 11), (11, .getfield 19, 602, 116, 0, 14), (14, .iload_n 1, 0, 0, 0, 15), (15, .iconst 0, 0, 0, 0, 16), (16, .bastore, 0, 0, 0, 17), (17, .iinc 1 1, 0, 0, 1, 20), (20, .goto (-18), 0, 0, 0, 2), (23, .return_, 0, 0, 0, 24)]
set_option maxRecDepth 100000 in
theorem ck_Places_forgetFar : cd_Places_forgetFar.all (ab_ok 50) = true := by decide +kernel
def cd_Places_measureFrom_0 : List ab_E := [(0, .aload_n 0, 0, 0, 0, 1), (1, .getfield 16, 601, 115, 0, 4), (4, .iload_n 1, 0, 0, 0, 5), (5, .aaload, 0, 0, 0, 6), (6, .astore_n 2, 0, 0, 0, 7), (7, .aload_n 2, 0, 0, 0, 8), (8, .iconst (-1), 0, 0, (-1), 9), (9, .invokestatic 27, 146, 407, 0, 12), (12, .aload_n 2, 0, 0, 0, 13), (13, .iload_n 1, 0, 0, 0, 14), (14, .iconst 0, 0, 0, 0, 15), (15, .iastore, 0, 0, 0, 16), (16, .iconst 0, 0, 0, 0, 17), (17, .istore_n 3, 0, 0, 0, 18), (18, .iconst 0, 0, 0, 0, 19), (19, .istore 4, 0, 0, 0, 21), (21, .iload 4, 0, 0, 0, 23), (23, .aload_n 0, 0, 0, 0, 24), (24, .getfield 23, 603, 117, 0, 27), (27, .if_icmp .ge 40, 0, 0, 0, 30), (27, .if_icmp .ge 40, 1, 0, 0, 67), (30, .aload_n 0, 0, 0, 0, 31), (31, .aload_n 2, 0, 0, 0, 32), (32, .iload_n 3, 0, 0, 0, 33), (33, .invokevirtual 40, 52, 440, 0, 36), (36, .istore 5, 0, 0, 0, 38), (38, .iload 5, 0, 0, 0, 40), (40, .iconst (-1), 0, 0, (-1), 41), (41, .if_icmp .ne 6, 0, 0, 0, 44), (41, .if_icmp .ne 6, 1, 0, 0, 47), (44, .goto 23, 0, 0, 0, 67), (47, .iload_n 3, 0, 0, 0, 48), (48, .iconst 1, 0, 0, 1, 49), (49, .iload 5, 0, 0, 0, 51), (51, .ishl, 0, 0, 0, 52), (52, .ior, 0, 0, 0, 53), (53, .istore_n 3, 0, 0, 0, 54), (54, .aload_n 0, 0, 0, 0, 55), (55, .iload 5, 0, 0, 0, 57), (57, .aload_n 2, 0, 0, 0, 58), (58, .invokevirtual 44, 53, 444, 0, 61), (61, .iinc 4 1, 0, 0, 1, 64), (64, .goto (-43), 0, 0, 0, 21), (67, .aload_n 0, 0, 0, 0, 68), (68, .getfield 19, 602, 116, 0, 71), (71, .iload_n 1, 0, 0, 0, 72), (72, .iconst 1, 0, 0, 1, 73), (73, .bastore, 0, 0, 0, 74)]
set_option maxRecDepth 100000 in
theorem ck_Places_measureFrom_0 : cd_Places_measureFrom_0.all (ab_ok 51) = true := by decide +kernel
def cd_Places_measureFrom_1 : List ab_E := [(74, .return_, 0, 0, 0, 75)]
set_option maxRecDepth 100000 in
theorem ck_Places_measureFrom_1 : cd_Places_measureFrom_1.all (ab_ok 51) = true := by decide +kernel
/-- LostDesk$Places.measureFrom -/
def cd_Places_measureFrom : List ab_E := cd_Places_measureFrom_0 ++ (cd_Places_measureFrom_1)
theorem ck_Places_measureFrom : cd_Places_measureFrom.all (ab_ok 51) = true := ab_all_app ck_Places_measureFrom_0 (ck_Places_measureFrom_1)
/-- LostDesk$Places.nearest -/
def cd_Places_nearest : List ab_E := [(0, .iconst (-1), 0, 0, (-1), 1), (1, .istore_n 3, 0, 0, 0, 2), (2, .iconst 0, 0, 0, 0, 3), (3, .istore 4, 0, 0, 0, 5), (5, .iload 4, 0, 0, 0, 7), (7, .aload_n 0, 0, 0, 0, 8), (8, .getfield 23, 603, 117, 0, 11), (11, .if_icmp .ge 56, 0, 0, 0, 14), (11, .if_icmp .ge 56, 1, 0, 0, 67), (14, .aload_n 1, 0, 0, 0, 15), (15, .iload 4, 0, 0, 0, 17), (17, .iaload, 0, 0, 0, 18), (18, .iconst (-1), 0, 0, (-1), 19), (19, .if_icmp .eq 16, 0, 0, 0, 22), (19, .if_icmp .eq 16, 1, 0, 0, 35), (22, .iload_n 2, 0, 0, 0, 23), (23, .iload 4, 0, 0, 0, 25), (25, .iushr, 0, 0, 0, 26), (26, .iconst 1, 0, 0, 1, 27), (27, .iand, 0, 0, 0, 28), (28, .ifCond .ne 7, 0, 0, 0, 31), (28, .ifCond .ne 7, 1, 0, 0, 35), (31, .iconst 1, 0, 0, 1, 32), (32, .goto 4, 0, 0, 0, 36), (35, .iconst 0, 0, 0, 0, 36), (36, .istore 5, 0, 0, 0, 38), (38, .iload 5, 0, 0, 0, 40), (40, .ifCond .eq 21, 0, 0, 0, 43), (40, .ifCond .eq 21, 1, 0, 0, 61), (43, .iload_n 3, 0, 0, 0, 44), (44, .iconst (-1), 0, 0, (-1), 45), (45, .if_icmp .eq 13, 0, 0, 0, 48), (45, .if_icmp .eq 13, 1, 0, 0, 58), (48, .aload_n 1, 0, 0, 0, 49), (49, .iload 4, 0, 0, 0, 51), (51, .iaload, 0, 0, 0, 52), (52, .aload_n 1, 0, 0, 0, 53), (53, .iload_n 3, 0, 0, 0, 54), (54, .iaload, 0, 0, 0, 55), (55, .if_icmp .ge 6, 0, 0, 0, 58), (55, .if_icmp .ge 6, 1, 0, 0, 61), (58, .iload 4, 0, 0, 0, 60), (60, .istore_n 3, 0, 0, 0, 61), (61, .iinc 4 1, 0, 0, 1, 64), (64, .goto (-59), 0, 0, 0, 5), (67, .iload_n 3, 0, 0, 0, 68), (68, .ireturn, 0, 0, 0, 69)]
set_option maxRecDepth 100000 in
theorem ck_Places_nearest : cd_Places_nearest.all (ab_ok 52) = true := by decide +kernel
/-- LostDesk$Places.lookFrom -/
def cd_Places_lookFrom : List ab_E := [(0, .iconst 0, 0, 0, 0, 1), (1, .istore_n 3, 0, 0, 0, 2), (2, .iload_n 3, 0, 0, 0, 3), (3, .aload_n 0, 0, 0, 0, 4), (4, .getfield 23, 603, 117, 0, 7), (7, .if_icmp .ge 52, 0, 0, 0, 10), (7, .if_icmp .ge 52, 1, 0, 0, 59), (10, .aload_n 0, 0, 0, 0, 11), (11, .iload_n 1, 0, 0, 0, 12), (12, .iload_n 3, 0, 0, 0, 13), (13, .invokevirtual 48, 47, 448, 0, 16), (16, .ifCond .eq 37, 0, 0, 0, 19), (16, .ifCond .eq 37, 1, 0, 0, 53), (19, .aload_n 2, 0, 0, 0, 20), (20, .iload_n 1, 0, 0, 0, 21), (21, .iaload, 0, 0, 0, 22), (22, .aload_n 0, 0, 0, 0, 23), (23, .getfield 11, 600, 114, 0, 26), (26, .iload_n 1, 0, 0, 0, 27), (27, .aaload, 0, 0, 0, 28), (28, .iload_n 3, 0, 0, 0, 29), (29, .iaload, 0, 0, 0, 30), (30, .iadd, 0, 0, 0, 31), (31, .istore 4, 0, 0, 0, 33), (33, .aload_n 2, 0, 0, 0, 34), (34, .iload_n 3, 0, 0, 0, 35), (35, .iaload, 0, 0, 0, 36), (36, .iconst (-1), 0, 0, (-1), 37), (37, .if_icmp .eq 11, 0, 0, 0, 40), (37, .if_icmp .eq 11, 1, 0, 0, 48), (40, .iload 4, 0, 0, 0, 42), (42, .aload_n 2, 0, 0, 0, 43), (43, .iload_n 3, 0, 0, 0, 44), (44, .iaload, 0, 0, 0, 45), (45, .if_icmp .ge 8, 0, 0, 0, 48), (45, .if_icmp .ge 8, 1, 0, 0, 53), (48, .aload_n 2, 0, 0, 0, 49), (49, .iload_n 3, 0, 0, 0, 50), (50, .iload 4, 0, 0, 0, 52), (52, .iastore, 0, 0, 0, 53), (53, .iinc 3 1, 0, 0, 1, 56), (56, .goto (-54), 0, 0, 0, 2), (59, .return_, 0, 0, 0, 60)]
set_option maxRecDepth 100000 in
theorem ck_Places_lookFrom : cd_Places_lookFrom.all (ab_ok 53) = true := by decide +kernel
/-- LostDesk.status -/
def cd_D_status : List ab_E := [(0, .aload_n 0, 0, 0, 0, 1), (1, .getfield 80, 711, 302, 0, 4), (4, .ireturn, 0, 0, 0, 5)]
set_option maxRecDepth 100000 in
theorem ck_D_status : cd_D_status.all (ab_ok 54) = true := by decide +kernel
/-- LostDesk.kind -/
def cd_D_kind : List ab_E := [(0, .aload_n 0, 0, 0, 0, 1), (1, .getfield 10, 700, 291, 0, 4), (4, .iload_n 1, 0, 0, 0, 5), (5, .invokevirtual 93, 12, 345, 0, 8), (8, .ifCond .ne 9, 0, 0, 0, 11), (8, .ifCond .ne 9, 1, 0, 0, 17), (11, .aload_n 0, 0, 0, 0, 12), (12, .iconst 1, 0, 0, 1, 13), (13, .invokevirtual 97, 79, 353, 0, 16), (16, .ireturn, 0, 0, 0, 17), (17, .aload_n 0, 0, 0, 0, 18), (18, .getfield 10, 700, 291, 0, 21), (21, .invokevirtual 101, 11, 357, 0, 24), (24, .ifCond .eq 9, 0, 0, 0, 27), (24, .ifCond .eq 9, 1, 0, 0, 33), (27, .aload_n 0, 0, 0, 0, 28), (28, .iconst 3, 0, 0, 3, 29), (29, .invokevirtual 97, 79, 353, 0, 32), (32, .ireturn, 0, 0, 0, 33), (33, .aload_n 0, 0, 0, 0, 34), (34, .aload_n 0, 0, 0, 0, 35), (35, .getfield 10, 700, 291, 0, 38), (38, .iload_n 1, 0, 0, 0, 39), (39, .invokevirtual 105, 13, 361, 0, 42), (42, .invokevirtual 108, 78, 365, 0, 45), (45, .ireturn, 0, 0, 0, 46)]
set_option maxRecDepth 100000 in
theorem ck_D_kind : cd_D_kind.all (ab_ok 55) = true := by decide +kernel
/-- LostDesk.near -/
def cd_D_near : List ab_E := [(0, .iload_n 1, 0, 0, 0, 1), (1, .invokestatic 111, 83, 373, 0, 4), (4, .ifCond .eq 15, 0, 0, 0, 7), (4, .ifCond .eq 15, 1, 0, 0, 19), (7, .iload_n 2, 0, 0, 0, 8), (8, .invokestatic 111, 83, 373, 0, 11), (11, .ifCond .eq 8, 0, 0, 0, 14), (11, .ifCond .eq 8, 1, 0, 0, 19), (14, .iload_n 1, 0, 0, 0, 15), (15, .iload_n 2, 0, 0, 0, 16), (16, .if_icmp .ne 9, 0, 0, 0, 19), (16, .if_icmp .ne 9, 1, 0, 0, 25), (19, .aload_n 0, 0, 0, 0, 20), (20, .iconst 2, 0, 0, 2, 21), (21, .invokevirtual 114, 81, 379, 0, 24), (24, .ireturn, 0, 0, 0, 25), (25, .aload_n 0, 0, 0, 0, 26), (26, .getfield 19, 701, 292, 0, 29), (29, .iload_n 1, 0, 0, 0, 30), (30, .iload_n 2, 0, 0, 0, 31), (31, .invokevirtual 117, 0, 383, 0, 34), (34, .iload_n 3, 0, 0, 0, 35), (35, .if_icmp .ne 9, 0, 0, 0, 38), (35, .if_icmp .ne 9, 1, 0, 0, 44), (38, .aload_n 0, 0, 0, 0, 39), (39, .iconst 4, 0, 0, 4, 40), (40, .invokevirtual 114, 81, 379, 0, 43), (43, .ireturn, 0, 0, 0, 44), (44, .aload_n 0, 0, 0, 0, 45), (45, .getfield 19, 701, 292, 0, 48), (48, .iload_n 1, 0, 0, 0, 49), (49, .iload_n 2, 0, 0, 0, 50), (50, .invokevirtual 121, 1, 387, 0, 53), (53, .aload_n 0, 0, 0, 0, 54), (54, .iconst 1, 0, 0, 1, 55), (55, .putfield 89, 10714, 305, 0, 58), (58, .aload_n 0, 0, 0, 0, 59), (59, .invokevirtual 125, 80, 391, 0, 62), (62, .ireturn, 0, 0, 0, 63)]
set_option maxRecDepth 100000 in
theorem ck_D_near : cd_D_near.all (ab_ok 56) = true := by decide +kernel
/-- LostDesk.place -/
def cd_D_place : List ab_E := [(0, .aload_n 0, 0, 0, 0, 1), (1, .getfield 26, 702, 293, 0, 4), (4, .invokevirtual 128, 45, 399, 0, 7), (7, .ifCond .eq 9, 0, 0, 0, 10), (7, .ifCond .eq 9, 1, 0, 0, 16), (10, .aload_n 0, 0, 0, 0, 11), (11, .iconst 3, 0, 0, 3, 12), (12, .invokevirtual 97, 79, 353, 0, 15), (15, .ireturn, 0, 0, 0, 16), (16, .aload_n 0, 0, 0, 0, 17), (17, .aload_n 0, 0, 0, 0, 18), (18, .getfield 26, 702, 293, 0, 21), (21, .invokevirtual 129, 46, 403, 0, 24), (24, .invokevirtual 108, 78, 365, 0, 27), (27, .ireturn, 0, 0, 0, 28)]
set_option maxRecDepth 100000 in
theorem ck_D_place : cd_D_place.all (ab_ok 57) = true := by decide +kernel
def cd_D_way_0 : List ab_E := [(0, .aload_n 0, 0, 0, 0, 1), (1, .getfield 26, 702, 293, 0, 4), (4, .iload_n 1, 0, 0, 0, 5), (5, .invokevirtual 132, 44, 412, 0, 8), (8, .ifCond .eq 19, 0, 0, 0, 11), (8, .ifCond .eq 19, 1, 0, 0, 27), (11, .aload_n 0, 0, 0, 0, 12), (12, .getfield 26, 702, 293, 0, 15), (15, .iload_n 2, 0, 0, 0, 16), (16, .invokevirtual 132, 44, 412, 0, 19), (19, .ifCond .eq 8, 0, 0, 0, 22), (19, .ifCond .eq 8, 1, 0, 0, 27), (22, .iload_n 1, 0, 0, 0, 23), (23, .iload_n 2, 0, 0, 0, 24), (24, .if_icmp .ne 9, 0, 0, 0, 27), (24, .if_icmp .ne 9, 1, 0, 0, 33), (27, .aload_n 0, 0, 0, 0, 28), (28, .iconst 1, 0, 0, 1, 29), (29, .invokevirtual 114, 81, 379, 0, 32), (32, .ireturn, 0, 0, 0, 33), (33, .iload_n 3, 0, 0, 0, 34), (34, .iconst (-1), 0, 0, (-1), 35), (35, .if_icmp .eq 20, 0, 0, 0, 38), (35, .if_icmp .eq 20, 1, 0, 0, 55), (38, .iload_n 3, 0, 0, 0, 39), (39, .iconst 1, 0, 0, 1, 40), (40, .sipush 1000, 0, 0, 1000, 43), (43, .invokestatic 135, 82, 376, 0, 46), (46, .ifCond .ne 9, 0, 0, 0, 49), (46, .ifCond .ne 9, 1, 0, 0, 55), (49, .aload_n 0, 0, 0, 0, 50), (50, .iconst 2, 0, 0, 2, 51), (51, .invokevirtual 114, 81, 379, 0, 54), (54, .ireturn, 0, 0, 0, 55), (55, .iload_n 3, 0, 0, 0, 56), (56, .iconst (-1), 0, 0, (-1), 57), (57, .if_icmp .ne 22, 0, 0, 0, 60), (57, .if_icmp .ne 22, 1, 0, 0, 79), (60, .aload_n 0, 0, 0, 0, 61), (61, .getfield 26, 702, 293, 0, 64), (64, .iload_n 1, 0, 0, 0, 65), (65, .iload_n 2, 0, 0, 0, 66), (66, .invokevirtual 139, 47, 416, 0, 69), (69, .ifCond .ne 10, 0, 0, 0, 72), (69, .ifCond .ne 10, 1, 0, 0, 79), (72, .aload_n 0, 0, 0, 0, 73), (73, .bipush 7, 0, 0, 7, 75), (75, .invokevirtual 114, 81, 379, 0, 78)]
set_option maxRecDepth 100000 in
theorem ck_D_way_0 : cd_D_way_0.all (ab_ok 58) = true := by decide +kernel
def cd_D_way_1 : List ab_E := [(78, .ireturn, 0, 0, 0, 79), (79, .aload_n 0, 0, 0, 0, 80), (80, .getfield 26, 702, 293, 0, 83), (83, .iload_n 1, 0, 0, 0, 84), (84, .iload_n 2, 0, 0, 0, 85), (85, .iload_n 3, 0, 0, 0, 86), (86, .invokevirtual 142, 48, 420, 0, 89), (89, .aload_n 0, 0, 0, 0, 90), (90, .iconst 1, 0, 0, 1, 91), (91, .putfield 89, 10714, 305, 0, 94), (94, .aload_n 0, 0, 0, 0, 95), (95, .invokevirtual 125, 80, 391, 0, 98), (98, .ireturn, 0, 0, 0, 99)]
set_option maxRecDepth 100000 in
theorem ck_D_way_1 : cd_D_way_1.all (ab_ok 58) = true := by decide +kernel
/-- LostDesk.way -/
def cd_D_way : List ab_E := cd_D_way_0 ++ (cd_D_way_1)
theorem ck_D_way : cd_D_way.all (ab_ok 58) = true := ab_all_app ck_D_way_0 (ck_D_way_1)
/-- LostDesk.far -/
def cd_D_far : List ab_E := [(0, .aload_n 0, 0, 0, 0, 1), (1, .getfield 26, 702, 293, 0, 4), (4, .iload_n 1, 0, 0, 0, 5), (5, .invokevirtual 132, 44, 412, 0, 8), (8, .ifCond .eq 14, 0, 0, 0, 11), (8, .ifCond .eq 14, 1, 0, 0, 22), (11, .aload_n 0, 0, 0, 0, 12), (12, .getfield 26, 702, 293, 0, 15), (15, .iload_n 2, 0, 0, 0, 16), (16, .invokevirtual 132, 44, 412, 0, 19), (19, .ifCond .ne 9, 0, 0, 0, 22), (19, .ifCond .ne 9, 1, 0, 0, 28), (22, .aload_n 0, 0, 0, 0, 23), (23, .iconst 1, 0, 0, 1, 24), (24, .invokevirtual 97, 79, 353, 0, 27), (27, .ireturn, 0, 0, 0, 28), (28, .aload_n 0, 0, 0, 0, 29), (29, .getfield 26, 702, 293, 0, 32), (32, .iload_n 1, 0, 0, 0, 33), (33, .iload_n 2, 0, 0, 0, 34), (34, .invokevirtual 146, 49, 432, 0, 37), (37, .istore_n 3, 0, 0, 0, 38), (38, .iload_n 3, 0, 0, 0, 39), (39, .iconst (-1), 0, 0, (-1), 40), (40, .if_icmp .ne 12, 0, 0, 0, 43), (40, .if_icmp .ne 12, 1, 0, 0, 52), (43, .aload_n 0, 0, 0, 0, 44), (44, .bipush 7, 0, 0, 7, 46), (46, .invokevirtual 97, 79, 353, 0, 49), (49, .goto 8, 0, 0, 0, 57), (52, .aload_n 0, 0, 0, 0, 53), (53, .iload_n 3, 0, 0, 0, 54), (54, .invokevirtual 108, 78, 365, 0, 57), (57, .ireturn, 0, 0, 0, 58)]
set_option maxRecDepth 100000 in
theorem ck_D_far : cd_D_far.all (ab_ok 59) = true := by decide +kernel
def cd_D_found_0 : List ab_E := [(0, .aload_n 0, 0, 0, 0, 1), (1, .getfield 10, 700, 291, 0, 4), (4, .iload_n 1, 0, 0, 0, 5), (5, .invokevirtual 150, 10, 453, 0, 8), (8, .ifCond .eq 15, 0, 0, 0, 11), (8, .ifCond .eq 15, 1, 0, 0, 23), (11, .aload_n 0, 0, 0, 0, 12), (12, .getfield 26, 702, 293, 0, 15), (15, .iload 4, 0, 0, 0, 17), (17, .invokevirtual 132, 44, 412, 0, 20), (20, .ifCond .ne 9, 0, 0, 0, 23), (20, .ifCond .ne 9, 1, 0, 0, 29), (23, .aload_n 0, 0, 0, 0, 24), (24, .iconst 1, 0, 0, 1, 25), (25, .invokevirtual 97, 79, 353, 0, 28), (28, .ireturn, 0, 0, 0, 29), (29, .iload_n 2, 0, 0, 0, 30), (30, .invokestatic 151, 84, 454, 0, 33), (33, .ifCond .eq 10, 0, 0, 0, 36), (33, .ifCond .eq 10, 1, 0, 0, 43), (36, .iload_n 3, 0, 0, 0, 37), (37, .invokestatic 154, 85, 457, 0, 40), (40, .ifCond .ne 9, 0, 0, 0, 43), (40, .ifCond .ne 9, 1, 0, 0, 49), (43, .aload_n 0, 0, 0, 0, 44), (44, .iconst 2, 0, 0, 2, 45), (45, .invokevirtual 97, 79, 353, 0, 48), (48, .ireturn, 0, 0, 0, 49), (49, .iload 5, 0, 0, 0, 51), (51, .iconst 0, 0, 0, 0, 52), (52, .ldc 157, 0, 461, 100000, 54), (54, .invokestatic 135, 82, 376, 0, 57), (57, .ifCond .ne 9, 0, 0, 0, 60), (57, .ifCond .ne 9, 1, 0, 0, 66), (60, .aload_n 0, 0, 0, 0, 61), (61, .iconst 2, 0, 0, 2, 62), (62, .invokevirtual 97, 79, 353, 0, 65), (65, .ireturn, 0, 0, 0, 66), (66, .aload_n 0, 0, 0, 0, 67), (67, .getfield 33, 703, 294, 0, 70), (70, .invokevirtual 158, 4, 462, 0, 73), (73, .ifCond .eq 9, 0, 0, 0, 76), (73, .ifCond .eq 9, 1, 0, 0, 82), (76, .aload_n 0, 0, 0, 0, 77), (77, .iconst 3, 0, 0, 3, 78), (78, .invokevirtual 97, 79, 353, 0, 81), (81, .ireturn, 0, 0, 0, 82), (82, .aload_n 0, 0, 0, 0, 83)]
set_option maxRecDepth 100000 in
theorem ck_D_found_0 : cd_D_found_0.all (ab_ok 60) = true := by decide +kernel
def cd_D_found_1 : List ab_E := [(83, .iconst 1, 0, 0, 1, 84), (84, .putfield 89, 10714, 305, 0, 87), (87, .aload_n 0, 0, 0, 0, 88), (88, .aload_n 0, 0, 0, 0, 89), (89, .getfield 33, 703, 294, 0, 92), (92, .iload_n 1, 0, 0, 0, 93), (93, .iload_n 2, 0, 0, 0, 94), (94, .iload_n 3, 0, 0, 0, 95), (95, .iload 4, 0, 0, 0, 97), (97, .iload 5, 0, 0, 0, 99), (99, .invokevirtual 159, 5, 466, 0, 102), (102, .invokevirtual 108, 78, 365, 0, 105), (105, .ireturn, 0, 0, 0, 106)]
set_option maxRecDepth 100000 in
theorem ck_D_found_1 : cd_D_found_1.all (ab_ok 60) = true := by decide +kernel
/-- LostDesk.found -/
def cd_D_found : List ab_E := cd_D_found_0 ++ (cd_D_found_1)
theorem ck_D_found : cd_D_found.all (ab_ok 60) = true := ab_all_app ck_D_found_0 (ck_D_found_1)
def cd_D_lost_0 : List ab_E := [(0, .aload_n 0, 0, 0, 0, 1), (1, .getfield 10, 700, 291, 0, 4), (4, .iload_n 1, 0, 0, 0, 5), (5, .invokevirtual 150, 10, 453, 0, 8), (8, .ifCond .eq 15, 0, 0, 0, 11), (8, .ifCond .eq 15, 1, 0, 0, 23), (11, .aload_n 0, 0, 0, 0, 12), (12, .getfield 26, 702, 293, 0, 15), (15, .iload 4, 0, 0, 0, 17), (17, .invokevirtual 132, 44, 412, 0, 20), (20, .ifCond .ne 9, 0, 0, 0, 23), (20, .ifCond .ne 9, 1, 0, 0, 29), (23, .aload_n 0, 0, 0, 0, 24), (24, .iconst 1, 0, 0, 1, 25), (25, .invokevirtual 97, 79, 353, 0, 28), (28, .ireturn, 0, 0, 0, 29), (29, .iload_n 2, 0, 0, 0, 30), (30, .invokestatic 151, 84, 454, 0, 33), (33, .ifCond .eq 10, 0, 0, 0, 36), (33, .ifCond .eq 10, 1, 0, 0, 43), (36, .iload_n 3, 0, 0, 0, 37), (37, .invokestatic 154, 85, 457, 0, 40), (40, .ifCond .ne 9, 0, 0, 0, 43), (40, .ifCond .ne 9, 1, 0, 0, 49), (43, .aload_n 0, 0, 0, 0, 44), (44, .iconst 2, 0, 0, 2, 45), (45, .invokevirtual 97, 79, 353, 0, 48), (48, .ireturn, 0, 0, 0, 49), (49, .iload 5, 0, 0, 0, 51), (51, .iconst 0, 0, 0, 0, 52), (52, .ldc 157, 0, 461, 100000, 54), (54, .invokestatic 135, 82, 376, 0, 57), (57, .ifCond .eq 15, 0, 0, 0, 60), (57, .ifCond .eq 15, 1, 0, 0, 72), (60, .iload 6, 0, 0, 0, 62), (62, .iload 5, 0, 0, 0, 64), (64, .ldc 157, 0, 461, 100000, 66), (66, .invokestatic 135, 82, 376, 0, 69), (69, .ifCond .ne 9, 0, 0, 0, 72), (69, .ifCond .ne 9, 1, 0, 0, 78), (72, .aload_n 0, 0, 0, 0, 73), (73, .iconst 2, 0, 0, 2, 74), (74, .invokevirtual 97, 79, 353, 0, 77), (77, .ireturn, 0, 0, 0, 78), (78, .aload_n 0, 0, 0, 0, 79), (79, .getfield 40, 704, 295, 0, 82), (82, .invokevirtual 162, 17, 474, 0, 85), (85, .ifCond .eq 9, 0, 0, 0, 88)]
set_option maxRecDepth 100000 in
theorem ck_D_lost_0 : cd_D_lost_0.all (ab_ok 61) = true := by decide +kernel
def cd_D_lost_1 : List ab_E := [(85, .ifCond .eq 9, 1, 0, 0, 94), (88, .aload_n 0, 0, 0, 0, 89), (89, .iconst 3, 0, 0, 3, 90), (90, .invokevirtual 97, 79, 353, 0, 93), (93, .ireturn, 0, 0, 0, 94), (94, .aload_n 0, 0, 0, 0, 95), (95, .iconst 1, 0, 0, 1, 96), (96, .putfield 89, 10714, 305, 0, 99), (99, .aload_n 0, 0, 0, 0, 100), (100, .aload_n 0, 0, 0, 0, 101), (101, .getfield 40, 704, 295, 0, 104), (104, .iload_n 1, 0, 0, 0, 105), (105, .iload_n 2, 0, 0, 0, 106), (106, .iload_n 3, 0, 0, 0, 107), (107, .iload 4, 0, 0, 0, 109), (109, .iload 5, 0, 0, 0, 111), (111, .iload 6, 0, 0, 0, 113), (113, .invokevirtual 163, 18, 478, 0, 116), (116, .invokevirtual 108, 78, 365, 0, 119), (119, .ireturn, 0, 0, 0, 120)]
set_option maxRecDepth 100000 in
theorem ck_D_lost_1 : cd_D_lost_1.all (ab_ok 61) = true := by decide +kernel
/-- LostDesk.lost -/
def cd_D_lost : List ab_E := cd_D_lost_0 ++ (cd_D_lost_1)
theorem ck_D_lost : cd_D_lost.all (ab_ok 61) = true := ab_all_app ck_D_lost_0 (ck_D_lost_1)
def cd_D_told_0 : List ab_E := [(0, .aload_n 0, 0, 0, 0, 1), (1, .getfield 33, 703, 294, 0, 4), (4, .iload_n 1, 0, 0, 0, 5), (5, .invokevirtual 166, 3, 486, 0, 8), (8, .ifCond .ne 9, 0, 0, 0, 11), (8, .ifCond .ne 9, 1, 0, 0, 17), (11, .aload_n 0, 0, 0, 0, 12), (12, .iconst 1, 0, 0, 1, 13), (13, .invokevirtual 97, 79, 353, 0, 16), (16, .ireturn, 0, 0, 0, 17), (17, .iload_n 2, 0, 0, 0, 18), (18, .tableswitch 140 0 6 #[42, 56, 70, 84, 98, 112, 126], 0, 0, 0, 158), (18, .tableswitch 140 0 6 #[42, 56, 70, 84, 98, 112, 126], 1, 0, 0, 60), (18, .tableswitch 140 0 6 #[42, 56, 70, 84, 98, 112, 126], 1, 1, 1, 74), (18, .tableswitch 140 0 6 #[42, 56, 70, 84, 98, 112, 126], 1, 2, 2, 88), (18, .tableswitch 140 0 6 #[42, 56, 70, 84, 98, 112, 126], 1, 3, 3, 102), (18, .tableswitch 140 0 6 #[42, 56, 70, 84, 98, 112, 126], 1, 4, 4, 116), (18, .tableswitch 140 0 6 #[42, 56, 70, 84, 98, 112, 126], 1, 5, 5, 130), (18, .tableswitch 140 0 6 #[42, 56, 70, 84, 98, 112, 126], 1, 6, 6, 144), (60, .aload_n 0, 0, 0, 0, 61), (61, .aload_n 0, 0, 0, 0, 62), (62, .getfield 33, 703, 294, 0, 65), (65, .getfield 167, 100, 135, 0, 68), (68, .iload_n 1, 0, 0, 0, 69), (69, .iaload, 0, 0, 0, 70), (70, .invokevirtual 108, 78, 365, 0, 73), (73, .ireturn, 0, 0, 0, 74), (74, .aload_n 0, 0, 0, 0, 75), (75, .aload_n 0, 0, 0, 0, 76), (76, .getfield 33, 703, 294, 0, 79), (79, .getfield 170, 101, 137, 0, 82), (82, .iload_n 1, 0, 0, 0, 83), (83, .iaload, 0, 0, 0, 84), (84, .invokevirtual 108, 78, 365, 0, 87), (87, .ireturn, 0, 0, 0, 88), (88, .aload_n 0, 0, 0, 0, 89), (89, .aload_n 0, 0, 0, 0, 90), (90, .getfield 33, 703, 294, 0, 93), (93, .getfield 173, 103, 141, 0, 96), (96, .iload_n 1, 0, 0, 0, 97), (97, .iaload, 0, 0, 0, 98), (98, .invokevirtual 108, 78, 365, 0, 101), (101, .ireturn, 0, 0, 0, 102), (102, .aload_n 0, 0, 0, 0, 103), (103, .aload_n 0, 0, 0, 0, 104), (104, .getfield 33, 703, 294, 0, 107), (107, .getfield 176, 104, 143, 0, 110), (110, .iload_n 1, 0, 0, 0, 111)]
set_option maxRecDepth 100000 in
theorem ck_D_told_0 : cd_D_told_0.all (ab_ok 62) = true := by decide +kernel
def cd_D_told_1 : List ab_E := [(111, .iaload, 0, 0, 0, 112), (112, .invokevirtual 108, 78, 365, 0, 115), (115, .ireturn, 0, 0, 0, 116), (116, .aload_n 0, 0, 0, 0, 117), (117, .aload_n 0, 0, 0, 0, 118), (118, .getfield 33, 703, 294, 0, 121), (121, .getfield 179, 105, 145, 0, 124), (124, .iload_n 1, 0, 0, 0, 125), (125, .iaload, 0, 0, 0, 126), (126, .invokevirtual 108, 78, 365, 0, 129), (129, .ireturn, 0, 0, 0, 130), (130, .aload_n 0, 0, 0, 0, 131), (131, .aload_n 0, 0, 0, 0, 132), (132, .getfield 33, 703, 294, 0, 135), (135, .getfield 182, 106, 147, 0, 138), (138, .iload_n 1, 0, 0, 0, 139), (139, .iaload, 0, 0, 0, 140), (140, .invokevirtual 108, 78, 365, 0, 143), (143, .ireturn, 0, 0, 0, 144), (144, .aload_n 0, 0, 0, 0, 145), (145, .aload_n 0, 0, 0, 0, 146), (146, .getfield 33, 703, 294, 0, 149), (149, .getfield 185, 107, 149, 0, 152), (152, .iload_n 1, 0, 0, 0, 153), (153, .iaload, 0, 0, 0, 154), (154, .invokevirtual 108, 78, 365, 0, 157), (157, .ireturn, 0, 0, 0, 158), (158, .aload_n 0, 0, 0, 0, 159), (159, .iconst 2, 0, 0, 2, 160), (160, .invokevirtual 97, 79, 353, 0, 163), (163, .ireturn, 0, 0, 0, 164)]
set_option maxRecDepth 100000 in
theorem ck_D_told_1 : cd_D_told_1.all (ab_ok 62) = true := by decide +kernel
/-- LostDesk.told -/
def cd_D_told : List ab_E := cd_D_told_0 ++ (cd_D_told_1)
theorem ck_D_told : cd_D_told.all (ab_ok 62) = true := ab_all_app ck_D_told_0 (ck_D_told_1)
/-- LostDesk.cost -/
def cd_D_cost : List ab_E := [(0, .aload_n 0, 0, 0, 0, 1), (1, .getfield 40, 704, 295, 0, 4), (4, .iload_n 1, 0, 0, 0, 5), (5, .invokevirtual 188, 16, 494, 0, 8), (8, .ifCond .eq 14, 0, 0, 0, 11), (8, .ifCond .eq 14, 1, 0, 0, 22), (11, .aload_n 0, 0, 0, 0, 12), (12, .getfield 33, 703, 294, 0, 15), (15, .iload_n 2, 0, 0, 0, 16), (16, .invokevirtual 166, 3, 486, 0, 19), (19, .ifCond .ne 9, 0, 0, 0, 22), (19, .ifCond .ne 9, 1, 0, 0, 28), (22, .aload_n 0, 0, 0, 0, 23), (23, .iconst 1, 0, 0, 1, 24), (24, .invokevirtual 97, 79, 353, 0, 27), (27, .ireturn, 0, 0, 0, 28), (28, .aload_n 0, 0, 0, 0, 29), (29, .iload_n 1, 0, 0, 0, 30), (30, .iload_n 2, 0, 0, 0, 31), (31, .invokevirtual 189, 86, 498, 0, 34), (34, .istore_n 3, 0, 0, 0, 35), (35, .iload_n 3, 0, 0, 0, 36), (36, .iconst (-1), 0, 0, (-1), 37), (37, .if_icmp .ne 12, 0, 0, 0, 40), (37, .if_icmp .ne 12, 1, 0, 0, 49), (40, .aload_n 0, 0, 0, 0, 41), (41, .bipush 6, 0, 0, 6, 43), (43, .invokevirtual 97, 79, 353, 0, 46), (46, .goto 8, 0, 0, 0, 54), (49, .aload_n 0, 0, 0, 0, 50), (50, .iload_n 3, 0, 0, 0, 51), (51, .invokevirtual 108, 78, 365, 0, 54), (54, .ireturn, 0, 0, 0, 55)]
set_option maxRecDepth 100000 in
theorem ck_D_cost : cd_D_cost.all (ab_ok 63) = true := by decide +kernel
/-- LostDesk.gap -/
def cd_D_gap : List ab_E := [(0, .iload_n 1, 0, 0, 0, 1), (1, .iconst 0, 0, 0, 0, 2), (2, .bipush 100, 0, 0, 100, 4), (4, .invokestatic 135, 82, 376, 0, 7), (7, .ifCond .ne 9, 0, 0, 0, 10), (7, .ifCond .ne 9, 1, 0, 0, 16), (10, .aload_n 0, 0, 0, 0, 11), (11, .iconst 2, 0, 0, 2, 12), (12, .invokevirtual 114, 81, 379, 0, 15), (15, .ireturn, 0, 0, 0, 16), (16, .aload_n 0, 0, 0, 0, 17), (17, .iload_n 1, 0, 0, 0, 18), (18, .putfield 86, 713, 304, 0, 21), (21, .aload_n 0, 0, 0, 0, 22), (22, .iconst 1, 0, 0, 1, 23), (23, .putfield 89, 10714, 305, 0, 26), (26, .aload_n 0, 0, 0, 0, 27), (27, .invokevirtual 125, 80, 391, 0, 30), (30, .ireturn, 0, 0, 0, 31)]
set_option maxRecDepth 100000 in
theorem ck_D_gap : cd_D_gap.all (ab_ok 64) = true := by decide +kernel
/-- LostDesk.match -/
def cd_D_match : List ab_E := [(0, .aload_n 0, 0, 0, 0, 1), (1, .invokevirtual 192, 87, 537, 0, 4), (4, .aload_n 0, 0, 0, 0, 5), (5, .aload_n 0, 0, 0, 0, 6), (6, .getfield 47, 705, 296, 0, 9), (9, .getfield 195, 514, 233, 0, 12), (12, .invokevirtual 108, 78, 365, 0, 15), (15, .ireturn, 0, 0, 0, 16)]
set_option maxRecDepth 100000 in
theorem ck_D_match : cd_D_match.all (ab_ok 65) = true := by decide +kernel
/-- LostDesk.matched -/
def cd_D_matched : List ab_E := [(0, .aload_n 0, 0, 0, 0, 1), (1, .getfield 40, 704, 295, 0, 4), (4, .iload_n 1, 0, 0, 0, 5), (5, .invokevirtual 188, 16, 494, 0, 8), (8, .ifCond .ne 9, 0, 0, 0, 11), (8, .ifCond .ne 9, 1, 0, 0, 17), (11, .aload_n 0, 0, 0, 0, 12), (12, .iconst 1, 0, 0, 1, 13), (13, .invokevirtual 97, 79, 353, 0, 16), (16, .ireturn, 0, 0, 0, 17), (17, .aload_n 0, 0, 0, 0, 18), (18, .getfield 40, 704, 295, 0, 21), (21, .getfield 198, 306, 190, 0, 24), (24, .iload_n 1, 0, 0, 0, 25), (25, .baload, 0, 0, 0, 26), (26, .ifCond .eq 9, 0, 0, 0, 29), (26, .ifCond .eq 9, 1, 0, 0, 35), (29, .aload_n 0, 0, 0, 0, 30), (30, .iconst 5, 0, 0, 5, 31), (31, .invokevirtual 97, 79, 353, 0, 34), (34, .ireturn, 0, 0, 0, 35), (35, .aload_n 0, 0, 0, 0, 36), (36, .invokevirtual 192, 87, 537, 0, 39), (39, .aload_n 0, 0, 0, 0, 40), (40, .getfield 47, 705, 296, 0, 43), (43, .getfield 202, 502, 220, 0, 46), (46, .iload_n 1, 0, 0, 0, 47), (47, .iaload, 0, 0, 0, 48), (48, .istore_n 2, 0, 0, 0, 49), (49, .iload_n 2, 0, 0, 0, 50), (50, .iconst (-1), 0, 0, (-1), 51), (51, .if_icmp .ne 12, 0, 0, 0, 54), (51, .if_icmp .ne 12, 1, 0, 0, 63), (54, .aload_n 0, 0, 0, 0, 55), (55, .bipush 7, 0, 0, 7, 57), (57, .invokevirtual 97, 79, 353, 0, 60), (60, .goto 8, 0, 0, 0, 68), (63, .aload_n 0, 0, 0, 0, 64), (64, .iload_n 2, 0, 0, 0, 65), (65, .invokevirtual 108, 78, 365, 0, 68), (68, .ireturn, 0, 0, 0, 69)]
set_option maxRecDepth 100000 in
theorem ck_D_matched : cd_D_matched.all (ab_ok 66) = true := by decide +kernel
def cd_D_sure_0 : List ab_E := [(0, .aload_n 0, 0, 0, 0, 1), (1, .getfield 40, 704, 295, 0, 4), (4, .iload_n 1, 0, 0, 0, 5), (5, .invokevirtual 188, 16, 494, 0, 8), (8, .ifCond .ne 9, 0, 0, 0, 11), (8, .ifCond .ne 9, 1, 0, 0, 17), (11, .aload_n 0, 0, 0, 0, 12), (12, .iconst 1, 0, 0, 1, 13), (13, .invokevirtual 97, 79, 353, 0, 16), (16, .ireturn, 0, 0, 0, 17), (17, .iload_n 2, 0, 0, 0, 18), (18, .iconst 0, 0, 0, 0, 19), (19, .sipush 1000, 0, 0, 1000, 22), (22, .invokestatic 135, 82, 376, 0, 25), (25, .ifCond .ne 9, 0, 0, 0, 28), (25, .ifCond .ne 9, 1, 0, 0, 34), (28, .aload_n 0, 0, 0, 0, 29), (29, .iconst 2, 0, 0, 2, 30), (30, .invokevirtual 97, 79, 353, 0, 33), (33, .ireturn, 0, 0, 0, 34), (34, .aload_n 0, 0, 0, 0, 35), (35, .getfield 40, 704, 295, 0, 38), (38, .getfield 198, 306, 190, 0, 41), (41, .iload_n 1, 0, 0, 0, 42), (42, .baload, 0, 0, 0, 43), (43, .ifCond .eq 9, 0, 0, 0, 46), (43, .ifCond .eq 9, 1, 0, 0, 52), (46, .aload_n 0, 0, 0, 0, 47), (47, .iconst 5, 0, 0, 5, 48), (48, .invokevirtual 97, 79, 353, 0, 51), (51, .ireturn, 0, 0, 0, 52), (52, .aload_n 0, 0, 0, 0, 53), (53, .invokevirtual 192, 87, 537, 0, 56), (56, .aload_n 0, 0, 0, 0, 57), (57, .getfield 47, 705, 296, 0, 60), (60, .getfield 202, 502, 220, 0, 63), (63, .iload_n 1, 0, 0, 0, 64), (64, .iaload, 0, 0, 0, 65), (65, .istore_n 3, 0, 0, 0, 66), (66, .iload_n 3, 0, 0, 0, 67), (67, .iconst (-1), 0, 0, (-1), 68), (68, .if_icmp .ne 10, 0, 0, 0, 71), (68, .if_icmp .ne 10, 1, 0, 0, 78), (71, .aload_n 0, 0, 0, 0, 72), (72, .bipush 7, 0, 0, 7, 74), (74, .invokevirtual 97, 79, 353, 0, 77), (77, .ireturn, 0, 0, 0, 78), (78, .aload_n 0, 0, 0, 0, 79)]
set_option maxRecDepth 100000 in
theorem ck_D_sure_0 : cd_D_sure_0.all (ab_ok 67) = true := by decide +kernel
def cd_D_sure_1 : List ab_E := [(79, .aload_n 0, 0, 0, 0, 80), (80, .getfield 47, 705, 296, 0, 83), (83, .iload_n 1, 0, 0, 0, 84), (84, .iload_n 3, 0, 0, 0, 85), (85, .invokevirtual 205, 28, 631, 0, 88), (88, .aload_n 0, 0, 0, 0, 89), (89, .getfield 47, 705, 296, 0, 92), (92, .getfield 195, 514, 233, 0, 95), (95, .iload_n 2, 0, 0, 0, 96), (96, .iadd, 0, 0, 0, 97), (97, .if_icmp .le 7, 0, 0, 0, 100), (97, .if_icmp .le 7, 1, 0, 0, 104), (100, .iconst 1, 0, 0, 1, 101), (101, .goto 4, 0, 0, 0, 105), (104, .iconst 0, 0, 0, 0, 105), (105, .invokevirtual 108, 78, 365, 0, 108), (108, .ireturn, 0, 0, 0, 109)]
set_option maxRecDepth 100000 in
theorem ck_D_sure_1 : cd_D_sure_1.all (ab_ok 67) = true := by decide +kernel
/-- LostDesk.sure -/
def cd_D_sure : List ab_E := cd_D_sure_0 ++ (cd_D_sure_1)
theorem ck_D_sure : cd_D_sure.all (ab_ok 67) = true := ab_all_app ck_D_sure_0 (ck_D_sure_1)
def cd_D_alike_0 : List ab_E := [(0, .aload_n 0, 0, 0, 0, 1), (1, .getfield 33, 703, 294, 0, 4), (4, .iload_n 1, 0, 0, 0, 5), (5, .invokevirtual 166, 3, 486, 0, 8), (8, .ifCond .ne 9, 0, 0, 0, 11), (8, .ifCond .ne 9, 1, 0, 0, 17), (11, .aload_n 0, 0, 0, 0, 12), (12, .iconst 1, 0, 0, 1, 13), (13, .invokevirtual 97, 79, 353, 0, 16), (16, .ireturn, 0, 0, 0, 17), (17, .iload_n 2, 0, 0, 0, 18), (18, .invokestatic 154, 85, 457, 0, 21), (21, .ifCond .ne 9, 0, 0, 0, 24), (21, .ifCond .ne 9, 1, 0, 0, 30), (24, .aload_n 0, 0, 0, 0, 25), (25, .iconst 2, 0, 0, 2, 26), (26, .invokevirtual 97, 79, 353, 0, 29), (29, .ireturn, 0, 0, 0, 30), (30, .aload_n 0, 0, 0, 0, 31), (31, .getfield 33, 703, 294, 0, 34), (34, .iload_n 1, 0, 0, 0, 35), (35, .invokevirtual 208, 6, 549, 0, 38), (38, .ifCond .ne 9, 0, 0, 0, 41), (38, .ifCond .ne 9, 1, 0, 0, 47), (41, .aload_n 0, 0, 0, 0, 42), (42, .iconst 5, 0, 0, 5, 43), (43, .invokevirtual 97, 79, 353, 0, 46), (46, .ireturn, 0, 0, 0, 47), (47, .iconst 0, 0, 0, 0, 48), (48, .istore_n 3, 0, 0, 0, 49), (49, .iconst 0, 0, 0, 0, 50), (50, .istore 4, 0, 0, 0, 52), (52, .iload 4, 0, 0, 0, 54), (54, .aload_n 0, 0, 0, 0, 55), (55, .getfield 33, 703, 294, 0, 58), (58, .getfield 211, 108, 151, 0, 61), (61, .if_icmp .ge 46, 0, 0, 0, 64), (61, .if_icmp .ge 46, 1, 0, 0, 107), (64, .aload_n 0, 0, 0, 0, 65), (65, .iload_n 1, 0, 0, 0, 66), (66, .iload 4, 0, 0, 0, 68), (68, .invokevirtual 214, 88, 639, 0, 71), (71, .iload_n 2, 0, 0, 0, 72), (72, .iand, 0, 0, 0, 73), (73, .ifCond .ne 7, 0, 0, 0, 76), (73, .ifCond .ne 7, 1, 0, 0, 80), (76, .iconst 1, 0, 0, 1, 77), (77, .goto 4, 0, 0, 0, 81)]
set_option maxRecDepth 100000 in
theorem ck_D_alike_0 : cd_D_alike_0.all (ab_ok 68) = true := by decide +kernel
def cd_D_alike_1 : List ab_E := [(80, .iconst 0, 0, 0, 0, 81), (81, .istore 5, 0, 0, 0, 83), (83, .iload 5, 0, 0, 0, 85), (85, .ifCond .eq 16, 0, 0, 0, 88), (85, .ifCond .eq 16, 1, 0, 0, 101), (88, .aload_n 0, 0, 0, 0, 89), (89, .iload_n 1, 0, 0, 0, 90), (90, .iload 4, 0, 0, 0, 92), (92, .invokevirtual 217, 89, 643, 0, 95), (95, .ifCond .eq 6, 0, 0, 0, 98), (95, .ifCond .eq 6, 1, 0, 0, 101), (98, .iinc 3 1, 0, 0, 1, 101), (101, .iinc 4 1, 0, 0, 1, 104), (104, .goto (-52), 0, 0, 0, 52), (107, .aload_n 0, 0, 0, 0, 108), (108, .iload_n 3, 0, 0, 0, 109), (109, .invokevirtual 108, 78, 365, 0, 112), (112, .ireturn, 0, 0, 0, 113)]
set_option maxRecDepth 100000 in
theorem ck_D_alike_1 : cd_D_alike_1.all (ab_ok 68) = true := by decide +kernel
/-- LostDesk.alike -/
def cd_D_alike : List ab_E := cd_D_alike_0 ++ (cd_D_alike_1)
theorem ck_D_alike : cd_D_alike.all (ab_ok 68) = true := ab_all_app ck_D_alike_0 (ck_D_alike_1)
def cd_D_questions_0 : List ab_E := [(0, .aload_n 0, 0, 0, 0, 1), (1, .getfield 33, 703, 294, 0, 4), (4, .iload_n 1, 0, 0, 0, 5), (5, .invokevirtual 166, 3, 486, 0, 8), (8, .ifCond .ne 9, 0, 0, 0, 11), (8, .ifCond .ne 9, 1, 0, 0, 17), (11, .aload_n 0, 0, 0, 0, 12), (12, .iconst 1, 0, 0, 1, 13), (13, .invokevirtual 97, 79, 353, 0, 16), (16, .ireturn, 0, 0, 0, 17), (17, .iload_n 2, 0, 0, 0, 18), (18, .iconst 1, 0, 0, 1, 19), (19, .bipush 24, 0, 0, 24, 21), (21, .invokestatic 135, 82, 376, 0, 24), (24, .ifCond .ne 9, 0, 0, 0, 27), (24, .ifCond .ne 9, 1, 0, 0, 33), (27, .aload_n 0, 0, 0, 0, 28), (28, .iconst 2, 0, 0, 2, 29), (29, .invokevirtual 97, 79, 353, 0, 32), (32, .ireturn, 0, 0, 0, 33), (33, .aload_n 0, 0, 0, 0, 34), (34, .getfield 33, 703, 294, 0, 37), (37, .iload_n 1, 0, 0, 0, 38), (38, .invokevirtual 208, 6, 549, 0, 41), (41, .ifCond .ne 9, 0, 0, 0, 44), (41, .ifCond .ne 9, 1, 0, 0, 50), (44, .aload_n 0, 0, 0, 0, 45), (45, .iconst 5, 0, 0, 5, 46), (46, .invokevirtual 97, 79, 353, 0, 49), (49, .ireturn, 0, 0, 0, 50), (50, .aload_n 0, 0, 0, 0, 51), (51, .getfield 54, 706, 297, 0, 54), (54, .invokevirtual 220, 19, 651, 0, 57), (57, .iconst 0, 0, 0, 0, 58), (58, .istore_n 3, 0, 0, 0, 59), (59, .iload_n 3, 0, 0, 0, 60), (60, .aload_n 0, 0, 0, 0, 61), (61, .getfield 33, 703, 294, 0, 64), (64, .getfield 211, 108, 151, 0, 67), (67, .if_icmp .ge 32, 0, 0, 0, 70), (67, .if_icmp .ge 32, 1, 0, 0, 99), (70, .aload_n 0, 0, 0, 0, 71), (71, .iload_n 1, 0, 0, 0, 72), (72, .iload_n 3, 0, 0, 0, 73), (73, .invokevirtual 217, 89, 643, 0, 76), (76, .ifCond .eq 17, 0, 0, 0, 79), (76, .ifCond .eq 17, 1, 0, 0, 93), (79, .aload_n 0, 0, 0, 0, 80)]
set_option maxRecDepth 100000 in
theorem ck_D_questions_0 : cd_D_questions_0.all (ab_ok 69) = true := by decide +kernel
def cd_D_questions_1 : List ab_E := [(80, .getfield 54, 706, 297, 0, 83), (83, .iload_n 3, 0, 0, 0, 84), (84, .aload_n 0, 0, 0, 0, 85), (85, .iload_n 1, 0, 0, 0, 86), (86, .iload_n 3, 0, 0, 0, 87), (87, .invokevirtual 214, 88, 639, 0, 90), (90, .invokevirtual 223, 20, 656, 0, 93), (93, .iinc 3 1, 0, 0, 1, 96), (96, .goto (-37), 0, 0, 0, 59), (99, .aload_n 0, 0, 0, 0, 100), (100, .getfield 54, 706, 297, 0, 103), (103, .iload_n 2, 0, 0, 0, 104), (104, .invokevirtual 225, 21, 660, 0, 107), (107, .istore_n 3, 0, 0, 0, 108), (108, .iload_n 3, 0, 0, 0, 109), (109, .iconst (-1), 0, 0, (-1), 110), (110, .if_icmp .ne 12, 0, 0, 0, 113), (110, .if_icmp .ne 12, 1, 0, 0, 122), (113, .aload_n 0, 0, 0, 0, 114), (114, .bipush 7, 0, 0, 7, 116), (116, .invokevirtual 97, 79, 353, 0, 119), (119, .goto 8, 0, 0, 0, 127), (122, .aload_n 0, 0, 0, 0, 123), (123, .iload_n 3, 0, 0, 0, 124), (124, .invokevirtual 108, 78, 365, 0, 127), (127, .ireturn, 0, 0, 0, 128)]
set_option maxRecDepth 100000 in
theorem ck_D_questions_1 : cd_D_questions_1.all (ab_ok 69) = true := by decide +kernel
/-- LostDesk.questions -/
def cd_D_questions : List ab_E := cd_D_questions_0 ++ (cd_D_questions_1)
theorem ck_D_questions : cd_D_questions.all (ab_ok 69) = true := ab_all_app ck_D_questions_0 (ck_D_questions_1)
def cd_D_claim_0 : List ab_E := [(0, .aload_n 0, 0, 0, 0, 1), (1, .getfield 40, 704, 295, 0, 4), (4, .iload_n 1, 0, 0, 0, 5), (5, .invokevirtual 188, 16, 494, 0, 8), (8, .ifCond .eq 14, 0, 0, 0, 11), (8, .ifCond .eq 14, 1, 0, 0, 22), (11, .aload_n 0, 0, 0, 0, 12), (12, .getfield 33, 703, 294, 0, 15), (15, .iload_n 2, 0, 0, 0, 16), (16, .invokevirtual 166, 3, 486, 0, 19), (19, .ifCond .ne 9, 0, 0, 0, 22), (19, .ifCond .ne 9, 1, 0, 0, 28), (22, .aload_n 0, 0, 0, 0, 23), (23, .iconst 1, 0, 0, 1, 24), (24, .invokevirtual 97, 79, 353, 0, 27), (27, .ireturn, 0, 0, 0, 28), (28, .iload_n 3, 0, 0, 0, 29), (29, .ifCond .eq 19, 0, 0, 0, 32), (29, .ifCond .eq 19, 1, 0, 0, 48), (32, .iload_n 3, 0, 0, 0, 33), (33, .invokestatic 154, 85, 457, 0, 36), (36, .ifCond .eq 12, 0, 0, 0, 39), (36, .ifCond .eq 12, 1, 0, 0, 48), (39, .iload 4, 0, 0, 0, 41), (41, .iload_n 3, 0, 0, 0, 42), (42, .iconst (-1), 0, 0, (-1), 43), (43, .ixor, 0, 0, 0, 44), (44, .iand, 0, 0, 0, 45), (45, .ifCond .eq 9, 0, 0, 0, 48), (45, .ifCond .eq 9, 1, 0, 0, 54), (48, .aload_n 0, 0, 0, 0, 49), (49, .iconst 2, 0, 0, 2, 50), (50, .invokevirtual 97, 79, 353, 0, 53), (53, .ireturn, 0, 0, 0, 54), (54, .aload_n 0, 0, 0, 0, 55), (55, .getfield 60, 707, 298, 0, 58), (58, .iload_n 1, 0, 0, 0, 59), (59, .aaload, 0, 0, 0, 60), (60, .iload_n 2, 0, 0, 0, 61), (61, .iaload, 0, 0, 0, 62), (62, .iconst (-1), 0, 0, (-1), 63), (63, .if_icmp .eq 9, 0, 0, 0, 66), (63, .if_icmp .eq 9, 1, 0, 0, 72), (66, .aload_n 0, 0, 0, 0, 67), (67, .iconst 4, 0, 0, 4, 68), (68, .invokevirtual 97, 79, 353, 0, 71), (71, .ireturn, 0, 0, 0, 72), (72, .aload_n 0, 0, 0, 0, 73)]
set_option maxRecDepth 100000 in
theorem ck_D_claim_0 : cd_D_claim_0.all (ab_ok 70) = true := by decide +kernel
def cd_D_claim_1 : List ab_E := [(73, .getfield 40, 704, 295, 0, 76), (76, .getfield 198, 306, 190, 0, 79), (79, .iload_n 1, 0, 0, 0, 80), (80, .baload, 0, 0, 0, 81), (81, .ifCond .ne 14, 0, 0, 0, 84), (81, .ifCond .ne 14, 1, 0, 0, 95), (84, .aload_n 0, 0, 0, 0, 85), (85, .getfield 33, 703, 294, 0, 88), (88, .iload_n 2, 0, 0, 0, 89), (89, .invokevirtual 208, 6, 549, 0, 92), (92, .ifCond .ne 9, 0, 0, 0, 95), (92, .ifCond .ne 9, 1, 0, 0, 101), (95, .aload_n 0, 0, 0, 0, 96), (96, .iconst 5, 0, 0, 5, 97), (97, .invokevirtual 97, 79, 353, 0, 100), (100, .ireturn, 0, 0, 0, 101), (101, .aload_n 0, 0, 0, 0, 102), (102, .iload_n 1, 0, 0, 0, 103), (103, .iload_n 2, 0, 0, 0, 104), (104, .invokevirtual 189, 86, 498, 0, 107), (107, .iconst (-1), 0, 0, (-1), 108), (108, .if_icmp .ne 10, 0, 0, 0, 111), (108, .if_icmp .ne 10, 1, 0, 0, 118), (111, .aload_n 0, 0, 0, 0, 112), (112, .bipush 6, 0, 0, 6, 114), (114, .invokevirtual 97, 79, 353, 0, 117), (117, .ireturn, 0, 0, 0, 118), (118, .aload_n 0, 0, 0, 0, 119), (119, .getfield 33, 703, 294, 0, 122), (122, .getfield 228, 102, 139, 0, 125), (125, .iload_n 2, 0, 0, 0, 126), (126, .iaload, 0, 0, 0, 127), (127, .iload_n 3, 0, 0, 0, 128), (128, .iand, 0, 0, 0, 129), (129, .iload 4, 0, 0, 0, 131), (131, .if_icmp .ne 7, 0, 0, 0, 134), (131, .if_icmp .ne 7, 1, 0, 0, 138), (134, .iconst 1, 0, 0, 1, 135), (135, .goto 4, 0, 0, 0, 139), (138, .iconst 0, 0, 0, 0, 139), (139, .istore 5, 0, 0, 0, 141), (141, .aload_n 0, 0, 0, 0, 142), (142, .getfield 60, 707, 298, 0, 145), (145, .iload_n 1, 0, 0, 0, 146), (146, .aaload, 0, 0, 0, 147), (147, .iload_n 2, 0, 0, 0, 148), (148, .iload 5, 0, 0, 0, 150), (150, .ifCond .eq 10, 0, 0, 0, 153)]
set_option maxRecDepth 100000 in
theorem ck_D_claim_1 : cd_D_claim_1.all (ab_ok 70) = true := by decide +kernel
def cd_D_claim_2 : List ab_E := [(150, .ifCond .eq 10, 1, 0, 0, 160), (153, .iload_n 3, 0, 0, 0, 154), (154, .invokestatic 231, 141, 520, 0, 157), (157, .goto 4, 0, 0, 0, 161), (160, .iconst 0, 0, 0, 0, 161), (161, .iastore, 0, 0, 0, 162), (162, .aload_n 0, 0, 0, 0, 163), (163, .iload 5, 0, 0, 0, 165), (165, .ifCond .eq 7, 0, 0, 0, 168), (165, .ifCond .eq 7, 1, 0, 0, 172), (168, .iconst 1, 0, 0, 1, 169), (169, .goto 4, 0, 0, 0, 173), (172, .iconst 0, 0, 0, 0, 173), (173, .invokevirtual 108, 78, 365, 0, 176), (176, .ireturn, 0, 0, 0, 177)]
set_option maxRecDepth 100000 in
theorem ck_D_claim_2 : cd_D_claim_2.all (ab_ok 70) = true := by decide +kernel
/-- LostDesk.claim -/
def cd_D_claim : List ab_E := cd_D_claim_0 ++ (cd_D_claim_1 ++ (cd_D_claim_2))
theorem ck_D_claim : cd_D_claim.all (ab_ok 70) = true := ab_all_app ck_D_claim_0 (ab_all_app ck_D_claim_1 (ck_D_claim_2))
def cd_D_hand_0 : List ab_E := [(0, .aload_n 0, 0, 0, 0, 1), (1, .getfield 40, 704, 295, 0, 4), (4, .iload_n 1, 0, 0, 0, 5), (5, .invokevirtual 188, 16, 494, 0, 8), (8, .ifCond .eq 14, 0, 0, 0, 11), (8, .ifCond .eq 14, 1, 0, 0, 22), (11, .aload_n 0, 0, 0, 0, 12), (12, .getfield 33, 703, 294, 0, 15), (15, .iload_n 2, 0, 0, 0, 16), (16, .invokevirtual 166, 3, 486, 0, 19), (19, .ifCond .ne 9, 0, 0, 0, 22), (19, .ifCond .ne 9, 1, 0, 0, 28), (22, .aload_n 0, 0, 0, 0, 23), (23, .iconst 1, 0, 0, 1, 24), (24, .invokevirtual 114, 81, 379, 0, 27), (27, .ireturn, 0, 0, 0, 28), (28, .aload_n 0, 0, 0, 0, 29), (29, .getfield 40, 704, 295, 0, 32), (32, .getfield 198, 306, 190, 0, 35), (35, .iload_n 1, 0, 0, 0, 36), (36, .baload, 0, 0, 0, 37), (37, .ifCond .ne 14, 0, 0, 0, 40), (37, .ifCond .ne 14, 1, 0, 0, 51), (40, .aload_n 0, 0, 0, 0, 41), (41, .getfield 33, 703, 294, 0, 44), (44, .iload_n 2, 0, 0, 0, 45), (45, .invokevirtual 208, 6, 549, 0, 48), (48, .ifCond .ne 9, 0, 0, 0, 51), (48, .ifCond .ne 9, 1, 0, 0, 57), (51, .aload_n 0, 0, 0, 0, 52), (52, .iconst 5, 0, 0, 5, 53), (53, .invokevirtual 114, 81, 379, 0, 56), (56, .ireturn, 0, 0, 0, 57), (57, .aload_n 0, 0, 0, 0, 58), (58, .getfield 60, 707, 298, 0, 61), (61, .iload_n 1, 0, 0, 0, 62), (62, .aaload, 0, 0, 0, 63), (63, .iload_n 2, 0, 0, 0, 64), (64, .iaload, 0, 0, 0, 65), (65, .iconst 1, 0, 0, 1, 66), (66, .if_icmp .ge 10, 0, 0, 0, 69), (66, .if_icmp .ge 10, 1, 0, 0, 76), (69, .aload_n 0, 0, 0, 0, 70), (70, .bipush 7, 0, 0, 7, 72), (72, .invokevirtual 114, 81, 379, 0, 75), (75, .ireturn, 0, 0, 0, 76), (76, .aload_n 0, 0, 0, 0, 77), (77, .iload_n 1, 0, 0, 0, 78)]
set_option maxRecDepth 100000 in
theorem ck_D_hand_0 : cd_D_hand_0.all (ab_ok 71) = true := by decide +kernel
def cd_D_hand_1 : List ab_E := [(78, .iload_n 2, 0, 0, 0, 79), (79, .invokevirtual 236, 90, 682, 0, 82), (82, .ifCond .eq 10, 0, 0, 0, 85), (82, .ifCond .eq 10, 1, 0, 0, 92), (85, .aload_n 0, 0, 0, 0, 86), (86, .bipush 8, 0, 0, 8, 88), (88, .invokevirtual 114, 81, 379, 0, 91), (91, .ireturn, 0, 0, 0, 92), (92, .aload_n 0, 0, 0, 0, 93), (93, .getfield 33, 703, 294, 0, 96), (96, .iload_n 2, 0, 0, 0, 97), (97, .iload_n 1, 0, 0, 0, 98), (98, .invokevirtual 239, 8, 686, 0, 101), (101, .aload_n 0, 0, 0, 0, 102), (102, .getfield 40, 704, 295, 0, 105), (105, .getfield 198, 306, 190, 0, 108), (108, .iload_n 1, 0, 0, 0, 109), (109, .iconst 1, 0, 0, 1, 110), (110, .bastore, 0, 0, 0, 111), (111, .aload_n 0, 0, 0, 0, 112), (112, .iconst 1, 0, 0, 1, 113), (113, .putfield 89, 10714, 305, 0, 116), (116, .aload_n 0, 0, 0, 0, 117), (117, .invokevirtual 125, 80, 391, 0, 120), (120, .ireturn, 0, 0, 0, 121)]
set_option maxRecDepth 100000 in
theorem ck_D_hand_1 : cd_D_hand_1.all (ab_ok 71) = true := by decide +kernel
/-- LostDesk.hand -/
def cd_D_hand : List ab_E := cd_D_hand_0 ++ (cd_D_hand_1)
theorem ck_D_hand : cd_D_hand.all (ab_ok 71) = true := ab_all_app ck_D_hand_0 (ck_D_hand_1)
def cd_D_bag_0 : List ab_E := [(0, .aload_n 0, 0, 0, 0, 1), (1, .getfield 33, 703, 294, 0, 4), (4, .iload_n 1, 0, 0, 0, 5), (5, .invokevirtual 166, 3, 486, 0, 8), (8, .ifCond .eq 14, 0, 0, 0, 11), (8, .ifCond .eq 14, 1, 0, 0, 22), (11, .aload_n 0, 0, 0, 0, 12), (12, .getfield 33, 703, 294, 0, 15), (15, .iload_n 2, 0, 0, 0, 16), (16, .invokevirtual 166, 3, 486, 0, 19), (19, .ifCond .ne 9, 0, 0, 0, 22), (19, .ifCond .ne 9, 1, 0, 0, 28), (22, .aload_n 0, 0, 0, 0, 23), (23, .iconst 1, 0, 0, 1, 24), (24, .invokevirtual 114, 81, 379, 0, 27), (27, .ireturn, 0, 0, 0, 28), (28, .aload_n 0, 0, 0, 0, 29), (29, .getfield 33, 703, 294, 0, 32), (32, .getfield 185, 107, 149, 0, 35), (35, .iload_n 1, 0, 0, 0, 36), (36, .iaload, 0, 0, 0, 37), (37, .aload_n 0, 0, 0, 0, 38), (38, .getfield 33, 703, 294, 0, 41), (41, .getfield 185, 107, 149, 0, 44), (44, .iload_n 2, 0, 0, 0, 45), (45, .iaload, 0, 0, 0, 46), (46, .if_icmp .ne 9, 0, 0, 0, 49), (46, .if_icmp .ne 9, 1, 0, 0, 55), (49, .aload_n 0, 0, 0, 0, 50), (50, .iconst 4, 0, 0, 4, 51), (51, .invokevirtual 114, 81, 379, 0, 54), (54, .ireturn, 0, 0, 0, 55), (55, .aload_n 0, 0, 0, 0, 56), (56, .getfield 33, 703, 294, 0, 59), (59, .iload_n 1, 0, 0, 0, 60), (60, .invokevirtual 208, 6, 549, 0, 63), (63, .ifCond .eq 14, 0, 0, 0, 66), (63, .ifCond .eq 14, 1, 0, 0, 77), (66, .aload_n 0, 0, 0, 0, 67), (67, .getfield 33, 703, 294, 0, 70), (70, .iload_n 2, 0, 0, 0, 71), (71, .invokevirtual 208, 6, 549, 0, 74), (74, .ifCond .ne 9, 0, 0, 0, 77), (74, .ifCond .ne 9, 1, 0, 0, 83), (77, .aload_n 0, 0, 0, 0, 78), (78, .iconst 5, 0, 0, 5, 79), (79, .invokevirtual 114, 81, 379, 0, 82), (82, .ireturn, 0, 0, 0, 83)]
set_option maxRecDepth 100000 in
theorem ck_D_bag_0 : cd_D_bag_0.all (ab_ok 72) = true := by decide +kernel
def cd_D_bag_1 : List ab_E := [(83, .aload_n 0, 0, 0, 0, 84), (84, .getfield 33, 703, 294, 0, 87), (87, .iload_n 1, 0, 0, 0, 88), (88, .iload_n 2, 0, 0, 0, 89), (89, .invokevirtual 242, 7, 694, 0, 92), (92, .aload_n 0, 0, 0, 0, 93), (93, .invokevirtual 125, 80, 391, 0, 96), (96, .ireturn, 0, 0, 0, 97)]
set_option maxRecDepth 100000 in
theorem ck_D_bag_1 : cd_D_bag_1.all (ab_ok 72) = true := by decide +kernel
/-- LostDesk.bag -/
def cd_D_bag : List ab_E := cd_D_bag_0 ++ (cd_D_bag_1)
theorem ck_D_bag : cd_D_bag.all (ab_ok 72) = true := ab_all_app ck_D_bag_0 (ck_D_bag_1)
/-- LostDesk.keeping -/
def cd_D_keeping : List ab_E := [(0, .aload_n 0, 0, 0, 0, 1), (1, .getfield 10, 700, 291, 0, 4), (4, .iload_n 1, 0, 0, 0, 5), (5, .invokevirtual 150, 10, 453, 0, 8), (8, .ifCond .ne 9, 0, 0, 0, 11), (8, .ifCond .ne 9, 1, 0, 0, 17), (11, .aload_n 0, 0, 0, 0, 12), (12, .iconst 1, 0, 0, 1, 13), (13, .invokevirtual 114, 81, 379, 0, 16), (16, .ireturn, 0, 0, 0, 17), (17, .iload_n 2, 0, 0, 0, 18), (18, .iconst (-1), 0, 0, (-1), 19), (19, .if_icmp .eq 20, 0, 0, 0, 22), (19, .if_icmp .eq 20, 1, 0, 0, 39), (22, .iload_n 2, 0, 0, 0, 23), (23, .iconst 1, 0, 0, 1, 24), (24, .sipush 1000, 0, 0, 1000, 27), (27, .invokestatic 135, 82, 376, 0, 30), (30, .ifCond .ne 9, 0, 0, 0, 33), (30, .ifCond .ne 9, 1, 0, 0, 39), (33, .aload_n 0, 0, 0, 0, 34), (34, .iconst 2, 0, 0, 2, 35), (35, .invokevirtual 114, 81, 379, 0, 38), (38, .ireturn, 0, 0, 0, 39), (39, .aload_n 0, 0, 0, 0, 40), (40, .getfield 10, 700, 291, 0, 43), (43, .getfield 245, 202, 83, 0, 46), (46, .iload_n 1, 0, 0, 0, 47), (47, .iload_n 2, 0, 0, 0, 48), (48, .iastore, 0, 0, 0, 49), (49, .aload_n 0, 0, 0, 0, 50), (50, .invokevirtual 125, 80, 391, 0, 53), (53, .ireturn, 0, 0, 0, 54)]
set_option maxRecDepth 100000 in
theorem ck_D_keeping : cd_D_keeping.all (ab_ok 73) = true := by decide +kernel
/-- LostDesk.due -/
def cd_D_due : List ab_E := [(0, .aload_n 0, 0, 0, 0, 1), (1, .getfield 33, 703, 294, 0, 4), (4, .iload_n 1, 0, 0, 0, 5), (5, .invokevirtual 166, 3, 486, 0, 8), (8, .ifCond .ne 9, 0, 0, 0, 11), (8, .ifCond .ne 9, 1, 0, 0, 17), (11, .aload_n 0, 0, 0, 0, 12), (12, .iconst 1, 0, 0, 1, 13), (13, .invokevirtual 97, 79, 353, 0, 16), (16, .ireturn, 0, 0, 0, 17), (17, .aload_n 0, 0, 0, 0, 18), (18, .aload_n 0, 0, 0, 0, 19), (19, .aload_n 0, 0, 0, 0, 20), (20, .getfield 33, 703, 294, 0, 23), (23, .getfield 185, 107, 149, 0, 26), (26, .iload_n 1, 0, 0, 0, 27), (27, .iaload, 0, 0, 0, 28), (28, .invokevirtual 248, 91, 710, 0, 31), (31, .invokevirtual 108, 78, 365, 0, 34), (34, .ireturn, 0, 0, 0, 35)]
set_option maxRecDepth 100000 in
theorem ck_D_due : cd_D_due.all (ab_ok 74) = true := by decide +kernel
def cd_D_tick_0 : List ab_E := [(0, .iload_n 1, 0, 0, 0, 1), (1, .aload_n 0, 0, 0, 0, 2), (2, .getfield 83, 712, 303, 0, 5), (5, .ldc 251, 0, 722, 200000, 7), (7, .invokestatic 135, 82, 376, 0, 10), (10, .ifCond .ne 9, 0, 0, 0, 13), (10, .ifCond .ne 9, 1, 0, 0, 19), (13, .aload_n 0, 0, 0, 0, 14), (14, .iconst 2, 0, 0, 2, 15), (15, .invokevirtual 97, 79, 353, 0, 18), (18, .ireturn, 0, 0, 0, 19), (19, .aload_n 0, 0, 0, 0, 20), (20, .iload_n 1, 0, 0, 0, 21), (21, .putfield 83, 712, 303, 0, 24), (24, .iconst 0, 0, 0, 0, 25), (25, .istore_n 2, 0, 0, 0, 26), (26, .iconst 0, 0, 0, 0, 27), (27, .istore_n 3, 0, 0, 0, 28), (28, .iload_n 3, 0, 0, 0, 29), (29, .aload_n 0, 0, 0, 0, 30), (30, .getfield 33, 703, 294, 0, 33), (33, .getfield 211, 108, 151, 0, 36), (36, .if_icmp .ge 68, 0, 0, 0, 39), (36, .if_icmp .ge 68, 1, 0, 0, 104), (39, .aload_n 0, 0, 0, 0, 40), (40, .getfield 33, 703, 294, 0, 43), (43, .getfield 185, 107, 149, 0, 46), (46, .iload_n 3, 0, 0, 0, 47), (47, .iaload, 0, 0, 0, 48), (48, .iload_n 3, 0, 0, 0, 49), (49, .if_icmp .ne 7, 0, 0, 0, 52), (49, .if_icmp .ne 7, 1, 0, 0, 56), (52, .iconst 1, 0, 0, 1, 53), (53, .goto 4, 0, 0, 0, 57), (56, .iconst 0, 0, 0, 0, 57), (57, .istore 4, 0, 0, 0, 59), (59, .iload 4, 0, 0, 0, 61), (61, .ifCond .eq 37, 0, 0, 0, 64), (61, .ifCond .eq 37, 1, 0, 0, 98), (64, .aload_n 0, 0, 0, 0, 65), (65, .getfield 33, 703, 294, 0, 68), (68, .iload_n 3, 0, 0, 0, 69), (69, .invokevirtual 208, 6, 549, 0, 72), (72, .ifCond .eq 26, 0, 0, 0, 75), (72, .ifCond .eq 26, 1, 0, 0, 98), (75, .aload_n 0, 0, 0, 0, 76), (76, .iload_n 3, 0, 0, 0, 77), (77, .invokevirtual 248, 91, 710, 0, 80)]
set_option maxRecDepth 100000 in
theorem ck_D_tick_0 : cd_D_tick_0.all (ab_ok 75) = true := by decide +kernel
def cd_D_tick_1 : List ab_E := [(80, .aload_n 0, 0, 0, 0, 81), (81, .getfield 83, 712, 303, 0, 84), (84, .if_icmp .ge 14, 0, 0, 0, 87), (84, .if_icmp .ge 14, 1, 0, 0, 98), (87, .iload_n 2, 0, 0, 0, 88), (88, .aload_n 0, 0, 0, 0, 89), (89, .getfield 33, 703, 294, 0, 92), (92, .iload_n 3, 0, 0, 0, 93), (93, .invokevirtual 252, 9, 723, 0, 96), (96, .iadd, 0, 0, 0, 97), (97, .istore_n 2, 0, 0, 0, 98), (98, .iinc 3 1, 0, 0, 1, 101), (101, .goto (-73), 0, 0, 0, 28), (104, .iload_n 2, 0, 0, 0, 105), (105, .ifCond .le 8, 0, 0, 0, 108), (105, .ifCond .le 8, 1, 0, 0, 113), (108, .aload_n 0, 0, 0, 0, 109), (109, .iconst 1, 0, 0, 1, 110), (110, .putfield 89, 10714, 305, 0, 113), (113, .aload_n 0, 0, 0, 0, 114), (114, .iload_n 2, 0, 0, 0, 115), (115, .invokevirtual 108, 78, 365, 0, 118), (118, .ireturn, 0, 0, 0, 119)]
set_option maxRecDepth 100000 in
theorem ck_D_tick_1 : cd_D_tick_1.all (ab_ok 75) = true := by decide +kernel
/-- LostDesk.tick -/
def cd_D_tick : List ab_E := cd_D_tick_0 ++ (cd_D_tick_1)
theorem ck_D_tick : cd_D_tick.all (ab_ok 75) = true := ab_all_app ck_D_tick_0 (ck_D_tick_1)
/-- LostDesk.reward -/
def cd_D_reward : List ab_E := [(0, .aload_n 0, 0, 0, 0, 1), (1, .getfield 33, 703, 294, 0, 4), (4, .iload_n 1, 0, 0, 0, 5), (5, .invokevirtual 166, 3, 486, 0, 8), (8, .ifCond .ne 9, 0, 0, 0, 11), (8, .ifCond .ne 9, 1, 0, 0, 17), (11, .aload_n 0, 0, 0, 0, 12), (12, .iconst 1, 0, 0, 1, 13), (13, .invokevirtual 97, 79, 353, 0, 16), (16, .ireturn, 0, 0, 0, 17), (17, .iload_n 2, 0, 0, 0, 18), (18, .iconst 0, 0, 0, 0, 19), (19, .ldc 255, 0, 731, 1000000, 21), (21, .invokestatic 135, 82, 376, 0, 24), (24, .ifCond .ne 9, 0, 0, 0, 27), (24, .ifCond .ne 9, 1, 0, 0, 33), (27, .aload_n 0, 0, 0, 0, 28), (28, .iconst 2, 0, 0, 2, 29), (29, .invokevirtual 97, 79, 353, 0, 32), (32, .ireturn, 0, 0, 0, 33), (33, .aload_n 0, 0, 0, 0, 34), (34, .iload_n 3, 0, 0, 0, 35), (35, .iload 4, 0, 0, 0, 37), (37, .invokevirtual 256, 92, 732, 0, 40), (40, .istore 5, 0, 0, 0, 42), (42, .iload 5, 0, 0, 0, 44), (44, .iconst (-1), 0, 0, (-1), 45), (45, .if_icmp .ne 9, 0, 0, 0, 48), (45, .if_icmp .ne 9, 1, 0, 0, 54), (48, .aload_n 0, 0, 0, 0, 49), (49, .iconst 2, 0, 0, 2, 50), (50, .invokevirtual 97, 79, 353, 0, 53), (53, .ireturn, 0, 0, 0, 54), (54, .aload_n 0, 0, 0, 0, 55), (55, .iload_n 2, 0, 0, 0, 56), (56, .iload 5, 0, 0, 0, 58), (58, .invokevirtual 259, 93, 736, 0, 61), (61, .aload_n 0, 0, 0, 0, 62), (62, .iload 5, 0, 0, 0, 64), (64, .invokevirtual 108, 78, 365, 0, 67), (67, .ireturn, 0, 0, 0, 68)]
set_option maxRecDepth 100000 in
theorem ck_D_reward : cd_D_reward.all (ab_ok 76) = true := by decide +kernel
/-- LostDesk.out -/
def cd_D_out : List ab_E := [(0, .iload_n 1, 0, 0, 0, 1), (1, .ifCond .lt 20, 0, 0, 0, 4), (1, .ifCond .lt 20, 1, 0, 0, 21), (4, .iload_n 1, 0, 0, 0, 5), (5, .aload_n 0, 0, 0, 0, 6), (6, .getfield 76, 710, 301, 0, 9), (9, .if_icmp .ge 12, 0, 0, 0, 12), (9, .if_icmp .ge 12, 1, 0, 0, 21), (12, .aload_n 0, 0, 0, 0, 13), (13, .getfield 73, 709, 300, 0, 16), (16, .iload_n 1, 0, 0, 0, 17), (17, .iaload, 0, 0, 0, 18), (18, .goto 4, 0, 0, 0, 22), (21, .iconst (-1), 0, 0, (-1), 22), (22, .ireturn, 0, 0, 0, 23)]
set_option maxRecDepth 100000 in
theorem ck_D_out : cd_D_out.all (ab_ok 77) = true := by decide +kernel
/-- LostDesk.answer -/
def cd_D_answer : List ab_E := [(0, .aload_n 0, 0, 0, 0, 1), (1, .iconst 0, 0, 0, 0, 2), (2, .putfield 80, 711, 302, 0, 5), (5, .iload_n 1, 0, 0, 0, 6), (6, .ireturn, 0, 0, 0, 7)]
set_option maxRecDepth 100000 in
theorem ck_D_answer : cd_D_answer.all (ab_ok 78) = true := by decide +kernel
/-- LostDesk.refuse -/
def cd_D_refuse : List ab_E := [(0, .aload_n 0, 0, 0, 0, 1), (1, .iload_n 1, 0, 0, 0, 2), (2, .putfield 80, 711, 302, 0, 5), (5, .iconst (-1), 0, 0, (-1), 6), (6, .ireturn, 0, 0, 0, 7)]
set_option maxRecDepth 100000 in
theorem ck_D_refuse : cd_D_refuse.all (ab_ok 79) = true := by decide +kernel
/-- LostDesk.grant -/
def cd_D_grant : List ab_E := [(0, .aload_n 0, 0, 0, 0, 1), (1, .iconst 0, 0, 0, 0, 2), (2, .putfield 80, 711, 302, 0, 5), (5, .iconst 1, 0, 0, 1, 6), (6, .ireturn, 0, 0, 0, 7)]
set_option maxRecDepth 100000 in
theorem ck_D_grant : cd_D_grant.all (ab_ok 80) = true := by decide +kernel
/-- LostDesk.deny -/
def cd_D_deny : List ab_E := [(0, .aload_n 0, 0, 0, 0, 1), (1, .iload_n 1, 0, 0, 0, 2), (2, .putfield 80, 711, 302, 0, 5), (5, .iconst 0, 0, 0, 0, 6), (6, .ireturn, 0, 0, 0, 7)]
set_option maxRecDepth 100000 in
theorem ck_D_deny : cd_D_deny.all (ab_ok 81) = true := by decide +kernel
/-- LostDesk.isWithin -/
def cd_D_isWithin : List ab_E := [(0, .iload_n 0, 0, 0, 0, 1), (1, .iload_n 1, 0, 0, 0, 2), (2, .if_icmp .lt 12, 0, 0, 0, 5), (2, .if_icmp .lt 12, 1, 0, 0, 14), (5, .iload_n 0, 0, 0, 0, 6), (6, .iload_n 2, 0, 0, 0, 7), (7, .if_icmp .gt 7, 0, 0, 0, 10), (7, .if_icmp .gt 7, 1, 0, 0, 14), (10, .iconst 1, 0, 0, 1, 11), (11, .goto 4, 0, 0, 0, 15), (14, .iconst 0, 0, 0, 0, 15), (15, .ireturn, 0, 0, 0, 16)]
set_option maxRecDepth 100000 in
theorem ck_D_isWithin : cd_D_isWithin.all (ab_ok 82) = true := by decide +kernel
/-- LostDesk.isColour -/
def cd_D_isColour : List ab_E := [(0, .iload_n 0, 0, 0, 0, 1), (1, .iconst 0, 0, 0, 0, 2), (2, .bipush 11, 0, 0, 11, 4), (4, .invokestatic 135, 82, 376, 0, 7), (7, .ireturn, 0, 0, 0, 8)]
set_option maxRecDepth 100000 in
theorem ck_D_isColour : cd_D_isColour.all (ab_ok 83) = true := by decide +kernel
/-- LostDesk.isColourOrNone -/
def cd_D_isColourOrNone : List ab_E := [(0, .iload_n 0, 0, 0, 0, 1), (1, .iconst (-1), 0, 0, (-1), 2), (2, .if_icmp .eq 10, 0, 0, 0, 5), (2, .if_icmp .eq 10, 1, 0, 0, 12), (5, .iload_n 0, 0, 0, 0, 6), (6, .invokestatic 111, 83, 373, 0, 9), (9, .ifCond .eq 7, 0, 0, 0, 12), (9, .ifCond .eq 7, 1, 0, 0, 16), (12, .iconst 1, 0, 0, 1, 13), (13, .goto 4, 0, 0, 0, 17), (16, .iconst 0, 0, 0, 0, 17), (17, .ireturn, 0, 0, 0, 18)]
set_option maxRecDepth 100000 in
theorem ck_D_isColourOrNone : cd_D_isColourOrNone.all (ab_ok 84) = true := by decide +kernel
/-- LostDesk.areMarks -/
def cd_D_areMarks : List ab_E := [(0, .iload_n 0, 0, 0, 0, 1), (1, .iconst 0, 0, 0, 0, 2), (2, .ldc_w 262, 0, 460, 65535, 5), (5, .invokestatic 135, 82, 376, 0, 8), (8, .ireturn, 0, 0, 0, 9)]
set_option maxRecDepth 100000 in
theorem ck_D_areMarks : cd_D_areMarks.all (ab_ok 85) = true := by decide +kernel
def cd_D_pairCost_0 : List ab_E := [(0, .aload_n 0, 0, 0, 0, 1), (1, .getfield 10, 700, 291, 0, 4), (4, .aload_n 0, 0, 0, 0, 5), (5, .getfield 40, 704, 295, 0, 8), (8, .getfield 263, 300, 178, 0, 11), (11, .iload_n 1, 0, 0, 0, 12), (12, .iaload, 0, 0, 0, 13), (13, .aload_n 0, 0, 0, 0, 14), (14, .getfield 33, 703, 294, 0, 17), (17, .getfield 167, 100, 135, 0, 20), (20, .iload_n 2, 0, 0, 0, 21), (21, .iaload, 0, 0, 0, 22), (22, .invokevirtual 264, 14, 502, 0, 25), (25, .istore_n 3, 0, 0, 0, 26), (26, .aload_n 0, 0, 0, 0, 27), (27, .getfield 19, 701, 292, 0, 30), (30, .aload_n 0, 0, 0, 0, 31), (31, .getfield 40, 704, 295, 0, 34), (34, .getfield 267, 301, 180, 0, 37), (37, .iload_n 1, 0, 0, 0, 38), (38, .iaload, 0, 0, 0, 39), (39, .aload_n 0, 0, 0, 0, 40), (40, .getfield 33, 703, 294, 0, 43), (43, .getfield 170, 101, 137, 0, 46), (46, .iload_n 2, 0, 0, 0, 47), (47, .iaload, 0, 0, 0, 48), (48, .invokevirtual 268, 2, 515, 0, 51), (51, .istore 4, 0, 0, 0, 53), (53, .iload_n 3, 0, 0, 0, 54), (54, .iconst (-1), 0, 0, (-1), 55), (55, .if_icmp .eq 9, 0, 0, 0, 58), (55, .if_icmp .eq 9, 1, 0, 0, 64), (58, .iload 4, 0, 0, 0, 60), (60, .iconst (-1), 0, 0, (-1), 61), (61, .if_icmp .ne 5, 0, 0, 0, 64), (61, .if_icmp .ne 5, 1, 0, 0, 66), (64, .iconst (-1), 0, 0, (-1), 65), (65, .ireturn, 0, 0, 0, 66), (66, .aload_n 0, 0, 0, 0, 67), (67, .getfield 26, 702, 293, 0, 70), (70, .aload_n 0, 0, 0, 0, 71), (71, .getfield 40, 704, 295, 0, 74), (74, .getfield 271, 303, 184, 0, 77), (77, .iload_n 1, 0, 0, 0, 78), (78, .iaload, 0, 0, 0, 79), (79, .aload_n 0, 0, 0, 0, 80), (80, .getfield 33, 703, 294, 0, 83), (83, .getfield 173, 103, 141, 0, 86)]
set_option maxRecDepth 100000 in
theorem ck_D_pairCost_0 : cd_D_pairCost_0.all (ab_ok 86) = true := by decide +kernel
def cd_D_pairCost_1 : List ab_E := [(86, .iload_n 2, 0, 0, 0, 87), (87, .iaload, 0, 0, 0, 88), (88, .invokevirtual 146, 49, 432, 0, 91), (91, .istore 5, 0, 0, 0, 93), (93, .aload_n 0, 0, 0, 0, 94), (94, .getfield 33, 703, 294, 0, 97), (97, .getfield 176, 104, 143, 0, 100), (100, .iload_n 2, 0, 0, 0, 101), (101, .iaload, 0, 0, 0, 102), (102, .istore 6, 0, 0, 0, 104), (104, .iload 5, 0, 0, 0, 106), (106, .iconst (-1), 0, 0, (-1), 107), (107, .if_icmp .eq 20, 0, 0, 0, 110), (107, .if_icmp .eq 20, 1, 0, 0, 127), (110, .iload 5, 0, 0, 0, 112), (112, .iload 6, 0, 0, 0, 114), (114, .aload_n 0, 0, 0, 0, 115), (115, .getfield 40, 704, 295, 0, 118), (118, .getfield 272, 304, 186, 0, 121), (121, .iload_n 1, 0, 0, 0, 122), (122, .iaload, 0, 0, 0, 123), (123, .isub, 0, 0, 0, 124), (124, .if_icmp .le 5, 0, 0, 0, 127), (124, .if_icmp .le 5, 1, 0, 0, 129), (127, .iconst (-1), 0, 0, (-1), 128), (128, .ireturn, 0, 0, 0, 129), (129, .aload_n 0, 0, 0, 0, 130), (130, .getfield 40, 704, 295, 0, 133), (133, .getfield 275, 302, 182, 0, 136), (136, .iload_n 1, 0, 0, 0, 137), (137, .iaload, 0, 0, 0, 138), (138, .aload_n 0, 0, 0, 0, 139), (139, .getfield 33, 703, 294, 0, 142), (142, .getfield 228, 102, 139, 0, 145), (145, .iload_n 2, 0, 0, 0, 146), (146, .iaload, 0, 0, 0, 147), (147, .iconst (-1), 0, 0, (-1), 148), (148, .ixor, 0, 0, 0, 149), (149, .iand, 0, 0, 0, 150), (150, .invokestatic 231, 141, 520, 0, 153), (153, .istore 7, 0, 0, 0, 155), (155, .iconst 0, 0, 0, 0, 156), (156, .iload 6, 0, 0, 0, 158), (158, .aload_n 0, 0, 0, 0, 159), (159, .getfield 40, 704, 295, 0, 162), (162, .getfield 276, 305, 188, 0, 165), (165, .iload_n 1, 0, 0, 0, 166), (166, .iaload, 0, 0, 0, 167)]
set_option maxRecDepth 100000 in
theorem ck_D_pairCost_1 : cd_D_pairCost_1.all (ab_ok 86) = true := by decide +kernel
def cd_D_pairCost_2 : List ab_E := [(167, .isub, 0, 0, 0, 168), (168, .iload 5, 0, 0, 0, 170), (170, .isub, 0, 0, 0, 171), (171, .invokestatic 279, 144, 526, 0, 174), (174, .istore 8, 0, 0, 0, 176), (176, .iconst 2, 0, 0, 2, 177), (177, .iload_n 3, 0, 0, 0, 178), (178, .imul, 0, 0, 0, 179), (179, .iload 4, 0, 0, 0, 181), (181, .iadd, 0, 0, 0, 182), (182, .iconst 3, 0, 0, 3, 183), (183, .iload 7, 0, 0, 0, 185), (185, .imul, 0, 0, 0, 186), (186, .iadd, 0, 0, 0, 187), (187, .iload 8, 0, 0, 0, 189), (189, .bipush 10, 0, 0, 10, 191), (191, .idiv, 0, 0, 0, 192), (192, .iadd, 0, 0, 0, 193), (193, .ireturn, 0, 0, 0, 194)]
set_option maxRecDepth 100000 in
theorem ck_D_pairCost_2 : cd_D_pairCost_2.all (ab_ok 86) = true := by decide +kernel
/-- LostDesk.pairCost -/
def cd_D_pairCost : List ab_E := cd_D_pairCost_0 ++ (cd_D_pairCost_1 ++ (cd_D_pairCost_2))
theorem ck_D_pairCost : cd_D_pairCost.all (ab_ok 86) = true := ab_all_app ck_D_pairCost_0 (ab_all_app ck_D_pairCost_1 (ck_D_pairCost_2))
def cd_D_freshenBest_0 : List ab_E := [(0, .aload_n 0, 0, 0, 0, 1), (1, .getfield 89, 10714, 305, 0, 4), (4, .ifCond .ne 4, 0, 0, 0, 7), (4, .ifCond .ne 4, 1, 0, 0, 8), (7, .return_, 0, 0, 0, 8), (8, .aload_n 0, 0, 0, 0, 9), (9, .getfield 47, 705, 296, 0, 12), (12, .aload_n 0, 0, 0, 0, 13), (13, .getfield 40, 704, 295, 0, 16), (16, .getfield 284, 307, 192, 0, 19), (19, .aload_n 0, 0, 0, 0, 20), (20, .getfield 33, 703, 294, 0, 23), (23, .getfield 211, 108, 151, 0, 26), (26, .invokevirtual 285, 24, 541, 0, 29), (29, .iconst 0, 0, 0, 0, 30), (30, .istore_n 1, 0, 0, 0, 31), (31, .iload_n 1, 0, 0, 0, 32), (32, .aload_n 0, 0, 0, 0, 33), (33, .getfield 40, 704, 295, 0, 36), (36, .getfield 284, 307, 192, 0, 39), (39, .if_icmp .ge 105, 0, 0, 0, 42), (39, .if_icmp .ge 105, 1, 0, 0, 144), (42, .aload_n 0, 0, 0, 0, 43), (43, .getfield 40, 704, 295, 0, 46), (46, .getfield 198, 306, 190, 0, 49), (49, .iload_n 1, 0, 0, 0, 50), (50, .baload, 0, 0, 0, 51), (51, .ifCond .ne 7, 0, 0, 0, 54), (51, .ifCond .ne 7, 1, 0, 0, 58), (54, .iconst 1, 0, 0, 1, 55), (55, .goto 4, 0, 0, 0, 59), (58, .iconst 0, 0, 0, 0, 59), (59, .istore_n 2, 0, 0, 0, 60), (60, .aload_n 0, 0, 0, 0, 61), (61, .getfield 47, 705, 296, 0, 64), (64, .iload_n 1, 0, 0, 0, 65), (65, .iload_n 2, 0, 0, 0, 66), (66, .aload_n 0, 0, 0, 0, 67), (67, .getfield 86, 713, 304, 0, 70), (70, .invokevirtual 288, 25, 545, 0, 73), (73, .iconst 0, 0, 0, 0, 74), (74, .istore_n 3, 0, 0, 0, 75), (75, .iload_n 3, 0, 0, 0, 76), (76, .aload_n 0, 0, 0, 0, 77), (77, .getfield 33, 703, 294, 0, 80), (80, .getfield 211, 108, 151, 0, 83), (83, .if_icmp .ge 55, 0, 0, 0, 86), (83, .if_icmp .ge 55, 1, 0, 0, 138)]
set_option maxRecDepth 100000 in
theorem ck_D_freshenBest_0 : cd_D_freshenBest_0.all (ab_ok 87) = true := by decide +kernel
def cd_D_freshenBest_1 : List ab_E := [(86, .iload_n 2, 0, 0, 0, 87), (87, .ifCond .eq 18, 0, 0, 0, 90), (87, .ifCond .eq 18, 1, 0, 0, 105), (90, .aload_n 0, 0, 0, 0, 91), (91, .getfield 33, 703, 294, 0, 94), (94, .iload_n 3, 0, 0, 0, 95), (95, .invokevirtual 208, 6, 549, 0, 98), (98, .ifCond .eq 7, 0, 0, 0, 101), (98, .ifCond .eq 7, 1, 0, 0, 105), (101, .iconst 1, 0, 0, 1, 102), (102, .goto 4, 0, 0, 0, 106), (105, .iconst 0, 0, 0, 0, 106), (106, .istore 4, 0, 0, 0, 108), (108, .aload_n 0, 0, 0, 0, 109), (109, .getfield 47, 705, 296, 0, 112), (112, .iload_n 1, 0, 0, 0, 113), (113, .iload_n 3, 0, 0, 0, 114), (114, .iload 4, 0, 0, 0, 116), (116, .ifCond .eq 12, 0, 0, 0, 119), (116, .ifCond .eq 12, 1, 0, 0, 128), (119, .aload_n 0, 0, 0, 0, 120), (120, .iload_n 1, 0, 0, 0, 121), (121, .iload_n 3, 0, 0, 0, 122), (122, .invokevirtual 189, 86, 498, 0, 125), (125, .goto 4, 0, 0, 0, 129), (128, .iconst (-1), 0, 0, (-1), 129), (129, .invokevirtual 292, 26, 553, 0, 132), (132, .iinc 3 1, 0, 0, 1, 135), (135, .goto (-60), 0, 0, 0, 75), (138, .iinc 1 1, 0, 0, 1, 141), (141, .goto (-110), 0, 0, 0, 31), (144, .aload_n 0, 0, 0, 0, 145), (145, .getfield 47, 705, 296, 0, 148), (148, .invokevirtual 295, 27, 558, 0, 151), (151, .aload_n 0, 0, 0, 0, 152), (152, .iconst 0, 0, 0, 0, 153), (153, .putfield 89, 10714, 305, 0, 156), (156, .return_, 0, 0, 0, 157)]
set_option maxRecDepth 100000 in
theorem ck_D_freshenBest_1 : cd_D_freshenBest_1.all (ab_ok 87) = true := by decide +kernel
/-- LostDesk.freshenBest -/
def cd_D_freshenBest : List ab_E := cd_D_freshenBest_0 ++ (cd_D_freshenBest_1)
theorem ck_D_freshenBest : cd_D_freshenBest.all (ab_ok 87) = true := ab_all_app ck_D_freshenBest_0 (ck_D_freshenBest_1)
/-- LostDesk.differingMarks -/
def cd_D_differingMarks : List ab_E := [(0, .aload_n 0, 0, 0, 0, 1), (1, .getfield 33, 703, 294, 0, 4), (4, .getfield 228, 102, 139, 0, 7), (7, .iload_n 1, 0, 0, 0, 8), (8, .iaload, 0, 0, 0, 9), (9, .aload_n 0, 0, 0, 0, 10), (10, .getfield 33, 703, 294, 0, 13), (13, .getfield 228, 102, 139, 0, 16), (16, .iload_n 2, 0, 0, 0, 17), (17, .iaload, 0, 0, 0, 18), (18, .ixor, 0, 0, 0, 19), (19, .ireturn, 0, 0, 0, 20)]
set_option maxRecDepth 100000 in
theorem ck_D_differingMarks : cd_D_differingMarks.all (ab_ok 88) = true := by decide +kernel
/-- LostDesk.isKeptInLine -/
def cd_D_isKeptInLine : List ab_E := [(0, .aload_n 0, 0, 0, 0, 1), (1, .getfield 33, 703, 294, 0, 4), (4, .iload_n 2, 0, 0, 0, 5), (5, .invokevirtual 208, 6, 549, 0, 8), (8, .ifCond .eq 36, 0, 0, 0, 11), (8, .ifCond .eq 36, 1, 0, 0, 44), (11, .aload_n 0, 0, 0, 0, 12), (12, .getfield 10, 700, 291, 0, 15), (15, .aload_n 0, 0, 0, 0, 16), (16, .getfield 33, 703, 294, 0, 19), (19, .getfield 167, 100, 135, 0, 22), (22, .iload_n 1, 0, 0, 0, 23), (23, .iaload, 0, 0, 0, 24), (24, .aload_n 0, 0, 0, 0, 25), (25, .getfield 33, 703, 294, 0, 28), (28, .getfield 167, 100, 135, 0, 31), (31, .iload_n 2, 0, 0, 0, 32), (32, .iaload, 0, 0, 0, 33), (33, .invokevirtual 264, 14, 502, 0, 36), (36, .iconst (-1), 0, 0, (-1), 37), (37, .if_icmp .eq 7, 0, 0, 0, 40), (37, .if_icmp .eq 7, 1, 0, 0, 44), (40, .iconst 1, 0, 0, 1, 41), (41, .goto 4, 0, 0, 0, 45), (44, .iconst 0, 0, 0, 0, 45), (45, .ireturn, 0, 0, 0, 46)]
set_option maxRecDepth 100000 in
theorem ck_D_isKeptInLine : cd_D_isKeptInLine.all (ab_ok 89) = true := by decide +kernel
/-- LostDesk.hasRival -/
def cd_D_hasRival : List ab_E := [(0, .iconst 0, 0, 0, 0, 1), (1, .istore_n 3, 0, 0, 0, 2), (2, .iload_n 3, 0, 0, 0, 3), (3, .aload_n 0, 0, 0, 0, 4), (4, .getfield 40, 704, 295, 0, 7), (7, .getfield 284, 307, 192, 0, 10), (10, .if_icmp .ge 59, 0, 0, 0, 13), (10, .if_icmp .ge 59, 1, 0, 0, 69), (13, .aload_n 0, 0, 0, 0, 14), (14, .getfield 60, 707, 298, 0, 17), (17, .iload_n 3, 0, 0, 0, 18), (18, .aaload, 0, 0, 0, 19), (19, .iload_n 2, 0, 0, 0, 20), (20, .iaload, 0, 0, 0, 21), (21, .aload_n 0, 0, 0, 0, 22), (22, .getfield 60, 707, 298, 0, 25), (25, .iload_n 1, 0, 0, 0, 26), (26, .aaload, 0, 0, 0, 27), (27, .iload_n 2, 0, 0, 0, 28), (28, .iaload, 0, 0, 0, 29), (29, .if_icmp .lt 7, 0, 0, 0, 32), (29, .if_icmp .lt 7, 1, 0, 0, 36), (32, .iconst 1, 0, 0, 1, 33), (33, .goto 4, 0, 0, 0, 37), (36, .iconst 0, 0, 0, 0, 37), (37, .istore 4, 0, 0, 0, 39), (39, .iload_n 3, 0, 0, 0, 40), (40, .iload_n 1, 0, 0, 0, 41), (41, .if_icmp .eq 22, 0, 0, 0, 44), (41, .if_icmp .eq 22, 1, 0, 0, 63), (44, .iload 4, 0, 0, 0, 46), (46, .ifCond .eq 17, 0, 0, 0, 49), (46, .ifCond .eq 17, 1, 0, 0, 63), (49, .aload_n 0, 0, 0, 0, 50), (50, .getfield 40, 704, 295, 0, 53), (53, .getfield 198, 306, 190, 0, 56), (56, .iload_n 3, 0, 0, 0, 57), (57, .baload, 0, 0, 0, 58), (58, .ifCond .ne 5, 0, 0, 0, 61), (58, .ifCond .ne 5, 1, 0, 0, 63), (61, .iconst 1, 0, 0, 1, 62), (62, .ireturn, 0, 0, 0, 63), (63, .iinc 3 1, 0, 0, 1, 66), (66, .goto (-64), 0, 0, 0, 2), (69, .iconst 0, 0, 0, 0, 70), (70, .ireturn, 0, 0, 0, 71)]
set_option maxRecDepth 100000 in
theorem ck_D_hasRival : cd_D_hasRival.all (ab_ok 90) = true := by decide +kernel
/-- LostDesk.bagDue -/
def cd_D_bagDue : List ab_E := [(0, .iconst 0, 0, 0, 0, 1), (1, .istore_n 2, 0, 0, 0, 2), (2, .iload_n 1, 0, 0, 0, 3), (3, .istore_n 3, 0, 0, 0, 4), (4, .iload_n 3, 0, 0, 0, 5), (5, .aload_n 0, 0, 0, 0, 6), (6, .getfield 33, 703, 294, 0, 9), (9, .getfield 211, 108, 151, 0, 12), (12, .if_icmp .ge 60, 0, 0, 0, 15), (12, .if_icmp .ge 60, 1, 0, 0, 72), (15, .aload_n 0, 0, 0, 0, 16), (16, .getfield 33, 703, 294, 0, 19), (19, .getfield 185, 107, 149, 0, 22), (22, .iload_n 3, 0, 0, 0, 23), (23, .iaload, 0, 0, 0, 24), (24, .iload_n 1, 0, 0, 0, 25), (25, .if_icmp .ne 41, 0, 0, 0, 28), (25, .if_icmp .ne 41, 1, 0, 0, 66), (28, .aload_n 0, 0, 0, 0, 29), (29, .getfield 10, 700, 291, 0, 32), (32, .aload_n 0, 0, 0, 0, 33), (33, .getfield 33, 703, 294, 0, 36), (36, .getfield 167, 100, 135, 0, 39), (39, .iload_n 3, 0, 0, 0, 40), (40, .iaload, 0, 0, 0, 41), (41, .invokevirtual 298, 15, 714, 0, 44), (44, .istore 4, 0, 0, 0, 46), (46, .iload_n 2, 0, 0, 0, 47), (47, .aload_n 0, 0, 0, 0, 48), (48, .getfield 33, 703, 294, 0, 51), (51, .getfield 176, 104, 143, 0, 54), (54, .iload_n 3, 0, 0, 0, 55), (55, .iaload, 0, 0, 0, 56), (56, .bipush 24, 0, 0, 24, 58), (58, .iload 4, 0, 0, 0, 60), (60, .imul, 0, 0, 0, 61), (61, .iadd, 0, 0, 0, 62), (62, .invokestatic 279, 144, 526, 0, 65), (65, .istore_n 2, 0, 0, 0, 66), (66, .iinc 3 1, 0, 0, 1, 69), (69, .goto (-65), 0, 0, 0, 4), (72, .iload_n 2, 0, 0, 0, 73), (73, .ireturn, 0, 0, 0, 74)]
set_option maxRecDepth 100000 in
theorem ck_D_bagDue : cd_D_bagDue.all (ab_ok 91) = true := by decide +kernel
def cd_D_readShares_0 : List ab_E := [(0, .iconst 0, 0, 0, 0, 1), (1, .istore_n 3, 0, 0, 0, 2), (2, .iconst 0, 0, 0, 0, 3), (3, .istore 4, 0, 0, 0, 5), (5, .iload 4, 0, 0, 0, 7), (7, .bipush 8, 0, 0, 8, 9), (9, .if_icmp .ge 87, 0, 0, 0, 12), (9, .if_icmp .ge 87, 1, 0, 0, 96), (12, .iload 4, 0, 0, 0, 14), (14, .iconst 4, 0, 0, 4, 15), (15, .if_icmp .ge 7, 0, 0, 0, 18), (15, .if_icmp .ge 7, 1, 0, 0, 22), (18, .iload_n 1, 0, 0, 0, 19), (19, .goto 4, 0, 0, 0, 23), (22, .iload_n 2, 0, 0, 0, 23), (23, .istore 5, 0, 0, 0, 25), (25, .iload 5, 0, 0, 0, 27), (27, .bipush 8, 0, 0, 8, 29), (29, .iload 4, 0, 0, 0, 31), (31, .iconst 4, 0, 0, 4, 32), (32, .irem, 0, 0, 0, 33), (33, .imul, 0, 0, 0, 34), (34, .iushr, 0, 0, 0, 35), (35, .sipush 255, 0, 0, 255, 38), (38, .iand, 0, 0, 0, 39), (39, .istore 6, 0, 0, 0, 41), (41, .iload 6, 0, 0, 0, 43), (43, .ifCond .le 13, 0, 0, 0, 46), (43, .ifCond .le 13, 1, 0, 0, 56), (46, .iload_n 3, 0, 0, 0, 47), (47, .iload 4, 0, 0, 0, 49), (49, .if_icmp .ge 7, 0, 0, 0, 52), (49, .if_icmp .ge 7, 1, 0, 0, 56), (52, .iconst 1, 0, 0, 1, 53), (53, .goto 4, 0, 0, 0, 57), (56, .iconst 0, 0, 0, 0, 57), (57, .istore 7, 0, 0, 0, 59), (59, .iload 6, 0, 0, 0, 61), (61, .bipush 100, 0, 0, 100, 63), (63, .if_icmp .gt 8, 0, 0, 0, 66), (63, .if_icmp .gt 8, 1, 0, 0, 71), (66, .iload 7, 0, 0, 0, 68), (68, .ifCond .eq 5, 0, 0, 0, 71), (68, .ifCond .eq 5, 1, 0, 0, 73), (71, .iconst (-1), 0, 0, (-1), 72), (72, .ireturn, 0, 0, 0, 73), (73, .aload_n 0, 0, 0, 0, 74), (74, .getfield 69, 708, 299, 0, 77)]
set_option maxRecDepth 100000 in
theorem ck_D_readShares_0 : cd_D_readShares_0.all (ab_ok 92) = true := by decide +kernel
def cd_D_readShares_1 : List ab_E := [(77, .iload 4, 0, 0, 0, 79), (79, .iload 6, 0, 0, 0, 81), (81, .iastore, 0, 0, 0, 82), (82, .iload 6, 0, 0, 0, 84), (84, .ifCond .le 6, 0, 0, 0, 87), (84, .ifCond .le 6, 1, 0, 0, 90), (87, .iinc 3 1, 0, 0, 1, 90), (90, .iinc 4 1, 0, 0, 1, 93), (93, .goto (-88), 0, 0, 0, 5), (96, .iload_n 3, 0, 0, 0, 97), (97, .ifCond .ne 7, 0, 0, 0, 100), (97, .ifCond .ne 7, 1, 0, 0, 104), (100, .iconst (-1), 0, 0, (-1), 101), (101, .goto 4, 0, 0, 0, 105), (104, .iload_n 3, 0, 0, 0, 105), (105, .ireturn, 0, 0, 0, 106)]
set_option maxRecDepth 100000 in
theorem ck_D_readShares_1 : cd_D_readShares_1.all (ab_ok 92) = true := by decide +kernel
/-- LostDesk.readShares -/
def cd_D_readShares : List ab_E := cd_D_readShares_0 ++ (cd_D_readShares_1)
theorem ck_D_readShares : cd_D_readShares.all (ab_ok 92) = true := ab_all_app ck_D_readShares_0 (ck_D_readShares_1)
def cd_D_partPennies_0 : List ab_E := [(0, .iconst 0, 0, 0, 0, 1), (1, .istore_n 3, 0, 0, 0, 2), (2, .iconst 0, 0, 0, 0, 3), (3, .istore 4, 0, 0, 0, 5), (5, .iload 4, 0, 0, 0, 7), (7, .iload_n 2, 0, 0, 0, 8), (8, .if_icmp .ge 19, 0, 0, 0, 11), (8, .if_icmp .ge 19, 1, 0, 0, 27), (11, .iload_n 3, 0, 0, 0, 12), (12, .aload_n 0, 0, 0, 0, 13), (13, .getfield 69, 708, 299, 0, 16), (16, .iload 4, 0, 0, 0, 18), (18, .iaload, 0, 0, 0, 19), (19, .iadd, 0, 0, 0, 20), (20, .istore_n 3, 0, 0, 0, 21), (21, .iinc 4 1, 0, 0, 1, 24), (24, .goto (-19), 0, 0, 0, 5), (27, .iload_n 3, 0, 0, 0, 28), (28, .iconst 1, 0, 0, 1, 29), (29, .if_icmp .ge 4, 0, 0, 0, 32), (29, .if_icmp .ge 4, 1, 0, 0, 33), (32, .return_, 0, 0, 0, 33), (33, .iload_n 1, 0, 0, 0, 34), (34, .istore 4, 0, 0, 0, 36), (36, .iconst 0, 0, 0, 0, 37), (37, .istore 5, 0, 0, 0, 39), (39, .iload 5, 0, 0, 0, 41), (41, .iload_n 2, 0, 0, 0, 42), (42, .if_icmp .ge 39, 0, 0, 0, 45), (42, .if_icmp .ge 39, 1, 0, 0, 81), (45, .aload_n 0, 0, 0, 0, 46), (46, .getfield 73, 709, 300, 0, 49), (49, .iload 5, 0, 0, 0, 51), (51, .iload_n 1, 0, 0, 0, 52), (52, .aload_n 0, 0, 0, 0, 53), (53, .getfield 69, 708, 299, 0, 56), (56, .iload 5, 0, 0, 0, 58), (58, .iaload, 0, 0, 0, 59), (59, .imul, 0, 0, 0, 60), (60, .iload_n 3, 0, 0, 0, 61), (61, .idiv, 0, 0, 0, 62), (62, .iastore, 0, 0, 0, 63), (63, .iload 4, 0, 0, 0, 65), (65, .aload_n 0, 0, 0, 0, 66), (66, .getfield 73, 709, 300, 0, 69), (69, .iload 5, 0, 0, 0, 71), (71, .iaload, 0, 0, 0, 72), (72, .isub, 0, 0, 0, 73)]
set_option maxRecDepth 100000 in
theorem ck_D_partPennies_0 : cd_D_partPennies_0.all (ab_ok 93) = true := by decide +kernel
def cd_D_partPennies_1 : List ab_E := [(73, .istore 4, 0, 0, 0, 75), (75, .iinc 5 1, 0, 0, 1, 78), (78, .goto (-39), 0, 0, 0, 39), (81, .iconst 0, 0, 0, 0, 82), (82, .istore 5, 0, 0, 0, 84), (84, .iload 5, 0, 0, 0, 86), (86, .iload 4, 0, 0, 0, 88), (88, .if_icmp .ge 26, 0, 0, 0, 91), (88, .if_icmp .ge 26, 1, 0, 0, 114), (91, .iload 5, 0, 0, 0, 93), (93, .iload_n 2, 0, 0, 0, 94), (94, .if_icmp .ge 20, 0, 0, 0, 97), (94, .if_icmp .ge 20, 1, 0, 0, 114), (97, .aload_n 0, 0, 0, 0, 98), (98, .getfield 73, 709, 300, 0, 101), (101, .iload 5, 0, 0, 0, 103), (103, .dup2, 0, 0, 0, 104), (104, .iaload, 0, 0, 0, 105), (105, .iconst 1, 0, 0, 1, 106), (106, .iadd, 0, 0, 0, 107), (107, .iastore, 0, 0, 0, 108), (108, .iinc 5 1, 0, 0, 1, 111), (111, .goto (-27), 0, 0, 0, 84), (114, .aload_n 0, 0, 0, 0, 115), (115, .iload_n 2, 0, 0, 0, 116), (116, .putfield 76, 710, 301, 0, 119), (119, .return_, 0, 0, 0, 120)]
set_option maxRecDepth 100000 in
theorem ck_D_partPennies_1 : cd_D_partPennies_1.all (ab_ok 93) = true := by decide +kernel
/-- LostDesk.partPennies -/
def cd_D_partPennies : List ab_E := cd_D_partPennies_0 ++ (cd_D_partPennies_1)
theorem ck_D_partPennies : cd_D_partPennies.all (ab_ok 93) = true := ab_all_app ck_D_partPennies_0 (ck_D_partPennies_1)
/-- LostDeskModel.status -/
def cd_M_status : List ab_E := [(0, .aload_n 0, 0, 0, 0, 1), (1, .iconst 0, 0, 0, 0, 2), (2, .putfield 120, 801, 751, 0, 5), (5, .aload_n 0, 0, 0, 0, 6), (6, .getfield 123, 800, 750, 0, 9), (9, .ireturn, 0, 0, 0, 10)]
set_option maxRecDepth 100000 in
theorem ck_M_status : cd_M_status.all (ab_ok 94) = true := by decide +kernel
/-- LostDeskModel.refuse -/
def cd_M_refuse : List ab_E := [(0, .aload_n 0, 0, 0, 0, 1), (1, .iload_n 1, 0, 0, 0, 2), (2, .putfield 123, 800, 750, 0, 5), (5, .iconst (-1), 0, 0, (-1), 6), (6, .ireturn, 0, 0, 0, 7)]
set_option maxRecDepth 100000 in
theorem ck_M_refuse : cd_M_refuse.all (ab_ok 95) = true := by decide +kernel
/-- LostDeskModel.no -/
def cd_M_no : List ab_E := [(0, .aload_n 0, 0, 0, 0, 1), (1, .iload_n 1, 0, 0, 0, 2), (2, .putfield 123, 800, 750, 0, 5), (5, .iconst 0, 0, 0, 0, 6), (6, .ireturn, 0, 0, 0, 7)]
set_option maxRecDepth 100000 in
theorem ck_M_no : cd_M_no.all (ab_ok 96) = true := by decide +kernel
/-- LostDeskModel.isKind -/
def cd_M_isKind : List ab_E := [(0, .iload_n 1, 0, 0, 0, 1), (1, .ifCond .lt 15, 0, 0, 0, 4), (1, .ifCond .lt 15, 1, 0, 0, 16), (4, .iload_n 1, 0, 0, 0, 5), (5, .aload_n 0, 0, 0, 0, 6), (6, .getfield 126, 802, 752, 0, 9), (9, .if_icmp .ge 7, 0, 0, 0, 12), (9, .if_icmp .ge 7, 1, 0, 0, 16), (12, .iconst 1, 0, 0, 1, 13), (13, .goto 4, 0, 0, 0, 17), (16, .iconst 0, 0, 0, 0, 17), (17, .ireturn, 0, 0, 0, 18)]
set_option maxRecDepth 100000 in
theorem ck_M_isKind : cd_M_isKind.all (ab_ok 97) = true := by decide +kernel
/-- LostDeskModel.isPlace -/
def cd_M_isPlace : List ab_E := [(0, .iload_n 1, 0, 0, 0, 1), (1, .ifCond .lt 15, 0, 0, 0, 4), (1, .ifCond .lt 15, 1, 0, 0, 16), (4, .iload_n 1, 0, 0, 0, 5), (5, .aload_n 0, 0, 0, 0, 6), (6, .getfield 129, 803, 753, 0, 9), (9, .if_icmp .ge 7, 0, 0, 0, 12), (9, .if_icmp .ge 7, 1, 0, 0, 16), (12, .iconst 1, 0, 0, 1, 13), (13, .goto 4, 0, 0, 0, 17), (16, .iconst 0, 0, 0, 0, 17), (17, .ireturn, 0, 0, 0, 18)]
set_option maxRecDepth 100000 in
theorem ck_M_isPlace : cd_M_isPlace.all (ab_ok 98) = true := by decide +kernel
/-- LostDeskModel.isFind -/
def cd_M_isFind : List ab_E := [(0, .iload_n 1, 0, 0, 0, 1), (1, .ifCond .lt 15, 0, 0, 0, 4), (1, .ifCond .lt 15, 1, 0, 0, 16), (4, .iload_n 1, 0, 0, 0, 5), (5, .aload_n 0, 0, 0, 0, 6), (6, .getfield 132, 804, 754, 0, 9), (9, .if_icmp .ge 7, 0, 0, 0, 12), (9, .if_icmp .ge 7, 1, 0, 0, 16), (12, .iconst 1, 0, 0, 1, 13), (13, .goto 4, 0, 0, 0, 17), (16, .iconst 0, 0, 0, 0, 17), (17, .ireturn, 0, 0, 0, 18)]
set_option maxRecDepth 100000 in
theorem ck_M_isFind : cd_M_isFind.all (ab_ok 99) = true := by decide +kernel
/-- LostDeskModel.isLoss -/
def cd_M_isLoss : List ab_E := [(0, .iload_n 1, 0, 0, 0, 1), (1, .ifCond .lt 15, 0, 0, 0, 4), (1, .ifCond .lt 15, 1, 0, 0, 16), (4, .iload_n 1, 0, 0, 0, 5), (5, .aload_n 0, 0, 0, 0, 6), (6, .getfield 135, 805, 755, 0, 9), (9, .if_icmp .ge 7, 0, 0, 0, 12), (9, .if_icmp .ge 7, 1, 0, 0, 16), (12, .iconst 1, 0, 0, 1, 13), (13, .goto 4, 0, 0, 0, 17), (16, .iconst 0, 0, 0, 0, 17), (17, .ireturn, 0, 0, 0, 18)]
set_option maxRecDepth 100000 in
theorem ck_M_isLoss : cd_M_isLoss.all (ab_ok 100) = true := by decide +kernel
/-- LostDeskModel.isColour -/
def cd_M_isColour : List ab_E := [(0, .iload_n 0, 0, 0, 0, 1), (1, .ifCond .lt 13, 0, 0, 0, 4), (1, .ifCond .lt 13, 1, 0, 0, 14), (4, .iload_n 0, 0, 0, 0, 5), (5, .bipush 12, 0, 0, 12, 7), (7, .if_icmp .ge 7, 0, 0, 0, 10), (7, .if_icmp .ge 7, 1, 0, 0, 14), (10, .iconst 1, 0, 0, 1, 11), (11, .goto 4, 0, 0, 0, 15), (14, .iconst 0, 0, 0, 0, 15), (15, .ireturn, 0, 0, 0, 16)]
set_option maxRecDepth 100000 in
theorem ck_M_isColour : cd_M_isColour.all (ab_ok 101) = true := by decide +kernel
def cd_M_kind_0 : List ab_E := [(0, .aload_n 0, 0, 0, 0, 1), (1, .iconst 0, 0, 0, 0, 2), (2, .putfield 120, 801, 751, 0, 5), (5, .aload_n 0, 0, 0, 0, 6), (6, .iconst 0, 0, 0, 0, 7), (7, .putfield 123, 800, 750, 0, 10), (10, .aload_n 0, 0, 0, 0, 11), (11, .getfield 126, 802, 752, 0, 14), (14, .ifCond .ne 11, 0, 0, 0, 17), (14, .ifCond .ne 11, 1, 0, 0, 25), (17, .iload_n 1, 0, 0, 0, 18), (18, .iconst (-1), 0, 0, (-1), 19), (19, .if_icmp .eq 20, 0, 0, 0, 22), (19, .if_icmp .eq 20, 1, 0, 0, 39), (22, .goto 11, 0, 0, 0, 33), (25, .aload_n 0, 0, 0, 0, 26), (26, .iload_n 1, 0, 0, 0, 27), (27, .invokevirtual 138, 97, 900, 0, 30), (30, .ifCond .ne 9, 0, 0, 0, 33), (30, .ifCond .ne 9, 1, 0, 0, 39), (33, .aload_n 0, 0, 0, 0, 34), (34, .iconst 1, 0, 0, 1, 35), (35, .invokevirtual 142, 95, 904, 0, 38), (38, .ireturn, 0, 0, 0, 39), (39, .aload_n 0, 0, 0, 0, 40), (40, .getfield 126, 802, 752, 0, 43), (43, .bipush 40, 0, 0, 40, 45), (45, .if_icmp .ne 9, 0, 0, 0, 48), (45, .if_icmp .ne 9, 1, 0, 0, 54), (48, .aload_n 0, 0, 0, 0, 49), (49, .iconst 3, 0, 0, 3, 50), (50, .invokevirtual 142, 95, 904, 0, 53), (53, .ireturn, 0, 0, 0, 54), (54, .aload_n 0, 0, 0, 0, 55), (55, .getfield 13, 808, 758, 0, 58), (58, .aload_n 0, 0, 0, 0, 59), (59, .getfield 126, 802, 752, 0, 62), (62, .iload_n 1, 0, 0, 0, 63), (63, .iastore, 0, 0, 0, 64), (64, .aload_n 0, 0, 0, 0, 65), (65, .getfield 17, 809, 759, 0, 68), (68, .aload_n 0, 0, 0, 0, 69), (69, .getfield 126, 802, 752, 0, 72), (72, .iconst (-1), 0, 0, (-1), 73), (73, .iastore, 0, 0, 0, 74), (74, .aload_n 0, 0, 0, 0, 75), (75, .dup, 0, 0, 0, 76), (76, .getfield 126, 802, 752, 0, 79)]
set_option maxRecDepth 100000 in
theorem ck_M_kind_0 : cd_M_kind_0.all (ab_ok 102) = true := by decide +kernel
def cd_M_kind_1 : List ab_E := [(79, .iconst 1, 0, 0, 1, 80), (80, .iadd, 0, 0, 0, 81), (81, .putfield 126, 802, 752, 0, 84), (84, .aload_n 0, 0, 0, 0, 85), (85, .getfield 126, 802, 752, 0, 88), (88, .iconst 1, 0, 0, 1, 89), (89, .isub, 0, 0, 0, 90), (90, .ireturn, 0, 0, 0, 91)]
set_option maxRecDepth 100000 in
theorem ck_M_kind_1 : cd_M_kind_1.all (ab_ok 102) = true := by decide +kernel
/-- LostDeskModel.kind -/
def cd_M_kind : List ab_E := cd_M_kind_0 ++ (cd_M_kind_1)
theorem ck_M_kind : cd_M_kind.all (ab_ok 102) = true := ab_all_app ck_M_kind_0 (ck_M_kind_1)
def cd_M_near_0 : List ab_E := [(0, .aload_n 0, 0, 0, 0, 1), (1, .iconst 0, 0, 0, 0, 2), (2, .putfield 120, 801, 751, 0, 5), (5, .aload_n 0, 0, 0, 0, 6), (6, .iconst 0, 0, 0, 0, 7), (7, .putfield 123, 800, 750, 0, 10), (10, .iload_n 1, 0, 0, 0, 11), (11, .invokestatic 146, 101, 912, 0, 14), (14, .ifCond .eq 15, 0, 0, 0, 17), (14, .ifCond .eq 15, 1, 0, 0, 29), (17, .iload_n 2, 0, 0, 0, 18), (18, .invokestatic 146, 101, 912, 0, 21), (21, .ifCond .eq 8, 0, 0, 0, 24), (21, .ifCond .eq 8, 1, 0, 0, 29), (24, .iload_n 1, 0, 0, 0, 25), (25, .iload_n 2, 0, 0, 0, 26), (26, .if_icmp .ne 9, 0, 0, 0, 29), (26, .if_icmp .ne 9, 1, 0, 0, 35), (29, .aload_n 0, 0, 0, 0, 30), (30, .iconst 2, 0, 0, 2, 31), (31, .invokevirtual 149, 96, 915, 0, 34), (34, .ireturn, 0, 0, 0, 35), (35, .aload_n 0, 0, 0, 0, 36), (36, .getfield 20, 810, 760, 0, 39), (39, .bipush 12, 0, 0, 12, 41), (41, .iload_n 1, 0, 0, 0, 42), (42, .imul, 0, 0, 0, 43), (43, .iload_n 2, 0, 0, 0, 44), (44, .iadd, 0, 0, 0, 45), (45, .baload, 0, 0, 0, 46), (46, .iload_n 3, 0, 0, 0, 47), (47, .if_icmp .ne 9, 0, 0, 0, 50), (47, .if_icmp .ne 9, 1, 0, 0, 56), (50, .aload_n 0, 0, 0, 0, 51), (51, .iconst 4, 0, 0, 4, 52), (52, .invokevirtual 149, 96, 915, 0, 55), (55, .ireturn, 0, 0, 0, 56), (56, .aload_n 0, 0, 0, 0, 57), (57, .getfield 20, 810, 760, 0, 60), (60, .bipush 12, 0, 0, 12, 62), (62, .iload_n 1, 0, 0, 0, 63), (63, .imul, 0, 0, 0, 64), (64, .iload_n 2, 0, 0, 0, 65), (65, .iadd, 0, 0, 0, 66), (66, .iload_n 3, 0, 0, 0, 67), (67, .bastore, 0, 0, 0, 68), (68, .aload_n 0, 0, 0, 0, 69), (69, .getfield 20, 810, 760, 0, 72)]
set_option maxRecDepth 100000 in
theorem ck_M_near_0 : cd_M_near_0.all (ab_ok 103) = true := by decide +kernel
def cd_M_near_1 : List ab_E := [(72, .bipush 12, 0, 0, 12, 74), (74, .iload_n 2, 0, 0, 0, 75), (75, .imul, 0, 0, 0, 76), (76, .iload_n 1, 0, 0, 0, 77), (77, .iadd, 0, 0, 0, 78), (78, .iload_n 3, 0, 0, 0, 79), (79, .bastore, 0, 0, 0, 80), (80, .iconst 1, 0, 0, 1, 81), (81, .ireturn, 0, 0, 0, 82)]
set_option maxRecDepth 100000 in
theorem ck_M_near_1 : cd_M_near_1.all (ab_ok 103) = true := by decide +kernel
/-- LostDeskModel.near -/
def cd_M_near : List ab_E := cd_M_near_0 ++ (cd_M_near_1)
theorem ck_M_near : cd_M_near.all (ab_ok 103) = true := ab_all_app ck_M_near_0 (ck_M_near_1)
def cd_M_place_0 : List ab_E := [(0, .aload_n 0, 0, 0, 0, 1), (1, .iconst 0, 0, 0, 0, 2), (2, .putfield 120, 801, 751, 0, 5), (5, .aload_n 0, 0, 0, 0, 6), (6, .iconst 0, 0, 0, 0, 7), (7, .putfield 123, 800, 750, 0, 10), (10, .aload_n 0, 0, 0, 0, 11), (11, .getfield 129, 803, 753, 0, 14), (14, .bipush 20, 0, 0, 20, 16), (16, .if_icmp .ne 9, 0, 0, 0, 19), (16, .if_icmp .ne 9, 1, 0, 0, 25), (19, .aload_n 0, 0, 0, 0, 20), (20, .iconst 3, 0, 0, 3, 21), (21, .invokevirtual 142, 95, 904, 0, 24), (24, .ireturn, 0, 0, 0, 25), (25, .iconst 0, 0, 0, 0, 26), (26, .istore_n 1, 0, 0, 0, 27), (27, .iload_n 1, 0, 0, 0, 28), (28, .aload_n 0, 0, 0, 0, 29), (29, .getfield 129, 803, 753, 0, 32), (32, .if_icmp .gt 41, 0, 0, 0, 35), (32, .if_icmp .gt 41, 1, 0, 0, 73), (35, .aload_n 0, 0, 0, 0, 36), (36, .getfield 24, 811, 761, 0, 39), (39, .bipush 20, 0, 0, 20, 41), (41, .iload_n 1, 0, 0, 0, 42), (42, .imul, 0, 0, 0, 43), (43, .aload_n 0, 0, 0, 0, 44), (44, .getfield 129, 803, 753, 0, 47), (47, .iadd, 0, 0, 0, 48), (48, .ldc 152, 0, 923, 100000000, 50), (50, .iastore, 0, 0, 0, 51), (51, .aload_n 0, 0, 0, 0, 52), (52, .getfield 24, 811, 761, 0, 55), (55, .bipush 20, 0, 0, 20, 57), (57, .aload_n 0, 0, 0, 0, 58), (58, .getfield 129, 803, 753, 0, 61), (61, .imul, 0, 0, 0, 62), (62, .iload_n 1, 0, 0, 0, 63), (63, .iadd, 0, 0, 0, 64), (64, .ldc 152, 0, 923, 100000000, 66), (66, .iastore, 0, 0, 0, 67), (67, .iinc 1 1, 0, 0, 1, 70), (70, .goto (-43), 0, 0, 0, 27), (73, .aload_n 0, 0, 0, 0, 74), (74, .dup, 0, 0, 0, 75), (75, .getfield 129, 803, 753, 0, 78), (78, .iconst 1, 0, 0, 1, 79)]
set_option maxRecDepth 100000 in
theorem ck_M_place_0 : cd_M_place_0.all (ab_ok 104) = true := by decide +kernel
def cd_M_place_1 : List ab_E := [(79, .iadd, 0, 0, 0, 80), (80, .putfield 129, 803, 753, 0, 83), (83, .aload_n 0, 0, 0, 0, 84), (84, .getfield 129, 803, 753, 0, 87), (87, .iconst 1, 0, 0, 1, 88), (88, .isub, 0, 0, 0, 89), (89, .ireturn, 0, 0, 0, 90)]
set_option maxRecDepth 100000 in
theorem ck_M_place_1 : cd_M_place_1.all (ab_ok 104) = true := by decide +kernel
/-- LostDeskModel.place -/
def cd_M_place : List ab_E := cd_M_place_0 ++ (cd_M_place_1)
theorem ck_M_place : cd_M_place.all (ab_ok 104) = true := ab_all_app ck_M_place_0 (ck_M_place_1)
def cd_M_way_0 : List ab_E := [(0, .aload_n 0, 0, 0, 0, 1), (1, .iconst 0, 0, 0, 0, 2), (2, .putfield 120, 801, 751, 0, 5), (5, .aload_n 0, 0, 0, 0, 6), (6, .iconst 0, 0, 0, 0, 7), (7, .putfield 123, 800, 750, 0, 10), (10, .aload_n 0, 0, 0, 0, 11), (11, .iload_n 1, 0, 0, 0, 12), (12, .invokevirtual 153, 98, 928, 0, 15), (15, .ifCond .eq 16, 0, 0, 0, 18), (15, .ifCond .eq 16, 1, 0, 0, 31), (18, .aload_n 0, 0, 0, 0, 19), (19, .iload_n 2, 0, 0, 0, 20), (20, .invokevirtual 153, 98, 928, 0, 23), (23, .ifCond .eq 8, 0, 0, 0, 26), (23, .ifCond .eq 8, 1, 0, 0, 31), (26, .iload_n 1, 0, 0, 0, 27), (27, .iload_n 2, 0, 0, 0, 28), (28, .if_icmp .ne 9, 0, 0, 0, 31), (28, .if_icmp .ne 9, 1, 0, 0, 37), (31, .aload_n 0, 0, 0, 0, 32), (32, .iconst 1, 0, 0, 1, 33), (33, .invokevirtual 149, 96, 915, 0, 36), (36, .ireturn, 0, 0, 0, 37), (37, .iload_n 3, 0, 0, 0, 38), (38, .iconst (-1), 0, 0, (-1), 39), (39, .if_icmp .eq 21, 0, 0, 0, 42), (39, .if_icmp .eq 21, 1, 0, 0, 60), (42, .iload_n 3, 0, 0, 0, 43), (43, .iconst 1, 0, 0, 1, 44), (44, .if_icmp .lt 10, 0, 0, 0, 47), (44, .if_icmp .lt 10, 1, 0, 0, 54), (47, .iload_n 3, 0, 0, 0, 48), (48, .sipush 1000, 0, 0, 1000, 51), (51, .if_icmp .le 9, 0, 0, 0, 54), (51, .if_icmp .le 9, 1, 0, 0, 60), (54, .aload_n 0, 0, 0, 0, 55), (55, .iconst 2, 0, 0, 2, 56), (56, .invokevirtual 149, 96, 915, 0, 59), (59, .ireturn, 0, 0, 0, 60), (60, .iload_n 3, 0, 0, 0, 61), (61, .iconst (-1), 0, 0, (-1), 62), (62, .if_icmp .ne 26, 0, 0, 0, 65), (62, .if_icmp .ne 26, 1, 0, 0, 88), (65, .aload_n 0, 0, 0, 0, 66), (66, .getfield 24, 811, 761, 0, 69), (69, .bipush 20, 0, 0, 20, 71), (71, .iload_n 1, 0, 0, 0, 72)]
set_option maxRecDepth 100000 in
theorem ck_M_way_0 : cd_M_way_0.all (ab_ok 105) = true := by decide +kernel
def cd_M_way_1 : List ab_E := [(72, .imul, 0, 0, 0, 73), (73, .iload_n 2, 0, 0, 0, 74), (74, .iadd, 0, 0, 0, 75), (75, .iaload, 0, 0, 0, 76), (76, .ldc 152, 0, 923, 100000000, 78), (78, .if_icmp .ne 10, 0, 0, 0, 81), (78, .if_icmp .ne 10, 1, 0, 0, 88), (81, .aload_n 0, 0, 0, 0, 82), (82, .bipush 7, 0, 0, 7, 84), (84, .invokevirtual 149, 96, 915, 0, 87), (87, .ireturn, 0, 0, 0, 88), (88, .aload_n 0, 0, 0, 0, 89), (89, .getfield 24, 811, 761, 0, 92), (92, .bipush 20, 0, 0, 20, 94), (94, .iload_n 1, 0, 0, 0, 95), (95, .imul, 0, 0, 0, 96), (96, .iload_n 2, 0, 0, 0, 97), (97, .iadd, 0, 0, 0, 98), (98, .iload_n 3, 0, 0, 0, 99), (99, .iconst (-1), 0, 0, (-1), 100), (100, .if_icmp .ne 8, 0, 0, 0, 103), (100, .if_icmp .ne 8, 1, 0, 0, 108), (103, .ldc 152, 0, 923, 100000000, 105), (105, .goto 4, 0, 0, 0, 109), (108, .iload_n 3, 0, 0, 0, 109), (109, .iastore, 0, 0, 0, 110), (110, .aload_n 0, 0, 0, 0, 111), (111, .getfield 24, 811, 761, 0, 114), (114, .bipush 20, 0, 0, 20, 116), (116, .iload_n 2, 0, 0, 0, 117), (117, .imul, 0, 0, 0, 118), (118, .iload_n 1, 0, 0, 0, 119), (119, .iadd, 0, 0, 0, 120), (120, .aload_n 0, 0, 0, 0, 121), (121, .getfield 24, 811, 761, 0, 124), (124, .bipush 20, 0, 0, 20, 126), (126, .iload_n 1, 0, 0, 0, 127), (127, .imul, 0, 0, 0, 128), (128, .iload_n 2, 0, 0, 0, 129), (129, .iadd, 0, 0, 0, 130), (130, .iaload, 0, 0, 0, 131), (131, .iastore, 0, 0, 0, 132), (132, .iconst 1, 0, 0, 1, 133), (133, .ireturn, 0, 0, 0, 134)]
set_option maxRecDepth 100000 in
theorem ck_M_way_1 : cd_M_way_1.all (ab_ok 105) = true := by decide +kernel
/-- LostDeskModel.way -/
def cd_M_way : List ab_E := cd_M_way_0 ++ (cd_M_way_1)
theorem ck_M_way : cd_M_way.all (ab_ok 105) = true := ab_all_app ck_M_way_0 (ck_M_way_1)
def cd_M_ways_0 : List ab_E := [(0, .iconst 0, 0, 0, 0, 1), (1, .istore_n 1, 0, 0, 0, 2), (2, .iload_n 1, 0, 0, 0, 3), (3, .aload_n 0, 0, 0, 0, 4), (4, .getfield 129, 803, 753, 0, 7), (7, .if_icmp .ge 56, 0, 0, 0, 10), (7, .if_icmp .ge 56, 1, 0, 0, 63), (10, .iconst 0, 0, 0, 0, 11), (11, .istore_n 2, 0, 0, 0, 12), (12, .iload_n 2, 0, 0, 0, 13), (13, .aload_n 0, 0, 0, 0, 14), (14, .getfield 129, 803, 753, 0, 17), (17, .if_icmp .ge 40, 0, 0, 0, 20), (17, .if_icmp .ge 40, 1, 0, 0, 57), (20, .aload_n 0, 0, 0, 0, 21), (21, .getfield 27, 812, 762, 0, 24), (24, .bipush 20, 0, 0, 20, 26), (26, .iload_n 1, 0, 0, 0, 27), (27, .imul, 0, 0, 0, 28), (28, .iload_n 2, 0, 0, 0, 29), (29, .iadd, 0, 0, 0, 30), (30, .iload_n 1, 0, 0, 0, 31), (31, .iload_n 2, 0, 0, 0, 32), (32, .if_icmp .ne 7, 0, 0, 0, 35), (32, .if_icmp .ne 7, 1, 0, 0, 39), (35, .iconst 0, 0, 0, 0, 36), (36, .goto 14, 0, 0, 0, 50), (39, .aload_n 0, 0, 0, 0, 40), (40, .getfield 24, 811, 761, 0, 43), (43, .bipush 20, 0, 0, 20, 45), (45, .iload_n 1, 0, 0, 0, 46), (46, .imul, 0, 0, 0, 47), (47, .iload_n 2, 0, 0, 0, 48), (48, .iadd, 0, 0, 0, 49), (49, .iaload, 0, 0, 0, 50), (50, .iastore, 0, 0, 0, 51), (51, .iinc 2 1, 0, 0, 1, 54), (54, .goto (-42), 0, 0, 0, 12), (57, .iinc 1 1, 0, 0, 1, 60), (60, .goto (-58), 0, 0, 0, 2), (63, .iconst 0, 0, 0, 0, 64), (64, .istore_n 1, 0, 0, 0, 65), (65, .iload_n 1, 0, 0, 0, 66), (66, .aload_n 0, 0, 0, 0, 67), (67, .getfield 129, 803, 753, 0, 70), (70, .if_icmp .ge 89, 0, 0, 0, 73), (70, .if_icmp .ge 89, 1, 0, 0, 159), (73, .iconst 0, 0, 0, 0, 74)]
set_option maxRecDepth 100000 in
theorem ck_M_ways_0 : cd_M_ways_0.all (ab_ok 106) = true := by decide +kernel
def cd_M_ways_1 : List ab_E := [(74, .istore_n 2, 0, 0, 0, 75), (75, .iload_n 2, 0, 0, 0, 76), (76, .aload_n 0, 0, 0, 0, 77), (77, .getfield 129, 803, 753, 0, 80), (80, .if_icmp .ge 73, 0, 0, 0, 83), (80, .if_icmp .ge 73, 1, 0, 0, 153), (83, .iconst 0, 0, 0, 0, 84), (84, .istore_n 3, 0, 0, 0, 85), (85, .iload_n 3, 0, 0, 0, 86), (86, .aload_n 0, 0, 0, 0, 87), (87, .getfield 129, 803, 753, 0, 90), (90, .if_icmp .ge 57, 0, 0, 0, 93), (90, .if_icmp .ge 57, 1, 0, 0, 147), (93, .aload_n 0, 0, 0, 0, 94), (94, .getfield 27, 812, 762, 0, 97), (97, .bipush 20, 0, 0, 20, 99), (99, .iload_n 2, 0, 0, 0, 100), (100, .imul, 0, 0, 0, 101), (101, .iload_n 3, 0, 0, 0, 102), (102, .iadd, 0, 0, 0, 103), (103, .aload_n 0, 0, 0, 0, 104), (104, .getfield 27, 812, 762, 0, 107), (107, .bipush 20, 0, 0, 20, 109), (109, .iload_n 2, 0, 0, 0, 110), (110, .imul, 0, 0, 0, 111), (111, .iload_n 3, 0, 0, 0, 112), (112, .iadd, 0, 0, 0, 113), (113, .iaload, 0, 0, 0, 114), (114, .aload_n 0, 0, 0, 0, 115), (115, .getfield 27, 812, 762, 0, 118), (118, .bipush 20, 0, 0, 20, 120), (120, .iload_n 2, 0, 0, 0, 121), (121, .imul, 0, 0, 0, 122), (122, .iload_n 1, 0, 0, 0, 123), (123, .iadd, 0, 0, 0, 124), (124, .iaload, 0, 0, 0, 125), (125, .aload_n 0, 0, 0, 0, 126), (126, .getfield 27, 812, 762, 0, 129), (129, .bipush 20, 0, 0, 20, 131), (131, .iload_n 1, 0, 0, 0, 132), (132, .imul, 0, 0, 0, 133), (133, .iload_n 3, 0, 0, 0, 134), (134, .iadd, 0, 0, 0, 135), (135, .iaload, 0, 0, 0, 136), (136, .iadd, 0, 0, 0, 137), (137, .invokestatic 156, 145, 940, 0, 140), (140, .iastore, 0, 0, 0, 141), (141, .iinc 3 1, 0, 0, 1, 144)]
set_option maxRecDepth 100000 in
theorem ck_M_ways_1 : cd_M_ways_1.all (ab_ok 106) = true := by decide +kernel
def cd_M_ways_2 : List ab_E := [(144, .goto (-59), 0, 0, 0, 85), (147, .iinc 2 1, 0, 0, 1, 150), (150, .goto (-75), 0, 0, 0, 75), (153, .iinc 1 1, 0, 0, 1, 156), (156, .goto (-91), 0, 0, 0, 65), (159, .return_, 0, 0, 0, 160)]
set_option maxRecDepth 100000 in
theorem ck_M_ways_2 : cd_M_ways_2.all (ab_ok 106) = true := by decide +kernel
/-- LostDeskModel.ways -/
def cd_M_ways : List ab_E := cd_M_ways_0 ++ (cd_M_ways_1 ++ (cd_M_ways_2))
theorem ck_M_ways : cd_M_ways.all (ab_ok 106) = true := ab_all_app ck_M_ways_0 (ab_all_app ck_M_ways_1 (ck_M_ways_2))
/-- LostDeskModel.far -/
def cd_M_far : List ab_E := [(0, .aload_n 0, 0, 0, 0, 1), (1, .iconst 0, 0, 0, 0, 2), (2, .putfield 120, 801, 751, 0, 5), (5, .aload_n 0, 0, 0, 0, 6), (6, .iconst 0, 0, 0, 0, 7), (7, .putfield 123, 800, 750, 0, 10), (10, .aload_n 0, 0, 0, 0, 11), (11, .iload_n 1, 0, 0, 0, 12), (12, .invokevirtual 153, 98, 928, 0, 15), (15, .ifCond .eq 11, 0, 0, 0, 18), (15, .ifCond .eq 11, 1, 0, 0, 26), (18, .aload_n 0, 0, 0, 0, 19), (19, .iload_n 2, 0, 0, 0, 20), (20, .invokevirtual 153, 98, 928, 0, 23), (23, .ifCond .ne 9, 0, 0, 0, 26), (23, .ifCond .ne 9, 1, 0, 0, 32), (26, .aload_n 0, 0, 0, 0, 27), (27, .iconst 1, 0, 0, 1, 28), (28, .invokevirtual 142, 95, 904, 0, 31), (31, .ireturn, 0, 0, 0, 32), (32, .aload_n 0, 0, 0, 0, 33), (33, .invokevirtual 162, 106, 936, 0, 36), (36, .aload_n 0, 0, 0, 0, 37), (37, .getfield 27, 812, 762, 0, 40), (40, .bipush 20, 0, 0, 20, 42), (42, .iload_n 1, 0, 0, 0, 43), (43, .imul, 0, 0, 0, 44), (44, .iload_n 2, 0, 0, 0, 45), (45, .iadd, 0, 0, 0, 46), (46, .iaload, 0, 0, 0, 47), (47, .ldc 152, 0, 923, 100000000, 49), (49, .if_icmp .lt 12, 0, 0, 0, 52), (49, .if_icmp .lt 12, 1, 0, 0, 61), (52, .aload_n 0, 0, 0, 0, 53), (53, .bipush 7, 0, 0, 7, 55), (55, .invokevirtual 142, 95, 904, 0, 58), (58, .goto 14, 0, 0, 0, 72), (61, .aload_n 0, 0, 0, 0, 62), (62, .getfield 27, 812, 762, 0, 65), (65, .bipush 20, 0, 0, 20, 67), (67, .iload_n 1, 0, 0, 0, 68), (68, .imul, 0, 0, 0, 69), (69, .iload_n 2, 0, 0, 0, 70), (70, .iadd, 0, 0, 0, 71), (71, .iaload, 0, 0, 0, 72), (72, .ireturn, 0, 0, 0, 73)]
set_option maxRecDepth 100000 in
theorem ck_M_far : cd_M_far.all (ab_ok 107) = true := by decide +kernel
/-- LostDeskModel.areMarks -/
def cd_M_areMarks : List ab_E := [(0, .iload_n 0, 0, 0, 0, 1), (1, .ifCond .lt 13, 0, 0, 0, 4), (1, .ifCond .lt 13, 1, 0, 0, 14), (4, .iload_n 0, 0, 0, 0, 5), (5, .ldc 165, 0, 948, 65535, 7), (7, .if_icmp .gt 7, 0, 0, 0, 10), (7, .if_icmp .gt 7, 1, 0, 0, 14), (10, .iconst 1, 0, 0, 1, 11), (11, .goto 4, 0, 0, 0, 15), (14, .iconst 0, 0, 0, 0, 15), (15, .ireturn, 0, 0, 0, 16)]
set_option maxRecDepth 100000 in
theorem ck_M_areMarks : cd_M_areMarks.all (ab_ok 108) = true := by decide +kernel
/-- LostDeskModel.isTick -/
def cd_M_isTick : List ab_E := [(0, .iload_n 0, 0, 0, 0, 1), (1, .ifCond .lt 13, 0, 0, 0, 4), (1, .ifCond .lt 13, 1, 0, 0, 14), (4, .iload_n 0, 0, 0, 0, 5), (5, .ldc 166, 0, 952, 100000, 7), (7, .if_icmp .gt 7, 0, 0, 0, 10), (7, .if_icmp .gt 7, 1, 0, 0, 14), (10, .iconst 1, 0, 0, 1, 11), (11, .goto 4, 0, 0, 0, 15), (14, .iconst 0, 0, 0, 0, 15), (15, .ireturn, 0, 0, 0, 16)]
set_option maxRecDepth 100000 in
theorem ck_M_isTick : cd_M_isTick.all (ab_ok 109) = true := by decide +kernel
def cd_M_found_0 : List ab_E := [(0, .aload_n 0, 0, 0, 0, 1), (1, .iconst 0, 0, 0, 0, 2), (2, .putfield 120, 801, 751, 0, 5), (5, .aload_n 0, 0, 0, 0, 6), (6, .iconst 0, 0, 0, 0, 7), (7, .putfield 123, 800, 750, 0, 10), (10, .aload_n 0, 0, 0, 0, 11), (11, .iload_n 1, 0, 0, 0, 12), (12, .invokevirtual 138, 97, 900, 0, 15), (15, .ifCond .eq 12, 0, 0, 0, 18), (15, .ifCond .eq 12, 1, 0, 0, 27), (18, .aload_n 0, 0, 0, 0, 19), (19, .iload 4, 0, 0, 0, 21), (21, .invokevirtual 153, 98, 928, 0, 24), (24, .ifCond .ne 9, 0, 0, 0, 27), (24, .ifCond .ne 9, 1, 0, 0, 33), (27, .aload_n 0, 0, 0, 0, 28), (28, .iconst 1, 0, 0, 1, 29), (29, .invokevirtual 142, 95, 904, 0, 32), (32, .ireturn, 0, 0, 0, 33), (33, .iload_n 2, 0, 0, 0, 34), (34, .iconst (-1), 0, 0, (-1), 35), (35, .if_icmp .eq 10, 0, 0, 0, 38), (35, .if_icmp .eq 10, 1, 0, 0, 45), (38, .iload_n 2, 0, 0, 0, 39), (39, .invokestatic 146, 101, 912, 0, 42), (42, .ifCond .eq 18, 0, 0, 0, 45), (42, .ifCond .eq 18, 1, 0, 0, 60), (45, .iload_n 3, 0, 0, 0, 46), (46, .invokestatic 167, 108, 945, 0, 49), (49, .ifCond .eq 11, 0, 0, 0, 52), (49, .ifCond .eq 11, 1, 0, 0, 60), (52, .iload 5, 0, 0, 0, 54), (54, .invokestatic 170, 109, 949, 0, 57), (57, .ifCond .ne 9, 0, 0, 0, 60), (57, .ifCond .ne 9, 1, 0, 0, 66), (60, .aload_n 0, 0, 0, 0, 61), (61, .iconst 2, 0, 0, 2, 62), (62, .invokevirtual 142, 95, 904, 0, 65), (65, .ireturn, 0, 0, 0, 66), (66, .aload_n 0, 0, 0, 0, 67), (67, .getfield 132, 804, 754, 0, 70), (70, .bipush 24, 0, 0, 24, 72), (72, .if_icmp .ne 9, 0, 0, 0, 75), (72, .if_icmp .ne 9, 1, 0, 0, 81), (75, .aload_n 0, 0, 0, 0, 76), (76, .iconst 3, 0, 0, 3, 77), (77, .invokevirtual 142, 95, 904, 0, 80)]
set_option maxRecDepth 100000 in
theorem ck_M_found_0 : cd_M_found_0.all (ab_ok 110) = true := by decide +kernel
def cd_M_found_1 : List ab_E := [(80, .ireturn, 0, 0, 0, 81), (81, .aload_n 0, 0, 0, 0, 82), (82, .getfield 30, 813, 763, 0, 85), (85, .aload_n 0, 0, 0, 0, 86), (86, .getfield 132, 804, 754, 0, 89), (89, .iload_n 1, 0, 0, 0, 90), (90, .iastore, 0, 0, 0, 91), (91, .aload_n 0, 0, 0, 0, 92), (92, .getfield 33, 814, 764, 0, 95), (95, .aload_n 0, 0, 0, 0, 96), (96, .getfield 132, 804, 754, 0, 99), (99, .iload_n 2, 0, 0, 0, 100), (100, .iastore, 0, 0, 0, 101), (101, .aload_n 0, 0, 0, 0, 102), (102, .getfield 36, 815, 765, 0, 105), (105, .aload_n 0, 0, 0, 0, 106), (106, .getfield 132, 804, 754, 0, 109), (109, .iload_n 3, 0, 0, 0, 110), (110, .iastore, 0, 0, 0, 111), (111, .aload_n 0, 0, 0, 0, 112), (112, .getfield 39, 816, 766, 0, 115), (115, .aload_n 0, 0, 0, 0, 116), (116, .getfield 132, 804, 754, 0, 119), (119, .iload 4, 0, 0, 0, 121), (121, .iastore, 0, 0, 0, 122), (122, .aload_n 0, 0, 0, 0, 123), (123, .getfield 42, 817, 767, 0, 126), (126, .aload_n 0, 0, 0, 0, 127), (127, .getfield 132, 804, 754, 0, 130), (130, .iload 5, 0, 0, 0, 132), (132, .iastore, 0, 0, 0, 133), (133, .aload_n 0, 0, 0, 0, 134), (134, .getfield 45, 818, 768, 0, 137), (137, .aload_n 0, 0, 0, 0, 138), (138, .getfield 132, 804, 754, 0, 141), (141, .iconst 0, 0, 0, 0, 142), (142, .iastore, 0, 0, 0, 143), (143, .aload_n 0, 0, 0, 0, 144), (144, .getfield 48, 819, 769, 0, 147), (147, .aload_n 0, 0, 0, 0, 148), (148, .getfield 132, 804, 754, 0, 151), (151, .iconst (-1), 0, 0, (-1), 152), (152, .iastore, 0, 0, 0, 153), (153, .aload_n 0, 0, 0, 0, 154), (154, .getfield 51, 820, 770, 0, 157), (157, .aload_n 0, 0, 0, 0, 158), (158, .getfield 132, 804, 754, 0, 161), (161, .aload_n 0, 0, 0, 0, 162)]
set_option maxRecDepth 100000 in
theorem ck_M_found_1 : cd_M_found_1.all (ab_ok 110) = true := by decide +kernel
def cd_M_found_2 : List ab_E := [(162, .getfield 132, 804, 754, 0, 165), (165, .iastore, 0, 0, 0, 166), (166, .aload_n 0, 0, 0, 0, 167), (167, .dup, 0, 0, 0, 168), (168, .getfield 132, 804, 754, 0, 171), (171, .iconst 1, 0, 0, 1, 172), (172, .iadd, 0, 0, 0, 173), (173, .putfield 132, 804, 754, 0, 176), (176, .aload_n 0, 0, 0, 0, 177), (177, .getfield 132, 804, 754, 0, 180), (180, .iconst 1, 0, 0, 1, 181), (181, .isub, 0, 0, 0, 182), (182, .ireturn, 0, 0, 0, 183)]
set_option maxRecDepth 100000 in
theorem ck_M_found_2 : cd_M_found_2.all (ab_ok 110) = true := by decide +kernel
/-- LostDeskModel.found -/
def cd_M_found : List ab_E := cd_M_found_0 ++ (cd_M_found_1 ++ (cd_M_found_2))
theorem ck_M_found : cd_M_found.all (ab_ok 110) = true := ab_all_app ck_M_found_0 (ab_all_app ck_M_found_1 (ck_M_found_2))
def cd_M_lost_0 : List ab_E := [(0, .aload_n 0, 0, 0, 0, 1), (1, .iconst 0, 0, 0, 0, 2), (2, .putfield 120, 801, 751, 0, 5), (5, .aload_n 0, 0, 0, 0, 6), (6, .iconst 0, 0, 0, 0, 7), (7, .putfield 123, 800, 750, 0, 10), (10, .aload_n 0, 0, 0, 0, 11), (11, .iload_n 1, 0, 0, 0, 12), (12, .invokevirtual 138, 97, 900, 0, 15), (15, .ifCond .eq 12, 0, 0, 0, 18), (15, .ifCond .eq 12, 1, 0, 0, 27), (18, .aload_n 0, 0, 0, 0, 19), (19, .iload 4, 0, 0, 0, 21), (21, .invokevirtual 153, 98, 928, 0, 24), (24, .ifCond .ne 9, 0, 0, 0, 27), (24, .ifCond .ne 9, 1, 0, 0, 33), (27, .aload_n 0, 0, 0, 0, 28), (28, .iconst 1, 0, 0, 1, 29), (29, .invokevirtual 142, 95, 904, 0, 32), (32, .ireturn, 0, 0, 0, 33), (33, .iload_n 2, 0, 0, 0, 34), (34, .iconst (-1), 0, 0, (-1), 35), (35, .if_icmp .eq 10, 0, 0, 0, 38), (35, .if_icmp .eq 10, 1, 0, 0, 45), (38, .iload_n 2, 0, 0, 0, 39), (39, .invokestatic 146, 101, 912, 0, 42), (42, .ifCond .eq 33, 0, 0, 0, 45), (42, .ifCond .eq 33, 1, 0, 0, 75), (45, .iload_n 3, 0, 0, 0, 46), (46, .invokestatic 167, 108, 945, 0, 49), (49, .ifCond .eq 26, 0, 0, 0, 52), (49, .ifCond .eq 26, 1, 0, 0, 75), (52, .iload 5, 0, 0, 0, 54), (54, .invokestatic 170, 109, 949, 0, 57), (57, .ifCond .eq 18, 0, 0, 0, 60), (57, .ifCond .eq 18, 1, 0, 0, 75), (60, .iload 6, 0, 0, 0, 62), (62, .invokestatic 170, 109, 949, 0, 65), (65, .ifCond .eq 10, 0, 0, 0, 68), (65, .ifCond .eq 10, 1, 0, 0, 75), (68, .iload 5, 0, 0, 0, 70), (70, .iload 6, 0, 0, 0, 72), (72, .if_icmp .le 9, 0, 0, 0, 75), (72, .if_icmp .le 9, 1, 0, 0, 81), (75, .aload_n 0, 0, 0, 0, 76), (76, .iconst 2, 0, 0, 2, 77), (77, .invokevirtual 142, 95, 904, 0, 80), (80, .ireturn, 0, 0, 0, 81)]
set_option maxRecDepth 100000 in
theorem ck_M_lost_0 : cd_M_lost_0.all (ab_ok 111) = true := by decide +kernel
def cd_M_lost_1 : List ab_E := [(81, .aload_n 0, 0, 0, 0, 82), (82, .getfield 135, 805, 755, 0, 85), (85, .bipush 24, 0, 0, 24, 87), (87, .if_icmp .ne 9, 0, 0, 0, 90), (87, .if_icmp .ne 9, 1, 0, 0, 96), (90, .aload_n 0, 0, 0, 0, 91), (91, .iconst 3, 0, 0, 3, 92), (92, .invokevirtual 142, 95, 904, 0, 95), (95, .ireturn, 0, 0, 0, 96), (96, .aload_n 0, 0, 0, 0, 97), (97, .getfield 54, 821, 771, 0, 100), (100, .aload_n 0, 0, 0, 0, 101), (101, .getfield 135, 805, 755, 0, 104), (104, .iload_n 1, 0, 0, 0, 105), (105, .iastore, 0, 0, 0, 106), (106, .aload_n 0, 0, 0, 0, 107), (107, .getfield 57, 822, 772, 0, 110), (110, .aload_n 0, 0, 0, 0, 111), (111, .getfield 135, 805, 755, 0, 114), (114, .iload_n 2, 0, 0, 0, 115), (115, .iastore, 0, 0, 0, 116), (116, .aload_n 0, 0, 0, 0, 117), (117, .getfield 60, 823, 773, 0, 120), (120, .aload_n 0, 0, 0, 0, 121), (121, .getfield 135, 805, 755, 0, 124), (124, .iload_n 3, 0, 0, 0, 125), (125, .iastore, 0, 0, 0, 126), (126, .aload_n 0, 0, 0, 0, 127), (127, .getfield 63, 824, 774, 0, 130), (130, .aload_n 0, 0, 0, 0, 131), (131, .getfield 135, 805, 755, 0, 134), (134, .iload 4, 0, 0, 0, 136), (136, .iastore, 0, 0, 0, 137), (137, .aload_n 0, 0, 0, 0, 138), (138, .getfield 66, 825, 775, 0, 141), (141, .aload_n 0, 0, 0, 0, 142), (142, .getfield 135, 805, 755, 0, 145), (145, .iload 5, 0, 0, 0, 147), (147, .iastore, 0, 0, 0, 148), (148, .aload_n 0, 0, 0, 0, 149), (149, .getfield 69, 826, 776, 0, 152), (152, .aload_n 0, 0, 0, 0, 153), (153, .getfield 135, 805, 755, 0, 156), (156, .iload 6, 0, 0, 0, 158), (158, .iastore, 0, 0, 0, 159), (159, .aload_n 0, 0, 0, 0, 160), (160, .dup, 0, 0, 0, 161), (161, .getfield 135, 805, 755, 0, 164)]
set_option maxRecDepth 100000 in
theorem ck_M_lost_1 : cd_M_lost_1.all (ab_ok 111) = true := by decide +kernel
def cd_M_lost_2 : List ab_E := [(164, .iconst 1, 0, 0, 1, 165), (165, .iadd, 0, 0, 0, 166), (166, .putfield 135, 805, 755, 0, 169), (169, .aload_n 0, 0, 0, 0, 170), (170, .getfield 135, 805, 755, 0, 173), (173, .iconst 1, 0, 0, 1, 174), (174, .isub, 0, 0, 0, 175), (175, .ireturn, 0, 0, 0, 176)]
set_option maxRecDepth 100000 in
theorem ck_M_lost_2 : cd_M_lost_2.all (ab_ok 111) = true := by decide +kernel
/-- LostDeskModel.lost -/
def cd_M_lost : List ab_E := cd_M_lost_0 ++ (cd_M_lost_1 ++ (cd_M_lost_2))
theorem ck_M_lost : cd_M_lost.all (ab_ok 111) = true := ab_all_app ck_M_lost_0 (ab_all_app ck_M_lost_1 (ck_M_lost_2))
def cd_M_told_0 : List ab_E := [(0, .aload_n 0, 0, 0, 0, 1), (1, .iconst 0, 0, 0, 0, 2), (2, .putfield 120, 801, 751, 0, 5), (5, .aload_n 0, 0, 0, 0, 6), (6, .iconst 0, 0, 0, 0, 7), (7, .putfield 123, 800, 750, 0, 10), (10, .aload_n 0, 0, 0, 0, 11), (11, .iload_n 1, 0, 0, 0, 12), (12, .invokevirtual 173, 99, 961, 0, 15), (15, .ifCond .ne 9, 0, 0, 0, 18), (15, .ifCond .ne 9, 1, 0, 0, 24), (18, .aload_n 0, 0, 0, 0, 19), (19, .iconst 1, 0, 0, 1, 20), (20, .invokevirtual 142, 95, 904, 0, 23), (23, .ireturn, 0, 0, 0, 24), (24, .iload_n 2, 0, 0, 0, 25), (25, .tableswitch 92 0 6 #[43, 50, 57, 64, 71, 78, 85], 0, 0, 0, 117), (25, .tableswitch 92 0 6 #[43, 50, 57, 64, 71, 78, 85], 1, 0, 0, 68), (25, .tableswitch 92 0 6 #[43, 50, 57, 64, 71, 78, 85], 1, 1, 1, 75), (25, .tableswitch 92 0 6 #[43, 50, 57, 64, 71, 78, 85], 1, 2, 2, 82), (25, .tableswitch 92 0 6 #[43, 50, 57, 64, 71, 78, 85], 1, 3, 3, 89), (25, .tableswitch 92 0 6 #[43, 50, 57, 64, 71, 78, 85], 1, 4, 4, 96), (25, .tableswitch 92 0 6 #[43, 50, 57, 64, 71, 78, 85], 1, 5, 5, 103), (25, .tableswitch 92 0 6 #[43, 50, 57, 64, 71, 78, 85], 1, 6, 6, 110), (68, .aload_n 0, 0, 0, 0, 69), (69, .getfield 30, 813, 763, 0, 72), (72, .iload_n 1, 0, 0, 0, 73), (73, .iaload, 0, 0, 0, 74), (74, .ireturn, 0, 0, 0, 75), (75, .aload_n 0, 0, 0, 0, 76), (76, .getfield 33, 814, 764, 0, 79), (79, .iload_n 1, 0, 0, 0, 80), (80, .iaload, 0, 0, 0, 81), (81, .ireturn, 0, 0, 0, 82), (82, .aload_n 0, 0, 0, 0, 83), (83, .getfield 39, 816, 766, 0, 86), (86, .iload_n 1, 0, 0, 0, 87), (87, .iaload, 0, 0, 0, 88), (88, .ireturn, 0, 0, 0, 89), (89, .aload_n 0, 0, 0, 0, 90), (90, .getfield 42, 817, 767, 0, 93), (93, .iload_n 1, 0, 0, 0, 94), (94, .iaload, 0, 0, 0, 95), (95, .ireturn, 0, 0, 0, 96), (96, .aload_n 0, 0, 0, 0, 97), (97, .getfield 45, 818, 768, 0, 100), (100, .iload_n 1, 0, 0, 0, 101), (101, .iaload, 0, 0, 0, 102)]
set_option maxRecDepth 100000 in
theorem ck_M_told_0 : cd_M_told_0.all (ab_ok 112) = true := by decide +kernel
def cd_M_told_1 : List ab_E := [(102, .ireturn, 0, 0, 0, 103), (103, .aload_n 0, 0, 0, 0, 104), (104, .getfield 48, 819, 769, 0, 107), (107, .iload_n 1, 0, 0, 0, 108), (108, .iaload, 0, 0, 0, 109), (109, .ireturn, 0, 0, 0, 110), (110, .aload_n 0, 0, 0, 0, 111), (111, .getfield 51, 820, 770, 0, 114), (114, .iload_n 1, 0, 0, 0, 115), (115, .iaload, 0, 0, 0, 116), (116, .ireturn, 0, 0, 0, 117), (117, .aload_n 0, 0, 0, 0, 118), (118, .iconst 2, 0, 0, 2, 119), (119, .invokevirtual 142, 95, 904, 0, 122), (122, .ireturn, 0, 0, 0, 123)]
set_option maxRecDepth 100000 in
theorem ck_M_told_1 : cd_M_told_1.all (ab_ok 112) = true := by decide +kernel
/-- LostDeskModel.told -/
def cd_M_told : List ab_E := cd_M_told_0 ++ (cd_M_told_1)
theorem ck_M_told : cd_M_told.all (ab_ok 112) = true := ab_all_app ck_M_told_0 (ck_M_told_1)
/-- LostDeskModel.below -/
def cd_M_below : List ab_E := [(0, .iconst 0, 0, 0, 0, 1), (1, .istore_n 3, 0, 0, 0, 2), (2, .iload_n 1, 0, 0, 0, 3), (3, .istore 4, 0, 0, 0, 5), (5, .iload 4, 0, 0, 0, 7), (7, .ifCond .lt 24, 0, 0, 0, 10), (7, .ifCond .lt 24, 1, 0, 0, 31), (10, .iload 4, 0, 0, 0, 12), (12, .iload_n 2, 0, 0, 0, 13), (13, .if_icmp .eq 18, 0, 0, 0, 16), (13, .if_icmp .eq 18, 1, 0, 0, 31), (16, .aload_n 0, 0, 0, 0, 17), (17, .getfield 13, 808, 758, 0, 20), (20, .iload 4, 0, 0, 0, 22), (22, .iaload, 0, 0, 0, 23), (23, .istore 4, 0, 0, 0, 25), (25, .iinc 3 1, 0, 0, 1, 28), (28, .goto (-23), 0, 0, 0, 5), (31, .iload 4, 0, 0, 0, 33), (33, .ifCond .ge 7, 0, 0, 0, 36), (33, .ifCond .ge 7, 1, 0, 0, 40), (36, .iconst (-1), 0, 0, (-1), 37), (37, .goto 4, 0, 0, 0, 41), (40, .iload_n 3, 0, 0, 0, 41), (41, .ireturn, 0, 0, 0, 42)]
set_option maxRecDepth 100000 in
theorem ck_M_below : cd_M_below.all (ab_ok 113) = true := by decide +kernel
def cd_M_costOf_0 : List ab_E := [(0, .aload_n 0, 0, 0, 0, 1), (1, .aload_n 0, 0, 0, 0, 2), (2, .getfield 54, 821, 771, 0, 5), (5, .iload_n 1, 0, 0, 0, 6), (6, .iaload, 0, 0, 0, 7), (7, .aload_n 0, 0, 0, 0, 8), (8, .getfield 30, 813, 763, 0, 11), (11, .iload_n 2, 0, 0, 0, 12), (12, .iaload, 0, 0, 0, 13), (13, .invokevirtual 176, 113, 977, 0, 16), (16, .aload_n 0, 0, 0, 0, 17), (17, .aload_n 0, 0, 0, 0, 18), (18, .getfield 30, 813, 763, 0, 21), (21, .iload_n 2, 0, 0, 0, 22), (22, .iaload, 0, 0, 0, 23), (23, .aload_n 0, 0, 0, 0, 24), (24, .getfield 54, 821, 771, 0, 27), (27, .iload_n 1, 0, 0, 0, 28), (28, .iaload, 0, 0, 0, 29), (29, .invokevirtual 176, 113, 977, 0, 32), (32, .invokestatic 179, 144, 981, 0, 35), (35, .istore_n 3, 0, 0, 0, 36), (36, .iload_n 3, 0, 0, 0, 37), (37, .ifCond .ge 5, 0, 0, 0, 40), (37, .ifCond .ge 5, 1, 0, 0, 42), (40, .iconst (-1), 0, 0, (-1), 41), (41, .ireturn, 0, 0, 0, 42), (42, .aload_n 0, 0, 0, 0, 43), (43, .getfield 57, 822, 772, 0, 46), (46, .iload_n 1, 0, 0, 0, 47), (47, .iaload, 0, 0, 0, 48), (48, .istore 4, 0, 0, 0, 50), (50, .aload_n 0, 0, 0, 0, 51), (51, .getfield 33, 814, 764, 0, 54), (54, .iload_n 2, 0, 0, 0, 55), (55, .iaload, 0, 0, 0, 56), (56, .istore 5, 0, 0, 0, 58), (58, .iconst 2, 0, 0, 2, 59), (59, .iload_n 3, 0, 0, 0, 60), (60, .imul, 0, 0, 0, 61), (61, .istore 6, 0, 0, 0, 63), (63, .iload 4, 0, 0, 0, 65), (65, .iload 5, 0, 0, 0, 67), (67, .if_icmp .eq 51, 0, 0, 0, 70), (67, .if_icmp .eq 51, 1, 0, 0, 118), (70, .iload 4, 0, 0, 0, 72), (72, .ifCond .lt 26, 0, 0, 0, 75), (72, .ifCond .lt 26, 1, 0, 0, 98)]
set_option maxRecDepth 100000 in
theorem ck_M_costOf_0 : cd_M_costOf_0.all (ab_ok 114) = true := by decide +kernel
def cd_M_costOf_1 : List ab_E := [(75, .iload 5, 0, 0, 0, 77), (77, .ifCond .lt 21, 0, 0, 0, 80), (77, .ifCond .lt 21, 1, 0, 0, 98), (80, .aload_n 0, 0, 0, 0, 81), (81, .getfield 20, 810, 760, 0, 84), (84, .bipush 12, 0, 0, 12, 86), (86, .iload 4, 0, 0, 0, 88), (88, .imul, 0, 0, 0, 89), (89, .iload 5, 0, 0, 0, 91), (91, .iadd, 0, 0, 0, 92), (92, .baload, 0, 0, 0, 93), (93, .ifCond .ne 5, 0, 0, 0, 96), (93, .ifCond .ne 5, 1, 0, 0, 98), (96, .iconst (-1), 0, 0, (-1), 97), (97, .ireturn, 0, 0, 0, 98), (98, .iload 6, 0, 0, 0, 100), (100, .iload 4, 0, 0, 0, 102), (102, .ifCond .lt 12, 0, 0, 0, 105), (102, .ifCond .lt 12, 1, 0, 0, 114), (105, .iload 5, 0, 0, 0, 107), (107, .ifCond .lt 7, 0, 0, 0, 110), (107, .ifCond .lt 7, 1, 0, 0, 114), (110, .iconst 1, 0, 0, 1, 111), (111, .goto 4, 0, 0, 0, 115), (114, .iconst 2, 0, 0, 2, 115), (115, .iadd, 0, 0, 0, 116), (116, .istore 6, 0, 0, 0, 118), (118, .aload_n 0, 0, 0, 0, 119), (119, .getfield 27, 812, 762, 0, 122), (122, .bipush 20, 0, 0, 20, 124), (124, .aload_n 0, 0, 0, 0, 125), (125, .getfield 63, 824, 774, 0, 128), (128, .iload_n 1, 0, 0, 0, 129), (129, .iaload, 0, 0, 0, 130), (130, .imul, 0, 0, 0, 131), (131, .aload_n 0, 0, 0, 0, 132), (132, .getfield 39, 816, 766, 0, 135), (135, .iload_n 2, 0, 0, 0, 136), (136, .iaload, 0, 0, 0, 137), (137, .iadd, 0, 0, 0, 138), (138, .iaload, 0, 0, 0, 139), (139, .istore 7, 0, 0, 0, 141), (141, .aload_n 0, 0, 0, 0, 142), (142, .getfield 42, 817, 767, 0, 145), (145, .iload_n 2, 0, 0, 0, 146), (146, .iaload, 0, 0, 0, 147), (147, .aload_n 0, 0, 0, 0, 148), (148, .getfield 66, 825, 775, 0, 151)]
set_option maxRecDepth 100000 in
theorem ck_M_costOf_1 : cd_M_costOf_1.all (ab_ok 114) = true := by decide +kernel
def cd_M_costOf_2 : List ab_E := [(151, .iload_n 1, 0, 0, 0, 152), (152, .iaload, 0, 0, 0, 153), (153, .if_icmp .lt 21, 0, 0, 0, 156), (153, .if_icmp .lt 21, 1, 0, 0, 174), (156, .iload 7, 0, 0, 0, 158), (158, .aload_n 0, 0, 0, 0, 159), (159, .getfield 42, 817, 767, 0, 162), (162, .iload_n 2, 0, 0, 0, 163), (163, .iaload, 0, 0, 0, 164), (164, .aload_n 0, 0, 0, 0, 165), (165, .getfield 66, 825, 775, 0, 168), (168, .iload_n 1, 0, 0, 0, 169), (169, .iaload, 0, 0, 0, 170), (170, .isub, 0, 0, 0, 171), (171, .if_icmp .le 5, 0, 0, 0, 174), (171, .if_icmp .le 5, 1, 0, 0, 176), (174, .iconst (-1), 0, 0, (-1), 175), (175, .ireturn, 0, 0, 0, 176), (176, .iload 6, 0, 0, 0, 178), (178, .iconst 3, 0, 0, 3, 179), (179, .aload_n 0, 0, 0, 0, 180), (180, .getfield 60, 823, 773, 0, 183), (183, .iload_n 1, 0, 0, 0, 184), (184, .iaload, 0, 0, 0, 185), (185, .aload_n 0, 0, 0, 0, 186), (186, .getfield 36, 815, 765, 0, 189), (189, .iload_n 2, 0, 0, 0, 190), (190, .iaload, 0, 0, 0, 191), (191, .iconst (-1), 0, 0, (-1), 192), (192, .ixor, 0, 0, 0, 193), (193, .iand, 0, 0, 0, 194), (194, .invokestatic 182, 141, 982, 0, 197), (197, .imul, 0, 0, 0, 198), (198, .iadd, 0, 0, 0, 199), (199, .istore 6, 0, 0, 0, 201), (201, .iload 6, 0, 0, 0, 203), (203, .iconst 0, 0, 0, 0, 204), (204, .aload_n 0, 0, 0, 0, 205), (205, .getfield 42, 817, 767, 0, 208), (208, .iload_n 2, 0, 0, 0, 209), (209, .iaload, 0, 0, 0, 210), (210, .aload_n 0, 0, 0, 0, 211), (211, .getfield 69, 826, 776, 0, 214), (214, .iload_n 1, 0, 0, 0, 215), (215, .iaload, 0, 0, 0, 216), (216, .isub, 0, 0, 0, 217), (217, .iload 7, 0, 0, 0, 219), (219, .isub, 0, 0, 0, 220)]
set_option maxRecDepth 100000 in
theorem ck_M_costOf_2 : cd_M_costOf_2.all (ab_ok 114) = true := by decide +kernel
def cd_M_costOf_3 : List ab_E := [(220, .invokestatic 179, 144, 981, 0, 223), (223, .bipush 10, 0, 0, 10, 225), (225, .idiv, 0, 0, 0, 226), (226, .iadd, 0, 0, 0, 227), (227, .ireturn, 0, 0, 0, 228)]
set_option maxRecDepth 100000 in
theorem ck_M_costOf_3 : cd_M_costOf_3.all (ab_ok 114) = true := by decide +kernel
/-- LostDeskModel.costOf -/
def cd_M_costOf : List ab_E := cd_M_costOf_0 ++ (cd_M_costOf_1 ++ (cd_M_costOf_2 ++ (cd_M_costOf_3)))
theorem ck_M_costOf : cd_M_costOf.all (ab_ok 114) = true := ab_all_app ck_M_costOf_0 (ab_all_app ck_M_costOf_1 (ab_all_app ck_M_costOf_2 (ck_M_costOf_3)))
/-- LostDeskModel.cost -/
def cd_M_cost : List ab_E := [(0, .aload_n 0, 0, 0, 0, 1), (1, .iconst 0, 0, 0, 0, 2), (2, .putfield 120, 801, 751, 0, 5), (5, .aload_n 0, 0, 0, 0, 6), (6, .iconst 0, 0, 0, 0, 7), (7, .putfield 123, 800, 750, 0, 10), (10, .aload_n 0, 0, 0, 0, 11), (11, .iload_n 1, 0, 0, 0, 12), (12, .invokevirtual 187, 100, 969, 0, 15), (15, .ifCond .eq 11, 0, 0, 0, 18), (15, .ifCond .eq 11, 1, 0, 0, 26), (18, .aload_n 0, 0, 0, 0, 19), (19, .iload_n 2, 0, 0, 0, 20), (20, .invokevirtual 173, 99, 961, 0, 23), (23, .ifCond .ne 9, 0, 0, 0, 26), (23, .ifCond .ne 9, 1, 0, 0, 32), (26, .aload_n 0, 0, 0, 0, 27), (27, .iconst 1, 0, 0, 1, 28), (28, .invokevirtual 142, 95, 904, 0, 31), (31, .ireturn, 0, 0, 0, 32), (32, .aload_n 0, 0, 0, 0, 33), (33, .invokevirtual 162, 106, 936, 0, 36), (36, .aload_n 0, 0, 0, 0, 37), (37, .iload_n 1, 0, 0, 0, 38), (38, .iload_n 2, 0, 0, 0, 39), (39, .invokevirtual 190, 114, 973, 0, 42), (42, .istore_n 3, 0, 0, 0, 43), (43, .iload_n 3, 0, 0, 0, 44), (44, .ifCond .ge 12, 0, 0, 0, 47), (44, .ifCond .ge 12, 1, 0, 0, 56), (47, .aload_n 0, 0, 0, 0, 48), (48, .bipush 6, 0, 0, 6, 50), (50, .invokevirtual 142, 95, 904, 0, 53), (53, .goto 4, 0, 0, 0, 57), (56, .iload_n 3, 0, 0, 0, 57), (57, .ireturn, 0, 0, 0, 58)]
set_option maxRecDepth 100000 in
theorem ck_M_cost : cd_M_cost.all (ab_ok 115) = true := by decide +kernel
/-- LostDeskModel.gap -/
def cd_M_gap : List ab_E := [(0, .aload_n 0, 0, 0, 0, 1), (1, .iconst 0, 0, 0, 0, 2), (2, .putfield 120, 801, 751, 0, 5), (5, .aload_n 0, 0, 0, 0, 6), (6, .iconst 0, 0, 0, 0, 7), (7, .putfield 123, 800, 750, 0, 10), (10, .iload_n 1, 0, 0, 0, 11), (11, .ifCond .lt 9, 0, 0, 0, 14), (11, .ifCond .lt 9, 1, 0, 0, 20), (14, .iload_n 1, 0, 0, 0, 15), (15, .bipush 100, 0, 0, 100, 17), (17, .if_icmp .le 9, 0, 0, 0, 20), (17, .if_icmp .le 9, 1, 0, 0, 26), (20, .aload_n 0, 0, 0, 0, 21), (21, .iconst 2, 0, 0, 2, 22), (22, .invokevirtual 149, 96, 915, 0, 25), (25, .ireturn, 0, 0, 0, 26), (26, .aload_n 0, 0, 0, 0, 27), (27, .iload_n 1, 0, 0, 0, 28), (28, .putfield 7, 806, 756, 0, 31), (31, .iconst 1, 0, 0, 1, 32), (32, .ireturn, 0, 0, 0, 33)]
set_option maxRecDepth 100000 in
theorem ck_M_gap : cd_M_gap.all (ab_ok 116) = true := by decide +kernel
/-- LostDeskModel.columns -/
def cd_M_columns : List ab_E := [(0, .aload_n 0, 0, 0, 0, 1), (1, .getfield 193, 834, 784, 0, 4), (4, .aload_n 0, 0, 0, 0, 5), (5, .getfield 196, 833, 783, 0, 8), (8, .iadd, 0, 0, 0, 9), (9, .ireturn, 0, 0, 0, 10)]
set_option maxRecDepth 100000 in
theorem ck_M_columns : cd_M_columns.all (ab_ok 117) = true := by decide +kernel
def cd_M_gather_0 : List ab_E := [(0, .aload_n 0, 0, 0, 0, 1), (1, .invokevirtual 162, 106, 936, 0, 4), (4, .aload_n 0, 0, 0, 0, 5), (5, .iconst 0, 0, 0, 0, 6), (6, .putfield 196, 833, 783, 0, 9), (9, .aload_n 0, 0, 0, 0, 10), (10, .iconst 0, 0, 0, 0, 11), (11, .putfield 193, 834, 784, 0, 14), (14, .iconst 0, 0, 0, 0, 15), (15, .istore_n 1, 0, 0, 0, 16), (16, .iload_n 1, 0, 0, 0, 17), (17, .aload_n 0, 0, 0, 0, 18), (18, .getfield 132, 804, 754, 0, 21), (21, .if_icmp .ge 41, 0, 0, 0, 24), (21, .if_icmp .ge 41, 1, 0, 0, 62), (24, .aload_n 0, 0, 0, 0, 25), (25, .getfield 45, 818, 768, 0, 28), (28, .iload_n 1, 0, 0, 0, 29), (29, .iaload, 0, 0, 0, 30), (30, .ifCond .eq 6, 0, 0, 0, 33), (30, .ifCond .eq 6, 1, 0, 0, 36), (33, .goto 23, 0, 0, 0, 56), (36, .aload_n 0, 0, 0, 0, 37), (37, .getfield 84, 831, 781, 0, 40), (40, .aload_n 0, 0, 0, 0, 41), (41, .getfield 193, 834, 784, 0, 44), (44, .iload_n 1, 0, 0, 0, 45), (45, .iastore, 0, 0, 0, 46), (46, .aload_n 0, 0, 0, 0, 47), (47, .dup, 0, 0, 0, 48), (48, .getfield 193, 834, 784, 0, 51), (51, .iconst 1, 0, 0, 1, 52), (52, .iadd, 0, 0, 0, 53), (53, .putfield 193, 834, 784, 0, 56), (56, .iinc 1 1, 0, 0, 1, 59), (59, .goto (-43), 0, 0, 0, 16), (62, .iconst 0, 0, 0, 0, 63), (63, .istore_n 1, 0, 0, 0, 64), (64, .iload_n 1, 0, 0, 0, 65), (65, .aload_n 0, 0, 0, 0, 66), (66, .getfield 135, 805, 755, 0, 69), (69, .if_icmp .ge 41, 0, 0, 0, 72), (69, .if_icmp .ge 41, 1, 0, 0, 110), (72, .aload_n 0, 0, 0, 0, 73), (73, .getfield 72, 827, 777, 0, 76), (76, .iload_n 1, 0, 0, 0, 77), (77, .baload, 0, 0, 0, 78), (78, .ifCond .eq 6, 0, 0, 0, 81)]
set_option maxRecDepth 100000 in
theorem ck_M_gather_0 : cd_M_gather_0.all (ab_ok 118) = true := by decide +kernel
def cd_M_gather_1 : List ab_E := [(78, .ifCond .eq 6, 1, 0, 0, 84), (81, .goto 23, 0, 0, 0, 104), (84, .aload_n 0, 0, 0, 0, 85), (85, .getfield 81, 830, 780, 0, 88), (88, .aload_n 0, 0, 0, 0, 89), (89, .getfield 196, 833, 783, 0, 92), (92, .iload_n 1, 0, 0, 0, 93), (93, .iastore, 0, 0, 0, 94), (94, .aload_n 0, 0, 0, 0, 95), (95, .dup, 0, 0, 0, 96), (96, .getfield 196, 833, 783, 0, 99), (99, .iconst 1, 0, 0, 1, 100), (100, .iadd, 0, 0, 0, 101), (101, .putfield 196, 833, 783, 0, 104), (104, .iinc 1 1, 0, 0, 1, 107), (107, .goto (-43), 0, 0, 0, 64), (110, .iconst 0, 0, 0, 0, 111), (111, .istore_n 1, 0, 0, 0, 112), (112, .iload_n 1, 0, 0, 0, 113), (113, .aload_n 0, 0, 0, 0, 114), (114, .getfield 196, 833, 783, 0, 117), (117, .if_icmp .ge 92, 0, 0, 0, 120), (117, .if_icmp .ge 92, 1, 0, 0, 209), (120, .iconst 0, 0, 0, 0, 121), (121, .istore_n 2, 0, 0, 0, 122), (122, .iload_n 2, 0, 0, 0, 123), (123, .aload_n 0, 0, 0, 0, 124), (124, .invokevirtual 199, 117, 995, 0, 127), (127, .if_icmp .ge 76, 0, 0, 0, 130), (127, .if_icmp .ge 76, 1, 0, 0, 203), (130, .iload_n 2, 0, 0, 0, 131), (131, .aload_n 0, 0, 0, 0, 132), (132, .getfield 193, 834, 784, 0, 135), (135, .if_icmp .ge 22, 0, 0, 0, 138), (135, .if_icmp .ge 22, 1, 0, 0, 157), (138, .aload_n 0, 0, 0, 0, 139), (139, .aload_n 0, 0, 0, 0, 140), (140, .getfield 81, 830, 780, 0, 143), (143, .iload_n 1, 0, 0, 0, 144), (144, .iaload, 0, 0, 0, 145), (145, .aload_n 0, 0, 0, 0, 146), (146, .getfield 84, 831, 781, 0, 149), (149, .iload_n 2, 0, 0, 0, 150), (150, .iaload, 0, 0, 0, 151), (151, .invokevirtual 190, 114, 973, 0, 154), (154, .goto 21, 0, 0, 0, 175), (157, .iload_n 2, 0, 0, 0, 158), (158, .aload_n 0, 0, 0, 0, 159)]
set_option maxRecDepth 100000 in
theorem ck_M_gather_1 : cd_M_gather_1.all (ab_ok 118) = true := by decide +kernel
def cd_M_gather_2 : List ab_E := [(159, .getfield 193, 834, 784, 0, 162), (162, .isub, 0, 0, 0, 163), (163, .iload_n 1, 0, 0, 0, 164), (164, .if_icmp .ne 10, 0, 0, 0, 167), (164, .if_icmp .ne 10, 1, 0, 0, 174), (167, .aload_n 0, 0, 0, 0, 168), (168, .getfield 7, 806, 756, 0, 171), (171, .goto 4, 0, 0, 0, 175), (174, .iconst (-1), 0, 0, (-1), 175), (175, .istore_n 3, 0, 0, 0, 176), (176, .aload_n 0, 0, 0, 0, 177), (177, .getfield 90, 835, 785, 0, 180), (180, .bipush 48, 0, 0, 48, 182), (182, .iload_n 1, 0, 0, 0, 183), (183, .imul, 0, 0, 0, 184), (184, .iload_n 2, 0, 0, 0, 185), (185, .iadd, 0, 0, 0, 186), (186, .iload_n 3, 0, 0, 0, 187), (187, .ifCond .ge 8, 0, 0, 0, 190), (187, .ifCond .ge 8, 1, 0, 0, 195), (190, .ldc 203, 0, 999, 10000000, 192), (192, .goto 4, 0, 0, 0, 196), (195, .iload_n 3, 0, 0, 0, 196), (196, .iastore, 0, 0, 0, 197), (197, .iinc 2 1, 0, 0, 1, 200), (200, .goto (-78), 0, 0, 0, 122), (203, .iinc 1 1, 0, 0, 1, 206), (206, .goto (-94), 0, 0, 0, 112), (209, .return_, 0, 0, 0, 210)]
set_option maxRecDepth 100000 in
theorem ck_M_gather_2 : cd_M_gather_2.all (ab_ok 118) = true := by decide +kernel
/-- LostDeskModel.gather -/
def cd_M_gather : List ab_E := cd_M_gather_0 ++ (cd_M_gather_1 ++ (cd_M_gather_2))
theorem ck_M_gather : cd_M_gather.all (ab_ok 118) = true := ab_all_app ck_M_gather_0 (ab_all_app ck_M_gather_1 (ck_M_gather_2))
def cd_M_solve_0 : List ab_E := [(0, .aload_n 0, 0, 0, 0, 1), (1, .getfield 196, 833, 783, 0, 4), (4, .istore_n 1, 0, 0, 0, 5), (5, .aload_n 0, 0, 0, 0, 6), (6, .invokevirtual 199, 117, 995, 0, 9), (9, .istore_n 2, 0, 0, 0, 10), (10, .iconst 0, 0, 0, 0, 11), (11, .istore_n 3, 0, 0, 0, 12), (12, .iload_n 3, 0, 0, 0, 13), (13, .iload_n 1, 0, 0, 0, 14), (14, .if_icmp .gt 16, 0, 0, 0, 17), (14, .if_icmp .gt 16, 1, 0, 0, 30), (17, .aload_n 0, 0, 0, 0, 18), (18, .getfield 96, 837, 787, 0, 21), (21, .iload_n 3, 0, 0, 0, 22), (22, .iconst 0, 0, 0, 0, 23), (23, .iastore, 0, 0, 0, 24), (24, .iinc 3 1, 0, 0, 1, 27), (27, .goto (-15), 0, 0, 0, 12), (30, .iconst 0, 0, 0, 0, 31), (31, .istore_n 3, 0, 0, 0, 32), (32, .iload_n 3, 0, 0, 0, 33), (33, .iload_n 2, 0, 0, 0, 34), (34, .if_icmp .gt 23, 0, 0, 0, 37), (34, .if_icmp .gt 23, 1, 0, 0, 57), (37, .aload_n 0, 0, 0, 0, 38), (38, .getfield 99, 838, 788, 0, 41), (41, .iload_n 3, 0, 0, 0, 42), (42, .iconst 0, 0, 0, 0, 43), (43, .iastore, 0, 0, 0, 44), (44, .aload_n 0, 0, 0, 0, 45), (45, .getfield 102, 839, 789, 0, 48), (48, .iload_n 3, 0, 0, 0, 49), (49, .iconst 0, 0, 0, 0, 50), (50, .iastore, 0, 0, 0, 51), (51, .iinc 3 1, 0, 0, 1, 54), (54, .goto (-22), 0, 0, 0, 32), (57, .iconst 1, 0, 0, 1, 58), (58, .istore_n 3, 0, 0, 0, 59), (59, .iload_n 3, 0, 0, 0, 60), (60, .iload_n 1, 0, 0, 0, 61), (61, .if_icmp .gt 108, 0, 0, 0, 64), (61, .if_icmp .gt 108, 1, 0, 0, 169), (64, .aload_n 0, 0, 0, 0, 65), (65, .getfield 102, 839, 789, 0, 68), (68, .iconst 0, 0, 0, 0, 69), (69, .iload_n 3, 0, 0, 0, 70), (70, .iastore, 0, 0, 0, 71)]
set_option maxRecDepth 100000 in
theorem ck_M_solve_0 : cd_M_solve_0.all (ab_ok 119) = true := by decide +kernel
def cd_M_solve_1 : List ab_E := [(71, .iconst 0, 0, 0, 0, 72), (72, .istore 4, 0, 0, 0, 74), (74, .iload 4, 0, 0, 0, 76), (76, .iload_n 2, 0, 0, 0, 77), (77, .if_icmp .gt 26, 0, 0, 0, 80), (77, .if_icmp .gt 26, 1, 0, 0, 103), (80, .aload_n 0, 0, 0, 0, 81), (81, .getfield 108, 841, 791, 0, 84), (84, .iload 4, 0, 0, 0, 86), (86, .ldc 204, 0, 1004, 2147483647, 88), (88, .iastore, 0, 0, 0, 89), (89, .aload_n 0, 0, 0, 0, 90), (90, .getfield 111, 842, 792, 0, 93), (93, .iload 4, 0, 0, 0, 95), (95, .iconst 0, 0, 0, 0, 96), (96, .bastore, 0, 0, 0, 97), (97, .iinc 4 1, 0, 0, 1, 100), (100, .goto (-26), 0, 0, 0, 74), (103, .iconst 0, 0, 0, 0, 104), (104, .istore 4, 0, 0, 0, 106), (106, .aload_n 0, 0, 0, 0, 107), (107, .getfield 102, 839, 789, 0, 110), (110, .iload 4, 0, 0, 0, 112), (112, .iaload, 0, 0, 0, 113), (113, .ifCond .eq 15, 0, 0, 0, 116), (113, .ifCond .eq 15, 1, 0, 0, 128), (116, .aload_n 0, 0, 0, 0, 117), (117, .iload 4, 0, 0, 0, 119), (119, .iload_n 2, 0, 0, 0, 120), (120, .invokevirtual 205, 120, 1005, 0, 123), (123, .istore 4, 0, 0, 0, 125), (125, .goto (-19), 0, 0, 0, 106), (128, .iload 4, 0, 0, 0, 130), (130, .ifCond .eq 33, 0, 0, 0, 133), (130, .ifCond .eq 33, 1, 0, 0, 163), (133, .aload_n 0, 0, 0, 0, 134), (134, .getfield 105, 840, 790, 0, 137), (137, .iload 4, 0, 0, 0, 139), (139, .iaload, 0, 0, 0, 140), (140, .istore 5, 0, 0, 0, 142), (142, .aload_n 0, 0, 0, 0, 143), (143, .getfield 102, 839, 789, 0, 146), (146, .iload 4, 0, 0, 0, 148), (148, .aload_n 0, 0, 0, 0, 149), (149, .getfield 102, 839, 789, 0, 152), (152, .iload 5, 0, 0, 0, 154), (154, .iaload, 0, 0, 0, 155), (155, .iastore, 0, 0, 0, 156)]
set_option maxRecDepth 100000 in
theorem ck_M_solve_1 : cd_M_solve_1.all (ab_ok 119) = true := by decide +kernel
def cd_M_solve_2 : List ab_E := [(156, .iload 5, 0, 0, 0, 158), (158, .istore 4, 0, 0, 0, 160), (160, .goto (-32), 0, 0, 0, 128), (163, .iinc 3 1, 0, 0, 1, 166), (166, .goto (-107), 0, 0, 0, 59), (169, .iconst 0, 0, 0, 0, 170), (170, .istore_n 3, 0, 0, 0, 171), (171, .iconst 1, 0, 0, 1, 172), (172, .istore 4, 0, 0, 0, 174), (174, .iload 4, 0, 0, 0, 176), (176, .iload_n 2, 0, 0, 0, 177), (177, .if_icmp .gt 44, 0, 0, 0, 180), (177, .if_icmp .gt 44, 1, 0, 0, 221), (180, .aload_n 0, 0, 0, 0, 181), (181, .getfield 102, 839, 789, 0, 184), (184, .iload 4, 0, 0, 0, 186), (186, .iaload, 0, 0, 0, 187), (187, .ifCond .le 28, 0, 0, 0, 190), (187, .ifCond .le 28, 1, 0, 0, 215), (190, .iload_n 3, 0, 0, 0, 191), (191, .aload_n 0, 0, 0, 0, 192), (192, .getfield 90, 835, 785, 0, 195), (195, .bipush 48, 0, 0, 48, 197), (197, .aload_n 0, 0, 0, 0, 198), (198, .getfield 102, 839, 789, 0, 201), (201, .iload 4, 0, 0, 0, 203), (203, .iaload, 0, 0, 0, 204), (204, .iconst 1, 0, 0, 1, 205), (205, .isub, 0, 0, 0, 206), (206, .imul, 0, 0, 0, 207), (207, .iload 4, 0, 0, 0, 209), (209, .iadd, 0, 0, 0, 210), (210, .iconst 1, 0, 0, 1, 211), (211, .isub, 0, 0, 0, 212), (212, .iaload, 0, 0, 0, 213), (213, .iadd, 0, 0, 0, 214), (214, .istore_n 3, 0, 0, 0, 215), (215, .iinc 4 1, 0, 0, 1, 218), (218, .goto (-44), 0, 0, 0, 174), (221, .iload_n 3, 0, 0, 0, 222), (222, .ireturn, 0, 0, 0, 223)]
set_option maxRecDepth 100000 in
theorem ck_M_solve_2 : cd_M_solve_2.all (ab_ok 119) = true := by decide +kernel
/-- LostDeskModel.solve -/
def cd_M_solve : List ab_E := cd_M_solve_0 ++ (cd_M_solve_1 ++ (cd_M_solve_2))
theorem ck_M_solve : cd_M_solve.all (ab_ok 119) = true := ab_all_app ck_M_solve_0 (ab_all_app ck_M_solve_1 (ck_M_solve_2))
def cd_M_step_0 : List ab_E := [(0, .aload_n 0, 0, 0, 0, 1), (1, .getfield 111, 842, 792, 0, 4), (4, .iload_n 1, 0, 0, 0, 5), (5, .iconst 1, 0, 0, 1, 6), (6, .bastore, 0, 0, 0, 7), (7, .aload_n 0, 0, 0, 0, 8), (8, .getfield 102, 839, 789, 0, 11), (11, .iload_n 1, 0, 0, 0, 12), (12, .iaload, 0, 0, 0, 13), (13, .istore_n 3, 0, 0, 0, 14), (14, .ldc 204, 0, 1004, 2147483647, 16), (16, .istore 4, 0, 0, 0, 18), (18, .iconst 0, 0, 0, 0, 19), (19, .istore 5, 0, 0, 0, 21), (21, .iconst 1, 0, 0, 1, 22), (22, .istore 6, 0, 0, 0, 24), (24, .iload 6, 0, 0, 0, 26), (26, .iload_n 2, 0, 0, 0, 27), (27, .if_icmp .gt 109, 0, 0, 0, 30), (27, .if_icmp .gt 109, 1, 0, 0, 136), (30, .aload_n 0, 0, 0, 0, 31), (31, .getfield 111, 842, 792, 0, 34), (34, .iload 6, 0, 0, 0, 36), (36, .baload, 0, 0, 0, 37), (37, .ifCond .eq 6, 0, 0, 0, 40), (37, .ifCond .eq 6, 1, 0, 0, 43), (40, .goto 90, 0, 0, 0, 130), (43, .aload_n 0, 0, 0, 0, 44), (44, .getfield 90, 835, 785, 0, 47), (47, .bipush 48, 0, 0, 48, 49), (49, .iload_n 3, 0, 0, 0, 50), (50, .iconst 1, 0, 0, 1, 51), (51, .isub, 0, 0, 0, 52), (52, .imul, 0, 0, 0, 53), (53, .iload 6, 0, 0, 0, 55), (55, .iadd, 0, 0, 0, 56), (56, .iconst 1, 0, 0, 1, 57), (57, .isub, 0, 0, 0, 58), (58, .iaload, 0, 0, 0, 59), (59, .aload_n 0, 0, 0, 0, 60), (60, .getfield 96, 837, 787, 0, 63), (63, .iload_n 3, 0, 0, 0, 64), (64, .iaload, 0, 0, 0, 65), (65, .isub, 0, 0, 0, 66), (66, .aload_n 0, 0, 0, 0, 67), (67, .getfield 99, 838, 788, 0, 70), (70, .iload 6, 0, 0, 0, 72), (72, .iaload, 0, 0, 0, 73)]
set_option maxRecDepth 100000 in
theorem ck_M_step_0 : cd_M_step_0.all (ab_ok 120) = true := by decide +kernel
def cd_M_step_1 : List ab_E := [(73, .isub, 0, 0, 0, 74), (74, .istore 7, 0, 0, 0, 76), (76, .iload 7, 0, 0, 0, 78), (78, .aload_n 0, 0, 0, 0, 79), (79, .getfield 108, 841, 791, 0, 82), (82, .iload 6, 0, 0, 0, 84), (84, .iaload, 0, 0, 0, 85), (85, .if_icmp .ge 20, 0, 0, 0, 88), (85, .if_icmp .ge 20, 1, 0, 0, 105), (88, .aload_n 0, 0, 0, 0, 89), (89, .getfield 108, 841, 791, 0, 92), (92, .iload 6, 0, 0, 0, 94), (94, .iload 7, 0, 0, 0, 96), (96, .iastore, 0, 0, 0, 97), (97, .aload_n 0, 0, 0, 0, 98), (98, .getfield 105, 840, 790, 0, 101), (101, .iload 6, 0, 0, 0, 103), (103, .iload_n 1, 0, 0, 0, 104), (104, .iastore, 0, 0, 0, 105), (105, .aload_n 0, 0, 0, 0, 106), (106, .getfield 108, 841, 791, 0, 109), (109, .iload 6, 0, 0, 0, 111), (111, .iaload, 0, 0, 0, 112), (112, .iload 4, 0, 0, 0, 114), (114, .if_icmp .ge 16, 0, 0, 0, 117), (114, .if_icmp .ge 16, 1, 0, 0, 130), (117, .aload_n 0, 0, 0, 0, 118), (118, .getfield 108, 841, 791, 0, 121), (121, .iload 6, 0, 0, 0, 123), (123, .iaload, 0, 0, 0, 124), (124, .istore 4, 0, 0, 0, 126), (126, .iload 6, 0, 0, 0, 128), (128, .istore 5, 0, 0, 0, 130), (130, .iinc 6 1, 0, 0, 1, 133), (133, .goto (-109), 0, 0, 0, 24), (136, .iconst 0, 0, 0, 0, 137), (137, .istore 6, 0, 0, 0, 139), (139, .iload 6, 0, 0, 0, 141), (141, .iload_n 2, 0, 0, 0, 142), (142, .if_icmp .gt 63, 0, 0, 0, 145), (142, .if_icmp .gt 63, 1, 0, 0, 205), (145, .aload_n 0, 0, 0, 0, 146), (146, .getfield 111, 842, 792, 0, 149), (149, .iload 6, 0, 0, 0, 151), (151, .baload, 0, 0, 0, 152), (152, .ifCond .eq 35, 0, 0, 0, 155), (152, .ifCond .eq 35, 1, 0, 0, 187), (155, .aload_n 0, 0, 0, 0, 156)]
set_option maxRecDepth 100000 in
theorem ck_M_step_1 : cd_M_step_1.all (ab_ok 120) = true := by decide +kernel
def cd_M_step_2 : List ab_E := [(156, .getfield 96, 837, 787, 0, 159), (159, .aload_n 0, 0, 0, 0, 160), (160, .getfield 102, 839, 789, 0, 163), (163, .iload 6, 0, 0, 0, 165), (165, .iaload, 0, 0, 0, 166), (166, .dup2, 0, 0, 0, 167), (167, .iaload, 0, 0, 0, 168), (168, .iload 4, 0, 0, 0, 170), (170, .iadd, 0, 0, 0, 171), (171, .iastore, 0, 0, 0, 172), (172, .aload_n 0, 0, 0, 0, 173), (173, .getfield 99, 838, 788, 0, 176), (176, .iload 6, 0, 0, 0, 178), (178, .dup2, 0, 0, 0, 179), (179, .iaload, 0, 0, 0, 180), (180, .iload 4, 0, 0, 0, 182), (182, .isub, 0, 0, 0, 183), (183, .iastore, 0, 0, 0, 184), (184, .goto 15, 0, 0, 0, 199), (187, .aload_n 0, 0, 0, 0, 188), (188, .getfield 108, 841, 791, 0, 191), (191, .iload 6, 0, 0, 0, 193), (193, .dup2, 0, 0, 0, 194), (194, .iaload, 0, 0, 0, 195), (195, .iload 4, 0, 0, 0, 197), (197, .isub, 0, 0, 0, 198), (198, .iastore, 0, 0, 0, 199), (199, .iinc 6 1, 0, 0, 1, 202), (202, .goto (-63), 0, 0, 0, 139), (205, .iload 5, 0, 0, 0, 207), (207, .ireturn, 0, 0, 0, 208)]
set_option maxRecDepth 100000 in
theorem ck_M_step_2 : cd_M_step_2.all (ab_ok 120) = true := by decide +kernel
/-- LostDeskModel.step -/
def cd_M_step : List ab_E := cd_M_step_0 ++ (cd_M_step_1 ++ (cd_M_step_2))
theorem ck_M_step : cd_M_step.all (ab_ok 120) = true := ab_all_app ck_M_step_0 (ab_all_app ck_M_step_1 (ck_M_step_2))
/-- LostDeskModel.only -/
def cd_M_only : List ab_E := [(0, .iconst 0, 0, 0, 0, 1), (1, .istore_n 3, 0, 0, 0, 2), (2, .iload_n 3, 0, 0, 0, 3), (3, .aload_n 0, 0, 0, 0, 4), (4, .invokevirtual 199, 117, 995, 0, 7), (7, .if_icmp .ge 27, 0, 0, 0, 10), (7, .if_icmp .ge 27, 1, 0, 0, 34), (10, .iload_n 3, 0, 0, 0, 11), (11, .iload_n 2, 0, 0, 0, 12), (12, .if_icmp .eq 16, 0, 0, 0, 15), (12, .if_icmp .eq 16, 1, 0, 0, 28), (15, .aload_n 0, 0, 0, 0, 16), (16, .getfield 90, 835, 785, 0, 19), (19, .bipush 48, 0, 0, 48, 21), (21, .iload_n 1, 0, 0, 0, 22), (22, .imul, 0, 0, 0, 23), (23, .iload_n 3, 0, 0, 0, 24), (24, .iadd, 0, 0, 0, 25), (25, .ldc 203, 0, 999, 10000000, 27), (27, .iastore, 0, 0, 0, 28), (28, .iinc 3 1, 0, 0, 1, 31), (31, .goto (-29), 0, 0, 0, 2), (34, .return_, 0, 0, 0, 35)]
set_option maxRecDepth 100000 in
theorem ck_M_only : cd_M_only.all (ab_ok 121) = true := by decide +kernel
def cd_M_matches_0 : List ab_E := [(0, .aload_n 0, 0, 0, 0, 1), (1, .invokevirtual 208, 118, 991, 0, 4), (4, .aload_n 0, 0, 0, 0, 5), (5, .invokevirtual 211, 119, 1000, 0, 8), (8, .istore_n 1, 0, 0, 0, 9), (9, .iconst 0, 0, 0, 0, 10), (10, .istore_n 2, 0, 0, 0, 11), (11, .iload_n 2, 0, 0, 0, 12), (12, .aload_n 0, 0, 0, 0, 13), (13, .getfield 196, 833, 783, 0, 16), (16, .if_icmp .ge 149, 0, 0, 0, 19), (16, .if_icmp .ge 149, 1, 0, 0, 165), (19, .iconst 0, 0, 0, 0, 20), (20, .istore_n 3, 0, 0, 0, 21), (21, .iload_n 3, 0, 0, 0, 22), (22, .aload_n 0, 0, 0, 0, 23), (23, .invokevirtual 199, 117, 995, 0, 26), (26, .if_icmp .ge 26, 0, 0, 0, 29), (26, .if_icmp .ge 26, 1, 0, 0, 52), (29, .aload_n 0, 0, 0, 0, 30), (30, .getfield 93, 836, 786, 0, 33), (33, .iload_n 3, 0, 0, 0, 34), (34, .aload_n 0, 0, 0, 0, 35), (35, .getfield 90, 835, 785, 0, 38), (38, .bipush 48, 0, 0, 48, 40), (40, .iload_n 2, 0, 0, 0, 41), (41, .imul, 0, 0, 0, 42), (42, .iload_n 3, 0, 0, 0, 43), (43, .iadd, 0, 0, 0, 44), (44, .iaload, 0, 0, 0, 45), (45, .iastore, 0, 0, 0, 46), (46, .iinc 3 1, 0, 0, 1, 49), (49, .goto (-28), 0, 0, 0, 21), (52, .aload_n 0, 0, 0, 0, 53), (53, .getfield 87, 832, 782, 0, 56), (56, .aload_n 0, 0, 0, 0, 57), (57, .getfield 81, 830, 780, 0, 60), (60, .iload_n 2, 0, 0, 0, 61), (61, .iaload, 0, 0, 0, 62), (62, .iconst (-1), 0, 0, (-1), 63), (63, .iastore, 0, 0, 0, 64), (64, .iconst 0, 0, 0, 0, 65), (65, .istore_n 3, 0, 0, 0, 66), (66, .iload_n 3, 0, 0, 0, 67), (67, .aload_n 0, 0, 0, 0, 68), (68, .invokevirtual 199, 117, 995, 0, 71), (71, .if_icmp .ge 88, 0, 0, 0, 74), (71, .if_icmp .ge 88, 1, 0, 0, 159)]
set_option maxRecDepth 100000 in
theorem ck_M_matches_0 : cd_M_matches_0.all (ab_ok 122) = true := by decide +kernel
def cd_M_matches_1 : List ab_E := [(74, .aload_n 0, 0, 0, 0, 75), (75, .getfield 93, 836, 786, 0, 78), (78, .iload_n 3, 0, 0, 0, 79), (79, .iaload, 0, 0, 0, 80), (80, .ldc 203, 0, 999, 10000000, 82), (82, .if_icmp .ne 6, 0, 0, 0, 85), (82, .if_icmp .ne 6, 1, 0, 0, 88), (85, .goto 68, 0, 0, 0, 153), (88, .aload_n 0, 0, 0, 0, 89), (89, .iload_n 2, 0, 0, 0, 90), (90, .iload_n 3, 0, 0, 0, 91), (91, .invokevirtual 214, 121, 1017, 0, 94), (94, .aload_n 0, 0, 0, 0, 95), (95, .getfield 90, 835, 785, 0, 98), (98, .bipush 48, 0, 0, 48, 100), (100, .iload_n 2, 0, 0, 0, 101), (101, .imul, 0, 0, 0, 102), (102, .iload_n 3, 0, 0, 0, 103), (103, .iadd, 0, 0, 0, 104), (104, .aload_n 0, 0, 0, 0, 105), (105, .getfield 93, 836, 786, 0, 108), (108, .iload_n 3, 0, 0, 0, 109), (109, .iaload, 0, 0, 0, 110), (110, .iastore, 0, 0, 0, 111), (111, .aload_n 0, 0, 0, 0, 112), (112, .invokevirtual 211, 119, 1000, 0, 115), (115, .iload_n 1, 0, 0, 0, 116), (116, .if_icmp .ne 37, 0, 0, 0, 119), (116, .if_icmp .ne 37, 1, 0, 0, 153), (119, .aload_n 0, 0, 0, 0, 120), (120, .getfield 87, 832, 782, 0, 123), (123, .aload_n 0, 0, 0, 0, 124), (124, .getfield 81, 830, 780, 0, 127), (127, .iload_n 2, 0, 0, 0, 128), (128, .iaload, 0, 0, 0, 129), (129, .iload_n 3, 0, 0, 0, 130), (130, .aload_n 0, 0, 0, 0, 131), (131, .getfield 193, 834, 784, 0, 134), (134, .if_icmp .ge 12, 0, 0, 0, 137), (134, .if_icmp .ge 12, 1, 0, 0, 146), (137, .aload_n 0, 0, 0, 0, 138), (138, .getfield 84, 831, 781, 0, 141), (141, .iload_n 3, 0, 0, 0, 142), (142, .iaload, 0, 0, 0, 143), (143, .goto 4, 0, 0, 0, 147), (146, .iconst (-1), 0, 0, (-1), 147), (147, .iastore, 0, 0, 0, 148), (148, .aload_n 0, 0, 0, 0, 149)]
set_option maxRecDepth 100000 in
theorem ck_M_matches_1 : cd_M_matches_1.all (ab_ok 122) = true := by decide +kernel
def cd_M_matches_2 : List ab_E := [(149, .invokevirtual 199, 117, 995, 0, 152), (152, .istore_n 3, 0, 0, 0, 153), (153, .iinc 3 1, 0, 0, 1, 156), (156, .goto (-90), 0, 0, 0, 66), (159, .iinc 2 1, 0, 0, 1, 162), (162, .goto (-151), 0, 0, 0, 11), (165, .iload_n 1, 0, 0, 0, 166), (166, .ireturn, 0, 0, 0, 167)]
set_option maxRecDepth 100000 in
theorem ck_M_matches_2 : cd_M_matches_2.all (ab_ok 122) = true := by decide +kernel
/-- LostDeskModel.matches -/
def cd_M_matches : List ab_E := cd_M_matches_0 ++ (cd_M_matches_1 ++ (cd_M_matches_2))
theorem ck_M_matches : cd_M_matches.all (ab_ok 122) = true := ab_all_app ck_M_matches_0 (ab_all_app ck_M_matches_1 (ck_M_matches_2))
/-- LostDeskModel.match -/
def cd_M_match : List ab_E := [(0, .aload_n 0, 0, 0, 0, 1), (1, .iconst 0, 0, 0, 0, 2), (2, .putfield 120, 801, 751, 0, 5), (5, .aload_n 0, 0, 0, 0, 6), (6, .iconst 0, 0, 0, 0, 7), (7, .putfield 123, 800, 750, 0, 10), (10, .aload_n 0, 0, 0, 0, 11), (11, .invokevirtual 208, 118, 991, 0, 14), (14, .aload_n 0, 0, 0, 0, 15), (15, .invokevirtual 211, 119, 1000, 0, 18), (18, .ireturn, 0, 0, 0, 19)]
set_option maxRecDepth 100000 in
theorem ck_M_match : cd_M_match.all (ab_ok 123) = true := by decide +kernel
/-- LostDeskModel.matched -/
def cd_M_matched : List ab_E := [(0, .aload_n 0, 0, 0, 0, 1), (1, .iconst 0, 0, 0, 0, 2), (2, .putfield 120, 801, 751, 0, 5), (5, .aload_n 0, 0, 0, 0, 6), (6, .iconst 0, 0, 0, 0, 7), (7, .putfield 123, 800, 750, 0, 10), (10, .aload_n 0, 0, 0, 0, 11), (11, .iload_n 1, 0, 0, 0, 12), (12, .invokevirtual 187, 100, 969, 0, 15), (15, .ifCond .ne 9, 0, 0, 0, 18), (15, .ifCond .ne 9, 1, 0, 0, 24), (18, .aload_n 0, 0, 0, 0, 19), (19, .iconst 1, 0, 0, 1, 20), (20, .invokevirtual 142, 95, 904, 0, 23), (23, .ireturn, 0, 0, 0, 24), (24, .aload_n 0, 0, 0, 0, 25), (25, .getfield 72, 827, 777, 0, 28), (28, .iload_n 1, 0, 0, 0, 29), (29, .baload, 0, 0, 0, 30), (30, .ifCond .eq 9, 0, 0, 0, 33), (30, .ifCond .eq 9, 1, 0, 0, 39), (33, .aload_n 0, 0, 0, 0, 34), (34, .iconst 5, 0, 0, 5, 35), (35, .invokevirtual 142, 95, 904, 0, 38), (38, .ireturn, 0, 0, 0, 39), (39, .aload_n 0, 0, 0, 0, 40), (40, .invokevirtual 218, 122, 1013, 0, 43), (43, .pop, 0, 0, 0, 44), (44, .aload_n 0, 0, 0, 0, 45), (45, .getfield 87, 832, 782, 0, 48), (48, .iload_n 1, 0, 0, 0, 49), (49, .iaload, 0, 0, 0, 50), (50, .ifCond .ge 12, 0, 0, 0, 53), (50, .ifCond .ge 12, 1, 0, 0, 62), (53, .aload_n 0, 0, 0, 0, 54), (54, .bipush 7, 0, 0, 7, 56), (56, .invokevirtual 142, 95, 904, 0, 59), (59, .goto 9, 0, 0, 0, 68), (62, .aload_n 0, 0, 0, 0, 63), (63, .getfield 87, 832, 782, 0, 66), (66, .iload_n 1, 0, 0, 0, 67), (67, .iaload, 0, 0, 0, 68), (68, .ireturn, 0, 0, 0, 69)]
set_option maxRecDepth 100000 in
theorem ck_M_matched : cd_M_matched.all (ab_ok 124) = true := by decide +kernel
def cd_M_sure_0 : List ab_E := [(0, .aload_n 0, 0, 0, 0, 1), (1, .iconst 0, 0, 0, 0, 2), (2, .putfield 120, 801, 751, 0, 5), (5, .aload_n 0, 0, 0, 0, 6), (6, .iconst 0, 0, 0, 0, 7), (7, .putfield 123, 800, 750, 0, 10), (10, .aload_n 0, 0, 0, 0, 11), (11, .iload_n 1, 0, 0, 0, 12), (12, .invokevirtual 187, 100, 969, 0, 15), (15, .ifCond .ne 9, 0, 0, 0, 18), (15, .ifCond .ne 9, 1, 0, 0, 24), (18, .aload_n 0, 0, 0, 0, 19), (19, .iconst 1, 0, 0, 1, 20), (20, .invokevirtual 142, 95, 904, 0, 23), (23, .ireturn, 0, 0, 0, 24), (24, .iload_n 2, 0, 0, 0, 25), (25, .ifCond .lt 10, 0, 0, 0, 28), (25, .ifCond .lt 10, 1, 0, 0, 35), (28, .iload_n 2, 0, 0, 0, 29), (29, .sipush 1000, 0, 0, 1000, 32), (32, .if_icmp .le 9, 0, 0, 0, 35), (32, .if_icmp .le 9, 1, 0, 0, 41), (35, .aload_n 0, 0, 0, 0, 36), (36, .iconst 2, 0, 0, 2, 37), (37, .invokevirtual 142, 95, 904, 0, 40), (40, .ireturn, 0, 0, 0, 41), (41, .aload_n 0, 0, 0, 0, 42), (42, .getfield 72, 827, 777, 0, 45), (45, .iload_n 1, 0, 0, 0, 46), (46, .baload, 0, 0, 0, 47), (47, .ifCond .eq 9, 0, 0, 0, 50), (47, .ifCond .eq 9, 1, 0, 0, 56), (50, .aload_n 0, 0, 0, 0, 51), (51, .iconst 5, 0, 0, 5, 52), (52, .invokevirtual 142, 95, 904, 0, 55), (55, .ireturn, 0, 0, 0, 56), (56, .aload_n 0, 0, 0, 0, 57), (57, .invokevirtual 218, 122, 1013, 0, 60), (60, .istore_n 3, 0, 0, 0, 61), (61, .aload_n 0, 0, 0, 0, 62), (62, .getfield 87, 832, 782, 0, 65), (65, .iload_n 1, 0, 0, 0, 66), (66, .iaload, 0, 0, 0, 67), (67, .ifCond .ge 10, 0, 0, 0, 70), (67, .ifCond .ge 10, 1, 0, 0, 77), (70, .aload_n 0, 0, 0, 0, 71), (71, .bipush 7, 0, 0, 7, 73), (73, .invokevirtual 142, 95, 904, 0, 76)]
set_option maxRecDepth 100000 in
theorem ck_M_sure_0 : cd_M_sure_0.all (ab_ok 125) = true := by decide +kernel
def cd_M_sure_1 : List ab_E := [(76, .ireturn, 0, 0, 0, 77), (77, .aload_n 0, 0, 0, 0, 78), (78, .invokevirtual 208, 118, 991, 0, 81), (81, .iconst 0, 0, 0, 0, 82), (82, .istore 4, 0, 0, 0, 84), (84, .iload 4, 0, 0, 0, 86), (86, .aload_n 0, 0, 0, 0, 87), (87, .getfield 196, 833, 783, 0, 90), (90, .if_icmp .ge 69, 0, 0, 0, 93), (90, .if_icmp .ge 69, 1, 0, 0, 159), (93, .iconst 0, 0, 0, 0, 94), (94, .istore 5, 0, 0, 0, 96), (96, .iload 5, 0, 0, 0, 98), (98, .aload_n 0, 0, 0, 0, 99), (99, .getfield 193, 834, 784, 0, 102), (102, .if_icmp .ge 51, 0, 0, 0, 105), (102, .if_icmp .ge 51, 1, 0, 0, 153), (105, .aload_n 0, 0, 0, 0, 106), (106, .getfield 81, 830, 780, 0, 109), (109, .iload 4, 0, 0, 0, 111), (111, .iaload, 0, 0, 0, 112), (112, .iload_n 1, 0, 0, 0, 113), (113, .if_icmp .ne 34, 0, 0, 0, 116), (113, .if_icmp .ne 34, 1, 0, 0, 147), (116, .aload_n 0, 0, 0, 0, 117), (117, .getfield 84, 831, 781, 0, 120), (120, .iload 5, 0, 0, 0, 122), (122, .iaload, 0, 0, 0, 123), (123, .aload_n 0, 0, 0, 0, 124), (124, .getfield 87, 832, 782, 0, 127), (127, .iload_n 1, 0, 0, 0, 128), (128, .iaload, 0, 0, 0, 129), (129, .if_icmp .ne 18, 0, 0, 0, 132), (129, .if_icmp .ne 18, 1, 0, 0, 147), (132, .aload_n 0, 0, 0, 0, 133), (133, .getfield 90, 835, 785, 0, 136), (136, .bipush 48, 0, 0, 48, 138), (138, .iload 4, 0, 0, 0, 140), (140, .imul, 0, 0, 0, 141), (141, .iload 5, 0, 0, 0, 143), (143, .iadd, 0, 0, 0, 144), (144, .ldc 203, 0, 999, 10000000, 146), (146, .iastore, 0, 0, 0, 147), (147, .iinc 5 1, 0, 0, 1, 150), (150, .goto (-54), 0, 0, 0, 96), (153, .iinc 4 1, 0, 0, 1, 156), (156, .goto (-72), 0, 0, 0, 84), (159, .aload_n 0, 0, 0, 0, 160)]
set_option maxRecDepth 100000 in
theorem ck_M_sure_1 : cd_M_sure_1.all (ab_ok 125) = true := by decide +kernel
def cd_M_sure_2 : List ab_E := [(160, .invokevirtual 211, 119, 1000, 0, 163), (163, .iload_n 3, 0, 0, 0, 164), (164, .iload_n 2, 0, 0, 0, 165), (165, .iadd, 0, 0, 0, 166), (166, .if_icmp .le 7, 0, 0, 0, 169), (166, .if_icmp .le 7, 1, 0, 0, 173), (169, .iconst 1, 0, 0, 1, 170), (170, .goto 4, 0, 0, 0, 174), (173, .iconst 0, 0, 0, 0, 174), (174, .ireturn, 0, 0, 0, 175)]
set_option maxRecDepth 100000 in
theorem ck_M_sure_2 : cd_M_sure_2.all (ab_ok 125) = true := by decide +kernel
/-- LostDeskModel.sure -/
def cd_M_sure : List ab_E := cd_M_sure_0 ++ (cd_M_sure_1 ++ (cd_M_sure_2))
theorem ck_M_sure : cd_M_sure.all (ab_ok 125) = true := ab_all_app ck_M_sure_0 (ab_all_app ck_M_sure_1 (ck_M_sure_2))
/-- LostDeskModel.areKin -/
def cd_M_areKin : List ab_E := [(0, .aload_n 0, 0, 0, 0, 1), (1, .aload_n 0, 0, 0, 0, 2), (2, .getfield 30, 813, 763, 0, 5), (5, .iload_n 1, 0, 0, 0, 6), (6, .iaload, 0, 0, 0, 7), (7, .aload_n 0, 0, 0, 0, 8), (8, .getfield 30, 813, 763, 0, 11), (11, .iload_n 2, 0, 0, 0, 12), (12, .iaload, 0, 0, 0, 13), (13, .invokevirtual 176, 113, 977, 0, 16), (16, .ifCond .ge 22, 0, 0, 0, 19), (16, .ifCond .ge 22, 1, 0, 0, 38), (19, .aload_n 0, 0, 0, 0, 20), (20, .aload_n 0, 0, 0, 0, 21), (21, .getfield 30, 813, 763, 0, 24), (24, .iload_n 2, 0, 0, 0, 25), (25, .iaload, 0, 0, 0, 26), (26, .aload_n 0, 0, 0, 0, 27), (27, .getfield 30, 813, 763, 0, 30), (30, .iload_n 1, 0, 0, 0, 31), (31, .iaload, 0, 0, 0, 32), (32, .invokevirtual 176, 113, 977, 0, 35), (35, .ifCond .lt 7, 0, 0, 0, 38), (35, .ifCond .lt 7, 1, 0, 0, 42), (38, .iconst 1, 0, 0, 1, 39), (39, .goto 4, 0, 0, 0, 43), (42, .iconst 0, 0, 0, 0, 43), (43, .ireturn, 0, 0, 0, 44)]
set_option maxRecDepth 100000 in
theorem ck_M_areKin : cd_M_areKin.all (ab_ok 126) = true := by decide +kernel
/-- LostDeskModel.kins -/
def cd_M_kins : List ab_E := [(0, .aload_n 0, 0, 0, 0, 1), (1, .iconst 0, 0, 0, 0, 2), (2, .putfield 221, 846, 796, 0, 5), (5, .iconst 0, 0, 0, 0, 6), (6, .istore_n 2, 0, 0, 0, 7), (7, .iload_n 2, 0, 0, 0, 8), (8, .aload_n 0, 0, 0, 0, 9), (9, .getfield 132, 804, 754, 0, 12), (12, .if_icmp .ge 55, 0, 0, 0, 15), (12, .if_icmp .ge 55, 1, 0, 0, 67), (15, .aload_n 0, 0, 0, 0, 16), (16, .getfield 45, 818, 768, 0, 19), (19, .iload_n 2, 0, 0, 0, 20), (20, .iaload, 0, 0, 0, 21), (21, .ifCond .ne 40, 0, 0, 0, 24), (21, .ifCond .ne 40, 1, 0, 0, 61), (24, .aload_n 0, 0, 0, 0, 25), (25, .iload_n 1, 0, 0, 0, 26), (26, .iload_n 2, 0, 0, 0, 27), (27, .invokevirtual 224, 126, 1033, 0, 30), (30, .ifCond .ne 6, 0, 0, 0, 33), (30, .ifCond .ne 6, 1, 0, 0, 36), (33, .goto 28, 0, 0, 0, 61), (36, .aload_n 0, 0, 0, 0, 37), (37, .getfield 117, 845, 795, 0, 40), (40, .aload_n 0, 0, 0, 0, 41), (41, .getfield 221, 846, 796, 0, 44), (44, .aload_n 0, 0, 0, 0, 45), (45, .getfield 36, 815, 765, 0, 48), (48, .iload_n 2, 0, 0, 0, 49), (49, .iaload, 0, 0, 0, 50), (50, .iastore, 0, 0, 0, 51), (51, .aload_n 0, 0, 0, 0, 52), (52, .dup, 0, 0, 0, 53), (53, .getfield 221, 846, 796, 0, 56), (56, .iconst 1, 0, 0, 1, 57), (57, .iadd, 0, 0, 0, 58), (58, .putfield 221, 846, 796, 0, 61), (61, .iinc 2 1, 0, 0, 1, 64), (64, .goto (-57), 0, 0, 0, 7), (67, .return_, 0, 0, 0, 68)]
set_option maxRecDepth 100000 in
theorem ck_M_kins : cd_M_kins.all (ab_ok 127) = true := by decide +kernel
/-- LostDeskModel.alikes -/
def cd_M_alikes : List ab_E := [(0, .iconst 0, 0, 0, 0, 1), (1, .istore_n 3, 0, 0, 0, 2), (2, .iconst 0, 0, 0, 0, 3), (3, .istore 4, 0, 0, 0, 5), (5, .iload 4, 0, 0, 0, 7), (7, .aload_n 0, 0, 0, 0, 8), (8, .getfield 221, 846, 796, 0, 11), (11, .if_icmp .ge 36, 0, 0, 0, 14), (11, .if_icmp .ge 36, 1, 0, 0, 47), (14, .iload_n 3, 0, 0, 0, 15), (15, .aload_n 0, 0, 0, 0, 16), (16, .getfield 117, 845, 795, 0, 19), (19, .iload 4, 0, 0, 0, 21), (21, .iaload, 0, 0, 0, 22), (22, .aload_n 0, 0, 0, 0, 23), (23, .getfield 36, 815, 765, 0, 26), (26, .iload_n 1, 0, 0, 0, 27), (27, .iaload, 0, 0, 0, 28), (28, .ixor, 0, 0, 0, 29), (29, .iload_n 2, 0, 0, 0, 30), (30, .iand, 0, 0, 0, 31), (31, .ifCond .ne 7, 0, 0, 0, 34), (31, .ifCond .ne 7, 1, 0, 0, 38), (34, .iconst 1, 0, 0, 1, 35), (35, .goto 4, 0, 0, 0, 39), (38, .iconst 0, 0, 0, 0, 39), (39, .iadd, 0, 0, 0, 40), (40, .istore_n 3, 0, 0, 0, 41), (41, .iinc 4 1, 0, 0, 1, 44), (44, .goto (-39), 0, 0, 0, 5), (47, .iload_n 3, 0, 0, 0, 48), (48, .ireturn, 0, 0, 0, 49)]
set_option maxRecDepth 100000 in
theorem ck_M_alikes : cd_M_alikes.all (ab_ok 128) = true := by decide +kernel
/-- LostDeskModel.alike -/
def cd_M_alike : List ab_E := [(0, .aload_n 0, 0, 0, 0, 1), (1, .iconst 0, 0, 0, 0, 2), (2, .putfield 120, 801, 751, 0, 5), (5, .aload_n 0, 0, 0, 0, 6), (6, .iconst 0, 0, 0, 0, 7), (7, .putfield 123, 800, 750, 0, 10), (10, .aload_n 0, 0, 0, 0, 11), (11, .iload_n 1, 0, 0, 0, 12), (12, .invokevirtual 173, 99, 961, 0, 15), (15, .ifCond .ne 9, 0, 0, 0, 18), (15, .ifCond .ne 9, 1, 0, 0, 24), (18, .aload_n 0, 0, 0, 0, 19), (19, .iconst 1, 0, 0, 1, 20), (20, .invokevirtual 142, 95, 904, 0, 23), (23, .ireturn, 0, 0, 0, 24), (24, .iload_n 2, 0, 0, 0, 25), (25, .invokestatic 167, 108, 945, 0, 28), (28, .ifCond .ne 9, 0, 0, 0, 31), (28, .ifCond .ne 9, 1, 0, 0, 37), (31, .aload_n 0, 0, 0, 0, 32), (32, .iconst 2, 0, 0, 2, 33), (33, .invokevirtual 142, 95, 904, 0, 36), (36, .ireturn, 0, 0, 0, 37), (37, .aload_n 0, 0, 0, 0, 38), (38, .getfield 45, 818, 768, 0, 41), (41, .iload_n 1, 0, 0, 0, 42), (42, .iaload, 0, 0, 0, 43), (43, .ifCond .eq 9, 0, 0, 0, 46), (43, .ifCond .eq 9, 1, 0, 0, 52), (46, .aload_n 0, 0, 0, 0, 47), (47, .iconst 5, 0, 0, 5, 48), (48, .invokevirtual 142, 95, 904, 0, 51), (51, .ireturn, 0, 0, 0, 52), (52, .aload_n 0, 0, 0, 0, 53), (53, .iload_n 1, 0, 0, 0, 54), (54, .invokevirtual 228, 127, 1029, 0, 57), (57, .aload_n 0, 0, 0, 0, 58), (58, .iload_n 1, 0, 0, 0, 59), (59, .iload_n 2, 0, 0, 0, 60), (60, .invokevirtual 232, 128, 1037, 0, 63), (63, .ireturn, 0, 0, 0, 64)]
set_option maxRecDepth 100000 in
theorem ck_M_alike : cd_M_alike.all (ab_ok 129) = true := by decide +kernel
def cd_M_questions_0 : List ab_E := [(0, .aload_n 0, 0, 0, 0, 1), (1, .iconst 0, 0, 0, 0, 2), (2, .putfield 120, 801, 751, 0, 5), (5, .aload_n 0, 0, 0, 0, 6), (6, .iconst 0, 0, 0, 0, 7), (7, .putfield 123, 800, 750, 0, 10), (10, .aload_n 0, 0, 0, 0, 11), (11, .iload_n 1, 0, 0, 0, 12), (12, .invokevirtual 173, 99, 961, 0, 15), (15, .ifCond .ne 9, 0, 0, 0, 18), (15, .ifCond .ne 9, 1, 0, 0, 24), (18, .aload_n 0, 0, 0, 0, 19), (19, .iconst 1, 0, 0, 1, 20), (20, .invokevirtual 142, 95, 904, 0, 23), (23, .ireturn, 0, 0, 0, 24), (24, .iload_n 2, 0, 0, 0, 25), (25, .iconst 1, 0, 0, 1, 26), (26, .if_icmp .lt 9, 0, 0, 0, 29), (26, .if_icmp .lt 9, 1, 0, 0, 35), (29, .iload_n 2, 0, 0, 0, 30), (30, .bipush 24, 0, 0, 24, 32), (32, .if_icmp .le 9, 0, 0, 0, 35), (32, .if_icmp .le 9, 1, 0, 0, 41), (35, .aload_n 0, 0, 0, 0, 36), (36, .iconst 2, 0, 0, 2, 37), (37, .invokevirtual 142, 95, 904, 0, 40), (40, .ireturn, 0, 0, 0, 41), (41, .aload_n 0, 0, 0, 0, 42), (42, .getfield 45, 818, 768, 0, 45), (45, .iload_n 1, 0, 0, 0, 46), (46, .iaload, 0, 0, 0, 47), (47, .ifCond .eq 9, 0, 0, 0, 50), (47, .ifCond .eq 9, 1, 0, 0, 56), (50, .aload_n 0, 0, 0, 0, 51), (51, .iconst 5, 0, 0, 5, 52), (52, .invokevirtual 142, 95, 904, 0, 55), (55, .ireturn, 0, 0, 0, 56), (56, .aload_n 0, 0, 0, 0, 57), (57, .iload_n 1, 0, 0, 0, 58), (58, .invokevirtual 228, 127, 1029, 0, 61), (61, .aload_n 0, 0, 0, 0, 62), (62, .iload_n 1, 0, 0, 0, 63), (63, .ldc 165, 0, 948, 65535, 65), (65, .invokevirtual 232, 128, 1037, 0, 68), (68, .iload_n 2, 0, 0, 0, 69), (69, .if_icmp .le 10, 0, 0, 0, 72), (69, .if_icmp .le 10, 1, 0, 0, 79), (72, .aload_n 0, 0, 0, 0, 73)]
set_option maxRecDepth 100000 in
theorem ck_M_questions_0 : cd_M_questions_0.all (ab_ok 130) = true := by decide +kernel
def cd_M_questions_1 : List ab_E := [(73, .bipush 7, 0, 0, 7, 75), (75, .invokevirtual 142, 95, 904, 0, 78), (78, .ireturn, 0, 0, 0, 79), (79, .bipush 17, 0, 0, 17, 81), (81, .istore_n 3, 0, 0, 0, 82), (82, .iconst (-1), 0, 0, (-1), 83), (83, .istore 4, 0, 0, 0, 85), (85, .iconst 0, 0, 0, 0, 86), (86, .istore 5, 0, 0, 0, 88), (88, .iload 5, 0, 0, 0, 90), (90, .ldc 165, 0, 948, 65535, 92), (92, .if_icmp .gt 42, 0, 0, 0, 95), (92, .if_icmp .gt 42, 1, 0, 0, 134), (95, .iload 5, 0, 0, 0, 97), (97, .invokestatic 182, 141, 982, 0, 100), (100, .iload_n 3, 0, 0, 0, 101), (101, .if_icmp .ge 27, 0, 0, 0, 104), (101, .if_icmp .ge 27, 1, 0, 0, 128), (104, .aload_n 0, 0, 0, 0, 105), (105, .iload_n 1, 0, 0, 0, 106), (106, .iload 5, 0, 0, 0, 108), (108, .invokevirtual 232, 128, 1037, 0, 111), (111, .iload_n 2, 0, 0, 0, 112), (112, .if_icmp .le 6, 0, 0, 0, 115), (112, .if_icmp .le 6, 1, 0, 0, 118), (115, .goto 13, 0, 0, 0, 128), (118, .iload 5, 0, 0, 0, 120), (120, .invokestatic 182, 141, 982, 0, 123), (123, .istore_n 3, 0, 0, 0, 124), (124, .iload 5, 0, 0, 0, 126), (126, .istore 4, 0, 0, 0, 128), (128, .iinc 5 1, 0, 0, 1, 131), (131, .goto (-43), 0, 0, 0, 88), (134, .iload 4, 0, 0, 0, 136), (136, .ireturn, 0, 0, 0, 137)]
set_option maxRecDepth 100000 in
theorem ck_M_questions_1 : cd_M_questions_1.all (ab_ok 130) = true := by decide +kernel
/-- LostDeskModel.questions -/
def cd_M_questions : List ab_E := cd_M_questions_0 ++ (cd_M_questions_1)
theorem ck_M_questions : cd_M_questions.all (ab_ok 130) = true := ab_all_app ck_M_questions_0 (ck_M_questions_1)
def cd_M_claim_0 : List ab_E := [(0, .aload_n 0, 0, 0, 0, 1), (1, .iconst 0, 0, 0, 0, 2), (2, .putfield 120, 801, 751, 0, 5), (5, .aload_n 0, 0, 0, 0, 6), (6, .iconst 0, 0, 0, 0, 7), (7, .putfield 123, 800, 750, 0, 10), (10, .aload_n 0, 0, 0, 0, 11), (11, .iload_n 1, 0, 0, 0, 12), (12, .invokevirtual 187, 100, 969, 0, 15), (15, .ifCond .eq 11, 0, 0, 0, 18), (15, .ifCond .eq 11, 1, 0, 0, 26), (18, .aload_n 0, 0, 0, 0, 19), (19, .iload_n 2, 0, 0, 0, 20), (20, .invokevirtual 173, 99, 961, 0, 23), (23, .ifCond .ne 9, 0, 0, 0, 26), (23, .ifCond .ne 9, 1, 0, 0, 32), (26, .aload_n 0, 0, 0, 0, 27), (27, .iconst 1, 0, 0, 1, 28), (28, .invokevirtual 142, 95, 904, 0, 31), (31, .ireturn, 0, 0, 0, 32), (32, .iload_n 3, 0, 0, 0, 33), (33, .iconst 1, 0, 0, 1, 34), (34, .if_icmp .lt 18, 0, 0, 0, 37), (34, .if_icmp .lt 18, 1, 0, 0, 52), (37, .iload_n 3, 0, 0, 0, 38), (38, .ldc 165, 0, 948, 65535, 40), (40, .if_icmp .gt 12, 0, 0, 0, 43), (40, .if_icmp .gt 12, 1, 0, 0, 52), (43, .iload 4, 0, 0, 0, 45), (45, .iload_n 3, 0, 0, 0, 46), (46, .iconst (-1), 0, 0, (-1), 47), (47, .ixor, 0, 0, 0, 48), (48, .iand, 0, 0, 0, 49), (49, .ifCond .eq 9, 0, 0, 0, 52), (49, .ifCond .eq 9, 1, 0, 0, 58), (52, .aload_n 0, 0, 0, 0, 53), (53, .iconst 2, 0, 0, 2, 54), (54, .invokevirtual 142, 95, 904, 0, 57), (57, .ireturn, 0, 0, 0, 58), (58, .bipush 24, 0, 0, 24, 60), (60, .iload_n 1, 0, 0, 0, 61), (61, .imul, 0, 0, 0, 62), (62, .iload_n 2, 0, 0, 0, 63), (63, .iadd, 0, 0, 0, 64), (64, .istore 5, 0, 0, 0, 66), (66, .aload_n 0, 0, 0, 0, 67), (67, .getfield 75, 828, 778, 0, 70), (70, .iload 5, 0, 0, 0, 72)]
set_option maxRecDepth 100000 in
theorem ck_M_claim_0 : cd_M_claim_0.all (ab_ok 131) = true := by decide +kernel
def cd_M_claim_1 : List ab_E := [(72, .baload, 0, 0, 0, 73), (73, .ifCond .eq 9, 0, 0, 0, 76), (73, .ifCond .eq 9, 1, 0, 0, 82), (76, .aload_n 0, 0, 0, 0, 77), (77, .iconst 4, 0, 0, 4, 78), (78, .invokevirtual 142, 95, 904, 0, 81), (81, .ireturn, 0, 0, 0, 82), (82, .aload_n 0, 0, 0, 0, 83), (83, .getfield 72, 827, 777, 0, 86), (86, .iload_n 1, 0, 0, 0, 87), (87, .baload, 0, 0, 0, 88), (88, .ifCond .ne 12, 0, 0, 0, 91), (88, .ifCond .ne 12, 1, 0, 0, 100), (91, .aload_n 0, 0, 0, 0, 92), (92, .getfield 45, 818, 768, 0, 95), (95, .iload_n 2, 0, 0, 0, 96), (96, .iaload, 0, 0, 0, 97), (97, .ifCond .eq 9, 0, 0, 0, 100), (97, .ifCond .eq 9, 1, 0, 0, 106), (100, .aload_n 0, 0, 0, 0, 101), (101, .iconst 5, 0, 0, 5, 102), (102, .invokevirtual 142, 95, 904, 0, 105), (105, .ireturn, 0, 0, 0, 106), (106, .aload_n 0, 0, 0, 0, 107), (107, .invokevirtual 162, 106, 936, 0, 110), (110, .aload_n 0, 0, 0, 0, 111), (111, .iload_n 1, 0, 0, 0, 112), (112, .iload_n 2, 0, 0, 0, 113), (113, .invokevirtual 190, 114, 973, 0, 116), (116, .ifCond .ge 10, 0, 0, 0, 119), (116, .ifCond .ge 10, 1, 0, 0, 126), (119, .aload_n 0, 0, 0, 0, 120), (120, .bipush 6, 0, 0, 6, 122), (122, .invokevirtual 142, 95, 904, 0, 125), (125, .ireturn, 0, 0, 0, 126), (126, .aload_n 0, 0, 0, 0, 127), (127, .getfield 75, 828, 778, 0, 130), (130, .iload 5, 0, 0, 0, 132), (132, .iconst 1, 0, 0, 1, 133), (133, .bastore, 0, 0, 0, 134), (134, .aload_n 0, 0, 0, 0, 135), (135, .getfield 78, 829, 779, 0, 138), (138, .iload 5, 0, 0, 0, 140), (140, .iload 4, 0, 0, 0, 142), (142, .iload_n 3, 0, 0, 0, 143), (143, .aload_n 0, 0, 0, 0, 144), (144, .getfield 36, 815, 765, 0, 147), (147, .iload_n 2, 0, 0, 0, 148)]
set_option maxRecDepth 100000 in
theorem ck_M_claim_1 : cd_M_claim_1.all (ab_ok 131) = true := by decide +kernel
def cd_M_claim_2 : List ab_E := [(148, .iaload, 0, 0, 0, 149), (149, .iand, 0, 0, 0, 150), (150, .if_icmp .ne 10, 0, 0, 0, 153), (150, .if_icmp .ne 10, 1, 0, 0, 160), (153, .iload_n 3, 0, 0, 0, 154), (154, .invokestatic 182, 141, 982, 0, 157), (157, .goto 4, 0, 0, 0, 161), (160, .iconst 0, 0, 0, 0, 161), (161, .iastore, 0, 0, 0, 162), (162, .aload_n 0, 0, 0, 0, 163), (163, .getfield 78, 829, 779, 0, 166), (166, .iload 5, 0, 0, 0, 168), (168, .iaload, 0, 0, 0, 169), (169, .ifCond .le 7, 0, 0, 0, 172), (169, .ifCond .le 7, 1, 0, 0, 176), (172, .iconst 1, 0, 0, 1, 173), (173, .goto 4, 0, 0, 0, 177), (176, .iconst 0, 0, 0, 0, 177), (177, .ireturn, 0, 0, 0, 178)]
set_option maxRecDepth 100000 in
theorem ck_M_claim_2 : cd_M_claim_2.all (ab_ok 131) = true := by decide +kernel
/-- LostDeskModel.claim -/
def cd_M_claim : List ab_E := cd_M_claim_0 ++ (cd_M_claim_1 ++ (cd_M_claim_2))
theorem ck_M_claim : cd_M_claim.all (ab_ok 131) = true := ab_all_app ck_M_claim_0 (ab_all_app ck_M_claim_1 (ck_M_claim_2))
def cd_M_hand_0 : List ab_E := [(0, .aload_n 0, 0, 0, 0, 1), (1, .iconst 0, 0, 0, 0, 2), (2, .putfield 120, 801, 751, 0, 5), (5, .aload_n 0, 0, 0, 0, 6), (6, .iconst 0, 0, 0, 0, 7), (7, .putfield 123, 800, 750, 0, 10), (10, .aload_n 0, 0, 0, 0, 11), (11, .iload_n 1, 0, 0, 0, 12), (12, .invokevirtual 187, 100, 969, 0, 15), (15, .ifCond .eq 11, 0, 0, 0, 18), (15, .ifCond .eq 11, 1, 0, 0, 26), (18, .aload_n 0, 0, 0, 0, 19), (19, .iload_n 2, 0, 0, 0, 20), (20, .invokevirtual 173, 99, 961, 0, 23), (23, .ifCond .ne 9, 0, 0, 0, 26), (23, .ifCond .ne 9, 1, 0, 0, 32), (26, .aload_n 0, 0, 0, 0, 27), (27, .iconst 1, 0, 0, 1, 28), (28, .invokevirtual 149, 96, 915, 0, 31), (31, .ireturn, 0, 0, 0, 32), (32, .aload_n 0, 0, 0, 0, 33), (33, .getfield 72, 827, 777, 0, 36), (36, .iload_n 1, 0, 0, 0, 37), (37, .baload, 0, 0, 0, 38), (38, .ifCond .ne 12, 0, 0, 0, 41), (38, .ifCond .ne 12, 1, 0, 0, 50), (41, .aload_n 0, 0, 0, 0, 42), (42, .getfield 45, 818, 768, 0, 45), (45, .iload_n 2, 0, 0, 0, 46), (46, .iaload, 0, 0, 0, 47), (47, .ifCond .eq 9, 0, 0, 0, 50), (47, .ifCond .eq 9, 1, 0, 0, 56), (50, .aload_n 0, 0, 0, 0, 51), (51, .iconst 5, 0, 0, 5, 52), (52, .invokevirtual 149, 96, 915, 0, 55), (55, .ireturn, 0, 0, 0, 56), (56, .aload_n 0, 0, 0, 0, 57), (57, .getfield 78, 829, 779, 0, 60), (60, .bipush 24, 0, 0, 24, 62), (62, .iload_n 1, 0, 0, 0, 63), (63, .imul, 0, 0, 0, 64), (64, .iload_n 2, 0, 0, 0, 65), (65, .iadd, 0, 0, 0, 66), (66, .iaload, 0, 0, 0, 67), (67, .istore_n 3, 0, 0, 0, 68), (68, .iload_n 3, 0, 0, 0, 69), (69, .ifCond .ne 10, 0, 0, 0, 72), (69, .ifCond .ne 10, 1, 0, 0, 79)]
set_option maxRecDepth 100000 in
theorem ck_M_hand_0 : cd_M_hand_0.all (ab_ok 132) = true := by decide +kernel
def cd_M_hand_1 : List ab_E := [(72, .aload_n 0, 0, 0, 0, 73), (73, .bipush 7, 0, 0, 7, 75), (75, .invokevirtual 149, 96, 915, 0, 78), (78, .ireturn, 0, 0, 0, 79), (79, .iconst 0, 0, 0, 0, 80), (80, .istore 4, 0, 0, 0, 82), (82, .iload 4, 0, 0, 0, 84), (84, .aload_n 0, 0, 0, 0, 85), (85, .getfield 135, 805, 755, 0, 88), (88, .if_icmp .ge 48, 0, 0, 0, 91), (88, .if_icmp .ge 48, 1, 0, 0, 136), (91, .iload 4, 0, 0, 0, 93), (93, .iload_n 1, 0, 0, 0, 94), (94, .if_icmp .eq 36, 0, 0, 0, 97), (94, .if_icmp .eq 36, 1, 0, 0, 130), (97, .aload_n 0, 0, 0, 0, 98), (98, .getfield 72, 827, 777, 0, 101), (101, .iload 4, 0, 0, 0, 103), (103, .baload, 0, 0, 0, 104), (104, .ifCond .ne 26, 0, 0, 0, 107), (104, .ifCond .ne 26, 1, 0, 0, 130), (107, .aload_n 0, 0, 0, 0, 108), (108, .getfield 78, 829, 779, 0, 111), (111, .bipush 24, 0, 0, 24, 113), (113, .iload 4, 0, 0, 0, 115), (115, .imul, 0, 0, 0, 116), (116, .iload_n 2, 0, 0, 0, 117), (117, .iadd, 0, 0, 0, 118), (118, .iaload, 0, 0, 0, 119), (119, .iload_n 3, 0, 0, 0, 120), (120, .if_icmp .lt 10, 0, 0, 0, 123), (120, .if_icmp .lt 10, 1, 0, 0, 130), (123, .aload_n 0, 0, 0, 0, 124), (124, .bipush 8, 0, 0, 8, 126), (126, .invokevirtual 149, 96, 915, 0, 129), (129, .ireturn, 0, 0, 0, 130), (130, .iinc 4 1, 0, 0, 1, 133), (133, .goto (-51), 0, 0, 0, 82), (136, .aload_n 0, 0, 0, 0, 137), (137, .getfield 72, 827, 777, 0, 140), (140, .iload_n 1, 0, 0, 0, 141), (141, .iconst 1, 0, 0, 1, 142), (142, .bastore, 0, 0, 0, 143), (143, .iconst 0, 0, 0, 0, 144), (144, .istore 4, 0, 0, 0, 146), (146, .iload 4, 0, 0, 0, 148), (148, .aload_n 0, 0, 0, 0, 149), (149, .getfield 132, 804, 754, 0, 152)]
set_option maxRecDepth 100000 in
theorem ck_M_hand_1 : cd_M_hand_1.all (ab_ok 132) = true := by decide +kernel
def cd_M_hand_2 : List ab_E := [(152, .if_icmp .ge 44, 0, 0, 0, 155), (152, .if_icmp .ge 44, 1, 0, 0, 196), (155, .aload_n 0, 0, 0, 0, 156), (156, .getfield 51, 820, 770, 0, 159), (159, .iload 4, 0, 0, 0, 161), (161, .iaload, 0, 0, 0, 162), (162, .aload_n 0, 0, 0, 0, 163), (163, .getfield 51, 820, 770, 0, 166), (166, .iload_n 2, 0, 0, 0, 167), (167, .iaload, 0, 0, 0, 168), (168, .if_icmp .eq 6, 0, 0, 0, 171), (168, .if_icmp .eq 6, 1, 0, 0, 174), (171, .goto 19, 0, 0, 0, 190), (174, .aload_n 0, 0, 0, 0, 175), (175, .getfield 45, 818, 768, 0, 178), (178, .iload 4, 0, 0, 0, 180), (180, .iconst 1, 0, 0, 1, 181), (181, .iastore, 0, 0, 0, 182), (182, .aload_n 0, 0, 0, 0, 183), (183, .getfield 48, 819, 769, 0, 186), (186, .iload 4, 0, 0, 0, 188), (188, .iload_n 1, 0, 0, 0, 189), (189, .iastore, 0, 0, 0, 190), (190, .iinc 4 1, 0, 0, 1, 193), (193, .goto (-47), 0, 0, 0, 146), (196, .iconst 1, 0, 0, 1, 197), (197, .ireturn, 0, 0, 0, 198)]
set_option maxRecDepth 100000 in
theorem ck_M_hand_2 : cd_M_hand_2.all (ab_ok 132) = true := by decide +kernel
/-- LostDeskModel.hand -/
def cd_M_hand : List ab_E := cd_M_hand_0 ++ (cd_M_hand_1 ++ (cd_M_hand_2))
theorem ck_M_hand : cd_M_hand.all (ab_ok 132) = true := ab_all_app ck_M_hand_0 (ab_all_app ck_M_hand_1 (ck_M_hand_2))
def cd_M_bag_0 : List ab_E := [(0, .aload_n 0, 0, 0, 0, 1), (1, .iconst 0, 0, 0, 0, 2), (2, .putfield 120, 801, 751, 0, 5), (5, .aload_n 0, 0, 0, 0, 6), (6, .iconst 0, 0, 0, 0, 7), (7, .putfield 123, 800, 750, 0, 10), (10, .aload_n 0, 0, 0, 0, 11), (11, .iload_n 1, 0, 0, 0, 12), (12, .invokevirtual 173, 99, 961, 0, 15), (15, .ifCond .eq 11, 0, 0, 0, 18), (15, .ifCond .eq 11, 1, 0, 0, 26), (18, .aload_n 0, 0, 0, 0, 19), (19, .iload_n 2, 0, 0, 0, 20), (20, .invokevirtual 173, 99, 961, 0, 23), (23, .ifCond .ne 9, 0, 0, 0, 26), (23, .ifCond .ne 9, 1, 0, 0, 32), (26, .aload_n 0, 0, 0, 0, 27), (27, .iconst 1, 0, 0, 1, 28), (28, .invokevirtual 149, 96, 915, 0, 31), (31, .ireturn, 0, 0, 0, 32), (32, .aload_n 0, 0, 0, 0, 33), (33, .getfield 51, 820, 770, 0, 36), (36, .iload_n 1, 0, 0, 0, 37), (37, .iaload, 0, 0, 0, 38), (38, .aload_n 0, 0, 0, 0, 39), (39, .getfield 51, 820, 770, 0, 42), (42, .iload_n 2, 0, 0, 0, 43), (43, .iaload, 0, 0, 0, 44), (44, .if_icmp .ne 9, 0, 0, 0, 47), (44, .if_icmp .ne 9, 1, 0, 0, 53), (47, .aload_n 0, 0, 0, 0, 48), (48, .iconst 4, 0, 0, 4, 49), (49, .invokevirtual 149, 96, 915, 0, 52), (52, .ireturn, 0, 0, 0, 53), (53, .aload_n 0, 0, 0, 0, 54), (54, .getfield 45, 818, 768, 0, 57), (57, .iload_n 1, 0, 0, 0, 58), (58, .iaload, 0, 0, 0, 59), (59, .ifCond .ne 12, 0, 0, 0, 62), (59, .ifCond .ne 12, 1, 0, 0, 71), (62, .aload_n 0, 0, 0, 0, 63), (63, .getfield 45, 818, 768, 0, 66), (66, .iload_n 2, 0, 0, 0, 67), (67, .iaload, 0, 0, 0, 68), (68, .ifCond .eq 9, 0, 0, 0, 71), (68, .ifCond .eq 9, 1, 0, 0, 77), (71, .aload_n 0, 0, 0, 0, 72), (72, .iconst 5, 0, 0, 5, 73)]
set_option maxRecDepth 100000 in
theorem ck_M_bag_0 : cd_M_bag_0.all (ab_ok 133) = true := by decide +kernel
def cd_M_bag_1 : List ab_E := [(73, .invokevirtual 149, 96, 915, 0, 76), (76, .ireturn, 0, 0, 0, 77), (77, .aload_n 0, 0, 0, 0, 78), (78, .getfield 51, 820, 770, 0, 81), (81, .iload_n 1, 0, 0, 0, 82), (82, .iaload, 0, 0, 0, 83), (83, .aload_n 0, 0, 0, 0, 84), (84, .getfield 51, 820, 770, 0, 87), (87, .iload_n 2, 0, 0, 0, 88), (88, .iaload, 0, 0, 0, 89), (89, .invokestatic 156, 145, 940, 0, 92), (92, .istore_n 3, 0, 0, 0, 93), (93, .aload_n 0, 0, 0, 0, 94), (94, .getfield 51, 820, 770, 0, 97), (97, .iload_n 1, 0, 0, 0, 98), (98, .iaload, 0, 0, 0, 99), (99, .aload_n 0, 0, 0, 0, 100), (100, .getfield 51, 820, 770, 0, 103), (103, .iload_n 2, 0, 0, 0, 104), (104, .iaload, 0, 0, 0, 105), (105, .invokestatic 179, 144, 981, 0, 108), (108, .istore 4, 0, 0, 0, 110), (110, .iconst 0, 0, 0, 0, 111), (111, .istore 5, 0, 0, 0, 113), (113, .iload 5, 0, 0, 0, 115), (115, .aload_n 0, 0, 0, 0, 116), (116, .getfield 132, 804, 754, 0, 119), (119, .if_icmp .ge 29, 0, 0, 0, 122), (119, .if_icmp .ge 29, 1, 0, 0, 148), (122, .aload_n 0, 0, 0, 0, 123), (123, .getfield 51, 820, 770, 0, 126), (126, .iload 5, 0, 0, 0, 128), (128, .iaload, 0, 0, 0, 129), (129, .iload 4, 0, 0, 0, 131), (131, .if_icmp .ne 11, 0, 0, 0, 134), (131, .if_icmp .ne 11, 1, 0, 0, 142), (134, .aload_n 0, 0, 0, 0, 135), (135, .getfield 51, 820, 770, 0, 138), (138, .iload 5, 0, 0, 0, 140), (140, .iload_n 3, 0, 0, 0, 141), (141, .iastore, 0, 0, 0, 142), (142, .iinc 5 1, 0, 0, 1, 145), (145, .goto (-32), 0, 0, 0, 113), (148, .iconst 1, 0, 0, 1, 149), (149, .ireturn, 0, 0, 0, 150)]
set_option maxRecDepth 100000 in
theorem ck_M_bag_1 : cd_M_bag_1.all (ab_ok 133) = true := by decide +kernel
/-- LostDeskModel.bag -/
def cd_M_bag : List ab_E := cd_M_bag_0 ++ (cd_M_bag_1)
theorem ck_M_bag : cd_M_bag.all (ab_ok 133) = true := ab_all_app ck_M_bag_0 (ck_M_bag_1)
/-- LostDeskModel.keeping -/
def cd_M_keeping : List ab_E := [(0, .aload_n 0, 0, 0, 0, 1), (1, .iconst 0, 0, 0, 0, 2), (2, .putfield 120, 801, 751, 0, 5), (5, .aload_n 0, 0, 0, 0, 6), (6, .iconst 0, 0, 0, 0, 7), (7, .putfield 123, 800, 750, 0, 10), (10, .aload_n 0, 0, 0, 0, 11), (11, .iload_n 1, 0, 0, 0, 12), (12, .invokevirtual 138, 97, 900, 0, 15), (15, .ifCond .ne 9, 0, 0, 0, 18), (15, .ifCond .ne 9, 1, 0, 0, 24), (18, .aload_n 0, 0, 0, 0, 19), (19, .iconst 1, 0, 0, 1, 20), (20, .invokevirtual 149, 96, 915, 0, 23), (23, .ireturn, 0, 0, 0, 24), (24, .iload_n 2, 0, 0, 0, 25), (25, .iconst (-1), 0, 0, (-1), 26), (26, .if_icmp .eq 21, 0, 0, 0, 29), (26, .if_icmp .eq 21, 1, 0, 0, 47), (29, .iload_n 2, 0, 0, 0, 30), (30, .iconst 1, 0, 0, 1, 31), (31, .if_icmp .lt 10, 0, 0, 0, 34), (31, .if_icmp .lt 10, 1, 0, 0, 41), (34, .iload_n 2, 0, 0, 0, 35), (35, .sipush 1000, 0, 0, 1000, 38), (38, .if_icmp .le 9, 0, 0, 0, 41), (38, .if_icmp .le 9, 1, 0, 0, 47), (41, .aload_n 0, 0, 0, 0, 42), (42, .iconst 2, 0, 0, 2, 43), (43, .invokevirtual 149, 96, 915, 0, 46), (46, .ireturn, 0, 0, 0, 47), (47, .aload_n 0, 0, 0, 0, 48), (48, .getfield 17, 809, 759, 0, 51), (51, .iload_n 1, 0, 0, 0, 52), (52, .iload_n 2, 0, 0, 0, 53), (53, .iastore, 0, 0, 0, 54), (54, .iconst 1, 0, 0, 1, 55), (55, .ireturn, 0, 0, 0, 56)]
set_option maxRecDepth 100000 in
theorem ck_M_keeping : cd_M_keeping.all (ab_ok 134) = true := by decide +kernel
def cd_M_dueOf_0 : List ab_E := [(0, .iconst 0, 0, 0, 0, 1), (1, .istore_n 2, 0, 0, 0, 2), (2, .iconst 0, 0, 0, 0, 3), (3, .istore_n 3, 0, 0, 0, 4), (4, .iload_n 3, 0, 0, 0, 5), (5, .aload_n 0, 0, 0, 0, 6), (6, .getfield 132, 804, 754, 0, 9), (9, .if_icmp .ge 94, 0, 0, 0, 12), (9, .if_icmp .ge 94, 1, 0, 0, 103), (12, .aload_n 0, 0, 0, 0, 13), (13, .getfield 51, 820, 770, 0, 16), (16, .iload_n 3, 0, 0, 0, 17), (17, .iaload, 0, 0, 0, 18), (18, .aload_n 0, 0, 0, 0, 19), (19, .getfield 51, 820, 770, 0, 22), (22, .iload_n 1, 0, 0, 0, 23), (23, .iaload, 0, 0, 0, 24), (24, .if_icmp .eq 6, 0, 0, 0, 27), (24, .if_icmp .eq 6, 1, 0, 0, 30), (27, .goto 70, 0, 0, 0, 97), (30, .aload_n 0, 0, 0, 0, 31), (31, .getfield 30, 813, 763, 0, 34), (34, .iload_n 3, 0, 0, 0, 35), (35, .iaload, 0, 0, 0, 36), (36, .istore 4, 0, 0, 0, 38), (38, .iload 4, 0, 0, 0, 40), (40, .ifCond .lt 25, 0, 0, 0, 43), (40, .ifCond .lt 25, 1, 0, 0, 65), (43, .aload_n 0, 0, 0, 0, 44), (44, .getfield 17, 809, 759, 0, 47), (47, .iload 4, 0, 0, 0, 49), (49, .iaload, 0, 0, 0, 50), (50, .ifCond .ge 15, 0, 0, 0, 53), (50, .ifCond .ge 15, 1, 0, 0, 65), (53, .aload_n 0, 0, 0, 0, 54), (54, .getfield 13, 808, 758, 0, 57), (57, .iload 4, 0, 0, 0, 59), (59, .iaload, 0, 0, 0, 60), (60, .istore 4, 0, 0, 0, 62), (62, .goto (-24), 0, 0, 0, 38), (65, .iload_n 2, 0, 0, 0, 66), (66, .aload_n 0, 0, 0, 0, 67), (67, .getfield 42, 817, 767, 0, 70), (70, .iload_n 3, 0, 0, 0, 71), (71, .iaload, 0, 0, 0, 72), (72, .bipush 24, 0, 0, 24, 74), (74, .iload 4, 0, 0, 0, 76), (76, .ifCond .ge 8, 0, 0, 0, 79)]
set_option maxRecDepth 100000 in
theorem ck_M_dueOf_0 : cd_M_dueOf_0.all (ab_ok 135) = true := by decide +kernel
def cd_M_dueOf_1 : List ab_E := [(76, .ifCond .ge 8, 1, 0, 0, 84), (79, .bipush 30, 0, 0, 30, 81), (81, .goto 10, 0, 0, 0, 91), (84, .aload_n 0, 0, 0, 0, 85), (85, .getfield 17, 809, 759, 0, 88), (88, .iload 4, 0, 0, 0, 90), (90, .iaload, 0, 0, 0, 91), (91, .imul, 0, 0, 0, 92), (92, .iadd, 0, 0, 0, 93), (93, .invokestatic 179, 144, 981, 0, 96), (96, .istore_n 2, 0, 0, 0, 97), (97, .iinc 3 1, 0, 0, 1, 100), (100, .goto (-96), 0, 0, 0, 4), (103, .iload_n 2, 0, 0, 0, 104), (104, .ireturn, 0, 0, 0, 105)]
set_option maxRecDepth 100000 in
theorem ck_M_dueOf_1 : cd_M_dueOf_1.all (ab_ok 135) = true := by decide +kernel
/-- LostDeskModel.dueOf -/
def cd_M_dueOf : List ab_E := cd_M_dueOf_0 ++ (cd_M_dueOf_1)
theorem ck_M_dueOf : cd_M_dueOf.all (ab_ok 135) = true := ab_all_app ck_M_dueOf_0 (ck_M_dueOf_1)
/-- LostDeskModel.due -/
def cd_M_due : List ab_E := [(0, .aload_n 0, 0, 0, 0, 1), (1, .iconst 0, 0, 0, 0, 2), (2, .putfield 120, 801, 751, 0, 5), (5, .aload_n 0, 0, 0, 0, 6), (6, .iconst 0, 0, 0, 0, 7), (7, .putfield 123, 800, 750, 0, 10), (10, .aload_n 0, 0, 0, 0, 11), (11, .iload_n 1, 0, 0, 0, 12), (12, .invokevirtual 173, 99, 961, 0, 15), (15, .ifCond .eq 11, 0, 0, 0, 18), (15, .ifCond .eq 11, 1, 0, 0, 26), (18, .aload_n 0, 0, 0, 0, 19), (19, .iload_n 1, 0, 0, 0, 20), (20, .invokevirtual 235, 135, 1065, 0, 23), (23, .goto 8, 0, 0, 0, 31), (26, .aload_n 0, 0, 0, 0, 27), (27, .iconst 1, 0, 0, 1, 28), (28, .invokevirtual 142, 95, 904, 0, 31), (31, .ireturn, 0, 0, 0, 32)]
set_option maxRecDepth 100000 in
theorem ck_M_due : cd_M_due.all (ab_ok 136) = true := by decide +kernel
def cd_M_tick_0 : List ab_E := [(0, .aload_n 0, 0, 0, 0, 1), (1, .iconst 0, 0, 0, 0, 2), (2, .putfield 120, 801, 751, 0, 5), (5, .aload_n 0, 0, 0, 0, 6), (6, .iconst 0, 0, 0, 0, 7), (7, .putfield 123, 800, 750, 0, 10), (10, .iload_n 1, 0, 0, 0, 11), (11, .aload_n 0, 0, 0, 0, 12), (12, .getfield 238, 807, 757, 0, 15), (15, .if_icmp .lt 9, 0, 0, 0, 18), (15, .if_icmp .lt 9, 1, 0, 0, 24), (18, .iload_n 1, 0, 0, 0, 19), (19, .ldc 241, 0, 1073, 200000, 21), (21, .if_icmp .le 9, 0, 0, 0, 24), (21, .if_icmp .le 9, 1, 0, 0, 30), (24, .aload_n 0, 0, 0, 0, 25), (25, .iconst 2, 0, 0, 2, 26), (26, .invokevirtual 142, 95, 904, 0, 29), (29, .ireturn, 0, 0, 0, 30), (30, .aload_n 0, 0, 0, 0, 31), (31, .iload_n 1, 0, 0, 0, 32), (32, .putfield 238, 807, 757, 0, 35), (35, .iconst 0, 0, 0, 0, 36), (36, .istore_n 2, 0, 0, 0, 37), (37, .iconst 0, 0, 0, 0, 38), (38, .istore_n 3, 0, 0, 0, 39), (39, .iload_n 3, 0, 0, 0, 40), (40, .aload_n 0, 0, 0, 0, 41), (41, .getfield 132, 804, 754, 0, 44), (44, .if_icmp .ge 40, 0, 0, 0, 47), (44, .if_icmp .ge 40, 1, 0, 0, 84), (47, .aload_n 0, 0, 0, 0, 48), (48, .getfield 45, 818, 768, 0, 51), (51, .iload_n 3, 0, 0, 0, 52), (52, .iaload, 0, 0, 0, 53), (53, .ifCond .ne 25, 0, 0, 0, 56), (53, .ifCond .ne 25, 1, 0, 0, 78), (56, .aload_n 0, 0, 0, 0, 57), (57, .iload_n 3, 0, 0, 0, 58), (58, .invokevirtual 235, 135, 1065, 0, 61), (61, .iload_n 1, 0, 0, 0, 62), (62, .if_icmp .lt 6, 0, 0, 0, 65), (62, .if_icmp .lt 6, 1, 0, 0, 68), (65, .goto 13, 0, 0, 0, 78), (68, .aload_n 0, 0, 0, 0, 69), (69, .getfield 45, 818, 768, 0, 72), (72, .iload_n 3, 0, 0, 0, 73), (73, .iconst 2, 0, 0, 2, 74)]
set_option maxRecDepth 100000 in
theorem ck_M_tick_0 : cd_M_tick_0.all (ab_ok 137) = true := by decide +kernel
def cd_M_tick_1 : List ab_E := [(74, .iastore, 0, 0, 0, 75), (75, .iinc 2 1, 0, 0, 1, 78), (78, .iinc 3 1, 0, 0, 1, 81), (81, .goto (-42), 0, 0, 0, 39), (84, .iload_n 2, 0, 0, 0, 85), (85, .ireturn, 0, 0, 0, 86)]
set_option maxRecDepth 100000 in
theorem ck_M_tick_1 : cd_M_tick_1.all (ab_ok 137) = true := by decide +kernel
/-- LostDeskModel.tick -/
def cd_M_tick : List ab_E := cd_M_tick_0 ++ (cd_M_tick_1)
theorem ck_M_tick : cd_M_tick.all (ab_ok 137) = true := ab_all_app ck_M_tick_0 (ck_M_tick_1)
/-- LostDeskModel.share -/
def cd_M_share : List ab_E := [(0, .iload_n 2, 0, 0, 0, 1), (1, .iconst 4, 0, 0, 4, 2), (2, .if_icmp .ge 12, 0, 0, 0, 5), (2, .if_icmp .ge 12, 1, 0, 0, 14), (5, .iload_n 0, 0, 0, 0, 6), (6, .bipush 8, 0, 0, 8, 8), (8, .iload_n 2, 0, 0, 0, 9), (9, .imul, 0, 0, 0, 10), (10, .ishr, 0, 0, 0, 11), (11, .goto 11, 0, 0, 0, 22), (14, .iload_n 1, 0, 0, 0, 15), (15, .bipush 8, 0, 0, 8, 17), (17, .iload_n 2, 0, 0, 0, 18), (18, .iconst 4, 0, 0, 4, 19), (19, .isub, 0, 0, 0, 20), (20, .imul, 0, 0, 0, 21), (21, .ishr, 0, 0, 0, 22), (22, .sipush 255, 0, 0, 255, 25), (25, .iand, 0, 0, 0, 26), (26, .ireturn, 0, 0, 0, 27)]
set_option maxRecDepth 100000 in
theorem ck_M_share : cd_M_share.all (ab_ok 138) = true := by decide +kernel
def cd_M_reward_0 : List ab_E := [(0, .aload_n 0, 0, 0, 0, 1), (1, .iconst 0, 0, 0, 0, 2), (2, .putfield 120, 801, 751, 0, 5), (5, .aload_n 0, 0, 0, 0, 6), (6, .iconst 0, 0, 0, 0, 7), (7, .putfield 123, 800, 750, 0, 10), (10, .aload_n 0, 0, 0, 0, 11), (11, .iload_n 1, 0, 0, 0, 12), (12, .invokevirtual 173, 99, 961, 0, 15), (15, .ifCond .ne 9, 0, 0, 0, 18), (15, .ifCond .ne 9, 1, 0, 0, 24), (18, .aload_n 0, 0, 0, 0, 19), (19, .iconst 1, 0, 0, 1, 20), (20, .invokevirtual 142, 95, 904, 0, 23), (23, .ireturn, 0, 0, 0, 24), (24, .iconst 0, 0, 0, 0, 25), (25, .istore 5, 0, 0, 0, 27), (27, .iconst 0, 0, 0, 0, 28), (28, .istore 6, 0, 0, 0, 30), (30, .iload 5, 0, 0, 0, 32), (32, .bipush 8, 0, 0, 8, 34), (34, .if_icmp .ge 52, 0, 0, 0, 37), (34, .if_icmp .ge 52, 1, 0, 0, 86), (37, .iload_n 3, 0, 0, 0, 38), (38, .iload 4, 0, 0, 0, 40), (40, .iload 5, 0, 0, 0, 42), (42, .invokestatic 242, 138, 1078, 0, 45), (45, .ifCond .le 41, 0, 0, 0, 48), (45, .ifCond .le 41, 1, 0, 0, 86), (48, .iload_n 3, 0, 0, 0, 49), (49, .iload 4, 0, 0, 0, 51), (51, .iload 5, 0, 0, 0, 53), (53, .invokestatic 242, 138, 1078, 0, 56), (56, .bipush 100, 0, 0, 100, 58), (58, .if_icmp .le 9, 0, 0, 0, 61), (58, .if_icmp .le 9, 1, 0, 0, 67), (61, .aload_n 0, 0, 0, 0, 62), (62, .iconst 2, 0, 0, 2, 63), (63, .invokevirtual 142, 95, 904, 0, 66), (66, .ireturn, 0, 0, 0, 67), (67, .iload 6, 0, 0, 0, 69), (69, .iload_n 3, 0, 0, 0, 70), (70, .iload 4, 0, 0, 0, 72), (72, .iload 5, 0, 0, 0, 74), (74, .invokestatic 242, 138, 1078, 0, 77), (77, .iadd, 0, 0, 0, 78), (78, .istore 6, 0, 0, 0, 80), (80, .iinc 5 1, 0, 0, 1, 83)]
set_option maxRecDepth 100000 in
theorem ck_M_reward_0 : cd_M_reward_0.all (ab_ok 139) = true := by decide +kernel
def cd_M_reward_1 : List ab_E := [(83, .goto (-53), 0, 0, 0, 30), (86, .iload 5, 0, 0, 0, 88), (88, .istore 7, 0, 0, 0, 90), (90, .iload 7, 0, 0, 0, 92), (92, .bipush 8, 0, 0, 8, 94), (94, .if_icmp .ge 26, 0, 0, 0, 97), (94, .if_icmp .ge 26, 1, 0, 0, 120), (97, .iload_n 3, 0, 0, 0, 98), (98, .iload 4, 0, 0, 0, 100), (100, .iload 7, 0, 0, 0, 102), (102, .invokestatic 242, 138, 1078, 0, 105), (105, .ifCond .le 9, 0, 0, 0, 108), (105, .ifCond .le 9, 1, 0, 0, 114), (108, .aload_n 0, 0, 0, 0, 109), (109, .iconst 2, 0, 0, 2, 110), (110, .invokevirtual 142, 95, 904, 0, 113), (113, .ireturn, 0, 0, 0, 114), (114, .iinc 7 1, 0, 0, 1, 117), (117, .goto (-27), 0, 0, 0, 90), (120, .iload_n 2, 0, 0, 0, 121), (121, .ifCond .lt 14, 0, 0, 0, 124), (121, .ifCond .lt 14, 1, 0, 0, 135), (124, .iload_n 2, 0, 0, 0, 125), (125, .ldc 246, 0, 1081, 1000000, 127), (127, .if_icmp .gt 8, 0, 0, 0, 130), (127, .if_icmp .gt 8, 1, 0, 0, 135), (130, .iload 5, 0, 0, 0, 132), (132, .ifCond .ne 9, 0, 0, 0, 135), (132, .ifCond .ne 9, 1, 0, 0, 141), (135, .aload_n 0, 0, 0, 0, 136), (136, .iconst 2, 0, 0, 2, 137), (137, .invokevirtual 142, 95, 904, 0, 140), (140, .ireturn, 0, 0, 0, 141), (141, .iload_n 2, 0, 0, 0, 142), (142, .istore 7, 0, 0, 0, 144), (144, .iconst 0, 0, 0, 0, 145), (145, .istore 8, 0, 0, 0, 147), (147, .iload 8, 0, 0, 0, 149), (149, .iload 5, 0, 0, 0, 151), (151, .if_icmp .ge 45, 0, 0, 0, 154), (151, .if_icmp .ge 45, 1, 0, 0, 196), (154, .aload_n 0, 0, 0, 0, 155), (155, .getfield 114, 843, 793, 0, 158), (158, .iload 8, 0, 0, 0, 160), (160, .iload_n 2, 0, 0, 0, 161), (161, .i2l, 0, 0, 0, 162), (162, .iload_n 3, 0, 0, 0, 163), (163, .iload 4, 0, 0, 0, 165)]
set_option maxRecDepth 100000 in
theorem ck_M_reward_1 : cd_M_reward_1.all (ab_ok 139) = true := by decide +kernel
def cd_M_reward_2 : List ab_E := [(165, .iload 8, 0, 0, 0, 167), (167, .invokestatic 242, 138, 1078, 0, 170), (170, .i2l, 0, 0, 0, 171), (171, .lmul, 0, 0, 0, 172), (172, .iload 6, 0, 0, 0, 174), (174, .i2l, 0, 0, 0, 175), (175, .ldiv, 0, 0, 0, 176), (176, .l2i, 0, 0, 0, 177), (177, .iastore, 0, 0, 0, 178), (178, .iload 7, 0, 0, 0, 180), (180, .aload_n 0, 0, 0, 0, 181), (181, .getfield 114, 843, 793, 0, 184), (184, .iload 8, 0, 0, 0, 186), (186, .iaload, 0, 0, 0, 187), (187, .isub, 0, 0, 0, 188), (188, .istore 7, 0, 0, 0, 190), (190, .iinc 8 1, 0, 0, 1, 193), (193, .goto (-46), 0, 0, 0, 147), (196, .iconst 0, 0, 0, 0, 197), (197, .istore 8, 0, 0, 0, 199), (199, .iload 8, 0, 0, 0, 201), (201, .iload 7, 0, 0, 0, 203), (203, .if_icmp .ge 20, 0, 0, 0, 206), (203, .if_icmp .ge 20, 1, 0, 0, 223), (206, .aload_n 0, 0, 0, 0, 207), (207, .getfield 114, 843, 793, 0, 210), (210, .iload 8, 0, 0, 0, 212), (212, .dup2, 0, 0, 0, 213), (213, .iaload, 0, 0, 0, 214), (214, .iconst 1, 0, 0, 1, 215), (215, .iadd, 0, 0, 0, 216), (216, .iastore, 0, 0, 0, 217), (217, .iinc 8 1, 0, 0, 1, 220), (220, .goto (-21), 0, 0, 0, 199), (223, .aload_n 0, 0, 0, 0, 224), (224, .iload 5, 0, 0, 0, 226), (226, .putfield 247, 844, 794, 0, 229), (229, .iload 5, 0, 0, 0, 231), (231, .ireturn, 0, 0, 0, 232)]
set_option maxRecDepth 100000 in
theorem ck_M_reward_2 : cd_M_reward_2.all (ab_ok 139) = true := by decide +kernel
/-- LostDeskModel.reward -/
def cd_M_reward : List ab_E := cd_M_reward_0 ++ (cd_M_reward_1 ++ (cd_M_reward_2))
theorem ck_M_reward : cd_M_reward.all (ab_ok 139) = true := ab_all_app ck_M_reward_0 (ab_all_app ck_M_reward_1 (ck_M_reward_2))
/-- LostDeskModel.out -/
def cd_M_out : List ab_E := [(0, .aload_n 0, 0, 0, 0, 1), (1, .iconst 0, 0, 0, 0, 2), (2, .putfield 120, 801, 751, 0, 5), (5, .iload_n 1, 0, 0, 0, 6), (6, .ifCond .lt 20, 0, 0, 0, 9), (6, .ifCond .lt 20, 1, 0, 0, 26), (9, .iload_n 1, 0, 0, 0, 10), (10, .aload_n 0, 0, 0, 0, 11), (11, .getfield 247, 844, 794, 0, 14), (14, .if_icmp .ge 12, 0, 0, 0, 17), (14, .if_icmp .ge 12, 1, 0, 0, 26), (17, .aload_n 0, 0, 0, 0, 18), (18, .getfield 114, 843, 793, 0, 21), (21, .iload_n 1, 0, 0, 0, 22), (22, .iaload, 0, 0, 0, 23), (23, .goto 4, 0, 0, 0, 27), (26, .iconst (-1), 0, 0, (-1), 27), (27, .ireturn, 0, 0, 0, 28)]
set_option maxRecDepth 100000 in
theorem ck_M_out : cd_M_out.all (ab_ok 140) = true := by decide +kernel
/-- java/lang/Integer.bitCount -/
def cd_J_bitCount : List ab_E := [(0, .iload_n 0, 0, 0, 0, 1), (1, .iload_n 0, 0, 0, 0, 2), (2, .iconst 1, 0, 0, 1, 3), (3, .iushr, 0, 0, 0, 4), (4, .ldc_w 265, 0, 523, 1431655765, 7), (7, .iand, 0, 0, 0, 8), (8, .isub, 0, 0, 0, 9), (9, .istore_n 0, 0, 0, 0, 10), (10, .iload_n 0, 0, 0, 0, 11), (11, .ldc_w 266, 0, 524, 858993459, 14), (14, .iand, 0, 0, 0, 15), (15, .iload_n 0, 0, 0, 0, 16), (16, .iconst 2, 0, 0, 2, 17), (17, .iushr, 0, 0, 0, 18), (18, .ldc_w 266, 0, 524, 858993459, 21), (21, .iand, 0, 0, 0, 22), (22, .iadd, 0, 0, 0, 23), (23, .istore_n 0, 0, 0, 0, 24), (24, .iload_n 0, 0, 0, 0, 25), (25, .iload_n 0, 0, 0, 0, 26), (26, .iconst 4, 0, 0, 4, 27), (27, .iushr, 0, 0, 0, 28), (28, .iadd, 0, 0, 0, 29), (29, .ldc_w 267, 0, 525, 252645135, 32), (32, .iand, 0, 0, 0, 33), (33, .istore_n 0, 0, 0, 0, 34), (34, .iload_n 0, 0, 0, 0, 35), (35, .iload_n 0, 0, 0, 0, 36), (36, .bipush 8, 0, 0, 8, 38), (38, .iushr, 0, 0, 0, 39), (39, .iadd, 0, 0, 0, 40), (40, .istore_n 0, 0, 0, 0, 41), (41, .iload_n 0, 0, 0, 0, 42), (42, .iload_n 0, 0, 0, 0, 43), (43, .bipush 16, 0, 0, 16, 45), (45, .iushr, 0, 0, 0, 46), (46, .iadd, 0, 0, 0, 47), (47, .istore_n 0, 0, 0, 0, 48), (48, .iload_n 0, 0, 0, 0, 49), (49, .bipush 63, 0, 0, 63, 51), (51, .iand, 0, 0, 0, 52), (52, .ireturn, 0, 0, 0, 53)]
set_option maxRecDepth 100000 in
theorem ck_J_bitCount : cd_J_bitCount.all (ab_ok 141) = true := by decide +kernel
def cd_J_bitCountL_0 : List ab_E := [(0, .lload_n 0, 0, 0, 0, 1), (1, .lload_n 0, 0, 0, 0, 2), (2, .iconst 1, 0, 0, 1, 3), (3, .lushr, 0, 0, 0, 4), (4, .ldc2_w 314, 2, 509, 0, 7), (7, .land, 0, 0, 0, 8), (8, .lsub, 0, 0, 0, 9), (9, .lstore_n 0, 0, 0, 0, 10), (10, .lload_n 0, 0, 0, 0, 11), (11, .ldc2_w 316, 3, 510, 0, 14), (14, .land, 0, 0, 0, 15), (15, .lload_n 0, 0, 0, 0, 16), (16, .iconst 2, 0, 0, 2, 17), (17, .lushr, 0, 0, 0, 18), (18, .ldc2_w 316, 3, 510, 0, 21), (21, .land, 0, 0, 0, 22), (22, .ladd, 0, 0, 0, 23), (23, .lstore_n 0, 0, 0, 0, 24), (24, .lload_n 0, 0, 0, 0, 25), (25, .lload_n 0, 0, 0, 0, 26), (26, .iconst 4, 0, 0, 4, 27), (27, .lushr, 0, 0, 0, 28), (28, .ladd, 0, 0, 0, 29), (29, .ldc2_w 318, 4, 511, 0, 32), (32, .land, 0, 0, 0, 33), (33, .lstore_n 0, 0, 0, 0, 34), (34, .lload_n 0, 0, 0, 0, 35), (35, .lload_n 0, 0, 0, 0, 36), (36, .bipush 8, 0, 0, 8, 38), (38, .lushr, 0, 0, 0, 39), (39, .ladd, 0, 0, 0, 40), (40, .lstore_n 0, 0, 0, 0, 41), (41, .lload_n 0, 0, 0, 0, 42), (42, .lload_n 0, 0, 0, 0, 43), (43, .bipush 16, 0, 0, 16, 45), (45, .lushr, 0, 0, 0, 46), (46, .ladd, 0, 0, 0, 47), (47, .lstore_n 0, 0, 0, 0, 48), (48, .lload_n 0, 0, 0, 0, 49), (49, .lload_n 0, 0, 0, 0, 50), (50, .bipush 32, 0, 0, 32, 52), (52, .lushr, 0, 0, 0, 53), (53, .ladd, 0, 0, 0, 54), (54, .lstore_n 0, 0, 0, 0, 55), (55, .lload_n 0, 0, 0, 0, 56), (56, .l2i, 0, 0, 0, 57), (57, .bipush 127, 0, 0, 127, 59), (59, .iand, 0, 0, 0, 60)]
set_option maxRecDepth 100000 in
theorem ck_J_bitCountL_0 : cd_J_bitCountL_0.all (ab_ok 142) = true := by decide +kernel
def cd_J_bitCountL_1 : List ab_E := [(60, .ireturn, 0, 0, 0, 61)]
set_option maxRecDepth 100000 in
theorem ck_J_bitCountL_1 : cd_J_bitCountL_1.all (ab_ok 142) = true := by decide +kernel
/-- java/lang/Long.bitCount -/
def cd_J_bitCountL : List ab_E := cd_J_bitCountL_0 ++ (cd_J_bitCountL_1)
theorem ck_J_bitCountL : cd_J_bitCountL.all (ab_ok 142) = true := ab_all_app ck_J_bitCountL_0 (ck_J_bitCountL_1)
/-- java/lang/Math.abs -/
def cd_J_abs : List ab_E := [(0, .iload_n 0, 0, 0, 0, 1), (1, .ifCond .ge 8, 0, 0, 0, 4), (1, .ifCond .ge 8, 1, 0, 0, 9), (4, .iload_n 0, 0, 0, 0, 5), (5, .ineg, 0, 0, 0, 6), (6, .goto 4, 0, 0, 0, 10), (9, .iload_n 0, 0, 0, 0, 10), (10, .ireturn, 0, 0, 0, 11)]
set_option maxRecDepth 100000 in
theorem ck_J_abs : cd_J_abs.all (ab_ok 143) = true := by decide +kernel
/-- java/lang/Math.max -/
def cd_J_max : List ab_E := [(0, .iload_n 0, 0, 0, 0, 1), (1, .iload_n 1, 0, 0, 0, 2), (2, .if_icmp .lt 7, 0, 0, 0, 5), (2, .if_icmp .lt 7, 1, 0, 0, 9), (5, .iload_n 0, 0, 0, 0, 6), (6, .goto 4, 0, 0, 0, 10), (9, .iload_n 1, 0, 0, 0, 10), (10, .ireturn, 0, 0, 0, 11)]
set_option maxRecDepth 100000 in
theorem ck_J_max : cd_J_max.all (ab_ok 144) = true := by decide +kernel
/-- java/lang/Math.min -/
def cd_J_min : List ab_E := [(0, .iload_n 0, 0, 0, 0, 1), (1, .iload_n 1, 0, 0, 0, 2), (2, .if_icmp .gt 7, 0, 0, 0, 5), (2, .if_icmp .gt 7, 1, 0, 0, 9), (5, .iload_n 0, 0, 0, 0, 6), (6, .goto 4, 0, 0, 0, 10), (9, .iload_n 1, 0, 0, 0, 10), (10, .ireturn, 0, 0, 0, 11)]
set_option maxRecDepth 100000 in
theorem ck_J_min : cd_J_min.all (ab_ok 145) = true := by decide +kernel
/-- java/util/Arrays.fill -/
def cd_J_fill : List ab_E := [(0, .iconst 0, 0, 0, 0, 1), (1, .istore_n 2, 0, 0, 0, 2), (2, .aload_n 0, 0, 0, 0, 3), (3, .arraylength, 0, 0, 0, 4), (4, .istore_n 3, 0, 0, 0, 5), (5, .iload_n 2, 0, 0, 0, 6), (6, .iload_n 3, 0, 0, 0, 7), (7, .if_icmp .ge 13, 0, 0, 0, 10), (7, .if_icmp .ge 13, 1, 0, 0, 20), (10, .aload_n 0, 0, 0, 0, 11), (11, .iload_n 2, 0, 0, 0, 12), (12, .iload_n 1, 0, 0, 0, 13), (13, .iastore, 0, 0, 0, 14), (14, .iinc 2 1, 0, 0, 1, 17), (17, .goto (-12), 0, 0, 0, 5), (20, .return_, 0, 0, 0, 21)]
set_option maxRecDepth 100000 in
theorem ck_J_fill : cd_J_fill.all (ab_ok 146) = true := by decide +kernel
end
section
def cd_L_law_0 : List ab_E := [(3, .dup, 0, 0, 0, 4), (7, .astore_n 1, 0, 0, 0, 8), (11, .dup, 0, 0, 0, 12), (15, .astore_n 2, 0, 0, 0, 16), (16, .iconst 0, 0, 0, 0, 17), (17, .istore_n 3, 0, 0, 0, 18), (18, .iload_n 3, 0, 0, 0, 19), (19, .aload_n 0, 0, 0, 0, 20), (20, .arraylength, 0, 0, 0, 21), (21, .bipush 7, 0, 0, 7, 23), (23, .isub, 0, 0, 0, 24), (24, .if_icmp .gt 946, 0, 0, 0, 27), (24, .if_icmp .gt 946, 1, 0, 0, 970), (27, .aload_n 0, 0, 0, 0, 28), (28, .iload_n 3, 0, 0, 0, 29), (29, .iaload, 0, 0, 0, 30), (30, .bipush 31, 0, 0, 31, 32), (32, .iand, 0, 0, 0, 33), (33, .tableswitch 931 0 23 #[111, 124, 147, 206, 219, 262, 295, 358, 433, 466, 499, 522, 535, 558, 591, 624, 657, 710, 743, 776, 809, 832, 855, 908], 0, 0, 0, 964), (33, .tableswitch 931 0 23 #[111, 124, 147, 206, 219, 262, 295, 358, 433, 466, 499, 522, 535, 558, 591, 624, 657, 710, 743, 776, 809, 832, 855, 908], 1, 0, 0, 144), (33, .tableswitch 931 0 23 #[111, 124, 147, 206, 219, 262, 295, 358, 433, 466, 499, 522, 535, 558, 591, 624, 657, 710, 743, 776, 809, 832, 855, 908], 1, 1, 1, 157), (33, .tableswitch 931 0 23 #[111, 124, 147, 206, 219, 262, 295, 358, 433, 466, 499, 522, 535, 558, 591, 624, 657, 710, 743, 776, 809, 832, 855, 908], 1, 2, 2, 180), (33, .tableswitch 931 0 23 #[111, 124, 147, 206, 219, 262, 295, 358, 433, 466, 499, 522, 535, 558, 591, 624, 657, 710, 743, 776, 809, 832, 855, 908], 1, 3, 3, 239), (33, .tableswitch 931 0 23 #[111, 124, 147, 206, 219, 262, 295, 358, 433, 466, 499, 522, 535, 558, 591, 624, 657, 710, 743, 776, 809, 832, 855, 908], 1, 4, 4, 252), (33, .tableswitch 931 0 23 #[111, 124, 147, 206, 219, 262, 295, 358, 433, 466, 499, 522, 535, 558, 591, 624, 657, 710, 743, 776, 809, 832, 855, 908], 1, 5, 5, 295), (33, .tableswitch 931 0 23 #[111, 124, 147, 206, 219, 262, 295, 358, 433, 466, 499, 522, 535, 558, 591, 624, 657, 710, 743, 776, 809, 832, 855, 908], 1, 6, 6, 328), (33, .tableswitch 931 0 23 #[111, 124, 147, 206, 219, 262, 295, 358, 433, 466, 499, 522, 535, 558, 591, 624, 657, 710, 743, 776, 809, 832, 855, 908], 1, 7, 7, 391), (33, .tableswitch 931 0 23 #[111, 124, 147, 206, 219, 262, 295, 358, 433, 466, 499, 522, 535, 558, 591, 624, 657, 710, 743, 776, 809, 832, 855, 908], 1, 8, 8, 466), (33, .tableswitch 931 0 23 #[111, 124, 147, 206, 219, 262, 295, 358, 433, 466, 499, 522, 535, 558, 591, 624, 657, 710, 743, 776, 809, 832, 855, 908], 1, 9, 9, 499), (33, .tableswitch 931 0 23 #[111, 124, 147, 206, 219, 262, 295, 358, 433, 466, 499, 522, 535, 558, 591, 624, 657, 710, 743, 776, 809, 832, 855, 908], 1, 10, 10, 532), (33, .tableswitch 931 0 23 #[111, 124, 147, 206, 219, 262, 295, 358, 433, 466, 499, 522, 535, 558, 591, 624, 657, 710, 743, 776, 809, 832, 855, 908], 1, 11, 11, 555), (33, .tableswitch 931 0 23 #[111, 124, 147, 206, 219, 262, 295, 358, 433, 466, 499, 522, 535, 558, 591, 624, 657, 710, 743, 776, 809, 832, 855, 908], 1, 12, 12, 568), (33, .tableswitch 931 0 23 #[111, 124, 147, 206, 219, 262, 295, 358, 433, 466, 499, 522, 535, 558, 591, 624, 657, 710, 743, 776, 809, 832, 855, 908], 1, 13, 13, 591), (33, .tableswitch 931 0 23 #[111, 124, 147, 206, 219, 262, 295, 358, 433, 466, 499, 522, 535, 558, 591, 624, 657, 710, 743, 776, 809, 832, 855, 908], 1, 14, 14, 624), (33, .tableswitch 931 0 23 #[111, 124, 147, 206, 219, 262, 295, 358, 433, 466, 499, 522, 535, 558, 591, 624, 657, 710, 743, 776, 809, 832, 855, 908], 1, 15, 15, 657), (33, .tableswitch 931 0 23 #[111, 124, 147, 206, 219, 262, 295, 358, 433, 466, 499, 522, 535, 558, 591, 624, 657, 710, 743, 776, 809, 832, 855, 908], 1, 16, 16, 690), (33, .tableswitch 931 0 23 #[111, 124, 147, 206, 219, 262, 295, 358, 433, 466, 499, 522, 535, 558, 591, 624, 657, 710, 743, 776, 809, 832, 855, 908], 1, 17, 17, 743), (33, .tableswitch 931 0 23 #[111, 124, 147, 206, 219, 262, 295, 358, 433, 466, 499, 522, 535, 558, 591, 624, 657, 710, 743, 776, 809, 832, 855, 908], 1, 18, 18, 776), (33, .tableswitch 931 0 23 #[111, 124, 147, 206, 219, 262, 295, 358, 433, 466, 499, 522, 535, 558, 591, 624, 657, 710, 743, 776, 809, 832, 855, 908], 1, 19, 19, 809), (33, .tableswitch 931 0 23 #[111, 124, 147, 206, 219, 262, 295, 358, 433, 466, 499, 522, 535, 558, 591, 624, 657, 710, 743, 776, 809, 832, 855, 908], 1, 20, 20, 842), (33, .tableswitch 931 0 23 #[111, 124, 147, 206, 219, 262, 295, 358, 433, 466, 499, 522, 535, 558, 591, 624, 657, 710, 743, 776, 809, 832, 855, 908], 1, 21, 21, 865), (33, .tableswitch 931 0 23 #[111, 124, 147, 206, 219, 262, 295, 358, 433, 466, 499, 522, 535, 558, 591, 624, 657, 710, 743, 776, 809, 832, 855, 908], 1, 22, 22, 888), (33, .tableswitch 931 0 23 #[111, 124, 147, 206, 219, 262, 295, 358, 433, 466, 499, 522, 535, 558, 591, 624, 657, 710, 743, 776, 809, 832, 855, 908], 1, 23, 23, 941), (144, .aload_n 1, 0, 0, 0, 145), (145, .invokevirtual 13, 54, 337, 0, 148), (148, .aload_n 2, 0, 0, 0, 149), (149, .invokevirtual 17, 94, 892, 0, 152), (152, .if_icmp .eq 812, 0, 0, 0, 155)]
set_option maxRecDepth 100000 in
theorem ck_L_law_0 : cd_L_law_0.all (ab_ok 147) = true := by decide +kernel
def cd_L_law_1 : List ab_E := [(152, .if_icmp .eq 812, 1, 0, 0, 964), (155, .iconst 0, 0, 0, 0, 156), (156, .ireturn, 0, 0, 0, 157), (157, .aload_n 1, 0, 0, 0, 158), (158, .aload_n 0, 0, 0, 0, 159), (159, .iload_n 3, 0, 0, 0, 160), (160, .iconst 1, 0, 0, 1, 161), (161, .iadd, 0, 0, 0, 162), (162, .iaload, 0, 0, 0, 163), (163, .invokevirtual 18, 55, 341, 0, 166), (166, .aload_n 2, 0, 0, 0, 167), (167, .aload_n 0, 0, 0, 0, 168), (168, .iload_n 3, 0, 0, 0, 169), (169, .iconst 1, 0, 0, 1, 170), (170, .iadd, 0, 0, 0, 171), (171, .iaload, 0, 0, 0, 172), (172, .invokevirtual 22, 102, 896, 0, 175), (175, .if_icmp .eq 789, 0, 0, 0, 178), (175, .if_icmp .eq 789, 1, 0, 0, 964), (178, .iconst 0, 0, 0, 0, 179), (179, .ireturn, 0, 0, 0, 180), (180, .aload_n 1, 0, 0, 0, 181), (181, .aload_n 0, 0, 0, 0, 182), (182, .iload_n 3, 0, 0, 0, 183), (183, .iconst 1, 0, 0, 1, 184), (184, .iadd, 0, 0, 0, 185), (185, .iaload, 0, 0, 0, 186), (186, .aload_n 0, 0, 0, 0, 187), (187, .iload_n 3, 0, 0, 0, 188), (188, .iconst 2, 0, 0, 2, 189), (189, .iadd, 0, 0, 0, 190), (190, .iaload, 0, 0, 0, 191), (191, .aload_n 0, 0, 0, 0, 192), (192, .iload_n 3, 0, 0, 0, 193), (193, .iconst 3, 0, 0, 3, 194), (194, .iadd, 0, 0, 0, 195), (195, .iaload, 0, 0, 0, 196), (196, .ifCond .eq 7, 0, 0, 0, 199), (196, .ifCond .eq 7, 1, 0, 0, 203), (199, .iconst 1, 0, 0, 1, 200), (200, .goto 4, 0, 0, 0, 204), (203, .iconst 0, 0, 0, 0, 204), (204, .invokevirtual 23, 56, 369, 0, 207), (207, .aload_n 2, 0, 0, 0, 208), (208, .aload_n 0, 0, 0, 0, 209), (209, .iload_n 3, 0, 0, 0, 210), (210, .iconst 1, 0, 0, 1, 211), (211, .iadd, 0, 0, 0, 212)]
set_option maxRecDepth 100000 in
theorem ck_L_law_1 : cd_L_law_1.all (ab_ok 147) = true := by decide +kernel
def cd_L_law_2 : List ab_E := [(212, .iaload, 0, 0, 0, 213), (213, .aload_n 0, 0, 0, 0, 214), (214, .iload_n 3, 0, 0, 0, 215), (215, .iconst 2, 0, 0, 2, 216), (216, .iadd, 0, 0, 0, 217), (217, .iaload, 0, 0, 0, 218), (218, .aload_n 0, 0, 0, 0, 219), (219, .iload_n 3, 0, 0, 0, 220), (220, .iconst 3, 0, 0, 3, 221), (221, .iadd, 0, 0, 0, 222), (222, .iaload, 0, 0, 0, 223), (223, .ifCond .eq 7, 0, 0, 0, 226), (223, .ifCond .eq 7, 1, 0, 0, 230), (226, .iconst 1, 0, 0, 1, 227), (227, .goto 4, 0, 0, 0, 231), (230, .iconst 0, 0, 0, 0, 231), (231, .invokevirtual 27, 103, 908, 0, 234), (234, .if_icmp .eq 730, 0, 0, 0, 237), (234, .if_icmp .eq 730, 1, 0, 0, 964), (237, .iconst 0, 0, 0, 0, 238), (238, .ireturn, 0, 0, 0, 239), (239, .aload_n 1, 0, 0, 0, 240), (240, .invokevirtual 28, 57, 395, 0, 243), (243, .aload_n 2, 0, 0, 0, 244), (244, .invokevirtual 31, 104, 919, 0, 247), (247, .if_icmp .eq 717, 0, 0, 0, 250), (247, .if_icmp .eq 717, 1, 0, 0, 964), (250, .iconst 0, 0, 0, 0, 251), (251, .ireturn, 0, 0, 0, 252), (252, .aload_n 1, 0, 0, 0, 253), (253, .aload_n 0, 0, 0, 0, 254), (254, .iload_n 3, 0, 0, 0, 255), (255, .iconst 1, 0, 0, 1, 256), (256, .iadd, 0, 0, 0, 257), (257, .iaload, 0, 0, 0, 258), (258, .aload_n 0, 0, 0, 0, 259), (259, .iload_n 3, 0, 0, 0, 260), (260, .iconst 2, 0, 0, 2, 261), (261, .iadd, 0, 0, 0, 262), (262, .iaload, 0, 0, 0, 263), (263, .aload_n 0, 0, 0, 0, 264), (264, .iload_n 3, 0, 0, 0, 265), (265, .iconst 3, 0, 0, 3, 266), (266, .iadd, 0, 0, 0, 267), (267, .iaload, 0, 0, 0, 268), (268, .invokevirtual 32, 58, 408, 0, 271), (271, .aload_n 2, 0, 0, 0, 272), (272, .aload_n 0, 0, 0, 0, 273)]
set_option maxRecDepth 100000 in
theorem ck_L_law_2 : cd_L_law_2.all (ab_ok 147) = true := by decide +kernel
def cd_L_law_3 : List ab_E := [(273, .iload_n 3, 0, 0, 0, 274), (274, .iconst 1, 0, 0, 1, 275), (275, .iadd, 0, 0, 0, 276), (276, .iaload, 0, 0, 0, 277), (277, .aload_n 0, 0, 0, 0, 278), (278, .iload_n 3, 0, 0, 0, 279), (279, .iconst 2, 0, 0, 2, 280), (280, .iadd, 0, 0, 0, 281), (281, .iaload, 0, 0, 0, 282), (282, .aload_n 0, 0, 0, 0, 283), (283, .iload_n 3, 0, 0, 0, 284), (284, .iconst 3, 0, 0, 3, 285), (285, .iadd, 0, 0, 0, 286), (286, .iaload, 0, 0, 0, 287), (287, .invokevirtual 36, 105, 924, 0, 290), (290, .if_icmp .eq 674, 0, 0, 0, 293), (290, .if_icmp .eq 674, 1, 0, 0, 964), (293, .iconst 0, 0, 0, 0, 294), (294, .ireturn, 0, 0, 0, 295), (295, .aload_n 1, 0, 0, 0, 296), (296, .aload_n 0, 0, 0, 0, 297), (297, .iload_n 3, 0, 0, 0, 298), (298, .iconst 1, 0, 0, 1, 299), (299, .iadd, 0, 0, 0, 300), (300, .iaload, 0, 0, 0, 301), (301, .aload_n 0, 0, 0, 0, 302), (302, .iload_n 3, 0, 0, 0, 303), (303, .iconst 2, 0, 0, 2, 304), (304, .iadd, 0, 0, 0, 305), (305, .iaload, 0, 0, 0, 306), (306, .invokevirtual 37, 59, 428, 0, 309), (309, .aload_n 2, 0, 0, 0, 310), (310, .aload_n 0, 0, 0, 0, 311), (311, .iload_n 3, 0, 0, 0, 312), (312, .iconst 1, 0, 0, 1, 313), (313, .iadd, 0, 0, 0, 314), (314, .iaload, 0, 0, 0, 315), (315, .aload_n 0, 0, 0, 0, 316), (316, .iload_n 3, 0, 0, 0, 317), (317, .iconst 2, 0, 0, 2, 318), (318, .iadd, 0, 0, 0, 319), (319, .iaload, 0, 0, 0, 320), (320, .invokevirtual 41, 107, 932, 0, 323), (323, .if_icmp .eq 641, 0, 0, 0, 326), (323, .if_icmp .eq 641, 1, 0, 0, 964), (326, .iconst 0, 0, 0, 0, 327), (327, .ireturn, 0, 0, 0, 328), (328, .aload_n 1, 0, 0, 0, 329)]
set_option maxRecDepth 100000 in
theorem ck_L_law_3 : cd_L_law_3.all (ab_ok 147) = true := by decide +kernel
def cd_L_law_4 : List ab_E := [(329, .aload_n 0, 0, 0, 0, 330), (330, .iload_n 3, 0, 0, 0, 331), (331, .iconst 1, 0, 0, 1, 332), (332, .iadd, 0, 0, 0, 333), (333, .iaload, 0, 0, 0, 334), (334, .aload_n 0, 0, 0, 0, 335), (335, .iload_n 3, 0, 0, 0, 336), (336, .iconst 2, 0, 0, 2, 337), (337, .iadd, 0, 0, 0, 338), (338, .iaload, 0, 0, 0, 339), (339, .aload_n 0, 0, 0, 0, 340), (340, .iload_n 3, 0, 0, 0, 341), (341, .iconst 3, 0, 0, 3, 342), (342, .iadd, 0, 0, 0, 343), (343, .iaload, 0, 0, 0, 344), (344, .aload_n 0, 0, 0, 0, 345), (345, .iload_n 3, 0, 0, 0, 346), (346, .iconst 4, 0, 0, 4, 347), (347, .iadd, 0, 0, 0, 348), (348, .iaload, 0, 0, 0, 349), (349, .aload_n 0, 0, 0, 0, 350), (350, .iload_n 3, 0, 0, 0, 351), (351, .iconst 5, 0, 0, 5, 352), (352, .iadd, 0, 0, 0, 353), (353, .iaload, 0, 0, 0, 354), (354, .invokevirtual 42, 60, 449, 0, 357), (357, .aload_n 2, 0, 0, 0, 358), (358, .aload_n 0, 0, 0, 0, 359), (359, .iload_n 3, 0, 0, 0, 360), (360, .iconst 1, 0, 0, 1, 361), (361, .iadd, 0, 0, 0, 362), (362, .iaload, 0, 0, 0, 363), (363, .aload_n 0, 0, 0, 0, 364), (364, .iload_n 3, 0, 0, 0, 365), (365, .iconst 2, 0, 0, 2, 366), (366, .iadd, 0, 0, 0, 367), (367, .iaload, 0, 0, 0, 368), (368, .aload_n 0, 0, 0, 0, 369), (369, .iload_n 3, 0, 0, 0, 370), (370, .iconst 3, 0, 0, 3, 371), (371, .iadd, 0, 0, 0, 372), (372, .iaload, 0, 0, 0, 373), (373, .aload_n 0, 0, 0, 0, 374), (374, .iload_n 3, 0, 0, 0, 375), (375, .iconst 4, 0, 0, 4, 376), (376, .iadd, 0, 0, 0, 377), (377, .iaload, 0, 0, 0, 378), (378, .aload_n 0, 0, 0, 0, 379)]
set_option maxRecDepth 100000 in
theorem ck_L_law_4 : cd_L_law_4.all (ab_ok 147) = true := by decide +kernel
def cd_L_law_5 : List ab_E := [(379, .iload_n 3, 0, 0, 0, 380), (380, .iconst 5, 0, 0, 5, 381), (381, .iadd, 0, 0, 0, 382), (382, .iaload, 0, 0, 0, 383), (383, .invokevirtual 46, 110, 941, 0, 386), (386, .if_icmp .eq 578, 0, 0, 0, 389), (386, .if_icmp .eq 578, 1, 0, 0, 964), (389, .iconst 0, 0, 0, 0, 390), (390, .ireturn, 0, 0, 0, 391), (391, .aload_n 1, 0, 0, 0, 392), (392, .aload_n 0, 0, 0, 0, 393), (393, .iload_n 3, 0, 0, 0, 394), (394, .iconst 1, 0, 0, 1, 395), (395, .iadd, 0, 0, 0, 396), (396, .iaload, 0, 0, 0, 397), (397, .aload_n 0, 0, 0, 0, 398), (398, .iload_n 3, 0, 0, 0, 399), (399, .iconst 2, 0, 0, 2, 400), (400, .iadd, 0, 0, 0, 401), (401, .iaload, 0, 0, 0, 402), (402, .aload_n 0, 0, 0, 0, 403), (403, .iload_n 3, 0, 0, 0, 404), (404, .iconst 3, 0, 0, 3, 405), (405, .iadd, 0, 0, 0, 406), (406, .iaload, 0, 0, 0, 407), (407, .aload_n 0, 0, 0, 0, 408), (408, .iload_n 3, 0, 0, 0, 409), (409, .iconst 4, 0, 0, 4, 410), (410, .iadd, 0, 0, 0, 411), (411, .iaload, 0, 0, 0, 412), (412, .aload_n 0, 0, 0, 0, 413), (413, .iload_n 3, 0, 0, 0, 414), (414, .iconst 5, 0, 0, 5, 415), (415, .iadd, 0, 0, 0, 416), (416, .iaload, 0, 0, 0, 417), (417, .aload_n 0, 0, 0, 0, 418), (418, .iload_n 3, 0, 0, 0, 419), (419, .bipush 6, 0, 0, 6, 421), (421, .iadd, 0, 0, 0, 422), (422, .iaload, 0, 0, 0, 423), (423, .invokevirtual 47, 61, 470, 0, 426), (426, .aload_n 2, 0, 0, 0, 427), (427, .aload_n 0, 0, 0, 0, 428), (428, .iload_n 3, 0, 0, 0, 429), (429, .iconst 1, 0, 0, 1, 430), (430, .iadd, 0, 0, 0, 431), (431, .iaload, 0, 0, 0, 432), (432, .aload_n 0, 0, 0, 0, 433)]
set_option maxRecDepth 100000 in
theorem ck_L_law_5 : cd_L_law_5.all (ab_ok 147) = true := by decide +kernel
def cd_L_law_6 : List ab_E := [(433, .iload_n 3, 0, 0, 0, 434), (434, .iconst 2, 0, 0, 2, 435), (435, .iadd, 0, 0, 0, 436), (436, .iaload, 0, 0, 0, 437), (437, .aload_n 0, 0, 0, 0, 438), (438, .iload_n 3, 0, 0, 0, 439), (439, .iconst 3, 0, 0, 3, 440), (440, .iadd, 0, 0, 0, 441), (441, .iaload, 0, 0, 0, 442), (442, .aload_n 0, 0, 0, 0, 443), (443, .iload_n 3, 0, 0, 0, 444), (444, .iconst 4, 0, 0, 4, 445), (445, .iadd, 0, 0, 0, 446), (446, .iaload, 0, 0, 0, 447), (447, .aload_n 0, 0, 0, 0, 448), (448, .iload_n 3, 0, 0, 0, 449), (449, .iconst 5, 0, 0, 5, 450), (450, .iadd, 0, 0, 0, 451), (451, .iaload, 0, 0, 0, 452), (452, .aload_n 0, 0, 0, 0, 453), (453, .iload_n 3, 0, 0, 0, 454), (454, .bipush 6, 0, 0, 6, 456), (456, .iadd, 0, 0, 0, 457), (457, .iaload, 0, 0, 0, 458), (458, .invokevirtual 51, 111, 953, 0, 461), (461, .if_icmp .eq 503, 0, 0, 0, 464), (461, .if_icmp .eq 503, 1, 0, 0, 964), (464, .iconst 0, 0, 0, 0, 465), (465, .ireturn, 0, 0, 0, 466), (466, .aload_n 1, 0, 0, 0, 467), (467, .aload_n 0, 0, 0, 0, 468), (468, .iload_n 3, 0, 0, 0, 469), (469, .iconst 1, 0, 0, 1, 470), (470, .iadd, 0, 0, 0, 471), (471, .iaload, 0, 0, 0, 472), (472, .aload_n 0, 0, 0, 0, 473), (473, .iload_n 3, 0, 0, 0, 474), (474, .iconst 2, 0, 0, 2, 475), (475, .iadd, 0, 0, 0, 476), (476, .iaload, 0, 0, 0, 477), (477, .invokevirtual 52, 62, 482, 0, 480), (480, .aload_n 2, 0, 0, 0, 481), (481, .aload_n 0, 0, 0, 0, 482), (482, .iload_n 3, 0, 0, 0, 483), (483, .iconst 1, 0, 0, 1, 484), (484, .iadd, 0, 0, 0, 485), (485, .iaload, 0, 0, 0, 486), (486, .aload_n 0, 0, 0, 0, 487)]
set_option maxRecDepth 100000 in
theorem ck_L_law_6 : cd_L_law_6.all (ab_ok 147) = true := by decide +kernel
def cd_L_law_7 : List ab_E := [(487, .iload_n 3, 0, 0, 0, 488), (488, .iconst 2, 0, 0, 2, 489), (489, .iadd, 0, 0, 0, 490), (490, .iaload, 0, 0, 0, 491), (491, .invokevirtual 55, 112, 957, 0, 494), (494, .if_icmp .eq 470, 0, 0, 0, 497), (494, .if_icmp .eq 470, 1, 0, 0, 964), (497, .iconst 0, 0, 0, 0, 498), (498, .ireturn, 0, 0, 0, 499), (499, .aload_n 1, 0, 0, 0, 500), (500, .aload_n 0, 0, 0, 0, 501), (501, .iload_n 3, 0, 0, 0, 502), (502, .iconst 1, 0, 0, 1, 503), (503, .iadd, 0, 0, 0, 504), (504, .iaload, 0, 0, 0, 505), (505, .aload_n 0, 0, 0, 0, 506), (506, .iload_n 3, 0, 0, 0, 507), (507, .iconst 2, 0, 0, 2, 508), (508, .iadd, 0, 0, 0, 509), (509, .iaload, 0, 0, 0, 510), (510, .invokevirtual 56, 63, 490, 0, 513), (513, .aload_n 2, 0, 0, 0, 514), (514, .aload_n 0, 0, 0, 0, 515), (515, .iload_n 3, 0, 0, 0, 516), (516, .iconst 1, 0, 0, 1, 517), (517, .iadd, 0, 0, 0, 518), (518, .iaload, 0, 0, 0, 519), (519, .aload_n 0, 0, 0, 0, 520), (520, .iload_n 3, 0, 0, 0, 521), (521, .iconst 2, 0, 0, 2, 522), (522, .iadd, 0, 0, 0, 523), (523, .iaload, 0, 0, 0, 524), (524, .invokevirtual 59, 115, 965, 0, 527), (527, .if_icmp .eq 437, 0, 0, 0, 530), (527, .if_icmp .eq 437, 1, 0, 0, 964), (530, .iconst 0, 0, 0, 0, 531), (531, .ireturn, 0, 0, 0, 532), (532, .aload_n 1, 0, 0, 0, 533), (533, .aload_n 0, 0, 0, 0, 534), (534, .iload_n 3, 0, 0, 0, 535), (535, .iconst 1, 0, 0, 1, 536), (536, .iadd, 0, 0, 0, 537), (537, .iaload, 0, 0, 0, 538), (538, .invokevirtual 60, 64, 529, 0, 541), (541, .aload_n 2, 0, 0, 0, 542), (542, .aload_n 0, 0, 0, 0, 543), (543, .iload_n 3, 0, 0, 0, 544), (544, .iconst 1, 0, 0, 1, 545)]
set_option maxRecDepth 100000 in
theorem ck_L_law_7 : cd_L_law_7.all (ab_ok 147) = true := by decide +kernel
def cd_L_law_8 : List ab_E := [(545, .iadd, 0, 0, 0, 546), (546, .iaload, 0, 0, 0, 547), (547, .invokevirtual 64, 116, 983, 0, 550), (550, .if_icmp .eq 414, 0, 0, 0, 553), (550, .if_icmp .eq 414, 1, 0, 0, 964), (553, .iconst 0, 0, 0, 0, 554), (554, .ireturn, 0, 0, 0, 555), (555, .aload_n 1, 0, 0, 0, 556), (556, .invokevirtual 65, 65, 533, 0, 559), (559, .aload_n 2, 0, 0, 0, 560), (560, .invokevirtual 68, 123, 987, 0, 563), (563, .if_icmp .eq 401, 0, 0, 0, 566), (563, .if_icmp .eq 401, 1, 0, 0, 964), (566, .iconst 0, 0, 0, 0, 567), (567, .ireturn, 0, 0, 0, 568), (568, .aload_n 1, 0, 0, 0, 569), (569, .aload_n 0, 0, 0, 0, 570), (570, .iload_n 3, 0, 0, 0, 571), (571, .iconst 1, 0, 0, 1, 572), (572, .iadd, 0, 0, 0, 573), (573, .iaload, 0, 0, 0, 574), (574, .invokevirtual 69, 66, 623, 0, 577), (577, .aload_n 2, 0, 0, 0, 578), (578, .aload_n 0, 0, 0, 0, 579), (579, .iload_n 3, 0, 0, 0, 580), (580, .iconst 1, 0, 0, 1, 581), (581, .iadd, 0, 0, 0, 582), (582, .iaload, 0, 0, 0, 583), (583, .invokevirtual 72, 124, 1009, 0, 586), (586, .if_icmp .eq 378, 0, 0, 0, 589), (586, .if_icmp .eq 378, 1, 0, 0, 964), (589, .iconst 0, 0, 0, 0, 590), (590, .ireturn, 0, 0, 0, 591), (591, .aload_n 1, 0, 0, 0, 592), (592, .aload_n 0, 0, 0, 0, 593), (593, .iload_n 3, 0, 0, 0, 594), (594, .iconst 1, 0, 0, 1, 595), (595, .iadd, 0, 0, 0, 596), (596, .iaload, 0, 0, 0, 597), (597, .aload_n 0, 0, 0, 0, 598), (598, .iload_n 3, 0, 0, 0, 599), (599, .iconst 2, 0, 0, 2, 600), (600, .iadd, 0, 0, 0, 601), (601, .iaload, 0, 0, 0, 602), (602, .invokevirtual 73, 67, 627, 0, 605), (605, .aload_n 2, 0, 0, 0, 606), (606, .aload_n 0, 0, 0, 0, 607), (607, .iload_n 3, 0, 0, 0, 608)]
set_option maxRecDepth 100000 in
theorem ck_L_law_8 : cd_L_law_8.all (ab_ok 147) = true := by decide +kernel
def cd_L_law_9 : List ab_E := [(608, .iconst 1, 0, 0, 1, 609), (609, .iadd, 0, 0, 0, 610), (610, .iaload, 0, 0, 0, 611), (611, .aload_n 0, 0, 0, 0, 612), (612, .iload_n 3, 0, 0, 0, 613), (613, .iconst 2, 0, 0, 2, 614), (614, .iadd, 0, 0, 0, 615), (615, .iaload, 0, 0, 0, 616), (616, .invokevirtual 76, 125, 1021, 0, 619), (619, .if_icmp .eq 345, 0, 0, 0, 622), (619, .if_icmp .eq 345, 1, 0, 0, 964), (622, .iconst 0, 0, 0, 0, 623), (623, .ireturn, 0, 0, 0, 624), (624, .aload_n 1, 0, 0, 0, 625), (625, .aload_n 0, 0, 0, 0, 626), (626, .iload_n 3, 0, 0, 0, 627), (627, .iconst 1, 0, 0, 1, 628), (628, .iadd, 0, 0, 0, 629), (629, .iaload, 0, 0, 0, 630), (630, .aload_n 0, 0, 0, 0, 631), (631, .iload_n 3, 0, 0, 0, 632), (632, .iconst 2, 0, 0, 2, 633), (633, .iadd, 0, 0, 0, 634), (634, .iaload, 0, 0, 0, 635), (635, .invokevirtual 77, 68, 635, 0, 638), (638, .aload_n 2, 0, 0, 0, 639), (639, .aload_n 0, 0, 0, 0, 640), (640, .iload_n 3, 0, 0, 0, 641), (641, .iconst 1, 0, 0, 1, 642), (642, .iadd, 0, 0, 0, 643), (643, .iaload, 0, 0, 0, 644), (644, .aload_n 0, 0, 0, 0, 645), (645, .iload_n 3, 0, 0, 0, 646), (646, .iconst 2, 0, 0, 2, 647), (647, .iadd, 0, 0, 0, 648), (648, .iaload, 0, 0, 0, 649), (649, .invokevirtual 80, 129, 1025, 0, 652), (652, .if_icmp .eq 312, 0, 0, 0, 655), (652, .if_icmp .eq 312, 1, 0, 0, 964), (655, .iconst 0, 0, 0, 0, 656), (656, .ireturn, 0, 0, 0, 657), (657, .aload_n 1, 0, 0, 0, 658), (658, .aload_n 0, 0, 0, 0, 659), (659, .iload_n 3, 0, 0, 0, 660), (660, .iconst 1, 0, 0, 1, 661), (661, .iadd, 0, 0, 0, 662), (662, .iaload, 0, 0, 0, 663), (663, .aload_n 0, 0, 0, 0, 664)]
set_option maxRecDepth 100000 in
theorem ck_L_law_9 : cd_L_law_9.all (ab_ok 147) = true := by decide +kernel
def cd_L_law_10 : List ab_E := [(664, .iload_n 3, 0, 0, 0, 665), (665, .iconst 2, 0, 0, 2, 666), (666, .iadd, 0, 0, 0, 667), (667, .iaload, 0, 0, 0, 668), (668, .invokevirtual 81, 69, 647, 0, 671), (671, .aload_n 2, 0, 0, 0, 672), (672, .aload_n 0, 0, 0, 0, 673), (673, .iload_n 3, 0, 0, 0, 674), (674, .iconst 1, 0, 0, 1, 675), (675, .iadd, 0, 0, 0, 676), (676, .iaload, 0, 0, 0, 677), (677, .aload_n 0, 0, 0, 0, 678), (678, .iload_n 3, 0, 0, 0, 679), (679, .iconst 2, 0, 0, 2, 680), (680, .iadd, 0, 0, 0, 681), (681, .iaload, 0, 0, 0, 682), (682, .invokevirtual 84, 130, 1041, 0, 685), (685, .if_icmp .eq 279, 0, 0, 0, 688), (685, .if_icmp .eq 279, 1, 0, 0, 964), (688, .iconst 0, 0, 0, 0, 689), (689, .ireturn, 0, 0, 0, 690), (690, .aload_n 1, 0, 0, 0, 691), (691, .aload_n 0, 0, 0, 0, 692), (692, .iload_n 3, 0, 0, 0, 693), (693, .iconst 1, 0, 0, 1, 694), (694, .iadd, 0, 0, 0, 695), (695, .iaload, 0, 0, 0, 696), (696, .aload_n 0, 0, 0, 0, 697), (697, .iload_n 3, 0, 0, 0, 698), (698, .iconst 2, 0, 0, 2, 699), (699, .iadd, 0, 0, 0, 700), (700, .iaload, 0, 0, 0, 701), (701, .aload_n 0, 0, 0, 0, 702), (702, .iload_n 3, 0, 0, 0, 703), (703, .iconst 3, 0, 0, 3, 704), (704, .iadd, 0, 0, 0, 705), (705, .iaload, 0, 0, 0, 706), (706, .aload_n 0, 0, 0, 0, 707), (707, .iload_n 3, 0, 0, 0, 708), (708, .iconst 4, 0, 0, 4, 709), (709, .iadd, 0, 0, 0, 710), (710, .iaload, 0, 0, 0, 711), (711, .invokevirtual 85, 70, 674, 0, 714), (714, .aload_n 2, 0, 0, 0, 715), (715, .aload_n 0, 0, 0, 0, 716), (716, .iload_n 3, 0, 0, 0, 717), (717, .iconst 1, 0, 0, 1, 718), (718, .iadd, 0, 0, 0, 719)]
set_option maxRecDepth 100000 in
theorem ck_L_law_10 : cd_L_law_10.all (ab_ok 147) = true := by decide +kernel
def cd_L_law_11 : List ab_E := [(719, .iaload, 0, 0, 0, 720), (720, .aload_n 0, 0, 0, 0, 721), (721, .iload_n 3, 0, 0, 0, 722), (722, .iconst 2, 0, 0, 2, 723), (723, .iadd, 0, 0, 0, 724), (724, .iaload, 0, 0, 0, 725), (725, .aload_n 0, 0, 0, 0, 726), (726, .iload_n 3, 0, 0, 0, 727), (727, .iconst 3, 0, 0, 3, 728), (728, .iadd, 0, 0, 0, 729), (729, .iaload, 0, 0, 0, 730), (730, .aload_n 0, 0, 0, 0, 731), (731, .iload_n 3, 0, 0, 0, 732), (732, .iconst 4, 0, 0, 4, 733), (733, .iadd, 0, 0, 0, 734), (734, .iaload, 0, 0, 0, 735), (735, .invokevirtual 89, 131, 1045, 0, 738), (738, .if_icmp .eq 226, 0, 0, 0, 741), (738, .if_icmp .eq 226, 1, 0, 0, 964), (741, .iconst 0, 0, 0, 0, 742), (742, .ireturn, 0, 0, 0, 743), (743, .aload_n 1, 0, 0, 0, 744), (744, .aload_n 0, 0, 0, 0, 745), (745, .iload_n 3, 0, 0, 0, 746), (746, .iconst 1, 0, 0, 1, 747), (747, .iadd, 0, 0, 0, 748), (748, .iaload, 0, 0, 0, 749), (749, .aload_n 0, 0, 0, 0, 750), (750, .iload_n 3, 0, 0, 0, 751), (751, .iconst 2, 0, 0, 2, 752), (752, .iadd, 0, 0, 0, 753), (753, .iaload, 0, 0, 0, 754), (754, .invokevirtual 90, 71, 678, 0, 757), (757, .aload_n 2, 0, 0, 0, 758), (758, .aload_n 0, 0, 0, 0, 759), (759, .iload_n 3, 0, 0, 0, 760), (760, .iconst 1, 0, 0, 1, 761), (761, .iadd, 0, 0, 0, 762), (762, .iaload, 0, 0, 0, 763), (763, .aload_n 0, 0, 0, 0, 764), (764, .iload_n 3, 0, 0, 0, 765), (765, .iconst 2, 0, 0, 2, 766), (766, .iadd, 0, 0, 0, 767), (767, .iaload, 0, 0, 0, 768), (768, .invokevirtual 94, 132, 1049, 0, 771), (771, .if_icmp .eq 193, 0, 0, 0, 774), (771, .if_icmp .eq 193, 1, 0, 0, 964), (774, .iconst 0, 0, 0, 0, 775)]
set_option maxRecDepth 100000 in
theorem ck_L_law_11 : cd_L_law_11.all (ab_ok 147) = true := by decide +kernel
def cd_L_law_12 : List ab_E := [(775, .ireturn, 0, 0, 0, 776), (776, .aload_n 1, 0, 0, 0, 777), (777, .aload_n 0, 0, 0, 0, 778), (778, .iload_n 3, 0, 0, 0, 779), (779, .iconst 1, 0, 0, 1, 780), (780, .iadd, 0, 0, 0, 781), (781, .iaload, 0, 0, 0, 782), (782, .aload_n 0, 0, 0, 0, 783), (783, .iload_n 3, 0, 0, 0, 784), (784, .iconst 2, 0, 0, 2, 785), (785, .iadd, 0, 0, 0, 786), (786, .iaload, 0, 0, 0, 787), (787, .invokevirtual 95, 72, 690, 0, 790), (790, .aload_n 2, 0, 0, 0, 791), (791, .aload_n 0, 0, 0, 0, 792), (792, .iload_n 3, 0, 0, 0, 793), (793, .iconst 1, 0, 0, 1, 794), (794, .iadd, 0, 0, 0, 795), (795, .iaload, 0, 0, 0, 796), (796, .aload_n 0, 0, 0, 0, 797), (797, .iload_n 3, 0, 0, 0, 798), (798, .iconst 2, 0, 0, 2, 799), (799, .iadd, 0, 0, 0, 800), (800, .iaload, 0, 0, 0, 801), (801, .invokevirtual 98, 133, 1053, 0, 804), (804, .if_icmp .eq 160, 0, 0, 0, 807), (804, .if_icmp .eq 160, 1, 0, 0, 964), (807, .iconst 0, 0, 0, 0, 808), (808, .ireturn, 0, 0, 0, 809), (809, .aload_n 1, 0, 0, 0, 810), (810, .aload_n 0, 0, 0, 0, 811), (811, .iload_n 3, 0, 0, 0, 812), (812, .iconst 1, 0, 0, 1, 813), (813, .iadd, 0, 0, 0, 814), (814, .iaload, 0, 0, 0, 815), (815, .aload_n 0, 0, 0, 0, 816), (816, .iload_n 3, 0, 0, 0, 817), (817, .iconst 2, 0, 0, 2, 818), (818, .iadd, 0, 0, 0, 819), (819, .iaload, 0, 0, 0, 820), (820, .invokevirtual 99, 73, 702, 0, 823), (823, .aload_n 2, 0, 0, 0, 824), (824, .aload_n 0, 0, 0, 0, 825), (825, .iload_n 3, 0, 0, 0, 826), (826, .iconst 1, 0, 0, 1, 827), (827, .iadd, 0, 0, 0, 828), (828, .iaload, 0, 0, 0, 829), (829, .aload_n 0, 0, 0, 0, 830)]
set_option maxRecDepth 100000 in
theorem ck_L_law_12 : cd_L_law_12.all (ab_ok 147) = true := by decide +kernel
def cd_L_law_13 : List ab_E := [(830, .iload_n 3, 0, 0, 0, 831), (831, .iconst 2, 0, 0, 2, 832), (832, .iadd, 0, 0, 0, 833), (833, .iaload, 0, 0, 0, 834), (834, .invokevirtual 102, 134, 1057, 0, 837), (837, .if_icmp .eq 127, 0, 0, 0, 840), (837, .if_icmp .eq 127, 1, 0, 0, 964), (840, .iconst 0, 0, 0, 0, 841), (841, .ireturn, 0, 0, 0, 842), (842, .aload_n 1, 0, 0, 0, 843), (843, .aload_n 0, 0, 0, 0, 844), (844, .iload_n 3, 0, 0, 0, 845), (845, .iconst 1, 0, 0, 1, 846), (846, .iadd, 0, 0, 0, 847), (847, .iaload, 0, 0, 0, 848), (848, .invokevirtual 103, 74, 706, 0, 851), (851, .aload_n 2, 0, 0, 0, 852), (852, .aload_n 0, 0, 0, 0, 853), (853, .iload_n 3, 0, 0, 0, 854), (854, .iconst 1, 0, 0, 1, 855), (855, .iadd, 0, 0, 0, 856), (856, .iaload, 0, 0, 0, 857), (857, .invokevirtual 106, 136, 1061, 0, 860), (860, .if_icmp .eq 104, 0, 0, 0, 863), (860, .if_icmp .eq 104, 1, 0, 0, 964), (863, .iconst 0, 0, 0, 0, 864), (864, .ireturn, 0, 0, 0, 865), (865, .aload_n 1, 0, 0, 0, 866), (866, .aload_n 0, 0, 0, 0, 867), (867, .iload_n 3, 0, 0, 0, 868), (868, .iconst 1, 0, 0, 1, 869), (869, .iadd, 0, 0, 0, 870), (870, .iaload, 0, 0, 0, 871), (871, .invokevirtual 107, 75, 718, 0, 874), (874, .aload_n 2, 0, 0, 0, 875), (875, .aload_n 0, 0, 0, 0, 876), (876, .iload_n 3, 0, 0, 0, 877), (877, .iconst 1, 0, 0, 1, 878), (878, .iadd, 0, 0, 0, 879), (879, .iaload, 0, 0, 0, 880), (880, .invokevirtual 110, 137, 1069, 0, 883), (883, .if_icmp .eq 81, 0, 0, 0, 886), (883, .if_icmp .eq 81, 1, 0, 0, 964), (886, .iconst 0, 0, 0, 0, 887), (887, .ireturn, 0, 0, 0, 888), (888, .aload_n 1, 0, 0, 0, 889), (889, .aload_n 0, 0, 0, 0, 890), (890, .iload_n 3, 0, 0, 0, 891)]
set_option maxRecDepth 100000 in
theorem ck_L_law_13 : cd_L_law_13.all (ab_ok 147) = true := by decide +kernel
def cd_L_law_14 : List ab_E := [(891, .iconst 1, 0, 0, 1, 892), (892, .iadd, 0, 0, 0, 893), (893, .iaload, 0, 0, 0, 894), (894, .aload_n 0, 0, 0, 0, 895), (895, .iload_n 3, 0, 0, 0, 896), (896, .iconst 2, 0, 0, 2, 897), (897, .iadd, 0, 0, 0, 898), (898, .iaload, 0, 0, 0, 899), (899, .aload_n 0, 0, 0, 0, 900), (900, .iload_n 3, 0, 0, 0, 901), (901, .iconst 3, 0, 0, 3, 902), (902, .iadd, 0, 0, 0, 903), (903, .iaload, 0, 0, 0, 904), (904, .aload_n 0, 0, 0, 0, 905), (905, .iload_n 3, 0, 0, 0, 906), (906, .iconst 4, 0, 0, 4, 907), (907, .iadd, 0, 0, 0, 908), (908, .iaload, 0, 0, 0, 909), (909, .invokevirtual 111, 76, 727, 0, 912), (912, .aload_n 2, 0, 0, 0, 913), (913, .aload_n 0, 0, 0, 0, 914), (914, .iload_n 3, 0, 0, 0, 915), (915, .iconst 1, 0, 0, 1, 916), (916, .iadd, 0, 0, 0, 917), (917, .iaload, 0, 0, 0, 918), (918, .aload_n 0, 0, 0, 0, 919), (919, .iload_n 3, 0, 0, 0, 920), (920, .iconst 2, 0, 0, 2, 921), (921, .iadd, 0, 0, 0, 922), (922, .iaload, 0, 0, 0, 923), (923, .aload_n 0, 0, 0, 0, 924), (924, .iload_n 3, 0, 0, 0, 925), (925, .iconst 3, 0, 0, 3, 926), (926, .iadd, 0, 0, 0, 927), (927, .iaload, 0, 0, 0, 928), (928, .aload_n 0, 0, 0, 0, 929), (929, .iload_n 3, 0, 0, 0, 930), (930, .iconst 4, 0, 0, 4, 931), (931, .iadd, 0, 0, 0, 932), (932, .iaload, 0, 0, 0, 933), (933, .invokevirtual 114, 139, 1074, 0, 936), (936, .if_icmp .eq 28, 0, 0, 0, 939), (936, .if_icmp .eq 28, 1, 0, 0, 964), (939, .iconst 0, 0, 0, 0, 940), (940, .ireturn, 0, 0, 0, 941), (941, .aload_n 1, 0, 0, 0, 942), (942, .aload_n 0, 0, 0, 0, 943), (943, .iload_n 3, 0, 0, 0, 944)]
set_option maxRecDepth 100000 in
theorem ck_L_law_14 : cd_L_law_14.all (ab_ok 147) = true := by decide +kernel
def cd_L_law_15 : List ab_E := [(944, .iconst 1, 0, 0, 1, 945), (945, .iadd, 0, 0, 0, 946), (946, .iaload, 0, 0, 0, 947), (947, .invokevirtual 115, 77, 740, 0, 950), (950, .aload_n 2, 0, 0, 0, 951), (951, .aload_n 0, 0, 0, 0, 952), (952, .iload_n 3, 0, 0, 0, 953), (953, .iconst 1, 0, 0, 1, 954), (954, .iadd, 0, 0, 0, 955), (955, .iaload, 0, 0, 0, 956), (956, .invokevirtual 118, 140, 1082, 0, 959), (959, .if_icmp .eq 5, 0, 0, 0, 962), (959, .if_icmp .eq 5, 1, 0, 0, 964), (962, .iconst 0, 0, 0, 0, 963), (963, .ireturn, 0, 0, 0, 964), (964, .iinc 3 7, 0, 0, 7, 967), (967, .goto (-949), 0, 0, 0, 18), (970, .iconst 1, 0, 0, 1, 971), (971, .ireturn, 0, 0, 0, 972)]
set_option maxRecDepth 100000 in
theorem ck_L_law_15 : cd_L_law_15.all (ab_ok 147) = true := by decide +kernel
/-- LostDeskLaw.law -/
def cd_L_law : List ab_E := cd_L_law_0 ++ (cd_L_law_1 ++ (cd_L_law_2 ++ (cd_L_law_3 ++ (cd_L_law_4 ++ (cd_L_law_5 ++ (cd_L_law_6 ++ (cd_L_law_7 ++ (cd_L_law_8 ++ (cd_L_law_9 ++ (cd_L_law_10 ++ (cd_L_law_11 ++ (cd_L_law_12 ++ (cd_L_law_13 ++ (cd_L_law_14 ++ (cd_L_law_15)))))))))))))))
theorem ck_L_law : cd_L_law.all (ab_ok 147) = true := ab_all_app ck_L_law_0 (ab_all_app ck_L_law_1 (ab_all_app ck_L_law_2 (ab_all_app ck_L_law_3 (ab_all_app ck_L_law_4 (ab_all_app ck_L_law_5 (ab_all_app ck_L_law_6 (ab_all_app ck_L_law_7 (ab_all_app ck_L_law_8 (ab_all_app ck_L_law_9 (ab_all_app ck_L_law_10 (ab_all_app ck_L_law_11 (ab_all_app ck_L_law_12 (ab_all_app ck_L_law_13 (ab_all_app ck_L_law_14 (ck_L_law_15)))))))))))))))
end
section
/-! ===== the world by its places ===== -/
theorem ab_w_len (Z : ab_Z) (m : ab_M) : ((List.range ab_NP).map (fun k => (ab_ad Z k, ab_cell Z m k))).length = ab_NP := by simp
theorem ab_w_at (Z : ab_Z) (m : ab_M) {k : Nat} (h : k < ab_NP) : (ab_w Z m)[k]? = some (ab_ad Z k, ab_cell Z m k) := by
  unfold ab_w
  rw [List.getElem?_append_left (by rw [ab_w_len]; exact h), List.getElem?_map, List.getElem?_range h]
  rfl
theorem ab_w_row (Z : ab_Z) (m : ab_M) {r : Nat} (h : r < ab_NR) : (ab_w Z m)[ab_NP + r]? = some (ab_ar Z r, ab_row Z m r) := by
  unfold ab_w
  rw [List.getElem?_append_right (by rw [ab_w_len]; omega), ab_w_len, Nat.add_sub_cancel_left, List.getElem?_map, List.getElem?_range h]
  rfl
theorem ab_w_inv (Z : ab_Z) (m : ab_M) {j : Nat} {q : Nat × va_E} (h : (ab_w Z m)[j]? = some q) : (j < ab_NP ∧ q = (ab_ad Z j, ab_cell Z m j)) ∨ ∃ r, r < ab_NR ∧ j = ab_NP + r ∧ q = (ab_ar Z r, ab_row Z m r) := by
  by_cases hj : j < ab_NP
  · rw [ab_w_at Z m hj] at h
    exact Or.inl ⟨hj, (Option.some.inj h).symm⟩
  · by_cases hr : j - ab_NP < ab_NR
    · have e : j = ab_NP + (j - ab_NP) := by omega
      rw [e, ab_w_row Z m hr] at h
      exact Or.inr ⟨j - ab_NP, hr, e, (Option.some.inj h).symm⟩
    · exfalso
      unfold ab_w at h
      rw [List.getElem?_append_right (by rw [ab_w_len]; omega), ab_w_len, List.getElem?_map, List.getElem?_eq_none (by simp; omega)] at h
      cases h
theorem ab_wr_p (m : ab_M) (p i : Nat) (v : Int32) : (ab_wr m p i v).1 p = upd (m.1 p) i v := if_pos rfl
theorem ab_wr_n (m : ab_M) {p q : Nat} (i : Nat) (v : Int32) (h : q ≠ p) : (ab_wr m p i v).1 q = m.1 q := if_neg h
theorem ab_wl_p (m : ab_M) (p i : Nat) (v : Int64) : (ab_wl m p i v).2 p = vp_updL (m.2 p) i v := if_pos rfl
theorem ab_wl_n (m : ab_M) {p q : Nat} (i : Nat) (v : Int64) (h : q ≠ p) : (ab_wl m p i v).2 q = m.2 q := if_neg h
/-- the cells depend on what they hold alone -/
theorem ab_cell_eq (Z : ab_Z) {m m' : ab_M} {k : Nat} (h1 : (ab_sh k).1 ≠ 3 → m.1 k = m'.1 k) (h2 : m.2 k = m'.2 k) : ab_cell Z m k = ab_cell Z m' k := by
  unfold ab_cell
  split
  · next h => rw [h1 (by omega)]
  · next h => rw [h1 (by omega)]
  · rw [h2]
  · rfl
  · next t h =>
    have e := h1 (by omega)
    congr 2
    refine List.ext_getElem? fun i => ?_
    simp only [List.getElem?_mapIdx]
    cases (ab_sh k).2.2.2.2[i]? with
    | none => rfl
    | some f => cases f <;> simp [ab_fv, e]
theorem ab_rw_sh : ∀ r, r < ab_NR → (ab_sh (ab_rw r).1).1 = 3 ∧ (ab_rw r).2.2 = (ab_sh (ab_rw r).1).2.2.1 ∧ r = (ab_sh (ab_rw r).1).2.2.2.1 + (ab_rw r).2.1 ∧ (ab_rw r).2.1 < (ab_sh (ab_rw r).1).2.1 := by decide +kernel
theorem ab_sh_rw : ∀ p, p < ab_NP → (ab_sh p).1 = 3 → ∀ i, i < (ab_sh p).2.1 → (ab_sh p).2.2.2.1 + i < ab_NR ∧ ab_rw ((ab_sh p).2.2.2.1 + i) = (p, i, (ab_sh p).2.2.1) := by decide +kernel
theorem ab_sh_lt : ∀ p, p < ab_NP → (ab_sh p).1 = 3 → p < ab_NP := fun _ h _ => h
theorem ab_sh_big {p : Nat} (h : (ab_sh p).1 = 3) : p < ab_NP := by
  by_cases hp : p < ab_NP
  · exact hp
  · exfalso
    have e : ab_sh p = (0, 24, 0, 0, []) := by
      unfold ab_NP at hp
      unfold ab_sh
      repeat rw [if_neg (by omega)]
    rw [e] at h
    cases h
theorem ab_P_of {Z : ab_Z} {m : ab_M} {H : Heap} (h1 : ∀ k, k < ab_NP → va_at (ab_D Z) vwCl (ab_ad Z k, ab_cell Z m k) H) (h2 : ∀ r, r < ab_NR → va_at (ab_D Z) vwCl (ab_ar Z r, ab_row Z m r) H) : va_P (ab_D Z) vwCl (ab_w Z m) H := by
  intro j q hq
  rcases ab_w_inv Z m hq with ⟨hj, rfl⟩ | ⟨r, hr, -, rfl⟩
  · exact h1 j hj
  · exact h2 r hr
theorem ab_P_at {Z : ab_Z} {m : ab_M} {H : Heap} (h : va_P (ab_D Z) vwCl (ab_w Z m) H) {k : Nat} (hk : k < ab_NP) : va_at (ab_D Z) vwCl (ab_ad Z k, ab_cell Z m k) H := h k _ (ab_w_at Z m hk)
theorem ab_P_row {Z : ab_Z} {m : ab_M} {H : Heap} (h : va_P (ab_D Z) vwCl (ab_w Z m) H) {r : Nat} (hr : r < ab_NR) : va_at (ab_D Z) vwCl (ab_ar Z r, ab_row Z m r) H := h _ _ (ab_w_row Z m hr)
/-- a place that isn't an array of rows has been written -/
theorem ab_P_set {Z : ab_Z} {m m' : ab_M} {H : Heap} {p : Nat} {e : va_E} (hp : p < ab_NP) (ht : (ab_sh p).1 ≠ 3) (he : e = ab_cell Z m' p) (h1 : ∀ q, q ≠ p → m'.1 q = m.1 q) (h2 : ∀ q, q ≠ p → m'.2 q = m.2 q) (h : va_P (ab_D Z) vwCl ((ab_w Z m).set p (ab_ad Z p, e)) H) : va_P (ab_D Z) vwCl (ab_w Z m') H := by
  have hl : p < (ab_w Z m).length := (List.getElem?_eq_some_iff.mp (ab_w_at Z m hp)).1
  refine ab_P_of (fun k hk => ?_) (fun r hr => ?_)
  · by_cases hkp : k = p
    · subst hkp
      rw [← he]
      exact h k _ (by rw [List.getElem?_set_self hl])
    · have e1 : ab_cell Z m' k = ab_cell Z m k := ab_cell_eq Z (fun _ => h1 k hkp) (h2 k hkp)
      rw [e1]
      exact h k _ (by rw [List.getElem?_set_ne (Ne.symm hkp)]; exact ab_w_at Z m hk)
  · have hne : (ab_rw r).1 ≠ p := fun q => ht (by rw [← q]; exact (ab_rw_sh r hr).1)
    have e1 : ab_row Z m' r = ab_row Z m r := by
      unfold ab_row
      rw [h1 _ hne]
    rw [e1]
    exact h (ab_NP + r) _ (by rw [List.getElem?_set_ne (by omega)]; exact ab_w_row Z m hr)
theorem ab_cell_cong (cA : ClassId) {n : Nat} {f g : Nat → Int32} (h : ∀ j, j < n → f j = g j) : vp_cell cA (n, .inl f) = vp_cell cA (n, .inl g) := by
  rw [vp_cell_i, vp_cell_i]
  unfold arrV
  congr 2
  funext j
  show Value.int (f j.val) = Value.int (g j.val)
  rw [h j.val j.isLt]
theorem ab_mix {i i' j j' w : Nat} (hj : j < w) (hj' : j' < w) (h : i' * w + j' = i * w + j) : i' = i ∧ j' = j := by
  have h1 : (i' * w + j') / w = (i * w + j) / w := by rw [h]
  have hw : 0 < w := by omega
  rw [Nat.mul_comm, Nat.mul_add_div hw, Nat.mul_comm i w, Nat.mul_add_div hw, Nat.div_eq_of_lt hj, Nat.div_eq_of_lt hj'] at h1
  have : i' = i := by omega
  subst this
  exact ⟨rfl, by omega⟩
/-- a row has been written -/
theorem ab_P_setr {Z : ab_Z} {m : ab_M} {H : Heap} {p i j : Nat} {v : Int32} (hp : p < ab_NP) (ht : (ab_sh p).1 = 3) (hi : i < (ab_sh p).2.1) (hj : j < (ab_sh p).2.2.1)
    (h : va_P (ab_D Z) vwCl ((ab_w Z m).set (ab_NP + ((ab_sh p).2.2.2.1 + i)) (ab_ar Z ((ab_sh p).2.2.2.1 + i), .inl (ab_cI Z, (ab_sh p).2.2.1, .inl (upd (fun j => m.1 p (i * (ab_sh p).2.2.1 + j)) j v)))) H) : va_P (ab_D Z) vwCl (ab_w Z (ab_wr m p (i * (ab_sh p).2.2.1 + j) v)) H := by
  obtain ⟨hr0, hrw⟩ := ab_sh_rw p hp ht i hi
  have hl : ab_NP + ((ab_sh p).2.2.2.1 + i) < (ab_w Z m).length := (List.getElem?_eq_some_iff.mp (ab_w_row Z m hr0)).1
  refine ab_P_of (fun k hk => ?_) (fun r hr => ?_)
  · have e1 : ab_cell Z (ab_wr m p (i * (ab_sh p).2.2.1 + j) v) k = ab_cell Z m k := ab_cell_eq Z (fun hk3 => ab_wr_n m _ v (fun q => hk3 (by rw [q]; exact ht))) rfl
    rw [e1]
    exact h k _ (by rw [List.getElem?_set_ne (by omega)]; exact ab_w_at Z m hk)
  · by_cases hre : r = (ab_sh p).2.2.2.1 + i
    · subst hre
      have h0 := h _ _ (by rw [List.getElem?_set_self hl])
      show H[_]? = some (vp_cell _ _)
      have h0 : H[ab_ar Z ((ab_sh p).2.2.2.1 + i)]? = some (vp_cell (ab_cI Z) ((ab_sh p).2.2.1, .inl (upd (fun j => m.1 p (i * (ab_sh p).2.2.1 + j)) j v))) := h0
      rw [h0]
      refine congrArg some ?_
      rw [hrw]
      refine ab_cell_cong _ (fun j' hj' => ?_)
      rw [ab_wr_p]
      unfold upd
      by_cases e : j' = j
      · rw [e, if_pos rfl, if_pos rfl]
      · rw [if_neg e, if_neg (fun q => e (ab_mix hj hj' q).2)]
    · have h0 := h (ab_NP + r) _ (by rw [List.getElem?_set_ne (by omega)]; exact ab_w_row Z m hr)
      have h0 : H[ab_ar Z r]? = some (vp_cell (ab_cI Z) ((ab_rw r).2.2, .inl (fun j => m.1 (ab_rw r).1 ((ab_rw r).2.1 * (ab_rw r).2.2 + j)))) := h0
      show H[ab_ar Z r]? = some (vp_cell _ _)
      rw [h0]
      refine congrArg some (ab_cell_cong _ (fun j' hj' => ?_))
      by_cases hq : (ab_rw r).1 = p
      · obtain ⟨g1, g2, g3, g4⟩ := ab_rw_sh r hr
        rw [hq] at g2 g3 ⊢
        rw [ab_wr_p]
        unfold upd
        rw [if_neg]
        intro q
        rw [g2] at q hj'
        have := (ab_mix hj hj' q).1
        exact hre (by omega)
      · rw [ab_wr_n m _ v hq]
theorem ab_D_of {Z : ab_Z} (h : ab_okZ Z) {A : Nat → Prop} (hA : ∀ q, ab_A Z q → A q) (m : ab_M) : va_D A (ab_w Z m) := by
  refine (h m).weaken (fun j q hq _ => hA _ ?_)
  rcases ab_w_inv Z m hq with ⟨hj, rfl⟩ | ⟨r, hr, -, rfl⟩
  · exact Or.inl ⟨j, hj, rfl⟩
  · exact Or.inr ⟨r, hr, rfl⟩
end
section
/-! ===== one instruction is sound ===== -/
section ABS
variable {Z : ab_Z} {p : Program} {e : Env} {R : Room} {s : State} {mm : MethodId} {args : Array Value} {below : List Frame} {meth : Method} {c0 : Code} {cells slots : Nat} {Q : State → Prop} {A : Nat → Prop} {b N : Nat} {xs : Nat → Int32} {k d : Nat} {pc nx : Nat} {L : List (Nat × ab_V)} {S : List ab_V} {m : ab_M} {o o1 : List ab_O} {cn : Option Prop} {st1 : ab_S}
def ab_cd (c : Option Prop) : Prop := match c with
  | none => True
  | some c => c
theorem ab_ld_mem {i : Nat} {v : ab_V} : ∀ {L : List (Nat × ab_V)}, ab_ld i L = some v → (i, v) ∈ L
  | [], h => by cases h
  | q :: t, h => by
    unfold ab_ld at h
    by_cases hq : q.1 = i
    · rw [if_pos hq] at h
      cases h
      rw [← hq]
      exact List.mem_cons_self
    · rw [if_neg hq] at h
      exact List.mem_cons_of_mem _ (ab_ld_mem h)
theorem ab_ld_at {ls : Array Slot} {n i : Nat} {v : ab_V} (hl : lv_has ls n (ab_cvL Z b L)) (h : ab_ld i L = some v) : ls[i]? = some (.val (ab_cv Z b v)) := hl.2.2 (i, ab_cv Z b v) (List.mem_map.mpr ⟨(i, v), ab_ld_mem h, rfl⟩)
theorem ab_ins_mem {i : Nat} {v : ab_V} {q : Nat × ab_V} : ∀ {L : List (Nat × ab_V)}, q ∈ ab_ins i v L → q = (i, v) ∨ q ∈ L
  | [], h => by
    unfold ab_ins at h
    rcases List.mem_cons.mp h with h | h
    · exact Or.inl h
    · cases h
  | x :: t, h => by
    unfold ab_ins at h
    by_cases hx : i < x.1
    · rw [if_pos hx] at h
      rcases List.mem_cons.mp h with h | h
      · exact Or.inl h
      · exact Or.inr h
    · rw [if_neg hx] at h
      rcases List.mem_cons.mp h with h | h
      · exact Or.inr (by rw [h]; exact List.mem_cons_self)
      · rcases ab_ins_mem h with h | h
        · exact Or.inl h
        · exact Or.inr (List.mem_cons_of_mem _ h)
/-- the locals behind a store -/
theorem ab_st_has {ls : Array Slot} {n i : Nat} {v : ab_V} (hl : lv_has ls n ((i, ab_cv Z b v) :: (ab_cvL Z b L).filter (fun q => !(q.1 == i) && !(q.1 + 1 == i && q.2.category == 2)))) : lv_has ls n (ab_cvL Z b (ab_ins i v (ab_del i L))) := by
  refine ⟨hl.1, hl.2.1, fun q hq => hl.2.2 q ?_⟩
  obtain ⟨x, hx, rfl⟩ := List.mem_map.mp hq
  rcases ab_ins_mem hx with h | h
  · rw [h]
    exact List.mem_cons_self
  · obtain ⟨h1, h2⟩ := List.mem_filter.mp h
    refine List.mem_cons_of_mem _ (List.mem_filter.mpr ⟨List.mem_map.mpr ⟨x, h1, rfl⟩, ?_⟩)
    rw [ab_cat_cv]
    exact h2
theorem ab_st_has2 {ls : Array Slot} {n i : Nat} {v : ab_V} (hl : lv_has ls n ((i, ab_cv Z b v) :: (ab_cvL Z b L).filter (fun q => !(q.1 == i) && (!(q.1 == i + 1) && !(q.1 + 1 == i && q.2.category == 2))))) : lv_has ls n (ab_cvL Z b (ab_ins i v (ab_de2 i L))) := by
  refine ⟨hl.1, hl.2.1, fun q hq => hl.2.2 q ?_⟩
  obtain ⟨x, hx, rfl⟩ := List.mem_map.mp hq
  rcases ab_ins_mem hx with h | h
  · rw [h]
    exact List.mem_cons_self
  · obtain ⟨h1, h2⟩ := List.mem_filter.mp h
    refine List.mem_cons_of_mem _ (List.mem_filter.mpr ⟨List.mem_map.mpr ⟨x, h1, rfl⟩, ?_⟩)
    rw [ab_cat_cv]
    exact h2
theorem ab_s_pi {v : Int32} (row : ∀ {H : Heap} {locs : List Loc} {ls : Array Slot} {rest : List Value}, W p Z.1 e R s mm args below meth c0 H locs cells slots Q (F0 mm nx ls (.int v :: rest)) → W p Z.1 e R s mm args below meth c0 H locs cells slots Q (F0 mm pc ls rest)) (hs : ab_pi v nx o (pc, L, S, m) = some (cn, o1, st1)) (hG : ab_G Z (p, e, R, s, mm, args, below, meth, c0, cells, slots, Q, A, b, N, xs, k, d) st1) : ab_G Z (p, e, R, s, mm, args, below, meth, c0, cells, slots, Q, A, b, N, xs, k, d) (pc, L, S, m) := by
  unfold ab_pi at hs
  cases hs
  intro H locs ls hP hS hl
  exact row (hG H locs ls hP hS hl)
theorem ab_s_pl {v : Int64} (row : ∀ {H : Heap} {locs : List Loc} {ls : Array Slot} {rest : List Value}, W p Z.1 e R s mm args below meth c0 H locs cells slots Q (F0 mm nx ls (.long v :: rest)) → W p Z.1 e R s mm args below meth c0 H locs cells slots Q (F0 mm pc ls rest)) (hs : ab_pl v nx o (pc, L, S, m) = some (cn, o1, st1)) (hG : ab_G Z (p, e, R, s, mm, args, below, meth, c0, cells, slots, Q, A, b, N, xs, k, d) st1) : ab_G Z (p, e, R, s, mm, args, below, meth, c0, cells, slots, Q, A, b, N, xs, k, d) (pc, L, S, m) := by
  unfold ab_pl at hs
  cases hs
  intro H locs ls hP hS hl
  exact row (hG H locs ls hP hS hl)
theorem ab_s_li {i : Nat} (row : ∀ {H : Heap} {locs : List Loc} {ls : Array Slot} {rest : List Value} {x : Int32}, ls[i]? = some (.val (.int x)) → W p Z.1 e R s mm args below meth c0 H locs cells slots Q (F0 mm nx ls (.int x :: rest)) → W p Z.1 e R s mm args below meth c0 H locs cells slots Q (F0 mm pc ls rest)) (hs : ab_li i nx o (pc, L, S, m) = some (cn, o1, st1)) (hG : ab_G Z (p, e, R, s, mm, args, below, meth, c0, cells, slots, Q, A, b, N, xs, k, d) st1) : ab_G Z (p, e, R, s, mm, args, below, meth, c0, cells, slots, Q, A, b, N, xs, k, d) (pc, L, S, m) := by
  unfold ab_li at hs
  split at hs
  · next x hx =>
    cases hs
    intro H locs ls hP hS hl
    exact row (ab_ld_at hl hx) (hG H locs ls hP hS hl)
  · cases hs
theorem ab_s_ll {i : Nat} (row : ∀ {H : Heap} {locs : List Loc} {ls : Array Slot} {rest : List Value} {x : Int64}, ls[i]? = some (.val (.long x)) → W p Z.1 e R s mm args below meth c0 H locs cells slots Q (F0 mm nx ls (.long x :: rest)) → W p Z.1 e R s mm args below meth c0 H locs cells slots Q (F0 mm pc ls rest)) (hs : ab_ll i nx o (pc, L, S, m) = some (cn, o1, st1)) (hG : ab_G Z (p, e, R, s, mm, args, below, meth, c0, cells, slots, Q, A, b, N, xs, k, d) st1) : ab_G Z (p, e, R, s, mm, args, below, meth, c0, cells, slots, Q, A, b, N, xs, k, d) (pc, L, S, m) := by
  unfold ab_ll at hs
  split at hs
  · next x hx =>
    cases hs
    intro H locs ls hP hS hl
    exact row (ab_ld_at hl hx) (hG H locs ls hP hS hl)
  · cases hs
theorem ab_s_la {i : Nat} (row : ∀ {H : Heap} {locs : List Loc} {ls : Array Slot} {rest : List Value} {x : Nat}, ls[i]? = some (.val (.ref x)) → W p Z.1 e R s mm args below meth c0 H locs cells slots Q (F0 mm nx ls (.ref x :: rest)) → W p Z.1 e R s mm args below meth c0 H locs cells slots Q (F0 mm pc ls rest)) (hs : ab_la i nx o (pc, L, S, m) = some (cn, o1, st1)) (hG : ab_G Z (p, e, R, s, mm, args, below, meth, c0, cells, slots, Q, A, b, N, xs, k, d) st1) : ab_G Z (p, e, R, s, mm, args, below, meth, c0, cells, slots, Q, A, b, N, xs, k, d) (pc, L, S, m) := by
  unfold ab_la at hs
  split at hs
  · next x hx =>
    cases hs
    intro H locs ls hP hS hl
    exact row (ab_ld_at hl hx) (hG H locs ls hP hS hl)
  · next x hx =>
    cases hs
    intro H locs ls hP hS hl
    exact row (ab_ld_at hl hx) (hG H locs ls hP hS hl)
  · cases hs
theorem ab_s_si {i : Nat} (row : ∀ {H : Heap} {locs : List Loc} {ls : Array Slot} {rest : List Value} {x : Int32}, lv_has ls (ab_mL k) (ab_cvL Z b L) → i < ab_mL k → (∀ ls' : Array Slot, lv_has ls' (ab_mL k) ((i, Value.int x) :: (ab_cvL Z b L).filter (fun q => !(q.1 == i) && !(q.1 + 1 == i && q.2.category == 2))) → W p Z.1 e R s mm args below meth c0 H locs cells slots Q (F0 mm nx ls' rest)) → W p Z.1 e R s mm args below meth c0 H locs cells slots Q (F0 mm pc ls (.int x :: rest))) (hs : ab_si k i nx o (pc, L, S, m) = some (cn, o1, st1)) (hG : ab_G Z (p, e, R, s, mm, args, below, meth, c0, cells, slots, Q, A, b, N, xs, k, d) st1) : ab_G Z (p, e, R, s, mm, args, below, meth, c0, cells, slots, Q, A, b, N, xs, k, d) (pc, L, S, m) := by
  unfold ab_si at hs
  split at hs
  · next x r hx =>
    split at hs
    · next hi =>
      cases hs
      intro H locs ls hP hS hl
      have hx : S = .inl (.int x) :: r := hx
      subst hx
      exact row hl hi (fun ls' hl' => hG H locs ls' hP hS (ab_st_has (v := .inl (.int x)) hl'))
    · cases hs
  · cases hs
theorem ab_s_sl {i : Nat} (row : ∀ {H : Heap} {locs : List Loc} {ls : Array Slot} {rest : List Value} {x : Int64}, lv_has ls (ab_mL k) (ab_cvL Z b L) → i + 1 < ab_mL k → (∀ ls' : Array Slot, lv_has ls' (ab_mL k) ((i, Value.long x) :: (ab_cvL Z b L).filter (fun q => !(q.1 == i) && (!(q.1 == i + 1) && !(q.1 + 1 == i && q.2.category == 2)))) → W p Z.1 e R s mm args below meth c0 H locs cells slots Q (F0 mm nx ls' rest)) → W p Z.1 e R s mm args below meth c0 H locs cells slots Q (F0 mm pc ls (.long x :: rest))) (hs : ab_sl k i nx o (pc, L, S, m) = some (cn, o1, st1)) (hG : ab_G Z (p, e, R, s, mm, args, below, meth, c0, cells, slots, Q, A, b, N, xs, k, d) st1) : ab_G Z (p, e, R, s, mm, args, below, meth, c0, cells, slots, Q, A, b, N, xs, k, d) (pc, L, S, m) := by
  unfold ab_sl at hs
  split at hs
  · next x r hx =>
    split at hs
    · next hi =>
      cases hs
      intro H locs ls hP hS hl
      have hx : S = .inl (.long x) :: r := hx
      subst hx
      exact row hl hi (fun ls' hl' => hG H locs ls' hP hS (ab_st_has2 (v := .inl (.long x)) hl'))
    · cases hs
  · cases hs
theorem ab_s_sa {i : Nat} (row : ∀ {H : Heap} {locs : List Loc} {ls : Array Slot} {rest : List Value} {x : Nat}, lv_has ls (ab_mL k) (ab_cvL Z b L) → i < ab_mL k → (∀ ls' : Array Slot, lv_has ls' (ab_mL k) ((i, Value.ref x) :: (ab_cvL Z b L).filter (fun q => !(q.1 == i) && !(q.1 + 1 == i && q.2.category == 2))) → W p Z.1 e R s mm args below meth c0 H locs cells slots Q (F0 mm nx ls' rest)) → W p Z.1 e R s mm args below meth c0 H locs cells slots Q (F0 mm pc ls (.ref x :: rest))) (hs : ab_sa k i nx o (pc, L, S, m) = some (cn, o1, st1)) (hG : ab_G Z (p, e, R, s, mm, args, below, meth, c0, cells, slots, Q, A, b, N, xs, k, d) st1) : ab_G Z (p, e, R, s, mm, args, below, meth, c0, cells, slots, Q, A, b, N, xs, k, d) (pc, L, S, m) := by
  unfold ab_sa at hs
  split at hs
  · next x r hx =>
    split at hs
    · next hi =>
      cases hs
      intro H locs ls hP hS hl
      have hx : S = .inl (.ref x) :: r := hx
      subst hx
      exact row hl hi (fun ls' hl' => hG H locs ls' hP hS (ab_st_has (v := .inl (.ref x)) hl'))
    · cases hs
  · next x r hx =>
    split at hs
    · next hi =>
      cases hs
      intro H locs ls hP hS hl
      have hx : S = .inr x :: r := hx
      subst hx
      exact row hl hi (fun ls' hl' => hG H locs ls' hP hS (ab_st_has (v := .inr x) hl'))
    · cases hs
  · cases hs
theorem ab_s_inc {i : Nat} {v : Int32} (row : ∀ {H : Heap} {locs : List Loc} {ls : Array Slot} {rest : List Value} {x : Int32} {j : Nat}, lv_has ls (ab_mL k) (ab_cvL Z b L) → (ab_cvL Z b L)[j]? = some (i, .int x) → i < ab_mL k → (∀ ls' : Array Slot, lv_has ls' (ab_mL k) ((i, Value.int (x + v)) :: (ab_cvL Z b L).filter (fun q => !(q.1 == i) && !(q.1 + 1 == i && q.2.category == 2))) → W p Z.1 e R s mm args below meth c0 H locs cells slots Q (F0 mm nx ls' rest)) → W p Z.1 e R s mm args below meth c0 H locs cells slots Q (F0 mm pc ls rest)) (hs : ab_inc k i v nx o (pc, L, S, m) = some (cn, o1, st1)) (hG : ab_G Z (p, e, R, s, mm, args, below, meth, c0, cells, slots, Q, A, b, N, xs, k, d) st1) : ab_G Z (p, e, R, s, mm, args, below, meth, c0, cells, slots, Q, A, b, N, xs, k, d) (pc, L, S, m) := by
  unfold ab_inc at hs
  split at hs
  · next x hx =>
    split at hs
    · next hi =>
      cases hs
      intro H locs ls hP hS hl
      obtain ⟨j, hj⟩ := List.getElem?_of_mem (List.mem_map.mpr ⟨(i, .inl (.int x)), ab_ld_mem hx, rfl⟩ : (i, Value.int x) ∈ ab_cvL Z b L)
      exact row hl hj hi (fun ls' hl' => hG H locs ls' hP hS (ab_st_has (v := .inl (.int (x + v))) hl'))
    · cases hs
  · cases hs
theorem ab_s_b2 {f : Int32 → Int32 → Int32} (row : ∀ {H : Heap} {locs : List Loc} {ls : Array Slot} {rest : List Value} {x y : Int32}, W p Z.1 e R s mm args below meth c0 H locs cells slots Q (F0 mm nx ls (.int (f x y) :: rest)) → W p Z.1 e R s mm args below meth c0 H locs cells slots Q (F0 mm pc ls (.int y :: .int x :: rest))) (hs : ab_b2 f nx o (pc, L, S, m) = some (cn, o1, st1)) (hc : ab_cd cn) (hG : ab_G Z (p, e, R, s, mm, args, below, meth, c0, cells, slots, Q, A, b, N, xs, k, d) st1) : ab_G Z (p, e, R, s, mm, args, below, meth, c0, cells, slots, Q, A, b, N, xs, k, d) (pc, L, S, m) := by
  unfold ab_b2 at hs
  split at hs
  · next y x r hq =>
    cases hs
    intro H locs ls hP hS hl
    have hq : S = .inl (.int y) :: .inl (.int x) :: r := hq
    subst hq
    exact row (hG H locs ls hP hS hl)
  · cases hs
theorem ab_s_b2n {f : Int32 → Int32 → Int32} (row : ∀ {H : Heap} {locs : List Loc} {ls : Array Slot} {rest : List Value} {x y : Int32}, ¬ y = 0 → W p Z.1 e R s mm args below meth c0 H locs cells slots Q (F0 mm nx ls (.int (f x y) :: rest)) → W p Z.1 e R s mm args below meth c0 H locs cells slots Q (F0 mm pc ls (.int y :: .int x :: rest))) (hs : ab_b2n f nx o (pc, L, S, m) = some (cn, o1, st1)) (hc : ab_cd cn) (hG : ab_G Z (p, e, R, s, mm, args, below, meth, c0, cells, slots, Q, A, b, N, xs, k, d) st1) : ab_G Z (p, e, R, s, mm, args, below, meth, c0, cells, slots, Q, A, b, N, xs, k, d) (pc, L, S, m) := by
  unfold ab_b2n at hs
  split at hs
  · next y x r hq =>
    cases hs
    intro H locs ls hP hS hl
    have hq : S = .inl (.int y) :: .inl (.int x) :: r := hq
    subst hq
    exact row hc (hG H locs ls hP hS hl)
  · cases hs
theorem ab_s_l2 {f : Int64 → Int64 → Int64} (row : ∀ {H : Heap} {locs : List Loc} {ls : Array Slot} {rest : List Value} {x y : Int64}, W p Z.1 e R s mm args below meth c0 H locs cells slots Q (F0 mm nx ls (.long (f x y) :: rest)) → W p Z.1 e R s mm args below meth c0 H locs cells slots Q (F0 mm pc ls (.long y :: .long x :: rest))) (hs : ab_l2 f nx o (pc, L, S, m) = some (cn, o1, st1)) (hc : ab_cd cn) (hG : ab_G Z (p, e, R, s, mm, args, below, meth, c0, cells, slots, Q, A, b, N, xs, k, d) st1) : ab_G Z (p, e, R, s, mm, args, below, meth, c0, cells, slots, Q, A, b, N, xs, k, d) (pc, L, S, m) := by
  unfold ab_l2 at hs
  split at hs
  · next y x r hq =>
    cases hs
    intro H locs ls hP hS hl
    have hq : S = .inl (.long y) :: .inl (.long x) :: r := hq
    subst hq
    exact row (hG H locs ls hP hS hl)
  · cases hs
theorem ab_s_l2n {f : Int64 → Int64 → Int64} (row : ∀ {H : Heap} {locs : List Loc} {ls : Array Slot} {rest : List Value} {x y : Int64}, ¬ y = 0 → W p Z.1 e R s mm args below meth c0 H locs cells slots Q (F0 mm nx ls (.long (f x y) :: rest)) → W p Z.1 e R s mm args below meth c0 H locs cells slots Q (F0 mm pc ls (.long y :: .long x :: rest))) (hs : ab_l2n f nx o (pc, L, S, m) = some (cn, o1, st1)) (hc : ab_cd cn) (hG : ab_G Z (p, e, R, s, mm, args, below, meth, c0, cells, slots, Q, A, b, N, xs, k, d) st1) : ab_G Z (p, e, R, s, mm, args, below, meth, c0, cells, slots, Q, A, b, N, xs, k, d) (pc, L, S, m) := by
  unfold ab_l2n at hs
  split at hs
  · next y x r hq =>
    cases hs
    intro H locs ls hP hS hl
    have hq : S = .inl (.long y) :: .inl (.long x) :: r := hq
    subst hq
    exact row hc (hG H locs ls hP hS hl)
  · cases hs
theorem ab_s_lsh {f : Int64 → Int32 → Int64} (row : ∀ {H : Heap} {locs : List Loc} {ls : Array Slot} {rest : List Value} {x : Int64} {y : Int32}, W p Z.1 e R s mm args below meth c0 H locs cells slots Q (F0 mm nx ls (.long (f x y) :: rest)) → W p Z.1 e R s mm args below meth c0 H locs cells slots Q (F0 mm pc ls (.int y :: .long x :: rest))) (hs : ab_lsh f nx o (pc, L, S, m) = some (cn, o1, st1)) (hc : ab_cd cn) (hG : ab_G Z (p, e, R, s, mm, args, below, meth, c0, cells, slots, Q, A, b, N, xs, k, d) st1) : ab_G Z (p, e, R, s, mm, args, below, meth, c0, cells, slots, Q, A, b, N, xs, k, d) (pc, L, S, m) := by
  unfold ab_lsh at hs
  split at hs
  · next y x r hq =>
    cases hs
    intro H locs ls hP hS hl
    have hq : S = .inl (.int y) :: .inl (.long x) :: r := hq
    subst hq
    exact row (hG H locs ls hP hS hl)
  · cases hs
theorem ab_s_lcm (row : ∀ {H : Heap} {locs : List Loc} {ls : Array Slot} {rest : List Value} {x y : Int64}, W p Z.1 e R s mm args below meth c0 H locs cells slots Q (F0 mm nx ls (.int (lg_cmp x y) :: rest)) → W p Z.1 e R s mm args below meth c0 H locs cells slots Q (F0 mm pc ls (.long y :: .long x :: rest))) (hs : ab_lcm nx o (pc, L, S, m) = some (cn, o1, st1)) (hc : ab_cd cn) (hG : ab_G Z (p, e, R, s, mm, args, below, meth, c0, cells, slots, Q, A, b, N, xs, k, d) st1) : ab_G Z (p, e, R, s, mm, args, below, meth, c0, cells, slots, Q, A, b, N, xs, k, d) (pc, L, S, m) := by
  unfold ab_lcm at hs
  split at hs
  · next y x r hq =>
    cases hs
    intro H locs ls hP hS hl
    have hq : S = .inl (.long y) :: .inl (.long x) :: r := hq
    subst hq
    exact row (hG H locs ls hP hS hl)
  · cases hs
theorem ab_s_neg (row : ∀ {H : Heap} {locs : List Loc} {ls : Array Slot} {rest : List Value} {x : Int32}, W p Z.1 e R s mm args below meth c0 H locs cells slots Q (F0 mm nx ls (.int (-x) :: rest)) → W p Z.1 e R s mm args below meth c0 H locs cells slots Q (F0 mm pc ls (.int x :: rest))) (hs : ab_neg nx o (pc, L, S, m) = some (cn, o1, st1)) (hc : ab_cd cn) (hG : ab_G Z (p, e, R, s, mm, args, below, meth, c0, cells, slots, Q, A, b, N, xs, k, d) st1) : ab_G Z (p, e, R, s, mm, args, below, meth, c0, cells, slots, Q, A, b, N, xs, k, d) (pc, L, S, m) := by
  unfold ab_neg at hs
  split at hs
  · next x r hq =>
    cases hs
    intro H locs ls hP hS hl
    have hq : S = .inl (.int x) :: r := hq
    subst hq
    exact row (hG H locs ls hP hS hl)
  · cases hs
theorem ab_s_i2l (row : ∀ {H : Heap} {locs : List Loc} {ls : Array Slot} {rest : List Value} {x : Int32}, W p Z.1 e R s mm args below meth c0 H locs cells slots Q (F0 mm nx ls (.long x.toInt64 :: rest)) → W p Z.1 e R s mm args below meth c0 H locs cells slots Q (F0 mm pc ls (.int x :: rest))) (hs : ab_i2l nx o (pc, L, S, m) = some (cn, o1, st1)) (hc : ab_cd cn) (hG : ab_G Z (p, e, R, s, mm, args, below, meth, c0, cells, slots, Q, A, b, N, xs, k, d) st1) : ab_G Z (p, e, R, s, mm, args, below, meth, c0, cells, slots, Q, A, b, N, xs, k, d) (pc, L, S, m) := by
  unfold ab_i2l at hs
  split at hs
  · next x r hq =>
    cases hs
    intro H locs ls hP hS hl
    have hq : S = .inl (.int x) :: r := hq
    subst hq
    exact row (hG H locs ls hP hS hl)
  · cases hs
theorem ab_s_l2i (row : ∀ {H : Heap} {locs : List Loc} {ls : Array Slot} {rest : List Value} {x : Int64}, W p Z.1 e R s mm args below meth c0 H locs cells slots Q (F0 mm nx ls (.int x.toInt32 :: rest)) → W p Z.1 e R s mm args below meth c0 H locs cells slots Q (F0 mm pc ls (.long x :: rest))) (hs : ab_l2i nx o (pc, L, S, m) = some (cn, o1, st1)) (hc : ab_cd cn) (hG : ab_G Z (p, e, R, s, mm, args, below, meth, c0, cells, slots, Q, A, b, N, xs, k, d) st1) : ab_G Z (p, e, R, s, mm, args, below, meth, c0, cells, slots, Q, A, b, N, xs, k, d) (pc, L, S, m) := by
  unfold ab_l2i at hs
  split at hs
  · next x r hq =>
    cases hs
    intro H locs ls hP hS hl
    have hq : S = .inl (.long x) :: r := hq
    subst hq
    exact row (hG H locs ls hP hS hl)
  · cases hs
theorem ab_s_if1 {cd : Jvm.ClassFile.Cond} {t : Nat} (row : ∀ {H : Heap} {locs : List Loc} {ls : Array Slot} {rest : List Value} {x : Int32}, ab_c2 cd t x 0 → W p Z.1 e R s mm args below meth c0 H locs cells slots Q (F0 mm nx ls (rest)) → W p Z.1 e R s mm args below meth c0 H locs cells slots Q (F0 mm pc ls (.int x :: rest))) (hs : ab_if1 cd t nx o (pc, L, S, m) = some (cn, o1, st1)) (hc : ab_cd cn) (hG : ab_G Z (p, e, R, s, mm, args, below, meth, c0, cells, slots, Q, A, b, N, xs, k, d) st1) : ab_G Z (p, e, R, s, mm, args, below, meth, c0, cells, slots, Q, A, b, N, xs, k, d) (pc, L, S, m) := by
  unfold ab_if1 at hs
  split at hs
  · next x r hq =>
    cases hs
    intro H locs ls hP hS hl
    have hq : S = .inl (.int x) :: r := hq
    subst hq
    exact row hc (hG H locs ls hP hS hl)
  · cases hs
theorem ab_s_if2 {cd : Jvm.ClassFile.Cond} {t : Nat} (row : ∀ {H : Heap} {locs : List Loc} {ls : Array Slot} {rest : List Value} {x y : Int32}, ab_c2 cd t x y → W p Z.1 e R s mm args below meth c0 H locs cells slots Q (F0 mm nx ls (rest)) → W p Z.1 e R s mm args below meth c0 H locs cells slots Q (F0 mm pc ls (.int y :: .int x :: rest))) (hs : ab_if2 cd t nx o (pc, L, S, m) = some (cn, o1, st1)) (hc : ab_cd cn) (hG : ab_G Z (p, e, R, s, mm, args, below, meth, c0, cells, slots, Q, A, b, N, xs, k, d) st1) : ab_G Z (p, e, R, s, mm, args, below, meth, c0, cells, slots, Q, A, b, N, xs, k, d) (pc, L, S, m) := by
  unfold ab_if2 at hs
  split at hs
  · next y x r hq =>
    cases hs
    intro H locs ls hP hS hl
    have hq : S = .inl (.int y) :: .inl (.int x) :: r := hq
    subst hq
    exact row hc (hG H locs ls hP hS hl)
  · cases hs
theorem ab_s_dup (row : ∀ {H : Heap} {locs : List Loc} {ls : Array Slot} {rest : List Value} {v : Value}, v.category = 1 → W p Z.1 e R s mm args below meth c0 H locs cells slots Q (F0 mm nx ls (v :: v :: rest)) → W p Z.1 e R s mm args below meth c0 H locs cells slots Q (F0 mm pc ls (v :: rest))) (hs : ab_dup nx o (pc, L, S, m) = some (cn, o1, st1)) (hG : ab_G Z (p, e, R, s, mm, args, below, meth, c0, cells, slots, Q, A, b, N, xs, k, d) st1) : ab_G Z (p, e, R, s, mm, args, below, meth, c0, cells, slots, Q, A, b, N, xs, k, d) (pc, L, S, m) := by
  unfold ab_dup at hs
  split at hs
  · next v r hq =>
    split at hs
    · next hv =>
      cases hs
      intro H locs ls hP hS hl
      have hq : S = v :: r := hq
      subst hq
      exact row (by rw [ab_cat_cv]; exact hv) (hG H locs ls hP hS hl)
    · cases hs
  · cases hs
theorem ab_s_pop (row : ∀ {H : Heap} {locs : List Loc} {ls : Array Slot} {rest : List Value} {v : Value}, v.category = 1 → W p Z.1 e R s mm args below meth c0 H locs cells slots Q (F0 mm nx ls rest) → W p Z.1 e R s mm args below meth c0 H locs cells slots Q (F0 mm pc ls (v :: rest))) (hs : ab_pop nx o (pc, L, S, m) = some (cn, o1, st1)) (hG : ab_G Z (p, e, R, s, mm, args, below, meth, c0, cells, slots, Q, A, b, N, xs, k, d) st1) : ab_G Z (p, e, R, s, mm, args, below, meth, c0, cells, slots, Q, A, b, N, xs, k, d) (pc, L, S, m) := by
  unfold ab_pop at hs
  split at hs
  · next v r hq =>
    split at hs
    · next hv =>
      cases hs
      intro H locs ls hP hS hl
      have hq : S = v :: r := hq
      subst hq
      exact row (v := ab_cv Z b v) (by rw [ab_cat_cv]; exact hv) (hG H locs ls hP hS hl)
    · cases hs
  · cases hs
theorem ab_s_du2 (row : ∀ {H : Heap} {locs : List Loc} {ls : Array Slot} {rest : List Value} {v w : Value}, v.category = 1 → w.category = 1 → W p Z.1 e R s mm args below meth c0 H locs cells slots Q (F0 mm nx ls (v :: w :: v :: w :: rest)) → W p Z.1 e R s mm args below meth c0 H locs cells slots Q (F0 mm pc ls (v :: w :: rest))) (hs : ab_du2 nx o (pc, L, S, m) = some (cn, o1, st1)) (hG : ab_G Z (p, e, R, s, mm, args, below, meth, c0, cells, slots, Q, A, b, N, xs, k, d) st1) : ab_G Z (p, e, R, s, mm, args, below, meth, c0, cells, slots, Q, A, b, N, xs, k, d) (pc, L, S, m) := by
  unfold ab_du2 at hs
  split at hs
  · next v w r hq =>
    split at hs
    · next hv =>
      cases hs
      intro H locs ls hP hS hl
      have hq : S = v :: w :: r := hq
      subst hq
      exact row (by rw [ab_cat_cv]; exact hv.1) (by rw [ab_cat_cv]; exact hv.2) (hG H locs ls hP hS hl)
    · cases hs
  · cases hs
end ABS
end
section
/-! ===== the heap's instructions, switches, calls ===== -/
set_option maxRecDepth 100000 in
theorem ab_i0 : ∀ w ∈ u_ws RX0 TX0 1, w ∈ ab_tb := by decide +kernel
set_option maxRecDepth 100000 in
theorem ab_i1 : ∀ w ∈ u_ws RX1 TX1 9, w ∈ ab_tb := by decide +kernel
set_option maxRecDepth 100000 in
theorem ab_i2 : ∀ w ∈ u_ws RX2 TX2 4, w ∈ ab_tb := by decide +kernel
set_option maxRecDepth 100000 in
theorem ab_i3 : ∀ w ∈ u_ws RX3 TX3 8, w ∈ ab_tb := by decide +kernel
set_option maxRecDepth 100000 in
theorem ab_i4 : ∀ w ∈ u_ws RX4 TX4 5, w ∈ ab_tb := by decide +kernel
set_option maxRecDepth 100000 in
theorem ab_i5 : ∀ w ∈ u_ws RX5 TX5 15, w ∈ ab_tb := by decide +kernel
set_option maxRecDepth 100000 in
theorem ab_i6 : ∀ w ∈ u_ws RX6 TX6 4, w ∈ ab_tb := by decide +kernel
set_option maxRecDepth 100000 in
theorem ab_i7 : ∀ w ∈ u_ws RX7 TX7 15, w ∈ ab_tb := by decide +kernel
set_option maxRecDepth 100000 in
theorem ab_i8 : ∀ w ∈ u_ws RX8 TX8 47, w ∈ ab_tb := by decide +kernel
theorem ab_cl_all : ∀ (ci : Nat) (C : String) (T : u_T) (N : Nat), vwCl[ci]? = some (C, T, N) → (∀ w ∈ u_ws C T N, w ∈ ab_tb) ∧ (∃ ty0 : Nat → FieldType, ∀ k, k < N → parseFieldDescriptor (T k).2.2.1 = some (ty0 k)) ∧ (∀ a, a < N → ∀ b, b < N → a ≠ b → (T a).2.1 ≠ (T b).2.1)
  | 0, _, _, _, h => by cases h; exact ⟨ab_i0, ⟨tyX0, tyX0_ok⟩, nmX0⟩
  | 1, _, _, _, h => by cases h; exact ⟨ab_i1, ⟨tyX1, tyX1_ok⟩, nmX1⟩
  | 2, _, _, _, h => by cases h; exact ⟨ab_i2, ⟨tyX2, tyX2_ok⟩, nmX2⟩
  | 3, _, _, _, h => by cases h; exact ⟨ab_i3, ⟨tyX3, tyX3_ok⟩, nmX3⟩
  | 4, _, _, _, h => by cases h; exact ⟨ab_i4, ⟨tyX4, tyX4_ok⟩, nmX4⟩
  | 5, _, _, _, h => by cases h; exact ⟨ab_i5, ⟨tyX5, tyX5_ok⟩, nmX5⟩
  | 6, _, _, _, h => by cases h; exact ⟨ab_i6, ⟨tyX6, tyX6_ok⟩, nmX6⟩
  | 7, _, _, _, h => by cases h; exact ⟨ab_i7, ⟨tyX7, tyX7_ok⟩, nmX7⟩
  | 8, _, _, _, h => by cases h; exact ⟨ab_i8, ⟨tyX8, tyX8_ok⟩, nmX8⟩
  | n + 9, _, _, _, h => by simp [vwCl] at h
def ab_mchk (k : Nat) : Bool :=
  ab_wd (ab_mJ k).1 (.code (ab_mY k) (ab_mB k) (ab_mL k) (ab_mR k)) && (ab_wd (ab_mJ k).2.2.2.1 (.initialized (ab_mY k).cls) && (decide ((ab_mY k).cls ≠ "java/lang/invoke/MethodHandle") && (decide ((ab_mY k).cls ≠ "java/lang/invoke/VarHandle") && ((plainName (ab_mY k).cls || (decide (143 ≤ k) && decide (k ≤ 145))) && (decide (ab_mL k ≤ 40) && (decide ((ab_mI k).2.2.1 ≤ ab_mL k) &&
    (if (ab_mJ k).2.2.2.2 = true then ab_wd (ab_mJ k).2.1 (.static (ab_mY k)) && decide ((parseMethodDescriptor (ab_mY k).desc).map (fun d => d.parameters.length) = some (ab_mI k).2.2.1)
     else ab_wd (ab_mJ k).2.1 (.instanceMethod (ab_mY k)) && (ab_wd (ab_mJ k).2.2.1 (.selects (ab_mY k).cls (ab_mY k) (ab_mY k)) && (decide ((parseMethodDescriptor (ab_mY k).desc).map (fun d => d.parameters.length + 1) = some (ab_mI k).2.2.1) && match vwCl[(ab_mI k).2.2.2]? with | some q => decide (q.1 = (ab_mY k).cls) | none => false)))))))))
set_option maxRecDepth 100000 in
theorem ab_mck0 : (List.range 7).all (fun i => ab_mchk (0 + i)) = true := by decide +kernel
set_option maxRecDepth 100000 in
theorem ab_mck1 : (List.range 7).all (fun i => ab_mchk (7 + i)) = true := by decide +kernel
set_option maxRecDepth 100000 in
theorem ab_mck2 : (List.range 7).all (fun i => ab_mchk (14 + i)) = true := by decide +kernel
set_option maxRecDepth 100000 in
theorem ab_mck3 : (List.range 7).all (fun i => ab_mchk (21 + i)) = true := by decide +kernel
set_option maxRecDepth 100000 in
theorem ab_mck4 : (List.range 7).all (fun i => ab_mchk (28 + i)) = true := by decide +kernel
set_option maxRecDepth 100000 in
theorem ab_mck5 : (List.range 7).all (fun i => ab_mchk (35 + i)) = true := by decide +kernel
set_option maxRecDepth 100000 in
theorem ab_mck6 : (List.range 7).all (fun i => ab_mchk (42 + i)) = true := by decide +kernel
set_option maxRecDepth 100000 in
theorem ab_mck7 : (List.range 7).all (fun i => ab_mchk (49 + i)) = true := by decide +kernel
set_option maxRecDepth 100000 in
theorem ab_mck8 : (List.range 7).all (fun i => ab_mchk (56 + i)) = true := by decide +kernel
set_option maxRecDepth 100000 in
theorem ab_mck9 : (List.range 7).all (fun i => ab_mchk (63 + i)) = true := by decide +kernel
set_option maxRecDepth 100000 in
theorem ab_mck10 : (List.range 7).all (fun i => ab_mchk (70 + i)) = true := by decide +kernel
set_option maxRecDepth 100000 in
theorem ab_mck11 : (List.range 7).all (fun i => ab_mchk (77 + i)) = true := by decide +kernel
set_option maxRecDepth 100000 in
theorem ab_mck12 : (List.range 7).all (fun i => ab_mchk (84 + i)) = true := by decide +kernel
set_option maxRecDepth 100000 in
theorem ab_mck13 : (List.range 7).all (fun i => ab_mchk (91 + i)) = true := by decide +kernel
set_option maxRecDepth 100000 in
theorem ab_mck14 : (List.range 7).all (fun i => ab_mchk (98 + i)) = true := by decide +kernel
set_option maxRecDepth 100000 in
theorem ab_mck15 : (List.range 7).all (fun i => ab_mchk (105 + i)) = true := by decide +kernel
set_option maxRecDepth 100000 in
theorem ab_mck16 : (List.range 7).all (fun i => ab_mchk (112 + i)) = true := by decide +kernel
set_option maxRecDepth 100000 in
theorem ab_mck17 : (List.range 7).all (fun i => ab_mchk (119 + i)) = true := by decide +kernel
set_option maxRecDepth 100000 in
theorem ab_mck18 : (List.range 7).all (fun i => ab_mchk (126 + i)) = true := by decide +kernel
set_option maxRecDepth 100000 in
theorem ab_mck19 : (List.range 7).all (fun i => ab_mchk (133 + i)) = true := by decide +kernel
set_option maxRecDepth 100000 in
theorem ab_mck20 : (List.range 7).all (fun i => ab_mchk (140 + i)) = true := by decide +kernel
theorem ab_mck {k : Nat} (h : k < ab_NM - 1) : ab_mchk k = true := by
  have h : k < 147 := h
  by_cases q0 : k < 7
  · have z := List.all_eq_true.mp ab_mck0 (k - 0) (List.mem_range.mpr (by omega))
    rw [show 0 + (k - 0) = k by omega] at z
    exact z
  by_cases q7 : k < 14
  · have z := List.all_eq_true.mp ab_mck1 (k - 7) (List.mem_range.mpr (by omega))
    rw [show 7 + (k - 7) = k by omega] at z
    exact z
  by_cases q14 : k < 21
  · have z := List.all_eq_true.mp ab_mck2 (k - 14) (List.mem_range.mpr (by omega))
    rw [show 14 + (k - 14) = k by omega] at z
    exact z
  by_cases q21 : k < 28
  · have z := List.all_eq_true.mp ab_mck3 (k - 21) (List.mem_range.mpr (by omega))
    rw [show 21 + (k - 21) = k by omega] at z
    exact z
  by_cases q28 : k < 35
  · have z := List.all_eq_true.mp ab_mck4 (k - 28) (List.mem_range.mpr (by omega))
    rw [show 28 + (k - 28) = k by omega] at z
    exact z
  by_cases q35 : k < 42
  · have z := List.all_eq_true.mp ab_mck5 (k - 35) (List.mem_range.mpr (by omega))
    rw [show 35 + (k - 35) = k by omega] at z
    exact z
  by_cases q42 : k < 49
  · have z := List.all_eq_true.mp ab_mck6 (k - 42) (List.mem_range.mpr (by omega))
    rw [show 42 + (k - 42) = k by omega] at z
    exact z
  by_cases q49 : k < 56
  · have z := List.all_eq_true.mp ab_mck7 (k - 49) (List.mem_range.mpr (by omega))
    rw [show 49 + (k - 49) = k by omega] at z
    exact z
  by_cases q56 : k < 63
  · have z := List.all_eq_true.mp ab_mck8 (k - 56) (List.mem_range.mpr (by omega))
    rw [show 56 + (k - 56) = k by omega] at z
    exact z
  by_cases q63 : k < 70
  · have z := List.all_eq_true.mp ab_mck9 (k - 63) (List.mem_range.mpr (by omega))
    rw [show 63 + (k - 63) = k by omega] at z
    exact z
  by_cases q70 : k < 77
  · have z := List.all_eq_true.mp ab_mck10 (k - 70) (List.mem_range.mpr (by omega))
    rw [show 70 + (k - 70) = k by omega] at z
    exact z
  by_cases q77 : k < 84
  · have z := List.all_eq_true.mp ab_mck11 (k - 77) (List.mem_range.mpr (by omega))
    rw [show 77 + (k - 77) = k by omega] at z
    exact z
  by_cases q84 : k < 91
  · have z := List.all_eq_true.mp ab_mck12 (k - 84) (List.mem_range.mpr (by omega))
    rw [show 84 + (k - 84) = k by omega] at z
    exact z
  by_cases q91 : k < 98
  · have z := List.all_eq_true.mp ab_mck13 (k - 91) (List.mem_range.mpr (by omega))
    rw [show 91 + (k - 91) = k by omega] at z
    exact z
  by_cases q98 : k < 105
  · have z := List.all_eq_true.mp ab_mck14 (k - 98) (List.mem_range.mpr (by omega))
    rw [show 98 + (k - 98) = k by omega] at z
    exact z
  by_cases q105 : k < 112
  · have z := List.all_eq_true.mp ab_mck15 (k - 105) (List.mem_range.mpr (by omega))
    rw [show 105 + (k - 105) = k by omega] at z
    exact z
  by_cases q112 : k < 119
  · have z := List.all_eq_true.mp ab_mck16 (k - 112) (List.mem_range.mpr (by omega))
    rw [show 112 + (k - 112) = k by omega] at z
    exact z
  by_cases q119 : k < 126
  · have z := List.all_eq_true.mp ab_mck17 (k - 119) (List.mem_range.mpr (by omega))
    rw [show 119 + (k - 119) = k by omega] at z
    exact z
  by_cases q126 : k < 133
  · have z := List.all_eq_true.mp ab_mck18 (k - 126) (List.mem_range.mpr (by omega))
    rw [show 126 + (k - 126) = k by omega] at z
    exact z
  by_cases q133 : k < 140
  · have z := List.all_eq_true.mp ab_mck19 (k - 133) (List.mem_range.mpr (by omega))
    rw [show 133 + (k - 133) = k by omega] at z
    exact z
  by_cases q140 : k < 147
  · have z := List.all_eq_true.mp ab_mck20 (k - 140) (List.mem_range.mpr (by omega))
    rw [show 140 + (k - 140) = k by omega] at z
    exact z
  exact absurd h (by omega)
set_option maxRecDepth 100000 in
theorem ab_pf0 : plainFor (ab_mY 143) = true := by decide +kernel
set_option maxRecDepth 100000 in
theorem ab_pf1 : plainFor (ab_mY 144) = true := by decide +kernel
set_option maxRecDepth 100000 in
theorem ab_pf2 : plainFor (ab_mY 145) = true := by decide +kernel
end
section
section ABH
variable {Z : ab_Z} {p : Program} {e : Env} {R : Room} {s : State} {mm : MethodId} {args : Array Value} {below : List Frame} {meth : Method} {c0 : Code} {cells slots : Nat} {Q : State → Prop} {A : Nat → Prop} {b N : Nat} {xs : Nat → Int32} {k d : Nat} {pc nx : Nat} {L : List (Nat × ab_V)} {S : List ab_V} {m : ab_M} {o o1 : List ab_O} {cn : Option Prop} {st1 : ab_S}
theorem ab_wd_tb {j : Nat} {w : Jvm.Cond} (h : ab_wd j w = true) : w ∈ ab_tb := by
  unfold ab_wd at h
  rw [Bool.and_eq_true, decide_eq_true_eq] at h
  exact ab_tb_of h.1 h.2
theorem ab_good {ws : List Jvm.Cond} (h : ∀ w ∈ ws, w ∈ ab_tb) : GoodIn ab_tb ws := fun w hw => ⟨h w hw, good_of_word (List.mem_filter.mp (h w hw)).2⟩
theorem ab_cell_obj (Z : ab_Z) (m : ab_M) {q t : Nat} (h : (ab_sh q).1 = 4 + t) : ab_cell Z m q = .inr (t, (ab_sh q).2.2.2.2.mapIdx (fun i f => ab_fv Z m q i f)) := by
  unfold ab_cell
  rw [show (ab_sh q).1 = t + 4 by omega]
theorem ab_cell_0 (Z : ab_Z) (m : ab_M) {q : Nat} (h : (ab_sh q).1 = 0) : ab_cell Z m q = .inl (ab_cI Z, (ab_sh q).2.1, .inl (m.1 q)) := by
  unfold ab_cell
  rw [h]
theorem ab_cell_1 (Z : ab_Z) (m : ab_M) {q : Nat} (h : (ab_sh q).1 = 1) : ab_cell Z m q = .inl (ab_cZ Z, (ab_sh q).2.1, .inl (m.1 q)) := by
  unfold ab_cell
  rw [h]
theorem ab_cell_2 (Z : ab_Z) (m : ab_M) {q : Nat} (h : (ab_sh q).1 = 2) : ab_cell Z m q = .inl (ab_cJ Z, (ab_sh q).2.1, .inr (.inl (m.2 q))) := by
  unfold ab_cell
  rw [h]
theorem ab_cell_3 (Z : ab_Z) (m : ab_M) {q : Nat} (h : (ab_sh q).1 = 3) : ab_cell Z m q = .inl (ab_cA Z, (ab_sh q).2.1, .inr (.inr (.inr (.inr (fun i => if i < (ab_sh q).2.1 then some (ab_ar Z ((ab_sh q).2.2.2.1 + i)) else none))))) := by
  unfold ab_cell
  rw [h]
theorem ab_at_0 (Z : ab_Z) (m : ab_M) {q : Nat} (hq : q < ab_NP) (h : (ab_sh q).1 = 0) : (ab_w Z m)[q]? = some (ab_ad Z q, .inl (ab_cI Z, (ab_sh q).2.1, .inl (m.1 q))) := by rw [ab_w_at Z m hq, ab_cell_0 Z m h]
theorem ab_at_1 (Z : ab_Z) (m : ab_M) {q : Nat} (hq : q < ab_NP) (h : (ab_sh q).1 = 1) : (ab_w Z m)[q]? = some (ab_ad Z q, .inl (ab_cZ Z, (ab_sh q).2.1, .inl (m.1 q))) := by rw [ab_w_at Z m hq, ab_cell_1 Z m h]
theorem ab_at_2 (Z : ab_Z) (m : ab_M) {q : Nat} (hq : q < ab_NP) (h : (ab_sh q).1 = 2) : (ab_w Z m)[q]? = some (ab_ad Z q, .inl (ab_cJ Z, (ab_sh q).2.1, .inr (.inl (m.2 q)))) := by rw [ab_w_at Z m hq, ab_cell_2 Z m h]
theorem ab_at_3 (Z : ab_Z) (m : ab_M) {q : Nat} (hq : q < ab_NP) (h : (ab_sh q).1 = 3) : (ab_w Z m)[q]? = some (ab_ad Z q, .inl (ab_cA Z, (ab_sh q).2.1, .inr (.inr (.inr (.inr (fun i => if i < (ab_sh q).2.1 then some (ab_ar Z ((ab_sh q).2.2.2.1 + i)) else none)))))) := by rw [ab_w_at Z m hq, ab_cell_3 Z m h]
theorem ab_at_o (Z : ab_Z) (m : ab_M) {q t : Nat} (hq : q < ab_NP) (h : (ab_sh q).1 = 4 + t) : (ab_w Z m)[q]? = some (ab_ad Z q, .inr (t, (ab_sh q).2.2.2.2.mapIdx (fun i f => ab_fv Z m q i f))) := by rw [ab_w_at Z m hq, ab_cell_obj Z m h]
theorem ab_at_r (Z : ab_Z) (m : ab_M) {q i : Nat} (h : (ab_sh q).1 = 3) (hi : i < (ab_sh q).2.1) : (ab_w Z m)[ab_NP + ((ab_sh q).2.2.2.1 + i)]? = some (ab_ar Z ((ab_sh q).2.2.2.1 + i), .inl (ab_cI Z, (ab_sh q).2.2.1, .inl (fun j => m.1 q (i * (ab_sh q).2.2.1 + j)))) := by
  obtain ⟨h1, h2⟩ := ab_sh_rw q (ab_sh_big h) h i hi
  rw [ab_w_row Z m h1]
  unfold ab_row
  rw [h2]
theorem ab_in_lt {i : Int32} {n : Nat} (h : vp_in i n) : i.toNatClampNeg < n := Nat.not_le.mp fun q => h (Or.inr q)
theorem ab_ref_cv (Z : ab_Z) (b : Nat) {q : Nat} (h : q < ab_NP) : ab_cv Z b (.inl (.ref q)) = .ref (ab_ad Z q) := by
  show Value.ref (if q = 999 then b else ab_ad Z q) = _
  rw [if_neg (by unfold ab_NP at h; omega)]
theorem ab_ref_cv2 (Z : ab_Z) (b : Nat) {q : Nat} (h : q < 999) : ab_cv Z b (.inl (.ref q)) = .ref (ab_ad Z q) := by
  show Value.ref (if q = 999 then b else ab_ad Z q) = _
  rw [if_neg (by omega)]
theorem ab_scr_cv (Z : ab_Z) (b : Nat) : ab_cv Z b (.inl (.ref 999)) = .ref b := rfl
theorem ab_s_gf (hx : p.tables.exec = Jvm.exec) (hb : c0.code = ab_mB k) (hts : ∀ w ∈ ab_tb, w.before args s = true) (hnw : ∀ w ∈ ab_nw, va_Nw w s) (hK : va_K (ab_D Z) vwCl (ab_ty Z) s) (hA : ∀ q, ab_A Z q → A q) (hZ : ab_okZ Z) {own : String} (hown : s.vm.findClass own = some mm.cls) {a ix j : Nat} (hf : ab_fok own ix a j false = true) (hdg : decode (ab_mB k) pc = .ok (.getfield ix, 3)) (hs : ab_gf a (pc + 3) o (pc, L, S, m) = some (cn, o1, st1)) (hG : ab_G Z (p, e, R, s, mm, args, below, meth, c0, cells, slots, Q, A, b, N, xs, k, d) st1) : ab_G Z (p, e, R, s, mm, args, below, meth, c0, cells, slots, Q, A, b, N, xs, k, d) (pc, L, S, m) := by
  unfold ab_gf at hs
  split at hs
  · next q r hq =>
    have hq : S = .inl (.ref q) :: r := hq
    subst hq
    split at hs
    · next hp =>
      unfold ab_fok at hf
      cases hcl : vwCl[a / 100 % 100]? with
      | none => rw [hcl] at hf; cases hf
      | some z =>
        obtain ⟨C, T, M⟩ := z
        rw [hcl] at hf
        simp only [Bool.and_eq_true, decide_eq_true_eq, Bool.or_eq_true] at hf
        obtain ⟨hk, hl, -⟩ := hf
        obtain ⟨hin, -, -⟩ := ab_cl_all _ _ _ _ hcl
        have he := ab_at_o Z m hp.1 hp.2
        have key : ∀ (v : Value), ((ab_sh q).2.2.2.2.mapIdx (fun i f => ab_fv Z m q i f))[a % 100]? = some v → ∀ (H : Heap) (locs : List Loc) (ls : Array Slot), va_P (ab_D Z) vwCl (ab_w Z m) H → W p Z.1 e R s mm args below meth c0 H locs cells slots Q (F0 mm (pc + 3) ls (v :: r.map (ab_cv Z b))) → W p Z.1 e R s mm args below meth c0 H locs cells slots Q (F0 mm pc ls (.ref (ab_ad Z q) :: r.map (ab_cv Z b))) := by
          intro v hv H locs ls hP hW
          rcases hl with hl | hl
          · exact va_get hx hb hts hin hown hK hP q he hcl (a % 100) hk (hts _ (ab_wd_tb hl)) (fun _ h9 => h9) hv hdg hW
          · have hw := ab_nw_of (of_decide_eq_true hl) rfl
            exact va_getN hx hb hts hin hown hK hP q he hcl (a % 100) hk (va_Nw.use rfl (hnw _ hw)) (fun _ h9 => h9) hv hdg hW
        split at hs
        · next hfs =>
          cases hs
          intro H locs ls hP hS hl'
          show W p Z.1 e R s mm args below meth c0 H locs cells slots Q (F0 mm pc ls (ab_cv Z b (.inl (.ref q)) :: r.map (ab_cv Z b)))
          rw [ab_ref_cv Z b hp.1]
          refine key (.int (m.1 q (a % 100))) ?_ H locs ls hP (hG H locs ls hP hS hl')
          rw [List.getElem?_mapIdx, hfs]
          rfl
        · next q2 hfs =>
          split at hs
          · next hq2 =>
            cases hs
            intro H locs ls hP hS hl'
            show W p Z.1 e R s mm args below meth c0 H locs cells slots Q (F0 mm pc ls (ab_cv Z b (.inl (.ref q)) :: r.map (ab_cv Z b)))
            rw [ab_ref_cv Z b hp.1]
            refine key (.ref (ab_ad Z q2)) ?_ H locs ls hP ?_
            · rw [List.getElem?_mapIdx, hfs]
              rfl
            · have := hG H locs ls hP hS hl'
              rw [← ab_ref_cv2 Z b hq2]
              exact this
          · cases hs
        · cases hs
    · cases hs
  · cases hs
theorem ab_zk_nar {v : Int32} (h : ab_zk v) : narrow .boolean (.int v) = .int v ∧ fits .boolean (.int v) = true := by
  rcases h with rfl | rfl
  · exact ⟨rfl, rfl⟩
  · exact ⟨rfl, rfl⟩
theorem ab_fs_set (Z : ab_Z) (m : ab_M) {q i : Nat} {v : Int32} {fs : List (Option Nat)} (h : fs[i]? = some none) : (fs.mapIdx (fun i f => ab_fv Z m q i f)).set i (.int v) = fs.mapIdx (fun j f => ab_fv Z (ab_wr m q i v) q j f) := by
  refine List.ext_getElem? fun j => ?_
  have hi : i < fs.length := (List.getElem?_eq_some_iff.mp h).1
  by_cases hj : j = i
  · subst hj
    rw [List.getElem?_set_self (by simpa using hi), List.getElem?_mapIdx, h]
    show some (Value.int v) = some (Value.int ((ab_wr m q j v).1 q j))
    rw [ab_wr_p]
    unfold upd
    rw [if_pos rfl]
  · rw [List.getElem?_set_ne (Ne.symm hj), List.getElem?_mapIdx, List.getElem?_mapIdx]
    cases fs[j]? with
    | none => rfl
    | some f =>
      cases f with
      | some _ => rfl
      | none =>
        show some (Value.int (m.1 q j)) = some (Value.int ((ab_wr m q i v).1 q j))
        rw [ab_wr_p]
        unfold upd
        rw [if_neg hj]
theorem ab_s_pf (hx : p.tables.exec = Jvm.exec) (hb : c0.code = ab_mB k) (hts : ∀ w ∈ ab_tb, w.before args s = true) (hnw : ∀ w ∈ ab_nw, va_Nw w s) (hK : va_K (ab_D Z) vwCl (ab_ty Z) s) (hA : ∀ q, ab_A Z q → A q) (hZ : ab_okZ Z) {own : String} (hown : s.vm.findClass own = some mm.cls) {a ix j : Nat} (hf : ab_fok own ix a j true = true) (hdg : decode (ab_mB k) pc = .ok (.putfield ix, 3)) (hs : ab_pf a (pc + 3) o (pc, L, S, m) = some (cn, o1, st1)) (hc : ab_cd cn) (hG : ab_G Z (p, e, R, s, mm, args, below, meth, c0, cells, slots, Q, A, b, N, xs, k, d) st1) : ab_G Z (p, e, R, s, mm, args, below, meth, c0, cells, slots, Q, A, b, N, xs, k, d) (pc, L, S, m) := by
  unfold ab_pf at hs
  split at hs
  · next v q r hq =>
    have hq : S = .inl (.int v) :: .inl (.ref q) :: r := hq
    subst hq
    split at hs
    · next hp =>
      unfold ab_fok at hf
      cases hcl : vwCl[a / 100 % 100]? with
      | none => rw [hcl] at hf; cases hf
      | some z =>
        obtain ⟨C, T, M⟩ := z
        rw [hcl] at hf
        simp only [Bool.and_eq_true, decide_eq_true_eq, Bool.or_eq_true, Bool.not_true, Bool.false_eq_true, false_or, Bool.not_eq_true'] at hf
        obtain ⟨hk, hl, hfin, hd⟩ := hf
        obtain ⟨hin, ⟨ty0, hty⟩, hnm⟩ := ab_cl_all _ _ _ _ hcl
        have he := ab_at_o Z m hp.1 hp.2
        split at hs
        · next hfs =>
          cases hs
          intro H locs ls hP hS hl'
          show W p Z.1 e R s mm args below meth c0 H locs cells slots Q (F0 mm pc ls (.int v :: ab_cv Z b (.inl (.ref q)) :: r.map (ab_cv Z b)))
          rw [ab_ref_cv Z b hp.1]
          have hnf : narrow (if a < 10000 then FieldType.int else FieldType.boolean) (.int v) = .int v ∧ fits (if a < 10000 then FieldType.int else FieldType.boolean) (.int v) = true := by
            by_cases ha : a < 10000
            · rw [if_pos ha]
              exact ⟨rfl, rfl⟩
            · rw [if_neg ha]
              rw [if_neg ha] at hc
              exact ab_zk_nar hc
          have hlen : a % 100 < ((ab_sh q).2.2.2.2.mapIdx (fun i f => ab_fv Z m q i f)).length := by
            rw [List.length_mapIdx]
            exact (List.getElem?_eq_some_iff.mp hfs).1
          have fin : ∀ (H1 : Heap) (locs1 : List Loc), va_P (ab_D Z) vwCl ((ab_w Z m).set q (ab_ad Z q, .inr (a / 100 % 100, ((ab_sh q).2.2.2.2.mapIdx (fun i f => ab_fv Z m q i f)).set (a % 100) (.int v)))) H1 → va_D A ((ab_w Z m).set q (ab_ad Z q, .inr (a / 100 % 100, ((ab_sh q).2.2.2.2.mapIdx (fun i f => ab_fv Z m q i f)).set (a % 100) (.int v)))) → va_S A s.heap H1 locs1 → W p Z.1 e R s mm args below meth c0 H1 locs1 cells slots Q (F0 mm (pc + 3) ls (r.map (ab_cv Z b))) := by
            intro H1 locs1 hP1 _ hS1
            refine hG H1 locs1 ls (ab_P_set hp.1 (by have := hp.2; omega) ?_ (fun q' hq' => ab_wr_n m _ v hq') (fun _ _ => rfl) hP1) hS1 hl'
            rw [ab_fs_set Z m hfs, ab_cell_obj Z _ hp.2]
          rcases hl with hl | hl
          · exact va_put hx hb hts hin ty0 hty hnm hown hK hP (ab_D_of hZ hA m) hS q he hcl (a % 100) hk (hts _ (ab_wd_tb hl)) (fun _ h9 => h9) hfin hd hnf.1 hnf.2 hlen hdg fin
          · have hw := ab_nw_of (of_decide_eq_true hl) rfl
            exact va_putN hx hb hts hin ty0 hty hnm hown hK hP (ab_D_of hZ hA m) hS q he hcl (a % 100) hk (va_Nw.use rfl (hnw _ hw)) (fun _ h9 => h9) hfin hd hnf.1 hnf.2 hlen hdg fin
        · cases hs
    · cases hs
  · cases hs
theorem ab_s_bal (hx : p.tables.exec = Jvm.exec) (hb : c0.code = ab_mB k) (hts : ∀ w ∈ ab_tb, w.before args s = true) (hnw : ∀ w ∈ ab_nw, va_Nw w s) (hK : va_K (ab_D Z) vwCl (ab_ty Z) s) (hA : ∀ q, ab_A Z q → A q) (hZ : ab_okZ Z) (hdg : decode (ab_mB k) pc = .ok (.baload, 1)) (hs : ab_bal (pc + 1) o (pc, L, S, m) = some (cn, o1, st1)) (hc : ab_cd cn) (hG : ab_G Z (p, e, R, s, mm, args, below, meth, c0, cells, slots, Q, A, b, N, xs, k, d) st1) : ab_G Z (p, e, R, s, mm, args, below, meth, c0, cells, slots, Q, A, b, N, xs, k, d) (pc, L, S, m) := by
  unfold ab_bal at hs
  split at hs
  · next i q r hq =>
    have hq : S = .inl (.int i) :: .inl (.ref q) :: r := hq
    subst hq
    split at hs
    · next hp =>
      cases hs
      intro H locs ls hP hS hl
      show W p Z.1 e R s mm args below meth c0 H locs cells slots Q (F0 mm pc ls (.int i :: ab_cv Z b (.inl (.ref q)) :: r.map (ab_cv Z b)))
      rw [ab_ref_cv Z b hp.1]
      exact va_zald hx hb hK hP q 1 (ab_at_1 Z m hp.1 hp.2) rfl hc hdg (hG H locs ls hP hS hl)
    · cases hs
  · cases hs
theorem ab_s_lal (hx : p.tables.exec = Jvm.exec) (hb : c0.code = ab_mB k) (hts : ∀ w ∈ ab_tb, w.before args s = true) (hnw : ∀ w ∈ ab_nw, va_Nw w s) (hK : va_K (ab_D Z) vwCl (ab_ty Z) s) (hA : ∀ q, ab_A Z q → A q) (hZ : ab_okZ Z) (hdg : decode (ab_mB k) pc = .ok (.laload, 1)) (hs : ab_lal (pc + 1) o (pc, L, S, m) = some (cn, o1, st1)) (hc : ab_cd cn) (hG : ab_G Z (p, e, R, s, mm, args, below, meth, c0, cells, slots, Q, A, b, N, xs, k, d) st1) : ab_G Z (p, e, R, s, mm, args, below, meth, c0, cells, slots, Q, A, b, N, xs, k, d) (pc, L, S, m) := by
  unfold ab_lal at hs
  split at hs
  · next i q r hq =>
    have hq : S = .inl (.int i) :: .inl (.ref q) :: r := hq
    subst hq
    split at hs
    · next hp =>
      cases hs
      intro H locs ls hP hS hl
      show W p Z.1 e R s mm args below meth c0 H locs cells slots Q (F0 mm pc ls (.int i :: ab_cv Z b (.inl (.ref q)) :: r.map (ab_cv Z b)))
      rw [ab_ref_cv Z b hp.1]
      exact va_lald hx hb hK hP q 2 (ab_at_2 Z m hp.1 hp.2) rfl hc hdg (hG H locs ls hP hS hl)
    · cases hs
  · cases hs
theorem ab_s_ial (hx : p.tables.exec = Jvm.exec) (hb : c0.code = ab_mB k) (hts : ∀ w ∈ ab_tb, w.before args s = true) (hnw : ∀ w ∈ ab_nw, va_Nw w s) (hK : va_K (ab_D Z) vwCl (ab_ty Z) s) (hA : ∀ q, ab_A Z q → A q) (hZ : ab_okZ Z) (hdg : decode (ab_mB k) pc = .ok (.iaload, 1)) (hs : ab_ial (p, e, R, s, mm, args, below, meth, c0, cells, slots, Q, A, b, N, xs, k, d) (pc + 1) o (pc, L, S, m) = some (cn, o1, st1)) (hc : ab_cd cn) (hG : ab_G Z (p, e, R, s, mm, args, below, meth, c0, cells, slots, Q, A, b, N, xs, k, d) st1) : ab_G Z (p, e, R, s, mm, args, below, meth, c0, cells, slots, Q, A, b, N, xs, k, d) (pc, L, S, m) := by
  unfold ab_ial at hs
  split at hs
  · next i q r hq =>
    have hq : S = .inl (.int i) :: .inl (.ref q) :: r := hq
    subst hq
    split at hs
    · next hq9 =>
      subst hq9
      cases hs
      obtain ⟨⟨h1, h2, h3⟩, h4⟩ := hc
      intro H locs ls hP hS hl
      exact va_sld hx hb h1 h2 h3 hS h4 hdg (hG H locs ls hP hS hl)
    · split at hs
      · next hp =>
        cases hs
        intro H locs ls hP hS hl
        show W p Z.1 e R s mm args below meth c0 H locs cells slots Q (F0 mm pc ls (.int i :: ab_cv Z b (.inl (.ref q)) :: r.map (ab_cv Z b)))
        rw [ab_ref_cv Z b hp.1]
        exact va_iald hx hb hK hP q 0 (ab_at_0 Z m hp.1 hp.2) rfl hc hdg (hG H locs ls hP hS hl)
      · cases hs
  · next i q r hq =>
    have hq : S = .inl (.int i) :: .inr q :: r := hq
    subst hq
    split at hs
    · next hp =>
      cases hs
      intro H locs ls hP hS hl
      exact va_iald hx hb hK hP _ 0 (ab_at_r Z m hp (ab_in_lt hc.1)) rfl hc.2 hdg (hG H locs ls hP hS hl)
    · cases hs
  · cases hs
theorem ab_s_aal (hx : p.tables.exec = Jvm.exec) (hb : c0.code = ab_mB k) (hts : ∀ w ∈ ab_tb, w.before args s = true) (hnw : ∀ w ∈ ab_nw, va_Nw w s) (hK : va_K (ab_D Z) vwCl (ab_ty Z) s) (hA : ∀ q, ab_A Z q → A q) (hZ : ab_okZ Z) (hdg : decode (ab_mB k) pc = .ok (.aaload, 1)) (hs : ab_aal (pc + 1) o (pc, L, S, m) = some (cn, o1, st1)) (hc : ab_cd cn) (hG : ab_G Z (p, e, R, s, mm, args, below, meth, c0, cells, slots, Q, A, b, N, xs, k, d) st1) : ab_G Z (p, e, R, s, mm, args, below, meth, c0, cells, slots, Q, A, b, N, xs, k, d) (pc, L, S, m) := by
  unfold ab_aal at hs
  split at hs
  · next i q r hq =>
    have hq : S = .inl (.int i) :: .inl (.ref q) :: r := hq
    subst hq
    split at hs
    · next hp =>
      cases hs
      intro H locs ls hP hS hl
      show W p Z.1 e R s mm args below meth c0 H locs cells slots Q (F0 mm pc ls (.int i :: ab_cv Z b (.inl (.ref q)) :: r.map (ab_cv Z b)))
      rw [ab_ref_cv Z b hp.1]
      have hlt := ab_in_lt hc
      have hcell := hP q _ (ab_at_3 Z m hp.1 hp.2)
      refine W.aald (v := .ref (ab_ar Z ((ab_sh q).2.2.2.1 + i.toNatClampNeg))) (ty := .array .int) hx hb hcell ((hK.2 3 _ rfl).1 (ab_sh q).2.1 (fun j => va_rf (if j < (ab_sh q).2.1 then some (ab_ar Z ((ab_sh q).2.2.2.1 + j)) else none))) rfl (fun q => by cases q) ?_ ?_ rfl rfl hdg (hG H locs ls hP hS hl)
      · show ¬ (i < 0 ∨ (arrV _ _ _).slots.size ≤ _)
        rw [arrV_size]
        exact hc
      · show (arrV _ _ _).slots[_]? = _
        rw [arrV_read _ _ hlt]
        show some (va_rf (if i.toNatClampNeg < (ab_sh q).2.1 then some (ab_ar Z ((ab_sh q).2.2.2.1 + i.toNatClampNeg)) else none)) = _
        rw [if_pos hlt]
        rfl
    · cases hs
  · cases hs
theorem ab_s_aln (hx : p.tables.exec = Jvm.exec) (hb : c0.code = ab_mB k) (hts : ∀ w ∈ ab_tb, w.before args s = true) (hnw : ∀ w ∈ ab_nw, va_Nw w s) (hK : va_K (ab_D Z) vwCl (ab_ty Z) s) (hA : ∀ q, ab_A Z q → A q) (hZ : ab_okZ Z) (hdg : decode (ab_mB k) pc = .ok (.arraylength, 1)) (hs : ab_aln (p, e, R, s, mm, args, below, meth, c0, cells, slots, Q, A, b, N, xs, k, d) (pc + 1) o (pc, L, S, m) = some (cn, o1, st1)) (hc : ab_cd cn) (hG : ab_G Z (p, e, R, s, mm, args, below, meth, c0, cells, slots, Q, A, b, N, xs, k, d) st1) : ab_G Z (p, e, R, s, mm, args, below, meth, c0, cells, slots, Q, A, b, N, xs, k, d) (pc, L, S, m) := by
  unfold ab_aln at hs
  split at hs
  · next q r hq =>
    have hq : S = .inl (.ref q) :: r := hq
    subst hq
    split at hs
    · next hq9 =>
      subst hq9
      cases hs
      obtain ⟨h1, h2, h3⟩ := hc
      intro H locs ls hP hS hl
      exact va_slen hx hb h1 h2 h3 hS hdg (hG H locs ls hP hS hl)
    · split at hs
      · next hp =>
        cases hs
        intro H locs ls hP hS hl
        show W p Z.1 e R s mm args below meth c0 H locs cells slots Q (F0 mm pc ls (ab_cv Z b (.inl (.ref q)) :: r.map (ab_cv Z b)))
        rw [ab_ref_cv Z b hp.1]
        exact va_alen hx hb hK hP q 0 (ab_at_0 Z m hp.1 hp.2) (ty := .int) rfl rfl hdg (hG H locs ls hP hS hl)
      · cases hs
  · next q r hq =>
    have hq : S = .inr q :: r := hq
    subst hq
    split at hs
    · next hp =>
      cases hs
      intro H locs ls hP hS hl
      exact va_alen hx hb hK hP _ 0 (ab_at_r Z m hp (ab_in_lt hc)) (ty := .int) rfl rfl hdg (hG H locs ls hP hS hl)
    · cases hs
  · cases hs
theorem ab_s_ias (hx : p.tables.exec = Jvm.exec) (hb : c0.code = ab_mB k) (hts : ∀ w ∈ ab_tb, w.before args s = true) (hnw : ∀ w ∈ ab_nw, va_Nw w s) (hK : va_K (ab_D Z) vwCl (ab_ty Z) s) (hA : ∀ q, ab_A Z q → A q) (hZ : ab_okZ Z) (hdg : decode (ab_mB k) pc = .ok (.iastore, 1)) (hs : ab_ias (pc + 1) o (pc, L, S, m) = some (cn, o1, st1)) (hc : ab_cd cn) (hG : ab_G Z (p, e, R, s, mm, args, below, meth, c0, cells, slots, Q, A, b, N, xs, k, d) st1) : ab_G Z (p, e, R, s, mm, args, below, meth, c0, cells, slots, Q, A, b, N, xs, k, d) (pc, L, S, m) := by
  unfold ab_ias at hs
  split at hs
  · next x i q r hq =>
    have hq : S = .inl (.int x) :: .inl (.int i) :: .inl (.ref q) :: r := hq
    subst hq
    split at hs
    · next hp =>
      cases hs
      intro H locs ls hP hS hl
      show W p Z.1 e R s mm args below meth c0 H locs cells slots Q (F0 mm pc ls (.int x :: .int i :: ab_cv Z b (.inl (.ref q)) :: r.map (ab_cv Z b)))
      rw [ab_ref_cv Z b hp.1]
      refine va_iast hx hb hK hP (ab_D_of hZ hA m) hS q 0 (ab_at_0 Z m hp.1 hp.2) rfl hc hdg (fun H1 locs1 hP1 _ hS1 => ?_)
      refine hG H1 locs1 ls (ab_P_set hp.1 (by have := hp.2; omega) ?_ (fun q' hq' => ab_wr_n m _ x hq') (fun _ _ => rfl) hP1) hS1 hl
      rw [ab_cell_0 Z _ hp.2, ab_wr_p]
    · cases hs
  · next x i q r hq =>
    have hq : S = .inl (.int x) :: .inl (.int i) :: .inr q :: r := hq
    subst hq
    split at hs
    · next hp =>
      cases hs
      intro H locs ls hP hS hl
      refine va_iast hx hb hK hP (ab_D_of hZ hA m) hS _ 0 (ab_at_r Z m hp (ab_in_lt hc.1)) rfl hc.2 hdg (fun H1 locs1 hP1 _ hS1 => ?_)
      exact hG H1 locs1 ls (ab_P_setr (ab_sh_big hp) hp (ab_in_lt hc.1) (ab_in_lt hc.2) hP1) hS1 hl
    · cases hs
  · cases hs
theorem ab_s_bas (hx : p.tables.exec = Jvm.exec) (hb : c0.code = ab_mB k) (hts : ∀ w ∈ ab_tb, w.before args s = true) (hnw : ∀ w ∈ ab_nw, va_Nw w s) (hK : va_K (ab_D Z) vwCl (ab_ty Z) s) (hA : ∀ q, ab_A Z q → A q) (hZ : ab_okZ Z) (hdg : decode (ab_mB k) pc = .ok (.bastore, 1)) (hs : ab_bas (pc + 1) o (pc, L, S, m) = some (cn, o1, st1)) (hc : ab_cd cn) (hG : ab_G Z (p, e, R, s, mm, args, below, meth, c0, cells, slots, Q, A, b, N, xs, k, d) st1) : ab_G Z (p, e, R, s, mm, args, below, meth, c0, cells, slots, Q, A, b, N, xs, k, d) (pc, L, S, m) := by
  unfold ab_bas at hs
  split at hs
  · next x i q r hq =>
    have hq : S = .inl (.int x) :: .inl (.int i) :: .inl (.ref q) :: r := hq
    subst hq
    split at hs
    · next hp =>
      cases hs
      intro H locs ls hP hS hl
      show W p Z.1 e R s mm args below meth c0 H locs cells slots Q (F0 mm pc ls (.int x :: .int i :: ab_cv Z b (.inl (.ref q)) :: r.map (ab_cv Z b)))
      rw [ab_ref_cv Z b hp.1]
      refine va_zast hx hb hK hP (ab_D_of hZ hA m) hS q 1 (ab_at_1 Z m hp.1 hp.2) rfl hc.1 hdg (fun H1 locs1 hP1 _ hS1 => ?_)
      refine hG H1 locs1 ls (ab_P_set hp.1 (by have := hp.2; omega) ?_ (fun q' hq' => ab_wr_n m _ x hq') (fun _ _ => rfl) hP1) hS1 hl
      have hz : vp_nar .boolean x = x := by
        rcases hc.2 with rfl | rfl
        · rfl
        · rfl
      rw [ab_cell_1 Z _ hp.2, ab_wr_p, hz]
    · cases hs
  · cases hs
theorem ab_s_las (hx : p.tables.exec = Jvm.exec) (hb : c0.code = ab_mB k) (hts : ∀ w ∈ ab_tb, w.before args s = true) (hnw : ∀ w ∈ ab_nw, va_Nw w s) (hK : va_K (ab_D Z) vwCl (ab_ty Z) s) (hA : ∀ q, ab_A Z q → A q) (hZ : ab_okZ Z) (hdg : decode (ab_mB k) pc = .ok (.lastore, 1)) (hs : ab_las (pc + 1) o (pc, L, S, m) = some (cn, o1, st1)) (hc : ab_cd cn) (hG : ab_G Z (p, e, R, s, mm, args, below, meth, c0, cells, slots, Q, A, b, N, xs, k, d) st1) : ab_G Z (p, e, R, s, mm, args, below, meth, c0, cells, slots, Q, A, b, N, xs, k, d) (pc, L, S, m) := by
  unfold ab_las at hs
  split at hs
  · next x i q r hq =>
    have hq : S = .inl (.long x) :: .inl (.int i) :: .inl (.ref q) :: r := hq
    subst hq
    split at hs
    · next hp =>
      cases hs
      intro H locs ls hP hS hl
      show W p Z.1 e R s mm args below meth c0 H locs cells slots Q (F0 mm pc ls (.long x :: .int i :: ab_cv Z b (.inl (.ref q)) :: r.map (ab_cv Z b)))
      rw [ab_ref_cv Z b hp.1]
      refine va_last hx hb hK hP (ab_D_of hZ hA m) hS q 2 (ab_at_2 Z m hp.1 hp.2) rfl hc hdg (fun H1 locs1 hP1 _ hS1 => ?_)
      refine hG H1 locs1 ls (ab_P_set (m := m) (m' := ab_wl m q i.toNatClampNeg x) hp.1 (by have := hp.2; omega) ?_ (fun _ _ => rfl) (fun q' hq' => ab_wl_n m _ x hq') hP1) hS1 hl
      rw [ab_cell_2 Z _ hp.2, ab_wl_p]
    · cases hs
  · cases hs
end ABH
end
section
/-! ===== calls, switches, paths, contracts ===== -/
section ABC
variable {Z : ab_Z} {p : Program} {e : Env} {R : Room} {s : State} {mm : MethodId} {args : Array Value} {below : List Frame} {meth : Method} {c0 : Code} {cells slots : Nat} {Q : State → Prop} {A : Nat → Prop} {b N : Nat} {xs : Nat → Int32} {k d : Nat} {pc nx : Nat} {L : List (Nat × ab_V)} {S : List ab_V} {m : ab_M} {o o1 : List ab_O} {cn : Option Prop} {st1 : ab_S}
/-- behind a call -/
theorem ab_after {l : Launch} {D : va_G} {w1 : va_W} {H H0 : Heap} {locs : List Loc} {ls : Array Slot} {st0 rest : List Value} {r : Option Int32} {A1 free : Nat → Prop} (hr : va_Run p l e R s mm args below meth c0 H locs cells slots 0 0 (F0 mm pc ls st0) rest (fun st oc t => (oc = .returned (r.map Value.int) ∧ va_P D vwCl w1 t.heap) ∧ va_F A1 st t) free) (hS : va_S A H0 H locs) (hA : ∀ q, A1 q → A q) (hf : ∀ q, free q → A q)
    (kk : ∀ (H1 : Heap) (locs1 : List Loc), va_P D vwCl w1 H1 → va_S A H0 H1 locs1 → W p l e R s mm args below meth c0 H1 locs1 cells slots Q (F0 mm (pc + 3) ls ((r.map Value.int).toList ++ rest))) : W p l e R s mm args below meth c0 H locs cells slots Q (F0 mm pc ls st0) := by
  intro T hT X
  obtain ⟨v, st₀, t, T', L, h0, X', hL, e1, e2, ⟨⟨hv, hp⟩, hz, hk⟩, st⟩ := hr T hT X
  have hv : v = r.map Value.int := Outcome.returned.inj hv
  subst hv
  rw [h0] at hz hk
  obtain ⟨t2, a1, b1⟩ := kk T'.heap (locs ++ L) (by rw [e1]; exact hp)
    ⟨Nat.le_trans hS.1 (by rw [e1]; exact hz), fun q h1 h2 => by rw [e1, hk q (Nat.lt_of_lt_of_le h1 hS.1) (fun z => h2 (hA q z))]; exact hS.2.1 q h1 h2, fun q hq => by
      rcases List.mem_append.mp hq with h | h
      · exact hS.2.2 q h
      · exact hf _ (hL q h)⟩ T' rfl X'
  exact ⟨t2, st t2 a1, b1⟩
theorem ab_isn_on {w : Jvm.Cond} (h : w ∈ ab_nw) : w.onTables = true := by
  have h := (List.mem_filter.mp h).2
  cases w <;> first | rfl | cases h
theorem ab_nw_warm {w : Jvm.Cond} {u U : State} (h : w ∈ ab_nw) (hW : u.WarmedH U.vm) (hz : va_Nw w u) : va_Nw w U := by
  have h := (List.mem_filter.mp h).2
  cases w <;> first | exact va_Nw.warmF hW hz | cases h
theorem ab_cv_0 {v : ab_V} (h : ab_ref v = true) : ab_cv Z b v = ab_cv Z 0 v := by
  rcases v with v | v
  · cases v with
    | ref q =>
      have hq : q < 83 := of_decide_eq_true h
      rw [ab_ref_cv Z b hq, ab_ref_cv Z 0 hq]
    | _ => rfl
  · rfl
theorem ab_cvs_0 {l : List ab_V} (h : l.all ab_ref = true) : l.map (ab_cv Z b) = l.map (ab_cv Z 0) := List.map_congr_left (fun v hv => ab_cv_0 (List.all_eq_true.mp h v hv))
def ab_Pc (Z : ab_Z) (As : List ab_V) (m : ab_M) : Array Value → State → Prop := va_Pc (As.map (ab_cv Z 0)) (fun U => va_P (ab_D Z) vwCl (ab_w Z m) U.heap ∧ va_K (ab_D Z) vwCl (ab_ty Z) U ∧ ∀ w ∈ ab_nw, va_Nw w U)
theorem ab_blind (As : List ab_V) : FrameBlind (ab_Pc Z As m) := fun a U g mk q => ⟨q.1, q.2.1, va_K.moved (u := U) (U := U.calling g mk a) (Vm.Alike.refl U.vm) q.2.2.1, fun w hw => va_Nw.same (u := U) (U := U.calling g mk a) (ab_isn_on hw) rfl (q.2.2.2 w hw)⟩
theorem ab_s_cal (hx : p.tables.exec = Jvm.exec) (hb : c0.code = ab_mB k) (hts : ∀ w ∈ ab_tb, w.before args s = true) (hnw : ∀ w ∈ ab_nw, va_Nw w s) (hK : va_K (ab_D Z) vwCl (ab_ty Z) s) (hA : ∀ q, ab_A Z q → A q) (hZ : ab_okZ Z) {own : String} (hown : s.vm.findClass own = some mm.cls) (hml : c0.maxLocals = ab_mL k) (hdf : d ≤ R.frames) (hdl : 64 * d ≤ R.locals) (hcl : cells ≤ R.cells) (hsl : slots ≤ R.slots) {a ix j : Nat} {vi : Bool} (ha : a < ab_NM - 1) (hst : (ab_mJ a).2.2.2.2 = !vi) (hlk : ab_wd j (.methodLink own ix (ab_mY a)) = true) (hdg : decode (ab_mB k) pc = .ok (if vi then .invokevirtual ix else .invokestatic ix, 3)) (hs : ab_cal Z d a (pc + 3) o (pc, L, S, m) = some (cn, o1, st1)) (hc : ab_cd cn) (hG : ab_G Z (p, e, R, s, mm, args, below, meth, c0, cells, slots, Q, A, b, N, xs, k, d) st1) : ab_G Z (p, e, R, s, mm, args, below, meth, c0, cells, slots, Q, A, b, N, xs, k, d) (pc, L, S, m) := by
  unfold ab_cal at hs
  split at hs
  · cases hs
  · next q o' =>
    split at hs
    · next hok =>
      cases hs
      obtain ⟨d', r, m'⟩ := q
      obtain ⟨hd, hM⟩ := hc
      have hd : d' < d := hd
      unfold ab_cok at hok
      simp only [Bool.and_eq_true, decide_eq_true_eq] at hok
      obtain ⟨hsum, hrefs, hlen, hret, hrcv⟩ := hok
      have hmk := ab_mck ha
      unfold ab_mchk at hmk
      simp only [Bool.and_eq_true, decide_eq_true_eq] at hmk
      obtain ⟨hcode, hini, hn1, hn2, -, hL40, -, hrest⟩ := hmk
      generalize hna : (ab_mI a).2.2.1 = na at *
      have hsplit : S = S.take na ++ S.drop na := (List.take_append_drop na S).symm
      have hRm : (ab_rm d').frames + 1 ≤ R.frames ∧ 8 + (ab_mL a + 11) + (ab_rm d').locals ≤ R.locals := by
        show d' + 1 ≤ R.frames ∧ 8 + (ab_mL a + 11) + 64 * d' ≤ R.locals
        omega
      have hgood : ∀ w ∈ ab_mW a, w ∈ ab_tb := fun w hw => by
        rcases List.mem_cons.mp hw with h | h
        · rw [h]; exact ab_wd_tb hcode
        · exact h
      have hmap : ((S.drop na).map (ab_cv Z b)).map (fun v => v.category) = (S.drop na).map ab_cat := by
        rw [List.map_map]
        exact List.map_congr_left (fun v _ => ab_cat_cv Z b v)
      intro H locs ls hP hS hl
      have hout : ∀ (H1 : Heap) (locs1 : List Loc), va_P (ab_D Z) vwCl (ab_w Z m') H1 → va_S A s.heap H1 locs1 → W p Z.1 e R s mm args below meth c0 H1 locs1 cells slots Q (F0 mm (pc + 3) ls ((r.map Value.int).toList ++ (S.drop na).map (ab_cv Z b))) := by
        intro H1 locs1 hP1 hS1
        have h9 := hG H1 locs1 ls hP1 hS1 hl
        cases r with
        | none => exact h9
        | some x => exact h9
      cases vi with
      | false =>
        rw [hst] at hrest
        simp only [Bool.not_false, if_true, Bool.and_eq_true, decide_eq_true_eq] at hrest
        obtain ⟨hstat, hpar⟩ := hrest
        have hG2 : GoodIn ab_tb (va_wsS own ix (ab_mY a) (ab_mW a)) := ab_good (fun w hw => by
          rcases List.mem_append.mp hw with h | h
          · simp only [List.mem_cons, List.not_mem_nil, or_false] at h
            rcases h with rfl | rfl | rfl
            · exact ab_wd_tb hlk
            · exact ab_wd_tb hstat
            · exact ab_wd_tb hini
          · exact hgood w h)
        have cw := va_cwS (R := R) (s := s) (args := args) (ret := ab_mR a) (bytes := ab_mB a) (maxL := ab_mL a) (rm := ab_rm d') (mc := 0) (ms := 0) na hts hG2 rfl rfl rfl ⟨hn1, hn2, hpar⟩ hRm
        refine ab_after (A := A) (H0 := s.heap) (va_runS (Ts := ab_tb) (As := (S.take na).reverse.map (ab_cv Z 0)) (rest := (S.drop na).map (ab_cv Z b)) (g := F0 mm pc ls (S.map (ab_cv Z b))) ⟨hx, hb, hml, hown, hts⟩ hM cw ⟨ab_blind _, fun U hU hW => ⟨rfl, by rw [hU]; exact hP, va_K.moved hW.alike hK, fun w hw => ab_nw_warm hw hW (hnw w hw)⟩⟩ rfl (by rw [List.length_map, List.length_reverse]; exact hlen) hl.1 ?_ (lv_room (by rw [hmap]; exact hsum)) hdg ⟨hcl, hsl⟩) hS hA hA hout
        show S.map (ab_cv Z b) = _
        rw [← List.map_reverse, List.reverse_reverse, ← ab_cvs_0 hrefs, ← List.map_append, ← hsplit]
      | true =>
        rw [hst] at hrest hrcv
        simp only [Bool.not_true, Bool.false_eq_true, if_false, Bool.and_eq_true, decide_eq_true_eq, Bool.false_or] at hrest hrcv
        obtain ⟨hinst, hsel, hpar, hcls⟩ := hrest
        cases hrev : (S.take na).reverse with
        | nil => rw [hrev] at hrcv; cases hrcv
        | cons v As =>
          rw [hrev] at hrcv hM
          rcases v with v | v
          · cases v with
            | ref q =>
              simp only [Bool.and_eq_true, decide_eq_true_eq] at hrcv
              obtain ⟨hq, hsh⟩ := hrcv
              cases hvc : vwCl[(ab_mI a).2.2.2]? with
              | none => rw [hvc] at hcls; cases hcls
              | some z =>
                rw [hvc] at hcls
                have hzc : z.1 = (ab_mY a).cls := of_decide_eq_true hcls
                have hG2 : GoodIn ab_tb (wsV own ix (ab_mY a).cls (ab_mY a) (ab_mW a)) := ab_good (fun w hw => by
                  rcases List.mem_append.mp hw with h | h
                  · simp only [List.mem_cons, List.not_mem_nil, or_false] at h
                    rcases h with rfl | rfl | rfl | rfl
                    · exact ab_wd_tb hlk
                    · exact ab_wd_tb hinst
                    · exact ab_wd_tb hsel
                    · exact ab_wd_tb hini
                  · exact hgood w h)
                have hlen2 : As.length + 1 = na := by
                  have := congrArg List.length hrev
                  rw [List.length_reverse, List.length_cons] at this
                  omega
                have hpar2 : (parseMethodDescriptor (ab_mY a).desc).map (fun d => d.parameters.length) = some As.length := by
                  cases hpd : parseMethodDescriptor (ab_mY a).desc with
                  | none => rw [hpd] at hpar; cases hpar
                  | some dd =>
                    rw [hpd] at hpar
                    have h8 : dd.parameters.length + 1 = na := Option.some.inj hpar
                    show some dd.parameters.length = some As.length
                    exact congrArg some (by omega)
                have cw := cwV (R := R) (s := s) (args := args) (C := (ab_mY a).cls) (ret := ab_mR a) (bytes := ab_mB a) (maxL := ab_mL a) (rm := ab_rm d') (mc := 0) (ms := 0) As.length hts hG2 rfl rfl rfl ⟨rfl, hn1, hn2, hpar2⟩ hRm
                have hrec := va_recv (ci := (ab_mI a).2.2.2) (q0 := q) (q := z) hK hP hvc (ab_at_o Z m hq hsh)
                rw [hzc] at hrec
                have htk : S.take na = (As.reverse ++ [.inl (.ref q)]) := by
                  have := congrArg List.reverse hrev
                  rw [List.reverse_reverse, List.reverse_cons] at this
                  exact this
                refine ab_after (A := A) (H0 := s.heap) (va_runV (Ts := ab_tb) (b := ab_ad Z q) (As := As.map (ab_cv Z 0)) (rest := (S.drop na).map (ab_cv Z b)) (g := F0 mm pc ls (S.map (ab_cv Z b))) ⟨hx, hb, hml, hown, hts⟩ hM cw ⟨ab_blind _, hrec, fun U hU hW => ⟨?_, by rw [hU]; exact hP, va_K.moved hW.alike hK, fun w hw => ab_nw_warm hw hW (hnw w hw)⟩⟩ rfl (by rw [List.length_map]) hl.1 ?_ (lv_room (by rw [hmap]; exact hsum)) hdg ⟨hcl, hsl⟩) hS hA hA hout
                · show (Value.ref (ab_ad Z q) :: As.map (ab_cv Z 0)).toArray = (ab_cv Z 0 (.inl (.ref q)) :: As.map (ab_cv Z 0)).toArray
                  rw [ab_ref_cv Z 0 hq]
                · show S.map (ab_cv Z b) = _
                  have h7 : (S.take na).map (ab_cv Z b) = (As.map (ab_cv Z 0)).reverse ++ [Value.ref (ab_ad Z q)] := by
                    rw [ab_cvs_0 hrefs, htk, List.map_append, List.map_reverse]
                    show _ ++ [ab_cv Z 0 (.inl (.ref q))] = _
                    rw [ab_ref_cv Z 0 hq]
                  calc S.map (ab_cv Z b) = (S.take na ++ S.drop na).map (ab_cv Z b) := by rw [← hsplit]
                    _ = _ := by rw [List.map_append, h7, List.append_assoc]; rfl
            | _ => cases hrcv
          · cases hrcv
    · cases hs
theorem ab_nt1_eq {H : Heap} {locs : List Loc} {ls : Array Slot} {rest : List Value} {x : Int32} {off : Int} (hexec : p.tables.exec = Jvm.exec) (hb : c0.code = ab_mB k) (hdg : decode (ab_mB k) pc = .ok (.ifCond .eq off, 3)) (hP : ¬ x = 0) (kk : W p Z.1 e R s mm args below meth c0 H locs cells slots Q (F0 mm (pc + 3) ls rest)) : W p Z.1 e R s mm args below meth c0 H locs cells slots Q (F0 mm pc ls (.int x :: rest)) := by
  intro T hT X
  obtain ⟨t, a, b⟩ := kk T hT X
  refine ⟨t, ?_, b⟩
  jvm_step X.here [X.here.top, hexec, hb, hdg, Op.ifCond.holds, hP]
  exact a
theorem ab_nt1_ne {H : Heap} {locs : List Loc} {ls : Array Slot} {rest : List Value} {x : Int32} {off : Int} (hexec : p.tables.exec = Jvm.exec) (hb : c0.code = ab_mB k) (hdg : decode (ab_mB k) pc = .ok (.ifCond .ne off, 3)) (hP : x = 0) (kk : W p Z.1 e R s mm args below meth c0 H locs cells slots Q (F0 mm (pc + 3) ls rest)) : W p Z.1 e R s mm args below meth c0 H locs cells slots Q (F0 mm pc ls (.int x :: rest)) := by
  intro T hT X
  obtain ⟨t, a, b⟩ := kk T hT X
  refine ⟨t, ?_, b⟩
  jvm_step X.here [X.here.top, hexec, hb, hdg, Op.ifCond.holds, hP]
  exact a
theorem ab_nt1_lt {H : Heap} {locs : List Loc} {ls : Array Slot} {rest : List Value} {x : Int32} {off : Int} (hexec : p.tables.exec = Jvm.exec) (hb : c0.code = ab_mB k) (hdg : decode (ab_mB k) pc = .ok (.ifCond .lt off, 3)) (hP : ¬ x < 0) (kk : W p Z.1 e R s mm args below meth c0 H locs cells slots Q (F0 mm (pc + 3) ls rest)) : W p Z.1 e R s mm args below meth c0 H locs cells slots Q (F0 mm pc ls (.int x :: rest)) := by
  intro T hT X
  obtain ⟨t, a, b⟩ := kk T hT X
  refine ⟨t, ?_, b⟩
  jvm_step X.here [X.here.top, hexec, hb, hdg, Op.ifCond.holds, hP]
  exact a
theorem ab_nt1_ge {H : Heap} {locs : List Loc} {ls : Array Slot} {rest : List Value} {x : Int32} {off : Int} (hexec : p.tables.exec = Jvm.exec) (hb : c0.code = ab_mB k) (hdg : decode (ab_mB k) pc = .ok (.ifCond .ge off, 3)) (hP : ¬ 0 ≤ x) (kk : W p Z.1 e R s mm args below meth c0 H locs cells slots Q (F0 mm (pc + 3) ls rest)) : W p Z.1 e R s mm args below meth c0 H locs cells slots Q (F0 mm pc ls (.int x :: rest)) := by
  intro T hT X
  obtain ⟨t, a, b⟩ := kk T hT X
  refine ⟨t, ?_, b⟩
  jvm_step X.here [X.here.top, hexec, hb, hdg, Op.ifCond.holds, hP]
  exact a
theorem ab_nt1_gt {H : Heap} {locs : List Loc} {ls : Array Slot} {rest : List Value} {x : Int32} {off : Int} (hexec : p.tables.exec = Jvm.exec) (hb : c0.code = ab_mB k) (hdg : decode (ab_mB k) pc = .ok (.ifCond .gt off, 3)) (hP : ¬ 0 < x) (kk : W p Z.1 e R s mm args below meth c0 H locs cells slots Q (F0 mm (pc + 3) ls rest)) : W p Z.1 e R s mm args below meth c0 H locs cells slots Q (F0 mm pc ls (.int x :: rest)) := by
  intro T hT X
  obtain ⟨t, a, b⟩ := kk T hT X
  refine ⟨t, ?_, b⟩
  jvm_step X.here [X.here.top, hexec, hb, hdg, Op.ifCond.holds, hP]
  exact a
theorem ab_nt1_le {H : Heap} {locs : List Loc} {ls : Array Slot} {rest : List Value} {x : Int32} {off : Int} (hexec : p.tables.exec = Jvm.exec) (hb : c0.code = ab_mB k) (hdg : decode (ab_mB k) pc = .ok (.ifCond .le off, 3)) (hP : ¬ x ≤ 0) (kk : W p Z.1 e R s mm args below meth c0 H locs cells slots Q (F0 mm (pc + 3) ls rest)) : W p Z.1 e R s mm args below meth c0 H locs cells slots Q (F0 mm pc ls (.int x :: rest)) := by
  intro T hT X
  obtain ⟨t, a, b⟩ := kk T hT X
  refine ⟨t, ?_, b⟩
  jvm_step X.here [X.here.top, hexec, hb, hdg, Op.ifCond.holds, hP]
  exact a
theorem ab_nt2_eq {H : Heap} {locs : List Loc} {ls : Array Slot} {rest : List Value} {x y : Int32} {off : Int} (hexec : p.tables.exec = Jvm.exec) (hb : c0.code = ab_mB k) (hdg : decode (ab_mB k) pc = .ok (.if_icmp .eq off, 3)) (hP : ¬ x = y) (kk : W p Z.1 e R s mm args below meth c0 H locs cells slots Q (F0 mm (pc + 3) ls rest)) : W p Z.1 e R s mm args below meth c0 H locs cells slots Q (F0 mm pc ls (.int y :: .int x :: rest)) := by
  intro T hT X
  obtain ⟨t, a, b⟩ := kk T hT X
  refine ⟨t, ?_, b⟩
  jvm_step X.here [X.here.top, hexec, hb, hdg, Op.if_icmp.holds, hP]
  exact a
theorem ab_nt2_ne {H : Heap} {locs : List Loc} {ls : Array Slot} {rest : List Value} {x y : Int32} {off : Int} (hexec : p.tables.exec = Jvm.exec) (hb : c0.code = ab_mB k) (hdg : decode (ab_mB k) pc = .ok (.if_icmp .ne off, 3)) (hP : x = y) (kk : W p Z.1 e R s mm args below meth c0 H locs cells slots Q (F0 mm (pc + 3) ls rest)) : W p Z.1 e R s mm args below meth c0 H locs cells slots Q (F0 mm pc ls (.int y :: .int x :: rest)) := by
  intro T hT X
  obtain ⟨t, a, b⟩ := kk T hT X
  refine ⟨t, ?_, b⟩
  jvm_step X.here [X.here.top, hexec, hb, hdg, Op.if_icmp.holds, hP]
  exact a
theorem ab_nt2_lt {H : Heap} {locs : List Loc} {ls : Array Slot} {rest : List Value} {x y : Int32} {off : Int} (hexec : p.tables.exec = Jvm.exec) (hb : c0.code = ab_mB k) (hdg : decode (ab_mB k) pc = .ok (.if_icmp .lt off, 3)) (hP : ¬ x < y) (kk : W p Z.1 e R s mm args below meth c0 H locs cells slots Q (F0 mm (pc + 3) ls rest)) : W p Z.1 e R s mm args below meth c0 H locs cells slots Q (F0 mm pc ls (.int y :: .int x :: rest)) := by
  intro T hT X
  obtain ⟨t, a, b⟩ := kk T hT X
  refine ⟨t, ?_, b⟩
  jvm_step X.here [X.here.top, hexec, hb, hdg, Op.if_icmp.holds, hP]
  exact a
theorem ab_nt2_ge {H : Heap} {locs : List Loc} {ls : Array Slot} {rest : List Value} {x y : Int32} {off : Int} (hexec : p.tables.exec = Jvm.exec) (hb : c0.code = ab_mB k) (hdg : decode (ab_mB k) pc = .ok (.if_icmp .ge off, 3)) (hP : ¬ y ≤ x) (kk : W p Z.1 e R s mm args below meth c0 H locs cells slots Q (F0 mm (pc + 3) ls rest)) : W p Z.1 e R s mm args below meth c0 H locs cells slots Q (F0 mm pc ls (.int y :: .int x :: rest)) := by
  intro T hT X
  obtain ⟨t, a, b⟩ := kk T hT X
  refine ⟨t, ?_, b⟩
  jvm_step X.here [X.here.top, hexec, hb, hdg, Op.if_icmp.holds, hP]
  exact a
theorem ab_nt2_gt {H : Heap} {locs : List Loc} {ls : Array Slot} {rest : List Value} {x y : Int32} {off : Int} (hexec : p.tables.exec = Jvm.exec) (hb : c0.code = ab_mB k) (hdg : decode (ab_mB k) pc = .ok (.if_icmp .gt off, 3)) (hP : ¬ y < x) (kk : W p Z.1 e R s mm args below meth c0 H locs cells slots Q (F0 mm (pc + 3) ls rest)) : W p Z.1 e R s mm args below meth c0 H locs cells slots Q (F0 mm pc ls (.int y :: .int x :: rest)) := by
  intro T hT X
  obtain ⟨t, a, b⟩ := kk T hT X
  refine ⟨t, ?_, b⟩
  jvm_step X.here [X.here.top, hexec, hb, hdg, Op.if_icmp.holds, hP]
  exact a
theorem ab_nt2_le {H : Heap} {locs : List Loc} {ls : Array Slot} {rest : List Value} {x y : Int32} {off : Int} (hexec : p.tables.exec = Jvm.exec) (hb : c0.code = ab_mB k) (hdg : decode (ab_mB k) pc = .ok (.if_icmp .le off, 3)) (hP : ¬ x ≤ y) (kk : W p Z.1 e R s mm args below meth c0 H locs cells slots Q (F0 mm (pc + 3) ls rest)) : W p Z.1 e R s mm args below meth c0 H locs cells slots Q (F0 mm pc ls (.int y :: .int x :: rest)) := by
  intro T hT X
  obtain ⟨t, a, b⟩ := kk T hT X
  refine ⟨t, ?_, b⟩
  jvm_step X.here [X.here.top, hexec, hb, hdg, Op.if_icmp.holds, hP]
  exact a
theorem ab_row1 {cd : Jvm.ClassFile.Cond} {off : Int} {t : Nat} {H : Heap} {locs : List Loc} {ls : Array Slot} {rest : List Value} {x : Int32} (hx : p.tables.exec = Jvm.exec) (hb : c0.code = ab_mB k) (hdg : decode (ab_mB k) pc = .ok (.ifCond cd off, 3)) (hnx : (if t = 0 then decide (nx = pc + 3) else decide ((pc : Int) + off = (nx : Int))) = true) (hc : ab_c2 cd t x 0) (hW : W p Z.1 e R s mm args below meth c0 H locs cells slots Q (F0 mm nx ls rest)) : W p Z.1 e R s mm args below meth c0 H locs cells slots Q (F0 mm pc ls (.int x :: rest)) := by
  cases t with
  | zero =>
    rw [if_pos rfl] at hnx
    have hnx := of_decide_eq_true hnx
    subst hnx
    cases cd
    · exact ab_nt1_eq hx hb hdg hc hW
    · exact ab_nt1_ne hx hb hdg hc hW
    · exact ab_nt1_lt hx hb hdg hc hW
    · exact ab_nt1_ge hx hb hdg hc hW
    · exact ab_nt1_gt hx hb hdg hc hW
    · exact ab_nt1_le hx hb hdg hc hW
  | succ t =>
    rw [if_neg (by omega)] at hnx
    have ht := of_decide_eq_true hnx
    cases cd
    · exact lv_if_eq hx hb hdg ht (fun _ => hW) (fun q => absurd hc q)
    · exact lv_if_ne hx hb hdg ht (fun _ => hW) (fun q => absurd q hc)
    · exact lv_if_lt hx hb hdg ht (fun _ => hW) (fun q => absurd hc q)
    · exact lv_if_ge hx hb hdg ht (fun _ => hW) (fun q => absurd hc q)
    · exact lv_if_gt hx hb hdg ht (fun _ => hW) (fun q => absurd hc q)
    · exact lv_if_le hx hb hdg ht (fun _ => hW) (fun q => absurd hc q)
theorem ab_row2 {cd : Jvm.ClassFile.Cond} {off : Int} {t : Nat} {H : Heap} {locs : List Loc} {ls : Array Slot} {rest : List Value} {x y : Int32} (hx : p.tables.exec = Jvm.exec) (hb : c0.code = ab_mB k) (hdg : decode (ab_mB k) pc = .ok (.if_icmp cd off, 3)) (hnx : (if t = 0 then decide (nx = pc + 3) else decide ((pc : Int) + off = (nx : Int))) = true) (hc : ab_c2 cd t x y) (hW : W p Z.1 e R s mm args below meth c0 H locs cells slots Q (F0 mm nx ls rest)) : W p Z.1 e R s mm args below meth c0 H locs cells slots Q (F0 mm pc ls (.int y :: .int x :: rest)) := by
  cases t with
  | zero =>
    rw [if_pos rfl] at hnx
    have hnx := of_decide_eq_true hnx
    subst hnx
    cases cd
    · exact ab_nt2_eq hx hb hdg hc hW
    · exact ab_nt2_ne hx hb hdg hc hW
    · exact ab_nt2_lt hx hb hdg hc hW
    · exact ab_nt2_ge hx hb hdg hc hW
    · exact ab_nt2_gt hx hb hdg hc hW
    · exact ab_nt2_le hx hb hdg hc hW
  | succ t =>
    rw [if_neg (by omega)] at hnx
    have ht := of_decide_eq_true hnx
    cases cd
    · exact lv_icmp_eq hx hb hdg ht (fun _ => hW) (fun q => absurd hc q)
    · exact lv_icmp_ne hx hb hdg ht (fun _ => hW) (fun q => absurd q hc)
    · exact lv_icmp_lt hx hb hdg ht (fun _ => hW) (fun q => absurd hc q)
    · exact lv_icmp_ge hx hb hdg ht (fun _ => hW) (fun q => absurd hc q)
    · exact lv_icmp_gt hx hb hdg ht (fun _ => hW) (fun q => absurd hc q)
    · exact lv_icmp_le hx hb hdg ht (fun _ => hW) (fun q => absurd hc q)
theorem ab_s_sw (hx : p.tables.exec = Jvm.exec) (hb : c0.code = ab_mB k) {dflt lo hi : Int} {offs : Array Int} {len a j : Nat} {v : Int32} (hdg : decode (ab_mB k) pc = .ok (.tableswitch dflt lo hi offs, len)) (hok : (decide (lo = 0) && (decide (0 ≤ hi) && (if a = 0 then decide ((pc : Int) + dflt = (nx : Int)) else (decide (v = Int32.ofNat j) && (decide (v.toInt = (j : Int)) && (decide ((j : Int) ≤ hi) && match offs[j]? with | some off => decide ((pc : Int) + off = (nx : Int)) | none => false)))))) = true) (hs : ab_sw hi.toNat a v nx o (pc, L, S, m) = some (cn, o1, st1)) (hc : ab_cd cn) (hG : ab_G Z (p, e, R, s, mm, args, below, meth, c0, cells, slots, Q, A, b, N, xs, k, d) st1) : ab_G Z (p, e, R, s, mm, args, below, meth, c0, cells, slots, Q, A, b, N, xs, k, d) (pc, L, S, m) := by
  rw [Bool.and_eq_true, Bool.and_eq_true, decide_eq_true_eq, decide_eq_true_eq] at hok
  obtain ⟨rfl, hhi, hok⟩ := hok
  unfold ab_sw at hs
  split at hs
  · next x r hq =>
    have hq : S = .inl (.int x) :: r := hq
    subst hq
    cases hs
    intro H locs ls hP hS hl
    cases a with
    | zero =>
      rw [if_pos rfl] at hok
      have hc : x.toInt < 0 ∨ (hi.toNat : Int) < x.toInt := hc
      exact lv_tableOut hx hb hdg (by omega) (of_decide_eq_true hok) (hG H locs ls hP hS hl)
    | succ a =>
      rw [if_neg (by omega)] at hok
      simp only [Bool.and_eq_true, decide_eq_true_eq] at hok
      obtain ⟨-, hv, hj, hoff⟩ := hok
      have hc : x = v := hc
      subst hc
      cases ho : offs[j]? with
      | none => rw [ho] at hoff; cases hoff
      | some off =>
        rw [ho] at hoff
        exact lv_tableIn hx hb hdg (by omega) (by omega) (by rw [show (x.toInt - 0).toNat = j by omega]; exact ho) (of_decide_eq_true hoff) (hG H locs ls hP hS hl)
  · cases hs
end ABC
end
section
/-! ===== every instruction, every path; contracts ===== -/
theorem ab_dec {k pc : Nat} {ins : Instr} {a j : Nat} {v : Int32} {nx : Nat} (h : ab_ok k (pc, ins, a, j, v, nx) = true) (hn : ins ≠ .nop) : ∃ len, decode (ab_mB k) pc = .ok (ins, len) ∧ ab_oki k pc len ins a j v nx = true := by
  unfold ab_ok at h
  split at h
  · next hq => exact absurd hq hn
  · split at h
    · next i2 len hd =>
      rw [Bool.and_eq_true, decide_eq_true_eq] at h
      obtain ⟨rfl, h2⟩ := h
      exact ⟨len, hd, h2⟩
    · cases h
set_option maxHeartbeats 4000000 in
theorem ab_stp_ok {Z : ab_Z} {X : ab_X} {k : Nat} (hX : ab_okX Z X) (hk : ab_xk X = k) {e : ab_E} {o o1 : List ab_O} {st st1 : ab_S} {cn : Option Prop} (ho : ab_ok k e = true) (hs : ab_stp Z X k e o st = some (cn, o1, st1)) (hc : ab_cd cn) (hG : ab_G Z X st1) : ab_G Z X st := by
  obtain ⟨pc, ins, a, j, v, nx⟩ := e
  obtain ⟨pc', L, S, m⟩ := st
  obtain ⟨p, e, R, s, mm, args, below, meth, c0, cells, slots, Q, A, b, N, xs, k', d⟩ := X
  obtain ⟨hx, hb, hml, hown, hts, hnw, hK, hA, hdf, hdl, hcl, hsl, hZ⟩ := hX
  have hk : k' = k := hk
  subst hk
  unfold ab_stp at hs
  split at hs
  · next hpc =>
    have hpc : pc = pc' := hpc
    subst hpc
    have hd := fun hn => ab_dec ho hn
    cases ins
    case nop =>
      cases hs
      intro H locs ls hP hS hl
      refine hG H locs ls hP hS ⟨hl.1, hl.2.1, fun q hq => hl.2.2 q ?_⟩
      obtain ⟨x, hx1, rfl⟩ := List.mem_map.mp hq
      exact List.mem_map.mpr ⟨x, (List.mem_filter.mp hx1).1, rfl⟩
    case iconst n =>
      obtain ⟨len, hdg, hok⟩ := hd (fun q => by cases q)
      simp only [ab_oki, Bool.and_eq_true, decide_eq_true_eq] at hok
      obtain ⟨⟨rfl, rfl⟩, hv⟩ := hok
      exact ab_s_pi (fun h => lv_iconst hx hb hdg hv h) hs hG
    case bipush n =>
      obtain ⟨len, hdg, hok⟩ := hd (fun q => by cases q)
      simp only [ab_oki, Bool.and_eq_true, decide_eq_true_eq] at hok
      obtain ⟨⟨rfl, rfl⟩, hv⟩ := hok
      exact ab_s_pi (fun h => lv_bipush hx hb hdg hv h) hs hG
    case sipush n =>
      obtain ⟨len, hdg, hok⟩ := hd (fun q => by cases q)
      simp only [ab_oki, Bool.and_eq_true, decide_eq_true_eq] at hok
      obtain ⟨⟨rfl, rfl⟩, hv⟩ := hok
      exact ab_s_pi (fun h => lv_sipush hx hb hdg hv h) hs hG
    case ldc i =>
      obtain ⟨len, hdg, hok⟩ := hd (fun q => by cases q)
      simp only [ab_oki, Bool.and_eq_true, decide_eq_true_eq] at hok
      obtain ⟨⟨rfl, rfl⟩, hv⟩ := hok
      exact ab_s_pi (fun h => lv_ldc hx hb hown (hts _ (ab_wd_tb hv)) hdg h) hs hG
    case ldc_w i =>
      obtain ⟨len, hdg, hok⟩ := hd (fun q => by cases q)
      simp only [ab_oki, Bool.and_eq_true, decide_eq_true_eq] at hok
      obtain ⟨⟨rfl, rfl⟩, hv⟩ := hok
      exact ab_s_pi (fun h => lv_ldcw hx hb hown (hts _ (ab_wd_tb hv)) hdg h) hs hG
    case lconst n =>
      obtain ⟨len, hdg, hok⟩ := hd (fun q => by cases q)
      simp only [ab_oki, Bool.and_eq_true, decide_eq_true_eq] at hok
      obtain ⟨⟨rfl, rfl⟩, hv⟩ := hok
      exact ab_s_pl (fun h => lv_lconst hx hb hdg hv h) hs hG
    case ldc2_w i =>
      obtain ⟨len, hdg, hok⟩ := hd (fun q => by cases q)
      simp only [ab_oki, Bool.and_eq_true, decide_eq_true_eq] at hok
      obtain ⟨⟨rfl, rfl⟩, hv⟩ := hok
      exact ab_s_pl (fun h => lv_ldc2 hx hb hown (hts _ (ab_wd_tb hv)) hdg h) hs hG
    case iload i =>
      obtain ⟨len, hdg, hok⟩ := hd (fun q => by cases q)
      simp only [ab_oki, Bool.and_eq_true, decide_eq_true_eq] at hok
      obtain ⟨rfl, rfl⟩ := hok
      exact ab_s_li (fun hl h => lv_iload hx hb hdg hl h) hs hG
    case iload_n i =>
      obtain ⟨len, hdg, hok⟩ := hd (fun q => by cases q)
      simp only [ab_oki, Bool.and_eq_true, decide_eq_true_eq] at hok
      obtain ⟨rfl, rfl⟩ := hok
      exact ab_s_li (fun hl h => lv_iload_n hx hb hdg rfl hl h) hs hG
    case lload_n i =>
      obtain ⟨len, hdg, hok⟩ := hd (fun q => by cases q)
      simp only [ab_oki, Bool.and_eq_true, decide_eq_true_eq] at hok
      obtain ⟨rfl, rfl⟩ := hok
      exact ab_s_ll (fun hl h => lv_lload_n hx hb hdg rfl hl h) hs hG
    case aload i =>
      obtain ⟨len, hdg, hok⟩ := hd (fun q => by cases q)
      simp only [ab_oki, Bool.and_eq_true, decide_eq_true_eq] at hok
      obtain ⟨rfl, rfl⟩ := hok
      exact ab_s_la (fun hl h => lv_aload hx hb hdg hl h) hs hG
    case aload_n i =>
      obtain ⟨len, hdg, hok⟩ := hd (fun q => by cases q)
      simp only [ab_oki, Bool.and_eq_true, decide_eq_true_eq] at hok
      obtain ⟨rfl, rfl⟩ := hok
      exact ab_s_la (fun hl h => lv_aload_n hx hb hdg rfl hl h) hs hG
    case istore i =>
      obtain ⟨len, hdg, hok⟩ := hd (fun q => by cases q)
      simp only [ab_oki, Bool.and_eq_true, decide_eq_true_eq] at hok
      obtain ⟨rfl, rfl⟩ := hok
      exact ab_s_si (fun hl hi h => lv_istore hx hb hdg hl hi rfl h) hs hG
    case istore_n i =>
      obtain ⟨len, hdg, hok⟩ := hd (fun q => by cases q)
      simp only [ab_oki, Bool.and_eq_true, decide_eq_true_eq] at hok
      obtain ⟨rfl, rfl⟩ := hok
      exact ab_s_si (fun hl hi h => lv_istore_n hx hb hdg rfl hl hi rfl h) hs hG
    case lstore_n i =>
      obtain ⟨len, hdg, hok⟩ := hd (fun q => by cases q)
      simp only [ab_oki, Bool.and_eq_true, decide_eq_true_eq] at hok
      obtain ⟨rfl, rfl⟩ := hok
      exact ab_s_sl (fun hl hi h => lv_lstore_n hx hb hdg rfl hl hi rfl h) hs hG
    case astore_n i =>
      obtain ⟨len, hdg, hok⟩ := hd (fun q => by cases q)
      simp only [ab_oki, Bool.and_eq_true, decide_eq_true_eq] at hok
      obtain ⟨rfl, rfl⟩ := hok
      exact ab_s_sa (fun hl hi h => lv_astore_n hx hb hdg rfl hl hi rfl h) hs hG
    case iinc i n =>
      obtain ⟨len, hdg, hok⟩ := hd (fun q => by cases q)
      simp only [ab_oki, Bool.and_eq_true, decide_eq_true_eq] at hok
      obtain ⟨⟨rfl, rfl⟩, hv⟩ := hok
      exact ab_s_inc (fun hl hj hi h => lv_iinc hx hb hdg hl hj (by rw [hv]) hi rfl h) hs hG
    case iadd =>
      obtain ⟨len, hdg, hok⟩ := hd (fun q => by cases q)
      simp only [ab_oki, Bool.and_eq_true, decide_eq_true_eq] at hok
      obtain ⟨rfl, rfl⟩ := hok
      exact ab_s_b2 (fun h => lv_iadd hx hb hdg h) hs hc hG
    case isub =>
      obtain ⟨len, hdg, hok⟩ := hd (fun q => by cases q)
      simp only [ab_oki, Bool.and_eq_true, decide_eq_true_eq] at hok
      obtain ⟨rfl, rfl⟩ := hok
      exact ab_s_b2 (fun h => lv_isub hx hb hdg h) hs hc hG
    case imul =>
      obtain ⟨len, hdg, hok⟩ := hd (fun q => by cases q)
      simp only [ab_oki, Bool.and_eq_true, decide_eq_true_eq] at hok
      obtain ⟨rfl, rfl⟩ := hok
      exact ab_s_b2 (fun h => lv_imul hx hb hdg h) hs hc hG
    case iand =>
      obtain ⟨len, hdg, hok⟩ := hd (fun q => by cases q)
      simp only [ab_oki, Bool.and_eq_true, decide_eq_true_eq] at hok
      obtain ⟨rfl, rfl⟩ := hok
      exact ab_s_b2 (fun h => lv_iand hx hb hdg h) hs hc hG
    case ior =>
      obtain ⟨len, hdg, hok⟩ := hd (fun q => by cases q)
      simp only [ab_oki, Bool.and_eq_true, decide_eq_true_eq] at hok
      obtain ⟨rfl, rfl⟩ := hok
      exact ab_s_b2 (fun h => lv_ior hx hb hdg h) hs hc hG
    case ixor =>
      obtain ⟨len, hdg, hok⟩ := hd (fun q => by cases q)
      simp only [ab_oki, Bool.and_eq_true, decide_eq_true_eq] at hok
      obtain ⟨rfl, rfl⟩ := hok
      exact ab_s_b2 (fun h => lv_ixor hx hb hdg h) hs hc hG
    case ishl =>
      obtain ⟨len, hdg, hok⟩ := hd (fun q => by cases q)
      simp only [ab_oki, Bool.and_eq_true, decide_eq_true_eq] at hok
      obtain ⟨rfl, rfl⟩ := hok
      exact ab_s_b2 (fun h => lv_ishl hx hb hdg h) hs hc hG
    case ishr =>
      obtain ⟨len, hdg, hok⟩ := hd (fun q => by cases q)
      simp only [ab_oki, Bool.and_eq_true, decide_eq_true_eq] at hok
      obtain ⟨rfl, rfl⟩ := hok
      exact ab_s_b2 (fun h => lv_ishr hx hb hdg h) hs hc hG
    case iushr =>
      obtain ⟨len, hdg, hok⟩ := hd (fun q => by cases q)
      simp only [ab_oki, Bool.and_eq_true, decide_eq_true_eq] at hok
      obtain ⟨rfl, rfl⟩ := hok
      exact ab_s_b2 (fun h => lv_iushr hx hb hdg rfl h) hs hc hG
    case idiv =>
      obtain ⟨len, hdg, hok⟩ := hd (fun q => by cases q)
      simp only [ab_oki, Bool.and_eq_true, decide_eq_true_eq] at hok
      obtain ⟨rfl, rfl⟩ := hok
      exact ab_s_b2n (fun hn h => lv_idiv hx hb hdg hn h) hs hc hG
    case irem =>
      obtain ⟨len, hdg, hok⟩ := hd (fun q => by cases q)
      simp only [ab_oki, Bool.and_eq_true, decide_eq_true_eq] at hok
      obtain ⟨rfl, rfl⟩ := hok
      exact ab_s_b2n (fun hn h => lv_irem hx hb hdg hn h) hs hc hG
    case ineg =>
      obtain ⟨len, hdg, hok⟩ := hd (fun q => by cases q)
      simp only [ab_oki, Bool.and_eq_true, decide_eq_true_eq] at hok
      obtain ⟨rfl, rfl⟩ := hok
      exact ab_s_neg (fun h => lv_ineg hx hb hdg h) hs hc hG
    case ladd =>
      obtain ⟨len, hdg, hok⟩ := hd (fun q => by cases q)
      simp only [ab_oki, Bool.and_eq_true, decide_eq_true_eq] at hok
      obtain ⟨rfl, rfl⟩ := hok
      exact ab_s_l2 (fun h => lv_ladd hx hb hdg h) hs hc hG
    case lsub =>
      obtain ⟨len, hdg, hok⟩ := hd (fun q => by cases q)
      simp only [ab_oki, Bool.and_eq_true, decide_eq_true_eq] at hok
      obtain ⟨rfl, rfl⟩ := hok
      exact ab_s_l2 (fun h => lv_lsub hx hb hdg h) hs hc hG
    case lmul =>
      obtain ⟨len, hdg, hok⟩ := hd (fun q => by cases q)
      simp only [ab_oki, Bool.and_eq_true, decide_eq_true_eq] at hok
      obtain ⟨rfl, rfl⟩ := hok
      exact ab_s_l2 (fun h => lv_lmul hx hb hdg h) hs hc hG
    case land =>
      obtain ⟨len, hdg, hok⟩ := hd (fun q => by cases q)
      simp only [ab_oki, Bool.and_eq_true, decide_eq_true_eq] at hok
      obtain ⟨rfl, rfl⟩ := hok
      exact ab_s_l2 (fun h => lv_land hx hb hdg h) hs hc hG
    case lor =>
      obtain ⟨len, hdg, hok⟩ := hd (fun q => by cases q)
      simp only [ab_oki, Bool.and_eq_true, decide_eq_true_eq] at hok
      obtain ⟨rfl, rfl⟩ := hok
      exact ab_s_l2 (fun h => lv_lor hx hb hdg h) hs hc hG
    case ldiv =>
      obtain ⟨len, hdg, hok⟩ := hd (fun q => by cases q)
      simp only [ab_oki, Bool.and_eq_true, decide_eq_true_eq] at hok
      obtain ⟨rfl, rfl⟩ := hok
      exact ab_s_l2n (fun hn h => lv_ldiv hx hb hdg hn h) hs hc hG
    case lshl =>
      obtain ⟨len, hdg, hok⟩ := hd (fun q => by cases q)
      simp only [ab_oki, Bool.and_eq_true, decide_eq_true_eq] at hok
      obtain ⟨rfl, rfl⟩ := hok
      exact ab_s_lsh (fun h => lv_lshl hx hb hdg rfl h) hs hc hG
    case lushr =>
      obtain ⟨len, hdg, hok⟩ := hd (fun q => by cases q)
      simp only [ab_oki, Bool.and_eq_true, decide_eq_true_eq] at hok
      obtain ⟨rfl, rfl⟩ := hok
      exact ab_s_lsh (fun h => lv_lushr hx hb hdg rfl h) hs hc hG
    case lcmp =>
      obtain ⟨len, hdg, hok⟩ := hd (fun q => by cases q)
      simp only [ab_oki, Bool.and_eq_true, decide_eq_true_eq] at hok
      obtain ⟨rfl, rfl⟩ := hok
      exact ab_s_lcm (fun h => W.lcmp hx hb hdg h) hs hc hG
    case i2l =>
      obtain ⟨len, hdg, hok⟩ := hd (fun q => by cases q)
      simp only [ab_oki, Bool.and_eq_true, decide_eq_true_eq] at hok
      obtain ⟨rfl, rfl⟩ := hok
      exact ab_s_i2l (fun h => lv_i2l hx hb hdg rfl h) hs hc hG
    case l2i =>
      obtain ⟨len, hdg, hok⟩ := hd (fun q => by cases q)
      simp only [ab_oki, Bool.and_eq_true, decide_eq_true_eq] at hok
      obtain ⟨rfl, rfl⟩ := hok
      exact ab_s_l2i (fun h => lv_l2i hx hb hdg rfl h) hs hc hG
    case dup =>
      obtain ⟨len, hdg, hok⟩ := hd (fun q => by cases q)
      simp only [ab_oki, Bool.and_eq_true, decide_eq_true_eq] at hok
      obtain ⟨rfl, rfl⟩ := hok
      exact ab_s_dup (fun hv h => lv_dup hx hb hdg hv h) hs hG
    case pop =>
      obtain ⟨len, hdg, hok⟩ := hd (fun q => by cases q)
      simp only [ab_oki, Bool.and_eq_true, decide_eq_true_eq] at hok
      obtain ⟨rfl, rfl⟩ := hok
      exact ab_s_pop (fun hv h => lv_pop hx hb hdg hv h) hs hG
    case dup2 =>
      obtain ⟨len, hdg, hok⟩ := hd (fun q => by cases q)
      simp only [ab_oki, Bool.and_eq_true, decide_eq_true_eq] at hok
      obtain ⟨rfl, rfl⟩ := hok
      exact ab_s_du2 (fun hv hw h => lv_dup2_11 hx hb hdg hv hw h) hs hG
    case ifCond cd off =>
      obtain ⟨len, hdg, hok⟩ := hd (fun q => by cases q)
      unfold ab_oki at hok
      rw [Bool.and_eq_true, decide_eq_true_eq] at hok
      obtain ⟨rfl, hnx⟩ := hok
      exact ab_s_if1 (fun hq h => ab_row1 hx hb hdg hnx hq h) hs hc hG
    case if_icmp cd off =>
      obtain ⟨len, hdg, hok⟩ := hd (fun q => by cases q)
      unfold ab_oki at hok
      rw [Bool.and_eq_true, decide_eq_true_eq] at hok
      obtain ⟨rfl, hnx⟩ := hok
      exact ab_s_if2 (fun hq h => ab_row2 hx hb hdg hnx hq h) hs hc hG
    case goto off =>
      obtain ⟨len, hdg, hok⟩ := hd (fun q => by cases q)
      simp only [ab_oki, Bool.and_eq_true, decide_eq_true_eq] at hok
      obtain ⟨rfl, ht⟩ := hok
      cases hs
      intro H locs ls hP hS hl
      exact lv_goto hx hb hdg ht (hG H locs ls hP hS hl)
    case tableswitch dflt lo hi offs =>
      obtain ⟨len, hdg, hok⟩ := hd (fun q => by cases q)
      exact ab_s_sw hx hb hdg hok hs hc hG
    case getfield i =>
      obtain ⟨len, hdg, hok⟩ := hd (fun q => by cases q)
      simp only [ab_oki, Bool.and_eq_true, decide_eq_true_eq] at hok
      obtain ⟨⟨rfl, rfl⟩, hf⟩ := hok
      exact ab_s_gf hx hb hts hnw hK hA hZ hown hf hdg hs hG
    case putfield i =>
      obtain ⟨len, hdg, hok⟩ := hd (fun q => by cases q)
      simp only [ab_oki, Bool.and_eq_true, decide_eq_true_eq] at hok
      obtain ⟨⟨rfl, rfl⟩, hf⟩ := hok
      exact ab_s_pf hx hb hts hnw hK hA hZ hown hf hdg hs hc hG
    case iaload =>
      obtain ⟨len, hdg, hok⟩ := hd (fun q => by cases q)
      simp only [ab_oki, Bool.and_eq_true, decide_eq_true_eq] at hok
      obtain ⟨rfl, rfl⟩ := hok
      exact ab_s_ial hx hb hts hnw hK hA hZ hdg hs hc hG
    case iastore =>
      obtain ⟨len, hdg, hok⟩ := hd (fun q => by cases q)
      simp only [ab_oki, Bool.and_eq_true, decide_eq_true_eq] at hok
      obtain ⟨rfl, rfl⟩ := hok
      exact ab_s_ias hx hb hts hnw hK hA hZ hdg hs hc hG
    case baload =>
      obtain ⟨len, hdg, hok⟩ := hd (fun q => by cases q)
      simp only [ab_oki, Bool.and_eq_true, decide_eq_true_eq] at hok
      obtain ⟨rfl, rfl⟩ := hok
      exact ab_s_bal hx hb hts hnw hK hA hZ hdg hs hc hG
    case bastore =>
      obtain ⟨len, hdg, hok⟩ := hd (fun q => by cases q)
      simp only [ab_oki, Bool.and_eq_true, decide_eq_true_eq] at hok
      obtain ⟨rfl, rfl⟩ := hok
      exact ab_s_bas hx hb hts hnw hK hA hZ hdg hs hc hG
    case laload =>
      obtain ⟨len, hdg, hok⟩ := hd (fun q => by cases q)
      simp only [ab_oki, Bool.and_eq_true, decide_eq_true_eq] at hok
      obtain ⟨rfl, rfl⟩ := hok
      exact ab_s_lal hx hb hts hnw hK hA hZ hdg hs hc hG
    case lastore =>
      obtain ⟨len, hdg, hok⟩ := hd (fun q => by cases q)
      simp only [ab_oki, Bool.and_eq_true, decide_eq_true_eq] at hok
      obtain ⟨rfl, rfl⟩ := hok
      exact ab_s_las hx hb hts hnw hK hA hZ hdg hs hc hG
    case aaload =>
      obtain ⟨len, hdg, hok⟩ := hd (fun q => by cases q)
      simp only [ab_oki, Bool.and_eq_true, decide_eq_true_eq] at hok
      obtain ⟨rfl, rfl⟩ := hok
      exact ab_s_aal hx hb hts hnw hK hA hZ hdg hs hc hG
    case arraylength =>
      obtain ⟨len, hdg, hok⟩ := hd (fun q => by cases q)
      simp only [ab_oki, Bool.and_eq_true, decide_eq_true_eq] at hok
      obtain ⟨rfl, rfl⟩ := hok
      exact ab_s_aln hx hb hts hnw hK hA hZ hdg hs hc hG
    case invokevirtual i =>
      obtain ⟨len, hdg, hok⟩ := hd (fun q => by cases q)
      unfold ab_oki at hok
      simp only [Bool.and_eq_true, decide_eq_true_eq, Bool.not_eq_true'] at hok
      obtain ⟨⟨rfl, rfl⟩, ha, hst, hlk⟩ := hok
      exact ab_s_cal (vi := true) hx hb hts hnw hK hA hZ hown hml hdf hdl hcl hsl ha hst hlk hdg hs hc hG
    case invokestatic i =>
      obtain ⟨len, hdg, hok⟩ := hd (fun q => by cases q)
      unfold ab_oki at hok
      simp only [Bool.and_eq_true, decide_eq_true_eq, Bool.not_eq_true'] at hok
      obtain ⟨⟨rfl, rfl⟩, ha, hst, hlk⟩ := hok
      exact ab_s_cal (vi := false) hx hb hts hnw hK hA hZ hown hml hdf hdl hcl hsl ha hst hlk hdg hs hc hG
    all_goals exact absurd hs (by intro q; cases q)
  · cases hs
theorem ab_run_ok {Z : ab_Z} {X : ab_X} {k : Nat} (hX : ab_okX Z X) (hk : ab_xk X = k) : ∀ (es : List ab_E) (o : List ab_O) (st st1 : ab_S) (C : Prop), es.all (ab_ok k) = true → ab_run Z X k es o st = some (C, st1) → C → ab_G Z X st1 → ab_G Z X st
  | [], _, st, st1, C, _, hr, _, hG => by
    unfold ab_run at hr
    cases hr
    exact hG
  | e :: t, o, st, st1, C, ha, hr, hC, hG => by
    rw [List.all_cons, Bool.and_eq_true] at ha
    unfold ab_run at hr
    split at hr
    · cases hr
    · next c o' st' hs =>
      split at hr
      · cases hr
      · next C' st2 hr2 =>
        cases hr
        cases c with
        | none => exact ab_stp_ok hX hk ha.1 hs trivial (ab_run_ok hX hk t o' st' _ C' ha.2 hr2 hC hG)
        | some c => exact ab_stp_ok hX hk ha.1 hs hC.1 (ab_run_ok hX hk t o' st' _ C' ha.2 hr2 hC.2 hG)
def ab_isnop (e : ab_E) : Bool := match e.2.1 with
  | .nop => true
  | _ => false
def ab_eb (e f : ab_E) : Bool := decide (e.1 = f.1) && (decide (e.2.2.2.2.2 = f.2.2.2.2.2) && (decide (e.2.2.1 = f.2.2.1) && (decide (e.2.2.2.1 = f.2.2.2.1) && (decide (e.2.2.2.2.1 = f.2.2.2.2.1) && decide (e.2.1 = f.2.1)))))
theorem ab_eb_eq {e f : ab_E} (h : ab_eb e f = true) : e = f := by
  obtain ⟨a, b, c, d, g, i⟩ := e
  obtain ⟨a', b', c', d', g', i'⟩ := f
  unfold ab_eb at h
  simp only [Bool.and_eq_true, decide_eq_true_eq] at h
  obtain ⟨rfl, rfl, rfl, rfl, rfl, rfl⟩ := h
  rfl
/-- a path of a method's code -/
theorem ab_go {Z : ab_Z} {X : ab_X} (k : Nat) {cd es : List ab_E} (o : List ab_O) {st st1 : ab_S} {C : Prop} (hX : ab_okX Z X ∧ ab_xk X = k) (hcd : cd.all (ab_ok k) = true) (hes : es.all (fun e => cd.any (ab_eb e) || ab_isnop e) = true) (hr : ab_run Z X k es o st = some (C, st1)) (hC : C) (hG : ab_G Z X st1) : ab_G Z X st := by
  refine ab_run_ok hX.1 hX.2 es o st st1 C (List.all_eq_true.mpr fun e he => ?_) hr hC hG
  have h := List.all_eq_true.mp hes e he
  rw [Bool.or_eq_true] at h
  rcases h with h | h
  · obtain ⟨f, hf, hef⟩ := List.any_eq_true.mp h
    rw [ab_eb_eq hef]
    exact List.all_eq_true.mp hcd f hf
  · obtain ⟨pc, ins, a⟩ := e
    unfold ab_isnop at h
    unfold ab_ok
    cases ins <;> first | rfl | cases h
theorem ab_plain {k : Nat} (h : k < ab_NM - 1) : plainFor (ab_mY k) = true := by
  have hmk := ab_mck h
  unfold ab_mchk at hmk
  simp only [Bool.and_eq_true, Bool.or_eq_true, decide_eq_true_eq] at hmk
  obtain ⟨-, -, -, -, hp, -⟩ := hmk
  rcases hp with hp | hp
  · exact plainFor_of_name hp
  · rcases (by omega : k = 143 ∨ k = 144 ∨ k = 145) with rfl | rfl | rfl
    · exact ab_pf0
    · exact ab_pf1
    · exact ab_pf2
theorem ab_ofW {l : Launch} {y : MethodName} {ws ws' : List Jvm.Cond} {rm : Room} {Pc : Array Value → State → Prop} {Qc : Array Value → State → Outcome → State → Prop} {mc ms : Nat} {free : Addr → Prop} {cc : ByteArray} {maxL : Nat} {ret : Option FieldType}
    (hy : plainFor y = true) (hw : ws = Jvm.Cond.code y cc maxL ret :: ws')
    (body : ∀ p e s m args below meth c s₁, BodyLoose p l y (headSpec ws rm) cc maxL ret e s m args below meth c s₁ → c.maxLocals = maxL → Pc args s →
      W p l e (headSpec ws rm).room s m args below meth c s.heap [] 0 0 (MQ below Qc args s mc ms free) (entryFrame m args maxL)) : Met l y ws rm Pc Qc mc ms free := by
  refine MetFree.of_bodySF (code := cc) (maxLocals := maxL) (ret := ret) hy ?_ ?_
  · intro args s m h hn
    obtain ⟨meth, c, h1, h2, h3, h4, h5, h6, -, -⟩ := Cond.code_spec hn (atoms_spec (ws := ws) h _ (by rw [hw]; exact List.mem_cons_self))
    exact ⟨meth, c, h1, h2, h3, h4, h5, h6⟩
  · intro p e s m args below meth c s₁ B hml hP _
    have hh0 : s₁.heap = s.heap := by rw [B.state]; rfl
    obtain ⟨t, a1, o, b1, b2, b3⟩ := body p e s m args below meth c s₁ B hml hP s₁ hh0 (Stand.of_body B)
    exact ⟨t, o, a1, b1, b2, ⟨b3.1, b3.2⟩⟩
/-- the locals with which a method begins -/
def ab_loc : Nat → List ab_V → List (Nat × ab_V)
  | _, [] => []
  | i, v :: vs => (i, v) :: ab_loc (if ab_cat v = 2 then i + 2 else i + 1) vs
theorem ab_loc_cv (Z : ab_Z) (b : Nat) : ∀ (vs : List ab_V) (i : Nat), ab_cvL Z b (ab_loc i vs) = lv_args i (vs.map (ab_cv Z b))
  | [], _ => rfl
  | v :: vs, i => by
    show (i, ab_cv Z b v) :: ab_cvL Z b (ab_loc (if ab_cat v = 2 then i + 2 else i + 1) vs) = (i, ab_cv Z b v) :: lv_args (if (ab_cv Z b v).category = 2 then i + 2 else i + 1) (vs.map (ab_cv Z b))
    rw [ab_cat_cv, ab_loc_cv Z b vs]
/-- the place of a return, and how it is proved: what it answers, and the cells -/
def ab_rpc (k : Nat) (r : Option Int32) (pc : Nat) : Prop := match r with
  | none => decode (ab_mB k) pc = .ok (.return_, 1)
  | some _ => decode (ab_mB k) pc = .ok (.ireturn, 1)
def ab_rk (k : Nat) (r : Option Int32) : Prop := match r, ab_mR k with
  | none, none => True
  | some _, some .int => True
  | some v, some .boolean => ab_zk v
  | _, _ => False
def ab_rsl (vs : List ab_V) : Nat := (vs.map ab_cat).sum
theorem ab_rsl_len (Z : ab_Z) (b : Nat) : ∀ vs : List ab_V, (lg_sl (vs.map (ab_cv Z b))).length = ab_rsl vs
  | [] => rfl
  | v :: vs => by
    have ih := ab_rsl_len Z b vs
    unfold ab_rsl at ih ⊢
    rw [List.map_cons, List.map_cons, List.sum_cons]
    unfold lg_sl at ih ⊢
    rw [List.flatMap_cons, List.length_append, ih, ab_cat_cv]
    have hv : ab_cat v = 1 ∨ ab_cat v = 2 := by
      rcases v with v | v
      · cases v <;> first | exact Or.inl rfl | exact Or.inr rfl
      · exact Or.inl rfl
    rcases hv with h | h
    · rw [h]; rfl
    · rw [h]; rfl
set_option maxHeartbeats 4000000 in
theorem ab_intro {Z : ab_Z} {d k : Nat} {As : List ab_V} {m : ab_M} {r : Option Int32} {m' : ab_M} (hk : k < ab_NM - 1) (hZ : ab_okZ Z) (hsl : ab_rsl As ≤ ab_mL k) (hrk : ab_rk k r)
    (body : ∀ X : ab_X, ab_okX Z X ∧ ab_xk X = k → ab_xd X = d → (∀ (pc : Nat) (L : List (Nat × ab_V)), ab_rpc k r pc → ab_G Z X (pc, L, r.toList.map (fun x => .inl (.int x)), m')) → ab_G Z X (0, ab_loc 0 As, [], m)) : ab_C Z d k As m r m' := by
  refine ab_ofW (cc := ab_mB k) (maxL := ab_mL k) (ret := ab_mR k) (ab_plain hk) rfl ?_
  intro p e s mm args below meth c s₁ B hml hv
  obtain ⟨rfl, hP, hK, hnw⟩ := hv
  have hts := atoms_spec (ws := ab_mW k) B.pre
  have hown : s.vm.findClass (ab_mY k).cls = some mm.cls := findClass_of_methodNamed B.named
  have hlocks := B.notSynchronized
  have hr := B.returns
  have hx := B.exec
  have hb := B.bytes
  have hl := lv_entry (As.map (ab_cv Z 0)) (n := ab_mL k) (by rw [ab_rsl_len]; exact hsl)
  rw [lg_entry_eq]
  rw [← ab_loc_cv] at hl
  have X0 : ab_okX Z (p, e, (headSpec (ab_mW k) (ab_rm d)).room, s, mm, (As.map (ab_cv Z 0)).toArray, below, meth, c, 0, 0, MQ below (fun _ st oc t => (oc = .returned (r.map Value.int) ∧ va_P (ab_D Z) vwCl (ab_w Z m') t.heap) ∧ va_F (ab_A Z) st t) (As.map (ab_cv Z 0)).toArray s 0 0 (ab_A Z), ab_A Z, 0, 0, (fun _ => 0), k, d) := ⟨hx, hb, hml, hown, fun w hw => hts w (List.mem_cons_of_mem _ hw), hnw, hK, fun _ h => h, Nat.le_refl _, Nat.le_refl _, Nat.zero_le _, Nat.zero_le _, hZ⟩
  refine body _ ⟨X0, rfl⟩ rfl ?_ s.heap [] _ hP va_S.rf hl
  intro pc L hpc H locs ls hP9 hS9 hl9
  cases r with
  | none =>
    have hr0 : meth.sig.returnType = none := by
      rw [hr]
      unfold ab_rk at hrk
      cases hR : ab_mR k with
      | none => rfl
      | some t => rw [hR] at hrk; exact hrk.elim
    exact W.vret hx hb hr0 (fun t ht _ => ⟨⟨rfl, by rw [ht]; exact hP9⟩, hS9.F ht⟩) hS9.2.2 hpc
  | some v =>
    unfold ab_rk at hrk
    cases hR : ab_mR k with
    | none => rw [hR] at hrk; exact hrk.elim
    | some ty =>
      rw [hR] at hrk hr
      cases ty with
      | int => exact W.iret hx hb hr (fun t ht _ => ⟨⟨rfl, by rw [ht]; exact hP9⟩, hS9.F ht⟩) hS9.2.2 hpc
      | boolean => exact W.zret hx hb hr (ab_zk_nar hrk).1 (fun t ht _ => ⟨⟨rfl, by rw [ht]; exact hP9⟩, hS9.F ht⟩) hS9.2.2 hpc
      | _ => exact hrk.elim
end
section
/-- where a method returns -/
def ab_Rt (Z : ab_Z) (X : ab_X) (k : Nat) (r : Option Int32) (m : ab_M) : Prop := ∀ (pc : Nat) (L : List (Nat × ab_V)), ab_rpc k r pc → ab_G Z X (pc, L, r.toList.map (fun x => .inl (.int x)), m)
theorem ab_rpci {k pc : Nat} {cd : List ab_E} {v : Int32} (hcd : cd.all (ab_ok k) = true) (h : cd.any (ab_eb (pc, .ireturn, 0, 0, 0, pc + 1)) = true) : ab_rpc k (some v) pc := by
  obtain ⟨f, hf, hef⟩ := List.any_eq_true.mp h
  have h2 := List.all_eq_true.mp hcd f hf
  rw [← ab_eb_eq hef] at h2
  obtain ⟨len, h3, h4⟩ := ab_dec h2 (fun q => by cases q)
  simp only [ab_oki, Bool.and_eq_true, decide_eq_true_eq] at h4
  rw [h4.1] at h3
  exact h3
theorem ab_rpcv {k pc : Nat} {cd : List ab_E} (hcd : cd.all (ab_ok k) = true) (h : cd.any (ab_eb (pc, .return_, 0, 0, 0, pc + 1)) = true) : ab_rpc k none pc := by
  obtain ⟨f, hf, hef⟩ := List.any_eq_true.mp h
  have h2 := List.all_eq_true.mp hcd f hf
  rw [← ab_eb_eq hef] at h2
  obtain ⟨len, h3, h4⟩ := ab_dec h2 (fun q => by cases q)
  simp only [ab_oki, Bool.and_eq_true, decide_eq_true_eq] at h4
  rw [h4.1] at h3
  exact h3
end
section
theorem bk_Colours_areNear_0_0 {Z : ab_Z} {X : ab_X} {x1 x2 : Int32} {m : ab_M} {m0 : ab_M} {r0 : Int32} (hX : ab_okX Z X ∧ ab_xk X = 0) (c0 : vp_in x1 12) (c1 : ¬ ((((ab_rd m 15 x1.toNatClampNeg).toUInt32 >>> (x2.toUInt32 &&& Int32.toUInt32 31)).toInt32) &&& 1) = 0) (hR : ab_Rt Z X 0 (some r0) m0) (hv : 1 = r0) (hm : m = m0) : ab_G Z X (0, [(0, .inl (.ref 2)), (1, .inl (.int x1)), (2, .inl (.int x2))], [], m) := by
  subst hm
  subst hv
  exact ab_go (st1 := (18, [(0, .inl (.ref 2)), (1, .inl (.int x1)), (2, .inl (.int x2))], [.inl (.int 1)], m)) (C := (vp_in x1 12) ∧ (¬ ((((ab_rd m 15 x1.toNatClampNeg).toUInt32 >>> (x2.toUInt32 &&& Int32.toUInt32 31)).toInt32) &&& 1) = 0) ∧ True) 0 [] hX ck_Colours_areNear (es := [(0, .aload_n 0, 0, 0, 0, 1), (1, .getfield 9, 0, 102, 0, 4), (4, .iload_n 1, 0, 0, 0, 5), (5, .iaload, 0, 0, 0, 6), (6, .iload_n 2, 0, 0, 0, 7), (7, .iushr, 0, 0, 0, 8), (8, .iconst 1, 0, 0, 1, 9), (9, .iand, 0, 0, 0, 10), (10, .ifCond .eq 7, 0, 0, 0, 13), (13, .iconst 1, 0, 0, 1, 14), (14, .goto 4, 0, 0, 0, 18)]) (by decide +kernel) rfl ⟨c0, c1, trivial⟩ (hR _ _ (ab_rpci ck_Colours_areNear (by decide +kernel)))
theorem bk_Colours_areNear_0_1 {Z : ab_Z} {X : ab_X} {x1 x2 : Int32} {m : ab_M} {m0 : ab_M} {r0 : Int32} (hX : ab_okX Z X ∧ ab_xk X = 0) (c0 : vp_in x1 12) (c1 : ((((ab_rd m 15 x1.toNatClampNeg).toUInt32 >>> (x2.toUInt32 &&& Int32.toUInt32 31)).toInt32) &&& 1) = 0) (hR : ab_Rt Z X 0 (some r0) m0) (hv : 0 = r0) (hm : m = m0) : ab_G Z X (0, [(0, .inl (.ref 2)), (1, .inl (.int x1)), (2, .inl (.int x2))], [], m) := by
  subst hm
  subst hv
  exact ab_go (st1 := (18, [(0, .inl (.ref 2)), (1, .inl (.int x1)), (2, .inl (.int x2))], [.inl (.int 0)], m)) (C := (vp_in x1 12) ∧ (((((ab_rd m 15 x1.toNatClampNeg).toUInt32 >>> (x2.toUInt32 &&& Int32.toUInt32 31)).toInt32) &&& 1) = 0) ∧ True) 0 [] hX ck_Colours_areNear (es := [(0, .aload_n 0, 0, 0, 0, 1), (1, .getfield 9, 0, 102, 0, 4), (4, .iload_n 1, 0, 0, 0, 5), (5, .iaload, 0, 0, 0, 6), (6, .iload_n 2, 0, 0, 0, 7), (7, .iushr, 0, 0, 0, 8), (8, .iconst 1, 0, 0, 1, 9), (9, .iand, 0, 0, 0, 10), (10, .ifCond .eq 7, 1, 0, 0, 17), (17, .iconst 0, 0, 0, 0, 18)]) (by decide +kernel) rfl ⟨c0, c1, trivial⟩ (hR _ _ (ab_rpci ck_Colours_areNear (by decide +kernel)))
theorem bk_Colours_turn_0_0 {Z : ab_Z} {X : ab_X} {x1 x2 : Int32} {m : ab_M} {m0 : ab_M} (hX : ab_okX Z X ∧ ab_xk X = 1) (c0 : vp_in x1 12) (c1 : vp_in x1 12) (c2 : vp_in x2 12) (c3 : vp_in x2 12) (hR : ab_Rt Z X 1 none m0) (hm : (ab_wr (ab_wr m 15 x1.toNatClampNeg ((ab_rd m 15 x1.toNatClampNeg) ^^^ (1 <<< (x2 &&& 31)))) 15 x2.toNatClampNeg ((ab_rd (ab_wr m 15 x1.toNatClampNeg ((ab_rd m 15 x1.toNatClampNeg) ^^^ (1 <<< (x2 &&& 31)))) 15 x2.toNatClampNeg) ^^^ (1 <<< (x1 &&& 31)))) = m0) : ab_G Z X (0, [(0, .inl (.ref 2)), (1, .inl (.int x1)), (2, .inl (.int x2))], [], m) := by
  subst hm
  exact ab_go (st1 := (24, [(0, .inl (.ref 2)), (1, .inl (.int x1)), (2, .inl (.int x2))], [], (ab_wr (ab_wr m 15 x1.toNatClampNeg ((ab_rd m 15 x1.toNatClampNeg) ^^^ (1 <<< (x2 &&& 31)))) 15 x2.toNatClampNeg ((ab_rd (ab_wr m 15 x1.toNatClampNeg ((ab_rd m 15 x1.toNatClampNeg) ^^^ (1 <<< (x2 &&& 31)))) 15 x2.toNatClampNeg) ^^^ (1 <<< (x1 &&& 31)))))) (C := (vp_in x1 12) ∧ (vp_in x1 12) ∧ (vp_in x2 12) ∧ (vp_in x2 12) ∧ True) 1 [] hX ck_Colours_turn (es := [(0, .aload_n 0, 0, 0, 0, 1), (1, .getfield 9, 0, 102, 0, 4), (4, .iload_n 1, 0, 0, 0, 5), (5, .dup2, 0, 0, 0, 6), (6, .iaload, 0, 0, 0, 7), (7, .iconst 1, 0, 0, 1, 8), (8, .iload_n 2, 0, 0, 0, 9), (9, .ishl, 0, 0, 0, 10), (10, .ixor, 0, 0, 0, 11), (11, .iastore, 0, 0, 0, 12), (12, .aload_n 0, 0, 0, 0, 13), (13, .getfield 9, 0, 102, 0, 16), (16, .iload_n 2, 0, 0, 0, 17), (17, .dup2, 0, 0, 0, 18), (18, .iaload, 0, 0, 0, 19), (19, .iconst 1, 0, 0, 1, 20), (20, .iload_n 1, 0, 0, 0, 21), (21, .ishl, 0, 0, 0, 22), (22, .ixor, 0, 0, 0, 23), (23, .iastore, 0, 0, 0, 24)]) (by decide +kernel) rfl ⟨c0, c1, c2, c3, trivial⟩ (hR _ _ (ab_rpcv ck_Colours_turn (by decide +kernel)))
theorem bk_Colours_shades_0_0 {Z : ab_Z} {X : ab_X} {x1 x2 : Int32} {m : ab_M} {m0 : ab_M} {r0 : Int32} (hX : ab_okX Z X ∧ ab_xk X = 2) (c0 : x1 = x2) (hR : ab_Rt Z X 2 (some r0) m0) (hv : 0 = r0) (hm : m = m0) : ab_G Z X (0, [(0, .inl (.ref 2)), (1, .inl (.int x1)), (2, .inl (.int x2))], [], m) := by
  subst hm
  subst hv
  exact ab_go (st1 := (6, [(0, .inl (.ref 2)), (1, .inl (.int x1)), (2, .inl (.int x2))], [.inl (.int 0)], m)) (C := (x1 = x2) ∧ True) 2 [] hX ck_Colours_shades (es := [(0, .iload_n 1, 0, 0, 0, 1), (1, .iload_n 2, 0, 0, 0, 2), (2, .if_icmp .ne 5, 0, 0, 0, 5), (5, .iconst 0, 0, 0, 0, 6)]) (by decide +kernel) rfl ⟨c0, trivial⟩ (hR _ _ (ab_rpci ck_Colours_shades (by decide +kernel)))
theorem bk_Colours_shades_0_1 {Z : ab_Z} {X : ab_X} {x1 x2 : Int32} {m : ab_M} {m0 : ab_M} {r0 : Int32} (hX : ab_okX Z X ∧ ab_xk X = 2) (c0 : ¬ x1 = x2) (c1 : ¬ x1 = (-1)) (c2 : x2 = (-1)) (hR : ab_Rt Z X 2 (some r0) m0) (hv : 2 = r0) (hm : m = m0) : ab_G Z X (0, [(0, .inl (.ref 2)), (1, .inl (.int x1)), (2, .inl (.int x2))], [], m) := by
  subst hm
  subst hv
  exact ab_go (st1 := (18, [(0, .inl (.ref 2)), (1, .inl (.int x1)), (2, .inl (.int x2))], [.inl (.int 2)], m)) (C := (¬ x1 = x2) ∧ (¬ x1 = (-1)) ∧ (x2 = (-1)) ∧ True) 2 [] hX ck_Colours_shades (es := [(0, .iload_n 1, 0, 0, 0, 1), (1, .iload_n 2, 0, 0, 0, 2), (2, .if_icmp .ne 5, 1, 0, 0, 7), (7, .iload_n 1, 0, 0, 0, 8), (8, .iconst (-1), 0, 0, (-1), 9), (9, .if_icmp .eq 8, 0, 0, 0, 12), (12, .iload_n 2, 0, 0, 0, 13), (13, .iconst (-1), 0, 0, (-1), 14), (14, .if_icmp .ne 5, 0, 0, 0, 17), (17, .iconst 2, 0, 0, 2, 18)]) (by decide +kernel) rfl ⟨c0, c1, c2, trivial⟩ (hR _ _ (ab_rpci ck_Colours_shades (by decide +kernel)))
theorem bk_Colours_shades_0_2 {Z : ab_Z} {X : ab_X} {x1 x2 : Int32} {m m1 : ab_M} {d1 : Nat} {r1 : Int32} {m0 : ab_M} {r0 : Int32} (hX : ab_okX Z X ∧ ab_xk X = 2) (c0 : ¬ x1 = x2) (c1 : ¬ x1 = (-1)) (c2 : ¬ x2 = (-1)) (c3 : d1 < ab_xd X ∧ ab_C Z d1 0 [.inl (.ref 2), .inl (.int x1), .inl (.int x2)] m (some r1) m1) (c4 : ¬ r1 = 0) (hR : ab_Rt Z X 2 (some r0) m0) (hv : 1 = r0) (hm : m1 = m0) : ab_G Z X (0, [(0, .inl (.ref 2)), (1, .inl (.int x1)), (2, .inl (.int x2))], [], m) := by
  subst hm
  subst hv
  exact ab_go (st1 := (33, [(0, .inl (.ref 2)), (1, .inl (.int x1)), (2, .inl (.int x2))], [.inl (.int 1)], m1)) (C := (¬ x1 = x2) ∧ (¬ x1 = (-1)) ∧ (¬ x2 = (-1)) ∧ (d1 < ab_xd X ∧ ab_C Z d1 0 [.inl (.ref 2), .inl (.int x1), .inl (.int x2)] m (some r1) m1) ∧ (¬ r1 = 0) ∧ True) 2 [(d1, some r1, m1)] hX ck_Colours_shades (es := [(0, .iload_n 1, 0, 0, 0, 1), (1, .iload_n 2, 0, 0, 0, 2), (2, .if_icmp .ne 5, 1, 0, 0, 7), (7, .iload_n 1, 0, 0, 0, 8), (8, .iconst (-1), 0, 0, (-1), 9), (9, .if_icmp .eq 8, 0, 0, 0, 12), (12, .iload_n 2, 0, 0, 0, 13), (13, .iconst (-1), 0, 0, (-1), 14), (14, .if_icmp .ne 5, 1, 0, 0, 19), (19, .aload_n 0, 0, 0, 0, 20), (20, .iload_n 1, 0, 0, 0, 21), (21, .iload_n 2, 0, 0, 0, 22), (22, .invokevirtual 15, 0, 519, 0, 25), (25, .ifCond .eq 7, 0, 0, 0, 28), (28, .iconst 1, 0, 0, 1, 29), (29, .goto 4, 0, 0, 0, 33)]) (by decide +kernel) rfl ⟨c0, c1, c2, c3, c4, trivial⟩ (hR _ _ (ab_rpci ck_Colours_shades (by decide +kernel)))
theorem bk_Colours_shades_0_3 {Z : ab_Z} {X : ab_X} {x1 x2 : Int32} {m m1 : ab_M} {d1 : Nat} {r1 : Int32} {m0 : ab_M} {r0 : Int32} (hX : ab_okX Z X ∧ ab_xk X = 2) (c0 : ¬ x1 = x2) (c1 : ¬ x1 = (-1)) (c2 : ¬ x2 = (-1)) (c3 : d1 < ab_xd X ∧ ab_C Z d1 0 [.inl (.ref 2), .inl (.int x1), .inl (.int x2)] m (some r1) m1) (c4 : r1 = 0) (hR : ab_Rt Z X 2 (some r0) m0) (hv : (-1) = r0) (hm : m1 = m0) : ab_G Z X (0, [(0, .inl (.ref 2)), (1, .inl (.int x1)), (2, .inl (.int x2))], [], m) := by
  subst hm
  subst hv
  exact ab_go (st1 := (33, [(0, .inl (.ref 2)), (1, .inl (.int x1)), (2, .inl (.int x2))], [.inl (.int (-1))], m1)) (C := (¬ x1 = x2) ∧ (¬ x1 = (-1)) ∧ (¬ x2 = (-1)) ∧ (d1 < ab_xd X ∧ ab_C Z d1 0 [.inl (.ref 2), .inl (.int x1), .inl (.int x2)] m (some r1) m1) ∧ (r1 = 0) ∧ True) 2 [(d1, some r1, m1)] hX ck_Colours_shades (es := [(0, .iload_n 1, 0, 0, 0, 1), (1, .iload_n 2, 0, 0, 0, 2), (2, .if_icmp .ne 5, 1, 0, 0, 7), (7, .iload_n 1, 0, 0, 0, 8), (8, .iconst (-1), 0, 0, (-1), 9), (9, .if_icmp .eq 8, 0, 0, 0, 12), (12, .iload_n 2, 0, 0, 0, 13), (13, .iconst (-1), 0, 0, (-1), 14), (14, .if_icmp .ne 5, 1, 0, 0, 19), (19, .aload_n 0, 0, 0, 0, 20), (20, .iload_n 1, 0, 0, 0, 21), (21, .iload_n 2, 0, 0, 0, 22), (22, .invokevirtual 15, 0, 519, 0, 25), (25, .ifCond .eq 7, 1, 0, 0, 32), (32, .iconst (-1), 0, 0, (-1), 33)]) (by decide +kernel) rfl ⟨c0, c1, c2, c3, c4, trivial⟩ (hR _ _ (ab_rpci ck_Colours_shades (by decide +kernel)))
theorem bk_Colours_shades_0_4 {Z : ab_Z} {X : ab_X} {x1 x2 : Int32} {m : ab_M} {m0 : ab_M} {r0 : Int32} (hX : ab_okX Z X ∧ ab_xk X = 2) (c0 : ¬ x1 = x2) (c1 : x1 = (-1)) (hR : ab_Rt Z X 2 (some r0) m0) (hv : 2 = r0) (hm : m = m0) : ab_G Z X (0, [(0, .inl (.ref 2)), (1, .inl (.int x1)), (2, .inl (.int x2))], [], m) := by
  subst hm
  subst hv
  exact ab_go (st1 := (18, [(0, .inl (.ref 2)), (1, .inl (.int x1)), (2, .inl (.int x2))], [.inl (.int 2)], m)) (C := (¬ x1 = x2) ∧ (x1 = (-1)) ∧ True) 2 [] hX ck_Colours_shades (es := [(0, .iload_n 1, 0, 0, 0, 1), (1, .iload_n 2, 0, 0, 0, 2), (2, .if_icmp .ne 5, 1, 0, 0, 7), (7, .iload_n 1, 0, 0, 0, 8), (8, .iconst (-1), 0, 0, (-1), 9), (9, .if_icmp .eq 8, 1, 0, 0, 17), (17, .iconst 2, 0, 0, 2, 18)]) (by decide +kernel) rfl ⟨c0, c1, trivial⟩ (hR _ _ (ab_rpci ck_Colours_shades (by decide +kernel)))
theorem bk_Finds_has_0_0 {Z : ab_Z} {X : ab_X} {x1 : Int32} {m : ab_M} {m0 : ab_M} {r0 : Int32} (hX : ab_okX Z X ∧ ab_xk X = 3) (c0 : ¬ x1 < 0) (c1 : ¬ (ab_rd m 4 8) ≤ x1) (hR : ab_Rt Z X 3 (some r0) m0) (hv : 1 = r0) (hm : m = m0) : ab_G Z X (0, [(0, .inl (.ref 4)), (1, .inl (.int x1))], [], m) := by
  subst hm
  subst hv
  exact ab_go (st1 := (17, [(0, .inl (.ref 4)), (1, .inl (.int x1))], [.inl (.int 1)], m)) (C := (¬ x1 < 0) ∧ (¬ (ab_rd m 4 8) ≤ x1) ∧ True) 3 [] hX ck_Finds_has (es := [(0, .iload_n 1, 0, 0, 0, 1), (1, .ifCond .lt 15, 0, 0, 0, 4), (4, .iload_n 1, 0, 0, 0, 5), (5, .aload_n 0, 0, 0, 0, 6), (6, .getfield 36, 108, 150, 0, 9), (9, .if_icmp .ge 7, 0, 0, 0, 12), (12, .iconst 1, 0, 0, 1, 13), (13, .goto 4, 0, 0, 0, 17)]) (by decide +kernel) rfl ⟨c0, c1, trivial⟩ (hR _ _ (ab_rpci ck_Finds_has (by decide +kernel)))
theorem bk_Finds_has_0_1 {Z : ab_Z} {X : ab_X} {x1 : Int32} {m : ab_M} {m0 : ab_M} {r0 : Int32} (hX : ab_okX Z X ∧ ab_xk X = 3) (c0 : ¬ x1 < 0) (c1 : (ab_rd m 4 8) ≤ x1) (hR : ab_Rt Z X 3 (some r0) m0) (hv : 0 = r0) (hm : m = m0) : ab_G Z X (0, [(0, .inl (.ref 4)), (1, .inl (.int x1))], [], m) := by
  subst hm
  subst hv
  exact ab_go (st1 := (17, [(0, .inl (.ref 4)), (1, .inl (.int x1))], [.inl (.int 0)], m)) (C := (¬ x1 < 0) ∧ ((ab_rd m 4 8) ≤ x1) ∧ True) 3 [] hX ck_Finds_has (es := [(0, .iload_n 1, 0, 0, 0, 1), (1, .ifCond .lt 15, 0, 0, 0, 4), (4, .iload_n 1, 0, 0, 0, 5), (5, .aload_n 0, 0, 0, 0, 6), (6, .getfield 36, 108, 150, 0, 9), (9, .if_icmp .ge 7, 1, 0, 0, 16), (16, .iconst 0, 0, 0, 0, 17)]) (by decide +kernel) rfl ⟨c0, c1, trivial⟩ (hR _ _ (ab_rpci ck_Finds_has (by decide +kernel)))
theorem bk_Finds_has_0_2 {Z : ab_Z} {X : ab_X} {x1 : Int32} {m : ab_M} {m0 : ab_M} {r0 : Int32} (hX : ab_okX Z X ∧ ab_xk X = 3) (c0 : x1 < 0) (hR : ab_Rt Z X 3 (some r0) m0) (hv : 0 = r0) (hm : m = m0) : ab_G Z X (0, [(0, .inl (.ref 4)), (1, .inl (.int x1))], [], m) := by
  subst hm
  subst hv
  exact ab_go (st1 := (17, [(0, .inl (.ref 4)), (1, .inl (.int x1))], [.inl (.int 0)], m)) (C := (x1 < 0) ∧ True) 3 [] hX ck_Finds_has (es := [(0, .iload_n 1, 0, 0, 0, 1), (1, .ifCond .lt 15, 1, 0, 0, 16), (16, .iconst 0, 0, 0, 0, 17)]) (by decide +kernel) rfl ⟨c0, trivial⟩ (hR _ _ (ab_rpci ck_Finds_has (by decide +kernel)))
theorem bk_Finds_isFull_0_0 {Z : ab_Z} {X : ab_X} {m : ab_M} {m0 : ab_M} {r0 : Int32} (hX : ab_okX Z X ∧ ab_xk X = 4) (c0 : ¬ (ab_rd m 4 8) < 24) (hR : ab_Rt Z X 4 (some r0) m0) (hv : 1 = r0) (hm : m = m0) : ab_G Z X (0, [(0, .inl (.ref 4))], [], m) := by
  subst hm
  subst hv
  exact ab_go (st1 := (14, [(0, .inl (.ref 4))], [.inl (.int 1)], m)) (C := (¬ (ab_rd m 4 8) < 24) ∧ True) 4 [] hX ck_Finds_isFull (es := [(0, .aload_n 0, 0, 0, 0, 1), (1, .getfield 36, 108, 150, 0, 4), (4, .bipush 24, 0, 0, 24, 6), (6, .if_icmp .lt 7, 0, 0, 0, 9), (9, .iconst 1, 0, 0, 1, 10), (10, .goto 4, 0, 0, 0, 14)]) (by decide +kernel) rfl ⟨c0, trivial⟩ (hR _ _ (ab_rpci ck_Finds_isFull (by decide +kernel)))
theorem bk_Finds_isFull_0_1 {Z : ab_Z} {X : ab_X} {m : ab_M} {m0 : ab_M} {r0 : Int32} (hX : ab_okX Z X ∧ ab_xk X = 4) (c0 : (ab_rd m 4 8) < 24) (hR : ab_Rt Z X 4 (some r0) m0) (hv : 0 = r0) (hm : m = m0) : ab_G Z X (0, [(0, .inl (.ref 4))], [], m) := by
  subst hm
  subst hv
  exact ab_go (st1 := (14, [(0, .inl (.ref 4))], [.inl (.int 0)], m)) (C := ((ab_rd m 4 8) < 24) ∧ True) 4 [] hX ck_Finds_isFull (es := [(0, .aload_n 0, 0, 0, 0, 1), (1, .getfield 36, 108, 150, 0, 4), (4, .bipush 24, 0, 0, 24, 6), (6, .if_icmp .lt 7, 1, 0, 0, 13), (13, .iconst 0, 0, 0, 0, 14)]) (by decide +kernel) rfl ⟨c0, trivial⟩ (hR _ _ (ab_rpci ck_Finds_isFull (by decide +kernel)))
theorem bk_Finds_add_0_0 {Z : ab_Z} {X : ab_X} {x1 x2 x3 x4 x5 : Int32} {m : ab_M} {m0 : ab_M} {r0 : Int32} (hX : ab_okX Z X ∧ ab_xk X = 5) (c0 : vp_in (ab_rd m 4 8) 24) (c1 : vp_in (ab_rd m 4 8) 24) (c2 : vp_in (ab_rd m 4 8) 24) (c3 : vp_in (ab_rd m 4 8) 24) (c4 : vp_in (ab_rd m 4 8) 24) (c5 : vp_in (ab_rd m 4 8) 24) (c6 : vp_in (ab_rd m 4 8) 24) (c7 : vp_in (ab_rd m 4 8) 24) (hR : ab_Rt Z X 5 (some r0) m0) (hv : ab_rd m 4 8 = r0) (hm : (ab_wr (ab_wr (ab_wr (ab_wr (ab_wr (ab_wr (ab_wr (ab_wr (ab_wr m 19 ((ab_rd m 4 8).toNatClampNeg) x1) 20 ((ab_rd m 4 8).toNatClampNeg) x2) 21 ((ab_rd m 4 8).toNatClampNeg) x3) 22 ((ab_rd m 4 8).toNatClampNeg) x4) 23 ((ab_rd m 4 8).toNatClampNeg) x5) 24 ((ab_rd m 4 8).toNatClampNeg) 0) 25 ((ab_rd m 4 8).toNatClampNeg) (-1)) 26 ((ab_rd m 4 8).toNatClampNeg) (ab_rd m 4 8)) 4 8 ((ab_rd m 4 8) + 1)) = m0) : ab_G Z X (0, [(0, .inl (.ref 4)), (1, .inl (.int x1)), (2, .inl (.int x2)), (3, .inl (.int x3)), (4, .inl (.int x4)), (5, .inl (.int x5))], [], m) := by
  subst hm
  subst hv
  exact ab_go (st1 := (85, [(0, .inl (.ref 4)), (1, .inl (.int x1)), (2, .inl (.int x2)), (3, .inl (.int x3)), (4, .inl (.int x4)), (5, .inl (.int x5)), (6, .inl (.int (ab_rd m 4 8)))], [.inl (.int (ab_rd m 4 8))], (ab_wr (ab_wr (ab_wr (ab_wr (ab_wr (ab_wr (ab_wr (ab_wr (ab_wr m 19 ((ab_rd m 4 8).toNatClampNeg) x1) 20 ((ab_rd m 4 8).toNatClampNeg) x2) 21 ((ab_rd m 4 8).toNatClampNeg) x3) 22 ((ab_rd m 4 8).toNatClampNeg) x4) 23 ((ab_rd m 4 8).toNatClampNeg) x5) 24 ((ab_rd m 4 8).toNatClampNeg) 0) 25 ((ab_rd m 4 8).toNatClampNeg) (-1)) 26 ((ab_rd m 4 8).toNatClampNeg) (ab_rd m 4 8)) 4 8 ((ab_rd m 4 8) + 1)))) (C := (vp_in (ab_rd m 4 8) 24) ∧ (vp_in (ab_rd m 4 8) 24) ∧ (vp_in (ab_rd m 4 8) 24) ∧ (vp_in (ab_rd m 4 8) 24) ∧ (vp_in (ab_rd m 4 8) 24) ∧ (vp_in (ab_rd m 4 8) 24) ∧ (vp_in (ab_rd m 4 8) 24) ∧ (vp_in (ab_rd m 4 8) 24) ∧ True) 5 [] hX ck_Finds_add (es := [(0, .aload_n 0, 0, 0, 0, 1), (1, .getfield 36, 108, 150, 0, 4), (4, .istore 6, 0, 0, 0, 6), (6, .aload_n 0, 0, 0, 0, 7), (7, .getfield 9, 100, 134, 0, 10), (10, .iload 6, 0, 0, 0, 12), (12, .iload_n 1, 0, 0, 0, 13), (13, .iastore, 0, 0, 0, 14), (14, .aload_n 0, 0, 0, 0, 15), (15, .getfield 15, 101, 136, 0, 18), (18, .iload 6, 0, 0, 0, 20), (20, .iload_n 2, 0, 0, 0, 21), (21, .iastore, 0, 0, 0, 22), (22, .aload_n 0, 0, 0, 0, 23), (23, .getfield 18, 102, 138, 0, 26), (26, .iload 6, 0, 0, 0, 28), (28, .iload_n 3, 0, 0, 0, 29), (29, .iastore, 0, 0, 0, 30), (30, .aload_n 0, 0, 0, 0, 31), (31, .getfield 21, 103, 140, 0, 34), (34, .iload 6, 0, 0, 0, 36), (36, .iload 4, 0, 0, 0, 38), (38, .iastore, 0, 0, 0, 39), (39, .aload_n 0, 0, 0, 0, 40), (40, .getfield 24, 104, 142, 0, 43), (43, .iload 6, 0, 0, 0, 45), (45, .iload 5, 0, 0, 0, 47), (47, .iastore, 0, 0, 0, 48), (48, .aload_n 0, 0, 0, 0, 49), (49, .getfield 27, 105, 144, 0, 52), (52, .iload 6, 0, 0, 0, 54), (54, .iconst 0, 0, 0, 0, 55), (55, .iastore, 0, 0, 0, 56), (56, .aload_n 0, 0, 0, 0, 57), (57, .getfield 30, 106, 146, 0, 60), (60, .iload 6, 0, 0, 0, 62), (62, .iconst (-1), 0, 0, (-1), 63), (63, .iastore, 0, 0, 0, 64), (64, .aload_n 0, 0, 0, 0, 65), (65, .getfield 33, 107, 148, 0, 68), (68, .iload 6, 0, 0, 0, 70), (70, .iload 6, 0, 0, 0, 72), (72, .iastore, 0, 0, 0, 73), (73, .aload_n 0, 0, 0, 0, 74), (74, .dup, 0, 0, 0, 75), (75, .getfield 36, 108, 150, 0, 78), (78, .iconst 1, 0, 0, 1, 79), (79, .iadd, 0, 0, 0, 80), (80, .putfield 36, 108, 150, 0, 83), (83, .iload 6, 0, 0, 0, 85)]) (by decide +kernel) rfl ⟨c0, c1, c2, c3, c4, c5, c6, c7, trivial⟩ (hR _ _ (ab_rpci ck_Finds_add (by decide +kernel)))
theorem bk_Finds_isKept_0_0 {Z : ab_Z} {X : ab_X} {x1 : Int32} {m : ab_M} {m0 : ab_M} {r0 : Int32} (hX : ab_okX Z X ∧ ab_xk X = 6) (c0 : vp_in x1 24) (c1 : (ab_rd m 24 x1.toNatClampNeg) = 0) (hR : ab_Rt Z X 6 (some r0) m0) (hv : 1 = r0) (hm : m = m0) : ab_G Z X (0, [(0, .inl (.ref 4)), (1, .inl (.int x1))], [], m) := by
  subst hm
  subst hv
  exact ab_go (st1 := (14, [(0, .inl (.ref 4)), (1, .inl (.int x1))], [.inl (.int 1)], m)) (C := (vp_in x1 24) ∧ ((ab_rd m 24 x1.toNatClampNeg) = 0) ∧ True) 6 [] hX ck_Finds_isKept (es := [(0, .aload_n 0, 0, 0, 0, 1), (1, .getfield 27, 105, 144, 0, 4), (4, .iload_n 1, 0, 0, 0, 5), (5, .iaload, 0, 0, 0, 6), (6, .ifCond .ne 7, 0, 0, 0, 9), (9, .iconst 1, 0, 0, 1, 10), (10, .goto 4, 0, 0, 0, 14)]) (by decide +kernel) rfl ⟨c0, c1, trivial⟩ (hR _ _ (ab_rpci ck_Finds_isKept (by decide +kernel)))
theorem bk_Finds_isKept_0_1 {Z : ab_Z} {X : ab_X} {x1 : Int32} {m : ab_M} {m0 : ab_M} {r0 : Int32} (hX : ab_okX Z X ∧ ab_xk X = 6) (c0 : vp_in x1 24) (c1 : ¬ (ab_rd m 24 x1.toNatClampNeg) = 0) (hR : ab_Rt Z X 6 (some r0) m0) (hv : 0 = r0) (hm : m = m0) : ab_G Z X (0, [(0, .inl (.ref 4)), (1, .inl (.int x1))], [], m) := by
  subst hm
  subst hv
  exact ab_go (st1 := (14, [(0, .inl (.ref 4)), (1, .inl (.int x1))], [.inl (.int 0)], m)) (C := (vp_in x1 24) ∧ (¬ (ab_rd m 24 x1.toNatClampNeg) = 0) ∧ True) 6 [] hX ck_Finds_isKept (es := [(0, .aload_n 0, 0, 0, 0, 1), (1, .getfield 27, 105, 144, 0, 4), (4, .iload_n 1, 0, 0, 0, 5), (5, .iaload, 0, 0, 0, 6), (6, .ifCond .ne 7, 1, 0, 0, 13), (13, .iconst 0, 0, 0, 0, 14)]) (by decide +kernel) rfl ⟨c0, c1, trivial⟩ (hR _ _ (ab_rpci ck_Finds_isKept (by decide +kernel)))
theorem bk_Finds_joinBags_0_0 {Z : ab_Z} {X : ab_X} {x1 x2 : Int32} {m m1 m2 : ab_M} {d1 d2 : Nat} {r1 r2 : Int32} (hX : ab_okX Z X ∧ ab_xk X = 7) (c0 : vp_in x1 24) (c1 : vp_in x2 24) (c2 : d1 < ab_xd X ∧ ab_C Z d1 145 [.inl (.int (ab_rd m 26 x1.toNatClampNeg)), .inl (.int (ab_rd m 26 x2.toNatClampNeg))] m (some r1) m1) (c3 : vp_in x1 24) (c4 : vp_in x2 24) (c5 : d2 < ab_xd X ∧ ab_C Z d2 144 [.inl (.int (ab_rd m1 26 x1.toNatClampNeg)), .inl (.int (ab_rd m1 26 x2.toNatClampNeg))] m1 (some r2) m2) (hG : ab_G Z X (36, [(0, .inl (.ref 4)), (1, .inl (.int x1)), (2, .inl (.int x2)), (3, .inl (.int r1)), (4, .inl (.int r2)), (5, .inl (.int 0))], [], m2)) : ab_G Z X (0, [(0, .inl (.ref 4)), (1, .inl (.int x1)), (2, .inl (.int x2))], [], m) := ab_go (st1 := (36, [(0, .inl (.ref 4)), (1, .inl (.int x1)), (2, .inl (.int x2)), (3, .inl (.int r1)), (4, .inl (.int r2)), (5, .inl (.int 0))], [], m2)) (C := (vp_in x1 24) ∧ (vp_in x2 24) ∧ (d1 < ab_xd X ∧ ab_C Z d1 145 [.inl (.int (ab_rd m 26 x1.toNatClampNeg)), .inl (.int (ab_rd m 26 x2.toNatClampNeg))] m (some r1) m1) ∧ (vp_in x1 24) ∧ (vp_in x2 24) ∧ (d2 < ab_xd X ∧ ab_C Z d2 144 [.inl (.int (ab_rd m1 26 x1.toNatClampNeg)), .inl (.int (ab_rd m1 26 x2.toNatClampNeg))] m1 (some r2) m2) ∧ True) 7 [(d1, some r1, m1), (d2, some r2, m2)] hX ck_Finds_joinBags (es := [(0, .aload_n 0, 0, 0, 0, 1), (1, .getfield 33, 107, 148, 0, 4), (4, .iload_n 1, 0, 0, 0, 5), (5, .iaload, 0, 0, 0, 6), (6, .aload_n 0, 0, 0, 0, 7), (7, .getfield 33, 107, 148, 0, 10), (10, .iload_n 2, 0, 0, 0, 11), (11, .iaload, 0, 0, 0, 12), (12, .invokestatic 40, 145, 698, 0, 15), (15, .istore_n 3, 0, 0, 0, 16), (16, .aload_n 0, 0, 0, 0, 17), (17, .getfield 33, 107, 148, 0, 20), (20, .iload_n 1, 0, 0, 0, 21), (21, .iaload, 0, 0, 0, 22), (22, .aload_n 0, 0, 0, 0, 23), (23, .getfield 33, 107, 148, 0, 26), (26, .iload_n 2, 0, 0, 0, 27), (27, .iaload, 0, 0, 0, 28), (28, .invokestatic 46, 144, 701, 0, 31), (31, .istore 4, 0, 0, 0, 33), (33, .iconst 0, 0, 0, 0, 34), (34, .istore 5, 0, 0, 0, 36)]) (by decide +kernel) rfl ⟨c0, c1, c2, c3, c4, c5, trivial⟩ hG
theorem bk_Finds_joinBags_36_0 {Z : ab_Z} {X : ab_X} {x1 x2 x3 x4 x5 : Int32} {m : ab_M} (hX : ab_okX Z X ∧ ab_xk X = 7) (c0 : ¬ (ab_rd m 4 8) ≤ x5) (c1 : vp_in x5 24) (c2 : (ab_rd m 26 x5.toNatClampNeg) = x4) (c3 : vp_in x5 24) (hG : ab_G Z X (36, [(0, .inl (.ref 4)), (1, .inl (.int x1)), (2, .inl (.int x2)), (3, .inl (.int x3)), (4, .inl (.int x4)), (5, .inl (.int (x5 + 1)))], [], (ab_wr m 26 x5.toNatClampNeg x3))) : ab_G Z X (36, [(0, .inl (.ref 4)), (1, .inl (.int x1)), (2, .inl (.int x2)), (3, .inl (.int x3)), (4, .inl (.int x4)), (5, .inl (.int x5))], [], m) := ab_go (st1 := (36, [(0, .inl (.ref 4)), (1, .inl (.int x1)), (2, .inl (.int x2)), (3, .inl (.int x3)), (4, .inl (.int x4)), (5, .inl (.int (x5 + 1)))], [], (ab_wr m 26 x5.toNatClampNeg x3))) (C := (¬ (ab_rd m 4 8) ≤ x5) ∧ (vp_in x5 24) ∧ ((ab_rd m 26 x5.toNatClampNeg) = x4) ∧ (vp_in x5 24) ∧ True) 7 [] hX ck_Finds_joinBags (es := [(36, .iload 5, 0, 0, 0, 38), (38, .aload_n 0, 0, 0, 0, 39), (39, .getfield 36, 108, 150, 0, 42), (42, .if_icmp .ge 29, 0, 0, 0, 45), (45, .aload_n 0, 0, 0, 0, 46), (46, .getfield 33, 107, 148, 0, 49), (49, .iload 5, 0, 0, 0, 51), (51, .iaload, 0, 0, 0, 52), (52, .iload 4, 0, 0, 0, 54), (54, .if_icmp .ne 11, 0, 0, 0, 57), (57, .aload_n 0, 0, 0, 0, 58), (58, .getfield 33, 107, 148, 0, 61), (61, .iload 5, 0, 0, 0, 63), (63, .iload_n 3, 0, 0, 0, 64), (64, .iastore, 0, 0, 0, 65), (65, .iinc 5 1, 0, 0, 1, 68), (68, .goto (-32), 0, 0, 0, 36)]) (by decide +kernel) rfl ⟨c0, c1, c2, c3, trivial⟩ hG
theorem bk_Finds_joinBags_36_1 {Z : ab_Z} {X : ab_X} {x1 x2 x3 x4 x5 : Int32} {m : ab_M} (hX : ab_okX Z X ∧ ab_xk X = 7) (c0 : ¬ (ab_rd m 4 8) ≤ x5) (c1 : vp_in x5 24) (c2 : ¬ (ab_rd m 26 x5.toNatClampNeg) = x4) (hG : ab_G Z X (36, [(0, .inl (.ref 4)), (1, .inl (.int x1)), (2, .inl (.int x2)), (3, .inl (.int x3)), (4, .inl (.int x4)), (5, .inl (.int (x5 + 1)))], [], m)) : ab_G Z X (36, [(0, .inl (.ref 4)), (1, .inl (.int x1)), (2, .inl (.int x2)), (3, .inl (.int x3)), (4, .inl (.int x4)), (5, .inl (.int x5))], [], m) := ab_go (st1 := (36, [(0, .inl (.ref 4)), (1, .inl (.int x1)), (2, .inl (.int x2)), (3, .inl (.int x3)), (4, .inl (.int x4)), (5, .inl (.int (x5 + 1)))], [], m)) (C := (¬ (ab_rd m 4 8) ≤ x5) ∧ (vp_in x5 24) ∧ (¬ (ab_rd m 26 x5.toNatClampNeg) = x4) ∧ True) 7 [] hX ck_Finds_joinBags (es := [(36, .iload 5, 0, 0, 0, 38), (38, .aload_n 0, 0, 0, 0, 39), (39, .getfield 36, 108, 150, 0, 42), (42, .if_icmp .ge 29, 0, 0, 0, 45), (45, .aload_n 0, 0, 0, 0, 46), (46, .getfield 33, 107, 148, 0, 49), (49, .iload 5, 0, 0, 0, 51), (51, .iaload, 0, 0, 0, 52), (52, .iload 4, 0, 0, 0, 54), (54, .if_icmp .ne 11, 1, 0, 0, 65), (65, .iinc 5 1, 0, 0, 1, 68), (68, .goto (-32), 0, 0, 0, 36)]) (by decide +kernel) rfl ⟨c0, c1, c2, trivial⟩ hG
theorem bk_Finds_joinBags_36_2 {Z : ab_Z} {X : ab_X} {x1 x2 x3 x4 x5 : Int32} {m : ab_M} {m0 : ab_M} (hX : ab_okX Z X ∧ ab_xk X = 7) (c0 : (ab_rd m 4 8) ≤ x5) (hR : ab_Rt Z X 7 none m0) (hm : m = m0) : ab_G Z X (36, [(0, .inl (.ref 4)), (1, .inl (.int x1)), (2, .inl (.int x2)), (3, .inl (.int x3)), (4, .inl (.int x4)), (5, .inl (.int x5))], [], m) := by
  subst hm
  exact ab_go (st1 := (71, [(0, .inl (.ref 4)), (1, .inl (.int x1)), (2, .inl (.int x2)), (3, .inl (.int x3)), (4, .inl (.int x4)), (5, .inl (.int x5))], [], m)) (C := ((ab_rd m 4 8) ≤ x5) ∧ True) 7 [] hX ck_Finds_joinBags (es := [(36, .iload 5, 0, 0, 0, 38), (38, .aload_n 0, 0, 0, 0, 39), (39, .getfield 36, 108, 150, 0, 42), (42, .if_icmp .ge 29, 1, 0, 0, 71)]) (by decide +kernel) rfl ⟨c0, trivial⟩ (hR _ _ (ab_rpcv ck_Finds_joinBags (by decide +kernel)))
theorem bk_Finds_handBag_0_0 {Z : ab_Z} {X : ab_X} {x1 x2 : Int32} {m : ab_M} (hX : ab_okX Z X ∧ ab_xk X = 8) (hG : ab_G Z X (2, [(0, .inl (.ref 4)), (1, .inl (.int x1)), (2, .inl (.int x2)), (3, .inl (.int 0))], [], m)) : ab_G Z X (0, [(0, .inl (.ref 4)), (1, .inl (.int x1)), (2, .inl (.int x2))], [], m) := ab_go (st1 := (2, [(0, .inl (.ref 4)), (1, .inl (.int x1)), (2, .inl (.int x2)), (3, .inl (.int 0))], [], m)) (C := True) 8 [] hX ck_Finds_handBag (es := [(0, .iconst 0, 0, 0, 0, 1), (1, .istore_n 3, 0, 0, 0, 2)]) (by decide +kernel) rfl trivial hG
theorem bk_Finds_handBag_2_0 {Z : ab_Z} {X : ab_X} {x1 x2 x3 : Int32} {m : ab_M} (hX : ab_okX Z X ∧ ab_xk X = 8) (c0 : ¬ (ab_rd m 4 8) ≤ x3) (c1 : vp_in x3 24) (c2 : vp_in x1 24) (c3 : (ab_rd m 26 x3.toNatClampNeg) = (ab_rd m 26 x1.toNatClampNeg)) (c4 : vp_in x3 24) (c5 : vp_in x3 24) (hG : ab_G Z X (2, [(0, .inl (.ref 4)), (1, .inl (.int x1)), (2, .inl (.int x2)), (3, .inl (.int (x3 + 1)))], [], (ab_wr (ab_wr m 24 x3.toNatClampNeg 1) 25 x3.toNatClampNeg x2))) : ab_G Z X (2, [(0, .inl (.ref 4)), (1, .inl (.int x1)), (2, .inl (.int x2)), (3, .inl (.int x3))], [], m) := ab_go (st1 := (2, [(0, .inl (.ref 4)), (1, .inl (.int x1)), (2, .inl (.int x2)), (3, .inl (.int (x3 + 1)))], [], (ab_wr (ab_wr m 24 x3.toNatClampNeg 1) 25 x3.toNatClampNeg x2))) (C := (¬ (ab_rd m 4 8) ≤ x3) ∧ (vp_in x3 24) ∧ (vp_in x1 24) ∧ ((ab_rd m 26 x3.toNatClampNeg) = (ab_rd m 26 x1.toNatClampNeg)) ∧ (vp_in x3 24) ∧ (vp_in x3 24) ∧ True) 8 [] hX ck_Finds_handBag (es := [(2, .iload_n 3, 0, 0, 0, 3), (3, .aload_n 0, 0, 0, 0, 4), (4, .getfield 36, 108, 150, 0, 7), (7, .if_icmp .ge 38, 0, 0, 0, 10), (10, .aload_n 0, 0, 0, 0, 11), (11, .getfield 33, 107, 148, 0, 14), (14, .iload_n 3, 0, 0, 0, 15), (15, .iaload, 0, 0, 0, 16), (16, .aload_n 0, 0, 0, 0, 17), (17, .getfield 33, 107, 148, 0, 20), (20, .iload_n 1, 0, 0, 0, 21), (21, .iaload, 0, 0, 0, 22), (22, .if_icmp .ne 17, 0, 0, 0, 25), (25, .aload_n 0, 0, 0, 0, 26), (26, .getfield 27, 105, 144, 0, 29), (29, .iload_n 3, 0, 0, 0, 30), (30, .iconst 1, 0, 0, 1, 31), (31, .iastore, 0, 0, 0, 32), (32, .aload_n 0, 0, 0, 0, 33), (33, .getfield 30, 106, 146, 0, 36), (36, .iload_n 3, 0, 0, 0, 37), (37, .iload_n 2, 0, 0, 0, 38), (38, .iastore, 0, 0, 0, 39), (39, .iinc 3 1, 0, 0, 1, 42), (42, .goto (-40), 0, 0, 0, 2)]) (by decide +kernel) rfl ⟨c0, c1, c2, c3, c4, c5, trivial⟩ hG
theorem bk_Finds_handBag_2_1 {Z : ab_Z} {X : ab_X} {x1 x2 x3 : Int32} {m : ab_M} (hX : ab_okX Z X ∧ ab_xk X = 8) (c0 : ¬ (ab_rd m 4 8) ≤ x3) (c1 : vp_in x3 24) (c2 : vp_in x1 24) (c3 : ¬ (ab_rd m 26 x3.toNatClampNeg) = (ab_rd m 26 x1.toNatClampNeg)) (hG : ab_G Z X (2, [(0, .inl (.ref 4)), (1, .inl (.int x1)), (2, .inl (.int x2)), (3, .inl (.int (x3 + 1)))], [], m)) : ab_G Z X (2, [(0, .inl (.ref 4)), (1, .inl (.int x1)), (2, .inl (.int x2)), (3, .inl (.int x3))], [], m) := ab_go (st1 := (2, [(0, .inl (.ref 4)), (1, .inl (.int x1)), (2, .inl (.int x2)), (3, .inl (.int (x3 + 1)))], [], m)) (C := (¬ (ab_rd m 4 8) ≤ x3) ∧ (vp_in x3 24) ∧ (vp_in x1 24) ∧ (¬ (ab_rd m 26 x3.toNatClampNeg) = (ab_rd m 26 x1.toNatClampNeg)) ∧ True) 8 [] hX ck_Finds_handBag (es := [(2, .iload_n 3, 0, 0, 0, 3), (3, .aload_n 0, 0, 0, 0, 4), (4, .getfield 36, 108, 150, 0, 7), (7, .if_icmp .ge 38, 0, 0, 0, 10), (10, .aload_n 0, 0, 0, 0, 11), (11, .getfield 33, 107, 148, 0, 14), (14, .iload_n 3, 0, 0, 0, 15), (15, .iaload, 0, 0, 0, 16), (16, .aload_n 0, 0, 0, 0, 17), (17, .getfield 33, 107, 148, 0, 20), (20, .iload_n 1, 0, 0, 0, 21), (21, .iaload, 0, 0, 0, 22), (22, .if_icmp .ne 17, 1, 0, 0, 39), (39, .iinc 3 1, 0, 0, 1, 42), (42, .goto (-40), 0, 0, 0, 2)]) (by decide +kernel) rfl ⟨c0, c1, c2, c3, trivial⟩ hG
theorem bk_Finds_handBag_2_2 {Z : ab_Z} {X : ab_X} {x1 x2 x3 : Int32} {m : ab_M} {m0 : ab_M} (hX : ab_okX Z X ∧ ab_xk X = 8) (c0 : (ab_rd m 4 8) ≤ x3) (hR : ab_Rt Z X 8 none m0) (hm : m = m0) : ab_G Z X (2, [(0, .inl (.ref 4)), (1, .inl (.int x1)), (2, .inl (.int x2)), (3, .inl (.int x3))], [], m) := by
  subst hm
  exact ab_go (st1 := (45, [(0, .inl (.ref 4)), (1, .inl (.int x1)), (2, .inl (.int x2)), (3, .inl (.int x3))], [], m)) (C := ((ab_rd m 4 8) ≤ x3) ∧ True) 8 [] hX ck_Finds_handBag (es := [(2, .iload_n 3, 0, 0, 0, 3), (3, .aload_n 0, 0, 0, 0, 4), (4, .getfield 36, 108, 150, 0, 7), (7, .if_icmp .ge 38, 1, 0, 0, 45)]) (by decide +kernel) rfl ⟨c0, trivial⟩ (hR _ _ (ab_rpcv ck_Finds_handBag (by decide +kernel)))
theorem bk_Finds_dropBag_0_0 {Z : ab_Z} {X : ab_X} {x1 : Int32} {m : ab_M} (hX : ab_okX Z X ∧ ab_xk X = 9) (hG : ab_G Z X (4, [(0, .inl (.ref 4)), (1, .inl (.int x1)), (2, .inl (.int 0)), (3, .inl (.int 0))], [], m)) : ab_G Z X (0, [(0, .inl (.ref 4)), (1, .inl (.int x1))], [], m) := ab_go (st1 := (4, [(0, .inl (.ref 4)), (1, .inl (.int x1)), (2, .inl (.int 0)), (3, .inl (.int 0))], [], m)) (C := True) 9 [] hX ck_Finds_dropBag (es := [(0, .iconst 0, 0, 0, 0, 1), (1, .istore_n 2, 0, 0, 0, 2), (2, .iconst 0, 0, 0, 0, 3), (3, .istore_n 3, 0, 0, 0, 4)]) (by decide +kernel) rfl trivial hG
theorem bk_Finds_dropBag_4_0 {Z : ab_Z} {X : ab_X} {x1 x2 x3 : Int32} {m : ab_M} (hX : ab_okX Z X ∧ ab_xk X = 9) (c0 : ¬ (ab_rd m 4 8) ≤ x3) (c1 : vp_in x3 24) (c2 : vp_in x1 24) (c3 : (ab_rd m 26 x3.toNatClampNeg) = (ab_rd m 26 x1.toNatClampNeg)) (c4 : vp_in x3 24) (hG : ab_G Z X (4, [(0, .inl (.ref 4)), (1, .inl (.int x1)), (2, .inl (.int (x2 + 1))), (3, .inl (.int (x3 + 1)))], [], (ab_wr m 24 x3.toNatClampNeg 2))) : ab_G Z X (4, [(0, .inl (.ref 4)), (1, .inl (.int x1)), (2, .inl (.int x2)), (3, .inl (.int x3))], [], m) := ab_go (st1 := (4, [(0, .inl (.ref 4)), (1, .inl (.int x1)), (2, .inl (.int (x2 + 1))), (3, .inl (.int (x3 + 1)))], [], (ab_wr m 24 x3.toNatClampNeg 2))) (C := (¬ (ab_rd m 4 8) ≤ x3) ∧ (vp_in x3 24) ∧ (vp_in x1 24) ∧ ((ab_rd m 26 x3.toNatClampNeg) = (ab_rd m 26 x1.toNatClampNeg)) ∧ (vp_in x3 24) ∧ True) 9 [] hX ck_Finds_dropBag (es := [(4, .iload_n 3, 0, 0, 0, 5), (5, .aload_n 0, 0, 0, 0, 6), (6, .getfield 36, 108, 150, 0, 9), (9, .if_icmp .ge 34, 0, 0, 0, 12), (12, .aload_n 0, 0, 0, 0, 13), (13, .getfield 33, 107, 148, 0, 16), (16, .iload_n 3, 0, 0, 0, 17), (17, .iaload, 0, 0, 0, 18), (18, .aload_n 0, 0, 0, 0, 19), (19, .getfield 33, 107, 148, 0, 22), (22, .iload_n 1, 0, 0, 0, 23), (23, .iaload, 0, 0, 0, 24), (24, .if_icmp .ne 13, 0, 0, 0, 27), (27, .aload_n 0, 0, 0, 0, 28), (28, .getfield 27, 105, 144, 0, 31), (31, .iload_n 3, 0, 0, 0, 32), (32, .iconst 2, 0, 0, 2, 33), (33, .iastore, 0, 0, 0, 34), (34, .iinc 2 1, 0, 0, 1, 37), (37, .iinc 3 1, 0, 0, 1, 40), (40, .goto (-36), 0, 0, 0, 4)]) (by decide +kernel) rfl ⟨c0, c1, c2, c3, c4, trivial⟩ hG
theorem bk_Finds_dropBag_4_1 {Z : ab_Z} {X : ab_X} {x1 x2 x3 : Int32} {m : ab_M} (hX : ab_okX Z X ∧ ab_xk X = 9) (c0 : ¬ (ab_rd m 4 8) ≤ x3) (c1 : vp_in x3 24) (c2 : vp_in x1 24) (c3 : ¬ (ab_rd m 26 x3.toNatClampNeg) = (ab_rd m 26 x1.toNatClampNeg)) (hG : ab_G Z X (4, [(0, .inl (.ref 4)), (1, .inl (.int x1)), (2, .inl (.int x2)), (3, .inl (.int (x3 + 1)))], [], m)) : ab_G Z X (4, [(0, .inl (.ref 4)), (1, .inl (.int x1)), (2, .inl (.int x2)), (3, .inl (.int x3))], [], m) := ab_go (st1 := (4, [(0, .inl (.ref 4)), (1, .inl (.int x1)), (2, .inl (.int x2)), (3, .inl (.int (x3 + 1)))], [], m)) (C := (¬ (ab_rd m 4 8) ≤ x3) ∧ (vp_in x3 24) ∧ (vp_in x1 24) ∧ (¬ (ab_rd m 26 x3.toNatClampNeg) = (ab_rd m 26 x1.toNatClampNeg)) ∧ True) 9 [] hX ck_Finds_dropBag (es := [(4, .iload_n 3, 0, 0, 0, 5), (5, .aload_n 0, 0, 0, 0, 6), (6, .getfield 36, 108, 150, 0, 9), (9, .if_icmp .ge 34, 0, 0, 0, 12), (12, .aload_n 0, 0, 0, 0, 13), (13, .getfield 33, 107, 148, 0, 16), (16, .iload_n 3, 0, 0, 0, 17), (17, .iaload, 0, 0, 0, 18), (18, .aload_n 0, 0, 0, 0, 19), (19, .getfield 33, 107, 148, 0, 22), (22, .iload_n 1, 0, 0, 0, 23), (23, .iaload, 0, 0, 0, 24), (24, .if_icmp .ne 13, 1, 0, 0, 37), (37, .iinc 3 1, 0, 0, 1, 40), (40, .goto (-36), 0, 0, 0, 4)]) (by decide +kernel) rfl ⟨c0, c1, c2, c3, trivial⟩ hG
theorem bk_Finds_dropBag_4_2 {Z : ab_Z} {X : ab_X} {x1 x2 x3 : Int32} {m : ab_M} {m0 : ab_M} {r0 : Int32} (hX : ab_okX Z X ∧ ab_xk X = 9) (c0 : (ab_rd m 4 8) ≤ x3) (hR : ab_Rt Z X 9 (some r0) m0) (hv : x2 = r0) (hm : m = m0) : ab_G Z X (4, [(0, .inl (.ref 4)), (1, .inl (.int x1)), (2, .inl (.int x2)), (3, .inl (.int x3))], [], m) := by
  subst hm
  subst hv
  exact ab_go (st1 := (44, [(0, .inl (.ref 4)), (1, .inl (.int x1)), (2, .inl (.int x2)), (3, .inl (.int x3))], [.inl (.int x2)], m)) (C := ((ab_rd m 4 8) ≤ x3) ∧ True) 9 [] hX ck_Finds_dropBag (es := [(4, .iload_n 3, 0, 0, 0, 5), (5, .aload_n 0, 0, 0, 0, 6), (6, .getfield 36, 108, 150, 0, 9), (9, .if_icmp .ge 34, 1, 0, 0, 43), (43, .iload_n 2, 0, 0, 0, 44)]) (by decide +kernel) rfl ⟨c0, trivial⟩ (hR _ _ (ab_rpci ck_Finds_dropBag (by decide +kernel)))
theorem bk_Kinds_has_0_0 {Z : ab_Z} {X : ab_X} {x1 : Int32} {m : ab_M} {m0 : ab_M} {r0 : Int32} (hX : ab_okX Z X ∧ ab_xk X = 10) (c0 : ¬ x1 < 0) (c1 : ¬ (ab_rd m 1 3) ≤ x1) (hR : ab_Rt Z X 10 (some r0) m0) (hv : 1 = r0) (hm : m = m0) : ab_G Z X (0, [(0, .inl (.ref 1)), (1, .inl (.int x1))], [], m) := by
  subst hm
  subst hv
  exact ab_go (st1 := (17, [(0, .inl (.ref 1)), (1, .inl (.int x1))], [.inl (.int 1)], m)) (C := (¬ x1 < 0) ∧ (¬ (ab_rd m 1 3) ≤ x1) ∧ True) 10 [] hX ck_Kinds_has (es := [(0, .iload_n 1, 0, 0, 0, 1), (1, .ifCond .lt 15, 0, 0, 0, 4), (4, .iload_n 1, 0, 0, 0, 5), (5, .aload_n 0, 0, 0, 0, 6), (6, .getfield 22, 203, 84, 0, 9), (9, .if_icmp .ge 7, 0, 0, 0, 12), (12, .iconst 1, 0, 0, 1, 13), (13, .goto 4, 0, 0, 0, 17)]) (by decide +kernel) rfl ⟨c0, c1, trivial⟩ (hR _ _ (ab_rpci ck_Kinds_has (by decide +kernel)))
theorem bk_Kinds_has_0_1 {Z : ab_Z} {X : ab_X} {x1 : Int32} {m : ab_M} {m0 : ab_M} {r0 : Int32} (hX : ab_okX Z X ∧ ab_xk X = 10) (c0 : ¬ x1 < 0) (c1 : (ab_rd m 1 3) ≤ x1) (hR : ab_Rt Z X 10 (some r0) m0) (hv : 0 = r0) (hm : m = m0) : ab_G Z X (0, [(0, .inl (.ref 1)), (1, .inl (.int x1))], [], m) := by
  subst hm
  subst hv
  exact ab_go (st1 := (17, [(0, .inl (.ref 1)), (1, .inl (.int x1))], [.inl (.int 0)], m)) (C := (¬ x1 < 0) ∧ ((ab_rd m 1 3) ≤ x1) ∧ True) 10 [] hX ck_Kinds_has (es := [(0, .iload_n 1, 0, 0, 0, 1), (1, .ifCond .lt 15, 0, 0, 0, 4), (4, .iload_n 1, 0, 0, 0, 5), (5, .aload_n 0, 0, 0, 0, 6), (6, .getfield 22, 203, 84, 0, 9), (9, .if_icmp .ge 7, 1, 0, 0, 16), (16, .iconst 0, 0, 0, 0, 17)]) (by decide +kernel) rfl ⟨c0, c1, trivial⟩ (hR _ _ (ab_rpci ck_Kinds_has (by decide +kernel)))
theorem bk_Kinds_has_0_2 {Z : ab_Z} {X : ab_X} {x1 : Int32} {m : ab_M} {m0 : ab_M} {r0 : Int32} (hX : ab_okX Z X ∧ ab_xk X = 10) (c0 : x1 < 0) (hR : ab_Rt Z X 10 (some r0) m0) (hv : 0 = r0) (hm : m = m0) : ab_G Z X (0, [(0, .inl (.ref 1)), (1, .inl (.int x1))], [], m) := by
  subst hm
  subst hv
  exact ab_go (st1 := (17, [(0, .inl (.ref 1)), (1, .inl (.int x1))], [.inl (.int 0)], m)) (C := (x1 < 0) ∧ True) 10 [] hX ck_Kinds_has (es := [(0, .iload_n 1, 0, 0, 0, 1), (1, .ifCond .lt 15, 1, 0, 0, 16), (16, .iconst 0, 0, 0, 0, 17)]) (by decide +kernel) rfl ⟨c0, trivial⟩ (hR _ _ (ab_rpci ck_Kinds_has (by decide +kernel)))
theorem bk_Kinds_isFull_0_0 {Z : ab_Z} {X : ab_X} {m : ab_M} {m0 : ab_M} {r0 : Int32} (hX : ab_okX Z X ∧ ab_xk X = 11) (c0 : ¬ (ab_rd m 1 3) < 40) (hR : ab_Rt Z X 11 (some r0) m0) (hv : 1 = r0) (hm : m = m0) : ab_G Z X (0, [(0, .inl (.ref 1))], [], m) := by
  subst hm
  subst hv
  exact ab_go (st1 := (14, [(0, .inl (.ref 1))], [.inl (.int 1)], m)) (C := (¬ (ab_rd m 1 3) < 40) ∧ True) 11 [] hX ck_Kinds_isFull (es := [(0, .aload_n 0, 0, 0, 0, 1), (1, .getfield 22, 203, 84, 0, 4), (4, .bipush 40, 0, 0, 40, 6), (6, .if_icmp .lt 7, 0, 0, 0, 9), (9, .iconst 1, 0, 0, 1, 10), (10, .goto 4, 0, 0, 0, 14)]) (by decide +kernel) rfl ⟨c0, trivial⟩ (hR _ _ (ab_rpci ck_Kinds_isFull (by decide +kernel)))
theorem bk_Kinds_isFull_0_1 {Z : ab_Z} {X : ab_X} {m : ab_M} {m0 : ab_M} {r0 : Int32} (hX : ab_okX Z X ∧ ab_xk X = 11) (c0 : (ab_rd m 1 3) < 40) (hR : ab_Rt Z X 11 (some r0) m0) (hv : 0 = r0) (hm : m = m0) : ab_G Z X (0, [(0, .inl (.ref 1))], [], m) := by
  subst hm
  subst hv
  exact ab_go (st1 := (14, [(0, .inl (.ref 1))], [.inl (.int 0)], m)) (C := ((ab_rd m 1 3) < 40) ∧ True) 11 [] hX ck_Kinds_isFull (es := [(0, .aload_n 0, 0, 0, 0, 1), (1, .getfield 22, 203, 84, 0, 4), (4, .bipush 40, 0, 0, 40, 6), (6, .if_icmp .lt 7, 1, 0, 0, 13), (13, .iconst 0, 0, 0, 0, 14)]) (by decide +kernel) rfl ⟨c0, trivial⟩ (hR _ _ (ab_rpci ck_Kinds_isFull (by decide +kernel)))
theorem bk_Kinds_canBeAbove_0_0 {Z : ab_Z} {X : ab_X} {x1 : Int32} {m : ab_M} {m0 : ab_M} {r0 : Int32} (hX : ab_okX Z X ∧ ab_xk X = 12) (c0 : (ab_rd m 1 3) = 0) (c1 : x1 = (-1)) (hR : ab_Rt Z X 12 (some r0) m0) (hv : 1 = r0) (hm : m = m0) : ab_G Z X (0, [(0, .inl (.ref 1)), (1, .inl (.int x1))], [], m) := by
  subst hm
  subst hv
  exact ab_go (st1 := (25, [(0, .inl (.ref 1)), (1, .inl (.int x1))], [.inl (.int 1)], m)) (C := ((ab_rd m 1 3) = 0) ∧ (x1 = (-1)) ∧ True) 12 [] hX ck_Kinds_canBeAbove (es := [(0, .aload_n 0, 0, 0, 0, 1), (1, .getfield 22, 203, 84, 0, 4), (4, .ifCond .ne 16, 0, 0, 0, 7), (7, .iload_n 1, 0, 0, 0, 8), (8, .iconst (-1), 0, 0, (-1), 9), (9, .if_icmp .ne 7, 0, 0, 0, 12), (12, .iconst 1, 0, 0, 1, 13), (13, .goto 12, 0, 0, 0, 25)]) (by decide +kernel) rfl ⟨c0, c1, trivial⟩ (hR _ _ (ab_rpci ck_Kinds_canBeAbove (by decide +kernel)))
theorem bk_Kinds_canBeAbove_0_1 {Z : ab_Z} {X : ab_X} {x1 : Int32} {m : ab_M} {m0 : ab_M} {r0 : Int32} (hX : ab_okX Z X ∧ ab_xk X = 12) (c0 : (ab_rd m 1 3) = 0) (c1 : ¬ x1 = (-1)) (hR : ab_Rt Z X 12 (some r0) m0) (hv : 0 = r0) (hm : m = m0) : ab_G Z X (0, [(0, .inl (.ref 1)), (1, .inl (.int x1))], [], m) := by
  subst hm
  subst hv
  exact ab_go (st1 := (25, [(0, .inl (.ref 1)), (1, .inl (.int x1))], [.inl (.int 0)], m)) (C := ((ab_rd m 1 3) = 0) ∧ (¬ x1 = (-1)) ∧ True) 12 [] hX ck_Kinds_canBeAbove (es := [(0, .aload_n 0, 0, 0, 0, 1), (1, .getfield 22, 203, 84, 0, 4), (4, .ifCond .ne 16, 0, 0, 0, 7), (7, .iload_n 1, 0, 0, 0, 8), (8, .iconst (-1), 0, 0, (-1), 9), (9, .if_icmp .ne 7, 1, 0, 0, 16), (16, .iconst 0, 0, 0, 0, 17), (17, .goto 8, 0, 0, 0, 25)]) (by decide +kernel) rfl ⟨c0, c1, trivial⟩ (hR _ _ (ab_rpci ck_Kinds_canBeAbove (by decide +kernel)))
theorem bk_Kinds_canBeAbove_0_2 {Z : ab_Z} {X : ab_X} {x1 : Int32} {m m1 : ab_M} {d1 : Nat} {r1 : Int32} {m0 : ab_M} {r0 : Int32} (hX : ab_okX Z X ∧ ab_xk X = 12) (c0 : ¬ (ab_rd m 1 3) = 0) (c1 : d1 < ab_xd X ∧ ab_C Z d1 10 [.inl (.ref 1), .inl (.int x1)] m (some r1) m1) (hR : ab_Rt Z X 12 (some r0) m0) (hv : r1 = r0) (hm : m1 = m0) : ab_G Z X (0, [(0, .inl (.ref 1)), (1, .inl (.int x1))], [], m) := by
  subst hm
  subst hv
  exact ab_go (st1 := (25, [(0, .inl (.ref 1)), (1, .inl (.int x1))], [.inl (.int r1)], m1)) (C := (¬ (ab_rd m 1 3) = 0) ∧ (d1 < ab_xd X ∧ ab_C Z d1 10 [.inl (.ref 1), .inl (.int x1)] m (some r1) m1) ∧ True) 12 [(d1, some r1, m1)] hX ck_Kinds_canBeAbove (es := [(0, .aload_n 0, 0, 0, 0, 1), (1, .getfield 22, 203, 84, 0, 4), (4, .ifCond .ne 16, 1, 0, 0, 20), (20, .aload_n 0, 0, 0, 0, 21), (21, .iload_n 1, 0, 0, 0, 22), (22, .invokevirtual 26, 10, 349, 0, 25)]) (by decide +kernel) rfl ⟨c0, c1, trivial⟩ (hR _ _ (ab_rpci ck_Kinds_canBeAbove (by decide +kernel)))
theorem bk_Kinds_add_0_0 {Z : ab_Z} {X : ab_X} {x1 : Int32} {m m1 : ab_M} {d1 : Nat} {r1 : Int32} {m0 : ab_M} {r0 : Int32} (hX : ab_okX Z X ∧ ab_xk X = 13) (c0 : d1 < ab_xd X ∧ ab_C Z d1 10 [.inl (.ref 1), .inl (.int x1)] m (some r1) m1) (c1 : ¬ r1 = 0) (c2 : vp_in x1 40) (c3 : vp_in (ab_rd m 1 3) 40) (c4 : vp_in (ab_rd m 1 3) 40) (c5 : vp_in (ab_rd m 1 3) 40) (hR : ab_Rt Z X 13 (some r0) m0) (hv : ab_rd m 1 3 = r0) (hm : (ab_wr (ab_wr (ab_wr (ab_wl m1 13 ((ab_rd m 1 3).toNatClampNeg) ((ab_rl m1 13 x1.toNatClampNeg) ||| ((ab_lc 1) <<< ((ab_rd m 1 3).toInt64 &&& 63)))) 12 ((ab_rd m 1 3).toNatClampNeg) x1) 14 ((ab_rd m 1 3).toNatClampNeg) (-1)) 1 3 ((ab_rd m1 1 3) + 1)) = m0) : ab_G Z X (0, [(0, .inl (.ref 1)), (1, .inl (.int x1))], [], m) := by
  subst hm
  subst hv
  exact ab_go (st1 := (60, [(0, .inl (.ref 1)), (1, .inl (.int x1)), (2, .inl (.int (ab_rd m 1 3))), (3, .inl (.long (ab_rl m1 13 x1.toNatClampNeg)))], [.inl (.int (ab_rd m 1 3))], (ab_wr (ab_wr (ab_wr (ab_wl m1 13 ((ab_rd m 1 3).toNatClampNeg) ((ab_rl m1 13 x1.toNatClampNeg) ||| ((ab_lc 1) <<< ((ab_rd m 1 3).toInt64 &&& 63)))) 12 ((ab_rd m 1 3).toNatClampNeg) x1) 14 ((ab_rd m 1 3).toNatClampNeg) (-1)) 1 3 ((ab_rd m1 1 3) + 1)))) (C := (d1 < ab_xd X ∧ ab_C Z d1 10 [.inl (.ref 1), .inl (.int x1)] m (some r1) m1) ∧ (¬ r1 = 0) ∧ (vp_in x1 40) ∧ (vp_in (ab_rd m 1 3) 40) ∧ (vp_in (ab_rd m 1 3) 40) ∧ (vp_in (ab_rd m 1 3) 40) ∧ True) 13 [(d1, some r1, m1)] hX ck_Kinds_add (es := [(0, .aload_n 0, 0, 0, 0, 1), (1, .getfield 22, 203, 84, 0, 4), (4, .istore_n 2, 0, 0, 0, 5), (5, .aload_n 0, 0, 0, 0, 6), (6, .iload_n 1, 0, 0, 0, 7), (7, .invokevirtual 26, 10, 349, 0, 10), (10, .ifCond .eq 12, 0, 0, 0, 13), (13, .aload_n 0, 0, 0, 0, 14), (14, .getfield 15, 201, 81, 0, 17), (17, .iload_n 1, 0, 0, 0, 18), (18, .laload, 0, 0, 0, 19), (19, .goto 4, 0, 0, 0, 23), (23, .lstore_n 3, 0, 0, 0, 24), (24, .aload_n 0, 0, 0, 0, 25), (25, .getfield 15, 201, 81, 0, 28), (28, .iload_n 2, 0, 0, 0, 29), (29, .lload_n 3, 0, 0, 0, 30), (30, .lconst 1, 1, 0, 0, 31), (31, .iload_n 2, 0, 0, 0, 32), (32, .lshl, 0, 0, 0, 33), (33, .lor, 0, 0, 0, 34), (34, .lastore, 0, 0, 0, 35), (35, .aload_n 0, 0, 0, 0, 36), (36, .getfield 9, 200, 80, 0, 39), (39, .iload_n 2, 0, 0, 0, 40), (40, .iload_n 1, 0, 0, 0, 41), (41, .iastore, 0, 0, 0, 42), (42, .aload_n 0, 0, 0, 0, 43), (43, .getfield 19, 202, 82, 0, 46), (46, .iload_n 2, 0, 0, 0, 47), (47, .iconst (-1), 0, 0, (-1), 48), (48, .iastore, 0, 0, 0, 49), (49, .aload_n 0, 0, 0, 0, 50), (50, .dup, 0, 0, 0, 51), (51, .getfield 22, 203, 84, 0, 54), (54, .iconst 1, 0, 0, 1, 55), (55, .iadd, 0, 0, 0, 56), (56, .putfield 22, 203, 84, 0, 59), (59, .iload_n 2, 0, 0, 0, 60)]) (by decide +kernel) rfl ⟨c0, c1, c2, c3, c4, c5, trivial⟩ (hR _ _ (ab_rpci ck_Kinds_add (by decide +kernel)))
theorem bk_Kinds_add_0_1 {Z : ab_Z} {X : ab_X} {x1 : Int32} {m m1 : ab_M} {d1 : Nat} {r1 : Int32} {m0 : ab_M} {r0 : Int32} (hX : ab_okX Z X ∧ ab_xk X = 13) (c0 : d1 < ab_xd X ∧ ab_C Z d1 10 [.inl (.ref 1), .inl (.int x1)] m (some r1) m1) (c1 : r1 = 0) (c2 : vp_in (ab_rd m 1 3) 40) (c3 : vp_in (ab_rd m 1 3) 40) (c4 : vp_in (ab_rd m 1 3) 40) (hR : ab_Rt Z X 13 (some r0) m0) (hv : ab_rd m 1 3 = r0) (hm : (ab_wr (ab_wr (ab_wr (ab_wl m1 13 ((ab_rd m 1 3).toNatClampNeg) ((ab_lc 0) ||| ((ab_lc 1) <<< ((ab_rd m 1 3).toInt64 &&& 63)))) 12 ((ab_rd m 1 3).toNatClampNeg) x1) 14 ((ab_rd m 1 3).toNatClampNeg) (-1)) 1 3 ((ab_rd m1 1 3) + 1)) = m0) : ab_G Z X (0, [(0, .inl (.ref 1)), (1, .inl (.int x1))], [], m) := by
  subst hm
  subst hv
  exact ab_go (st1 := (60, [(0, .inl (.ref 1)), (1, .inl (.int x1)), (2, .inl (.int (ab_rd m 1 3))), (3, .inl (.long (ab_lc 0)))], [.inl (.int (ab_rd m 1 3))], (ab_wr (ab_wr (ab_wr (ab_wl m1 13 ((ab_rd m 1 3).toNatClampNeg) ((ab_lc 0) ||| ((ab_lc 1) <<< ((ab_rd m 1 3).toInt64 &&& 63)))) 12 ((ab_rd m 1 3).toNatClampNeg) x1) 14 ((ab_rd m 1 3).toNatClampNeg) (-1)) 1 3 ((ab_rd m1 1 3) + 1)))) (C := (d1 < ab_xd X ∧ ab_C Z d1 10 [.inl (.ref 1), .inl (.int x1)] m (some r1) m1) ∧ (r1 = 0) ∧ (vp_in (ab_rd m 1 3) 40) ∧ (vp_in (ab_rd m 1 3) 40) ∧ (vp_in (ab_rd m 1 3) 40) ∧ True) 13 [(d1, some r1, m1)] hX ck_Kinds_add (es := [(0, .aload_n 0, 0, 0, 0, 1), (1, .getfield 22, 203, 84, 0, 4), (4, .istore_n 2, 0, 0, 0, 5), (5, .aload_n 0, 0, 0, 0, 6), (6, .iload_n 1, 0, 0, 0, 7), (7, .invokevirtual 26, 10, 349, 0, 10), (10, .ifCond .eq 12, 1, 0, 0, 22), (22, .lconst 0, 0, 0, 0, 23), (23, .lstore_n 3, 0, 0, 0, 24), (24, .aload_n 0, 0, 0, 0, 25), (25, .getfield 15, 201, 81, 0, 28), (28, .iload_n 2, 0, 0, 0, 29), (29, .lload_n 3, 0, 0, 0, 30), (30, .lconst 1, 1, 0, 0, 31), (31, .iload_n 2, 0, 0, 0, 32), (32, .lshl, 0, 0, 0, 33), (33, .lor, 0, 0, 0, 34), (34, .lastore, 0, 0, 0, 35), (35, .aload_n 0, 0, 0, 0, 36), (36, .getfield 9, 200, 80, 0, 39), (39, .iload_n 2, 0, 0, 0, 40), (40, .iload_n 1, 0, 0, 0, 41), (41, .iastore, 0, 0, 0, 42), (42, .aload_n 0, 0, 0, 0, 43), (43, .getfield 19, 202, 82, 0, 46), (46, .iload_n 2, 0, 0, 0, 47), (47, .iconst (-1), 0, 0, (-1), 48), (48, .iastore, 0, 0, 0, 49), (49, .aload_n 0, 0, 0, 0, 50), (50, .dup, 0, 0, 0, 51), (51, .getfield 22, 203, 84, 0, 54), (54, .iconst 1, 0, 0, 1, 55), (55, .iadd, 0, 0, 0, 56), (56, .putfield 22, 203, 84, 0, 59), (59, .iload_n 2, 0, 0, 0, 60)]) (by decide +kernel) rfl ⟨c0, c1, c2, c3, c4, trivial⟩ (hR _ _ (ab_rpci ck_Kinds_add (by decide +kernel)))
theorem bk_Kinds_steps_0_0 {Z : ab_Z} {X : ab_X} {x1 x2 : Int32} {m m1 m2 m3 : ab_M} {d1 d2 d3 : Nat} {r1 r2 r3 : Int32} {m0 : ab_M} {r0 : Int32} (hX : ab_okX Z X ∧ ab_xk X = 14) (c0 : vp_in x1 40) (c1 : (lg_cmp ((((ab_rl m 13 x1.toNatClampNeg).toUInt64 >>> (x2.toInt64.toUInt64 &&& Int64.toUInt64 63)).toInt64) &&& (ab_lc 1)) (ab_lc 0)) = 0) (c2 : vp_in x2 40) (c3 : ¬ (lg_cmp ((((ab_rl m 13 x2.toNatClampNeg).toUInt64 >>> (x1.toInt64.toUInt64 &&& Int64.toUInt64 63)).toInt64) &&& (ab_lc 1)) (ab_lc 0)) = 0) (c4 : ¬ (1 : Int32) = 0) (c5 : vp_in x1 40) (c6 : d1 < ab_xd X ∧ ab_C Z d1 142 [.inl (.long (ab_rl m 13 x1.toNatClampNeg))] m (some r1) m1) (c7 : vp_in x2 40) (c8 : d2 < ab_xd X ∧ ab_C Z d2 142 [.inl (.long (ab_rl m1 13 x2.toNatClampNeg))] m1 (some r2) m2) (c9 : d3 < ab_xd X ∧ ab_C Z d3 143 [.inl (.int (r1 - r2))] m2 (some r3) m3) (hR : ab_Rt Z X 14 (some r0) m0) (hv : r3 = r0) (hm : m3 = m0) : ab_G Z X (0, [(0, .inl (.ref 1)), (1, .inl (.int x1)), (2, .inl (.int x2))], [], m) := by
  subst hm
  subst hv
  exact ab_go (st1 := (66, [(0, .inl (.ref 1)), (1, .inl (.int x1)), (2, .inl (.int x2)), (3, .inl (.int 1))], [.inl (.int r3)], m3)) (C := (vp_in x1 40) ∧ ((lg_cmp ((((ab_rl m 13 x1.toNatClampNeg).toUInt64 >>> (x2.toInt64.toUInt64 &&& Int64.toUInt64 63)).toInt64) &&& (ab_lc 1)) (ab_lc 0)) = 0) ∧ (vp_in x2 40) ∧ (¬ (lg_cmp ((((ab_rl m 13 x2.toNatClampNeg).toUInt64 >>> (x1.toInt64.toUInt64 &&& Int64.toUInt64 63)).toInt64) &&& (ab_lc 1)) (ab_lc 0)) = 0) ∧ (¬ (1 : Int32) = 0) ∧ (vp_in x1 40) ∧ (d1 < ab_xd X ∧ ab_C Z d1 142 [.inl (.long (ab_rl m 13 x1.toNatClampNeg))] m (some r1) m1) ∧ (vp_in x2 40) ∧ (d2 < ab_xd X ∧ ab_C Z d2 142 [.inl (.long (ab_rl m1 13 x2.toNatClampNeg))] m1 (some r2) m2) ∧ (d3 < ab_xd X ∧ ab_C Z d3 143 [.inl (.int (r1 - r2))] m2 (some r3) m3) ∧ True) 14 [(d1, some r1, m1), (d2, some r2, m2), (d3, some r3, m3)] hX ck_Kinds_steps (es := [(0, .aload_n 0, 0, 0, 0, 1), (1, .getfield 15, 201, 81, 0, 4), (4, .iload_n 1, 0, 0, 0, 5), (5, .laload, 0, 0, 0, 6), (6, .iload_n 2, 0, 0, 0, 7), (7, .lushr, 0, 0, 0, 8), (8, .lconst 1, 1, 0, 0, 9), (9, .land, 0, 0, 0, 10), (10, .lconst 0, 0, 0, 0, 11), (11, .lcmp, 0, 0, 0, 12), (12, .ifCond .ne 18, 0, 0, 0, 15), (15, .aload_n 0, 0, 0, 0, 16), (16, .getfield 15, 201, 81, 0, 19), (19, .iload_n 2, 0, 0, 0, 20), (20, .laload, 0, 0, 0, 21), (21, .iload_n 1, 0, 0, 0, 22), (22, .lushr, 0, 0, 0, 23), (23, .lconst 1, 1, 0, 0, 24), (24, .land, 0, 0, 0, 25), (25, .lconst 0, 0, 0, 0, 26), (26, .lcmp, 0, 0, 0, 27), (27, .ifCond .eq 7, 0, 0, 0, 30), (30, .iconst 1, 0, 0, 1, 31), (31, .goto 4, 0, 0, 0, 35), (35, .istore_n 3, 0, 0, 0, 36), (36, .iload_n 3, 0, 0, 0, 37), (37, .ifCond .eq 28, 0, 0, 0, 40), (40, .aload_n 0, 0, 0, 0, 41), (41, .getfield 15, 201, 81, 0, 44), (44, .iload_n 1, 0, 0, 0, 45), (45, .laload, 0, 0, 0, 46), (46, .invokestatic 30, 142, 506, 0, 49), (49, .aload_n 0, 0, 0, 0, 50), (50, .getfield 15, 201, 81, 0, 53), (53, .iload_n 2, 0, 0, 0, 54), (54, .laload, 0, 0, 0, 55), (55, .invokestatic 30, 142, 506, 0, 58), (58, .isub, 0, 0, 0, 59), (59, .invokestatic 36, 143, 512, 0, 62), (62, .goto 4, 0, 0, 0, 66)]) (by decide +kernel) rfl ⟨c0, c1, c2, c3, c4, c5, c6, c7, c8, c9, trivial⟩ (hR _ _ (ab_rpci ck_Kinds_steps (by decide +kernel)))
theorem bk_Kinds_steps_0_1 {Z : ab_Z} {X : ab_X} {x1 x2 : Int32} {m : ab_M} {m0 : ab_M} {r0 : Int32} (hX : ab_okX Z X ∧ ab_xk X = 14) (c0 : vp_in x1 40) (c1 : (lg_cmp ((((ab_rl m 13 x1.toNatClampNeg).toUInt64 >>> (x2.toInt64.toUInt64 &&& Int64.toUInt64 63)).toInt64) &&& (ab_lc 1)) (ab_lc 0)) = 0) (c2 : vp_in x2 40) (c3 : ¬ (lg_cmp ((((ab_rl m 13 x2.toNatClampNeg).toUInt64 >>> (x1.toInt64.toUInt64 &&& Int64.toUInt64 63)).toInt64) &&& (ab_lc 1)) (ab_lc 0)) = 0) (c4 : (1 : Int32) = 0) (hR : ab_Rt Z X 14 (some r0) m0) (hv : (-1) = r0) (hm : m = m0) : ab_G Z X (0, [(0, .inl (.ref 1)), (1, .inl (.int x1)), (2, .inl (.int x2))], [], m) := by
  subst hm
  subst hv
  exact ab_go (st1 := (66, [(0, .inl (.ref 1)), (1, .inl (.int x1)), (2, .inl (.int x2)), (3, .inl (.int 1))], [.inl (.int (-1))], m)) (C := (vp_in x1 40) ∧ ((lg_cmp ((((ab_rl m 13 x1.toNatClampNeg).toUInt64 >>> (x2.toInt64.toUInt64 &&& Int64.toUInt64 63)).toInt64) &&& (ab_lc 1)) (ab_lc 0)) = 0) ∧ (vp_in x2 40) ∧ (¬ (lg_cmp ((((ab_rl m 13 x2.toNatClampNeg).toUInt64 >>> (x1.toInt64.toUInt64 &&& Int64.toUInt64 63)).toInt64) &&& (ab_lc 1)) (ab_lc 0)) = 0) ∧ ((1 : Int32) = 0) ∧ True) 14 [] hX ck_Kinds_steps (es := [(0, .aload_n 0, 0, 0, 0, 1), (1, .getfield 15, 201, 81, 0, 4), (4, .iload_n 1, 0, 0, 0, 5), (5, .laload, 0, 0, 0, 6), (6, .iload_n 2, 0, 0, 0, 7), (7, .lushr, 0, 0, 0, 8), (8, .lconst 1, 1, 0, 0, 9), (9, .land, 0, 0, 0, 10), (10, .lconst 0, 0, 0, 0, 11), (11, .lcmp, 0, 0, 0, 12), (12, .ifCond .ne 18, 0, 0, 0, 15), (15, .aload_n 0, 0, 0, 0, 16), (16, .getfield 15, 201, 81, 0, 19), (19, .iload_n 2, 0, 0, 0, 20), (20, .laload, 0, 0, 0, 21), (21, .iload_n 1, 0, 0, 0, 22), (22, .lushr, 0, 0, 0, 23), (23, .lconst 1, 1, 0, 0, 24), (24, .land, 0, 0, 0, 25), (25, .lconst 0, 0, 0, 0, 26), (26, .lcmp, 0, 0, 0, 27), (27, .ifCond .eq 7, 0, 0, 0, 30), (30, .iconst 1, 0, 0, 1, 31), (31, .goto 4, 0, 0, 0, 35), (35, .istore_n 3, 0, 0, 0, 36), (36, .iload_n 3, 0, 0, 0, 37), (37, .ifCond .eq 28, 1, 0, 0, 65), (65, .iconst (-1), 0, 0, (-1), 66)]) (by decide +kernel) rfl ⟨c0, c1, c2, c3, c4, trivial⟩ (hR _ _ (ab_rpci ck_Kinds_steps (by decide +kernel)))
theorem bk_Kinds_steps_0_2 {Z : ab_Z} {X : ab_X} {x1 x2 : Int32} {m m1 m2 m3 : ab_M} {d1 d2 d3 : Nat} {r1 r2 r3 : Int32} {m0 : ab_M} {r0 : Int32} (hX : ab_okX Z X ∧ ab_xk X = 14) (c0 : vp_in x1 40) (c1 : (lg_cmp ((((ab_rl m 13 x1.toNatClampNeg).toUInt64 >>> (x2.toInt64.toUInt64 &&& Int64.toUInt64 63)).toInt64) &&& (ab_lc 1)) (ab_lc 0)) = 0) (c2 : vp_in x2 40) (c3 : (lg_cmp ((((ab_rl m 13 x2.toNatClampNeg).toUInt64 >>> (x1.toInt64.toUInt64 &&& Int64.toUInt64 63)).toInt64) &&& (ab_lc 1)) (ab_lc 0)) = 0) (c4 : ¬ (0 : Int32) = 0) (c5 : vp_in x1 40) (c6 : d1 < ab_xd X ∧ ab_C Z d1 142 [.inl (.long (ab_rl m 13 x1.toNatClampNeg))] m (some r1) m1) (c7 : vp_in x2 40) (c8 : d2 < ab_xd X ∧ ab_C Z d2 142 [.inl (.long (ab_rl m1 13 x2.toNatClampNeg))] m1 (some r2) m2) (c9 : d3 < ab_xd X ∧ ab_C Z d3 143 [.inl (.int (r1 - r2))] m2 (some r3) m3) (hR : ab_Rt Z X 14 (some r0) m0) (hv : r3 = r0) (hm : m3 = m0) : ab_G Z X (0, [(0, .inl (.ref 1)), (1, .inl (.int x1)), (2, .inl (.int x2))], [], m) := by
  subst hm
  subst hv
  exact ab_go (st1 := (66, [(0, .inl (.ref 1)), (1, .inl (.int x1)), (2, .inl (.int x2)), (3, .inl (.int 0))], [.inl (.int r3)], m3)) (C := (vp_in x1 40) ∧ ((lg_cmp ((((ab_rl m 13 x1.toNatClampNeg).toUInt64 >>> (x2.toInt64.toUInt64 &&& Int64.toUInt64 63)).toInt64) &&& (ab_lc 1)) (ab_lc 0)) = 0) ∧ (vp_in x2 40) ∧ ((lg_cmp ((((ab_rl m 13 x2.toNatClampNeg).toUInt64 >>> (x1.toInt64.toUInt64 &&& Int64.toUInt64 63)).toInt64) &&& (ab_lc 1)) (ab_lc 0)) = 0) ∧ (¬ (0 : Int32) = 0) ∧ (vp_in x1 40) ∧ (d1 < ab_xd X ∧ ab_C Z d1 142 [.inl (.long (ab_rl m 13 x1.toNatClampNeg))] m (some r1) m1) ∧ (vp_in x2 40) ∧ (d2 < ab_xd X ∧ ab_C Z d2 142 [.inl (.long (ab_rl m1 13 x2.toNatClampNeg))] m1 (some r2) m2) ∧ (d3 < ab_xd X ∧ ab_C Z d3 143 [.inl (.int (r1 - r2))] m2 (some r3) m3) ∧ True) 14 [(d1, some r1, m1), (d2, some r2, m2), (d3, some r3, m3)] hX ck_Kinds_steps (es := [(0, .aload_n 0, 0, 0, 0, 1), (1, .getfield 15, 201, 81, 0, 4), (4, .iload_n 1, 0, 0, 0, 5), (5, .laload, 0, 0, 0, 6), (6, .iload_n 2, 0, 0, 0, 7), (7, .lushr, 0, 0, 0, 8), (8, .lconst 1, 1, 0, 0, 9), (9, .land, 0, 0, 0, 10), (10, .lconst 0, 0, 0, 0, 11), (11, .lcmp, 0, 0, 0, 12), (12, .ifCond .ne 18, 0, 0, 0, 15), (15, .aload_n 0, 0, 0, 0, 16), (16, .getfield 15, 201, 81, 0, 19), (19, .iload_n 2, 0, 0, 0, 20), (20, .laload, 0, 0, 0, 21), (21, .iload_n 1, 0, 0, 0, 22), (22, .lushr, 0, 0, 0, 23), (23, .lconst 1, 1, 0, 0, 24), (24, .land, 0, 0, 0, 25), (25, .lconst 0, 0, 0, 0, 26), (26, .lcmp, 0, 0, 0, 27), (27, .ifCond .eq 7, 1, 0, 0, 34), (34, .iconst 0, 0, 0, 0, 35), (35, .istore_n 3, 0, 0, 0, 36), (36, .iload_n 3, 0, 0, 0, 37), (37, .ifCond .eq 28, 0, 0, 0, 40), (40, .aload_n 0, 0, 0, 0, 41), (41, .getfield 15, 201, 81, 0, 44), (44, .iload_n 1, 0, 0, 0, 45), (45, .laload, 0, 0, 0, 46), (46, .invokestatic 30, 142, 506, 0, 49), (49, .aload_n 0, 0, 0, 0, 50), (50, .getfield 15, 201, 81, 0, 53), (53, .iload_n 2, 0, 0, 0, 54), (54, .laload, 0, 0, 0, 55), (55, .invokestatic 30, 142, 506, 0, 58), (58, .isub, 0, 0, 0, 59), (59, .invokestatic 36, 143, 512, 0, 62), (62, .goto 4, 0, 0, 0, 66)]) (by decide +kernel) rfl ⟨c0, c1, c2, c3, c4, c5, c6, c7, c8, c9, trivial⟩ (hR _ _ (ab_rpci ck_Kinds_steps (by decide +kernel)))
theorem bk_Kinds_steps_0_3 {Z : ab_Z} {X : ab_X} {x1 x2 : Int32} {m : ab_M} {m0 : ab_M} {r0 : Int32} (hX : ab_okX Z X ∧ ab_xk X = 14) (c0 : vp_in x1 40) (c1 : (lg_cmp ((((ab_rl m 13 x1.toNatClampNeg).toUInt64 >>> (x2.toInt64.toUInt64 &&& Int64.toUInt64 63)).toInt64) &&& (ab_lc 1)) (ab_lc 0)) = 0) (c2 : vp_in x2 40) (c3 : (lg_cmp ((((ab_rl m 13 x2.toNatClampNeg).toUInt64 >>> (x1.toInt64.toUInt64 &&& Int64.toUInt64 63)).toInt64) &&& (ab_lc 1)) (ab_lc 0)) = 0) (c4 : (0 : Int32) = 0) (hR : ab_Rt Z X 14 (some r0) m0) (hv : (-1) = r0) (hm : m = m0) : ab_G Z X (0, [(0, .inl (.ref 1)), (1, .inl (.int x1)), (2, .inl (.int x2))], [], m) := by
  subst hm
  subst hv
  exact ab_go (st1 := (66, [(0, .inl (.ref 1)), (1, .inl (.int x1)), (2, .inl (.int x2)), (3, .inl (.int 0))], [.inl (.int (-1))], m)) (C := (vp_in x1 40) ∧ ((lg_cmp ((((ab_rl m 13 x1.toNatClampNeg).toUInt64 >>> (x2.toInt64.toUInt64 &&& Int64.toUInt64 63)).toInt64) &&& (ab_lc 1)) (ab_lc 0)) = 0) ∧ (vp_in x2 40) ∧ ((lg_cmp ((((ab_rl m 13 x2.toNatClampNeg).toUInt64 >>> (x1.toInt64.toUInt64 &&& Int64.toUInt64 63)).toInt64) &&& (ab_lc 1)) (ab_lc 0)) = 0) ∧ ((0 : Int32) = 0) ∧ True) 14 [] hX ck_Kinds_steps (es := [(0, .aload_n 0, 0, 0, 0, 1), (1, .getfield 15, 201, 81, 0, 4), (4, .iload_n 1, 0, 0, 0, 5), (5, .laload, 0, 0, 0, 6), (6, .iload_n 2, 0, 0, 0, 7), (7, .lushr, 0, 0, 0, 8), (8, .lconst 1, 1, 0, 0, 9), (9, .land, 0, 0, 0, 10), (10, .lconst 0, 0, 0, 0, 11), (11, .lcmp, 0, 0, 0, 12), (12, .ifCond .ne 18, 0, 0, 0, 15), (15, .aload_n 0, 0, 0, 0, 16), (16, .getfield 15, 201, 81, 0, 19), (19, .iload_n 2, 0, 0, 0, 20), (20, .laload, 0, 0, 0, 21), (21, .iload_n 1, 0, 0, 0, 22), (22, .lushr, 0, 0, 0, 23), (23, .lconst 1, 1, 0, 0, 24), (24, .land, 0, 0, 0, 25), (25, .lconst 0, 0, 0, 0, 26), (26, .lcmp, 0, 0, 0, 27), (27, .ifCond .eq 7, 1, 0, 0, 34), (34, .iconst 0, 0, 0, 0, 35), (35, .istore_n 3, 0, 0, 0, 36), (36, .iload_n 3, 0, 0, 0, 37), (37, .ifCond .eq 28, 1, 0, 0, 65), (65, .iconst (-1), 0, 0, (-1), 66)]) (by decide +kernel) rfl ⟨c0, c1, c2, c3, c4, trivial⟩ (hR _ _ (ab_rpci ck_Kinds_steps (by decide +kernel)))
theorem bk_Kinds_steps_0_4 {Z : ab_Z} {X : ab_X} {x1 x2 : Int32} {m m1 m2 m3 : ab_M} {d1 d2 d3 : Nat} {r1 r2 r3 : Int32} {m0 : ab_M} {r0 : Int32} (hX : ab_okX Z X ∧ ab_xk X = 14) (c0 : vp_in x1 40) (c1 : ¬ (lg_cmp ((((ab_rl m 13 x1.toNatClampNeg).toUInt64 >>> (x2.toInt64.toUInt64 &&& Int64.toUInt64 63)).toInt64) &&& (ab_lc 1)) (ab_lc 0)) = 0) (c2 : ¬ (1 : Int32) = 0) (c3 : vp_in x1 40) (c4 : d1 < ab_xd X ∧ ab_C Z d1 142 [.inl (.long (ab_rl m 13 x1.toNatClampNeg))] m (some r1) m1) (c5 : vp_in x2 40) (c6 : d2 < ab_xd X ∧ ab_C Z d2 142 [.inl (.long (ab_rl m1 13 x2.toNatClampNeg))] m1 (some r2) m2) (c7 : d3 < ab_xd X ∧ ab_C Z d3 143 [.inl (.int (r1 - r2))] m2 (some r3) m3) (hR : ab_Rt Z X 14 (some r0) m0) (hv : r3 = r0) (hm : m3 = m0) : ab_G Z X (0, [(0, .inl (.ref 1)), (1, .inl (.int x1)), (2, .inl (.int x2))], [], m) := by
  subst hm
  subst hv
  exact ab_go (st1 := (66, [(0, .inl (.ref 1)), (1, .inl (.int x1)), (2, .inl (.int x2)), (3, .inl (.int 1))], [.inl (.int r3)], m3)) (C := (vp_in x1 40) ∧ (¬ (lg_cmp ((((ab_rl m 13 x1.toNatClampNeg).toUInt64 >>> (x2.toInt64.toUInt64 &&& Int64.toUInt64 63)).toInt64) &&& (ab_lc 1)) (ab_lc 0)) = 0) ∧ (¬ (1 : Int32) = 0) ∧ (vp_in x1 40) ∧ (d1 < ab_xd X ∧ ab_C Z d1 142 [.inl (.long (ab_rl m 13 x1.toNatClampNeg))] m (some r1) m1) ∧ (vp_in x2 40) ∧ (d2 < ab_xd X ∧ ab_C Z d2 142 [.inl (.long (ab_rl m1 13 x2.toNatClampNeg))] m1 (some r2) m2) ∧ (d3 < ab_xd X ∧ ab_C Z d3 143 [.inl (.int (r1 - r2))] m2 (some r3) m3) ∧ True) 14 [(d1, some r1, m1), (d2, some r2, m2), (d3, some r3, m3)] hX ck_Kinds_steps (es := [(0, .aload_n 0, 0, 0, 0, 1), (1, .getfield 15, 201, 81, 0, 4), (4, .iload_n 1, 0, 0, 0, 5), (5, .laload, 0, 0, 0, 6), (6, .iload_n 2, 0, 0, 0, 7), (7, .lushr, 0, 0, 0, 8), (8, .lconst 1, 1, 0, 0, 9), (9, .land, 0, 0, 0, 10), (10, .lconst 0, 0, 0, 0, 11), (11, .lcmp, 0, 0, 0, 12), (12, .ifCond .ne 18, 1, 0, 0, 30), (30, .iconst 1, 0, 0, 1, 31), (31, .goto 4, 0, 0, 0, 35), (35, .istore_n 3, 0, 0, 0, 36), (36, .iload_n 3, 0, 0, 0, 37), (37, .ifCond .eq 28, 0, 0, 0, 40), (40, .aload_n 0, 0, 0, 0, 41), (41, .getfield 15, 201, 81, 0, 44), (44, .iload_n 1, 0, 0, 0, 45), (45, .laload, 0, 0, 0, 46), (46, .invokestatic 30, 142, 506, 0, 49), (49, .aload_n 0, 0, 0, 0, 50), (50, .getfield 15, 201, 81, 0, 53), (53, .iload_n 2, 0, 0, 0, 54), (54, .laload, 0, 0, 0, 55), (55, .invokestatic 30, 142, 506, 0, 58), (58, .isub, 0, 0, 0, 59), (59, .invokestatic 36, 143, 512, 0, 62), (62, .goto 4, 0, 0, 0, 66)]) (by decide +kernel) rfl ⟨c0, c1, c2, c3, c4, c5, c6, c7, trivial⟩ (hR _ _ (ab_rpci ck_Kinds_steps (by decide +kernel)))
theorem bk_Kinds_steps_0_5 {Z : ab_Z} {X : ab_X} {x1 x2 : Int32} {m : ab_M} {m0 : ab_M} {r0 : Int32} (hX : ab_okX Z X ∧ ab_xk X = 14) (c0 : vp_in x1 40) (c1 : ¬ (lg_cmp ((((ab_rl m 13 x1.toNatClampNeg).toUInt64 >>> (x2.toInt64.toUInt64 &&& Int64.toUInt64 63)).toInt64) &&& (ab_lc 1)) (ab_lc 0)) = 0) (c2 : (1 : Int32) = 0) (hR : ab_Rt Z X 14 (some r0) m0) (hv : (-1) = r0) (hm : m = m0) : ab_G Z X (0, [(0, .inl (.ref 1)), (1, .inl (.int x1)), (2, .inl (.int x2))], [], m) := by
  subst hm
  subst hv
  exact ab_go (st1 := (66, [(0, .inl (.ref 1)), (1, .inl (.int x1)), (2, .inl (.int x2)), (3, .inl (.int 1))], [.inl (.int (-1))], m)) (C := (vp_in x1 40) ∧ (¬ (lg_cmp ((((ab_rl m 13 x1.toNatClampNeg).toUInt64 >>> (x2.toInt64.toUInt64 &&& Int64.toUInt64 63)).toInt64) &&& (ab_lc 1)) (ab_lc 0)) = 0) ∧ ((1 : Int32) = 0) ∧ True) 14 [] hX ck_Kinds_steps (es := [(0, .aload_n 0, 0, 0, 0, 1), (1, .getfield 15, 201, 81, 0, 4), (4, .iload_n 1, 0, 0, 0, 5), (5, .laload, 0, 0, 0, 6), (6, .iload_n 2, 0, 0, 0, 7), (7, .lushr, 0, 0, 0, 8), (8, .lconst 1, 1, 0, 0, 9), (9, .land, 0, 0, 0, 10), (10, .lconst 0, 0, 0, 0, 11), (11, .lcmp, 0, 0, 0, 12), (12, .ifCond .ne 18, 1, 0, 0, 30), (30, .iconst 1, 0, 0, 1, 31), (31, .goto 4, 0, 0, 0, 35), (35, .istore_n 3, 0, 0, 0, 36), (36, .iload_n 3, 0, 0, 0, 37), (37, .ifCond .eq 28, 1, 0, 0, 65), (65, .iconst (-1), 0, 0, (-1), 66)]) (by decide +kernel) rfl ⟨c0, c1, c2, trivial⟩ (hR _ _ (ab_rpci ck_Kinds_steps (by decide +kernel)))
theorem bk_Kinds_keepingOf_0_0 {Z : ab_Z} {X : ab_X} {x1 : Int32} {m : ab_M} (hX : ab_okX Z X ∧ ab_xk X = 15) (hG : ab_G Z X (4, [(0, .inl (.ref 1)), (1, .inl (.int x1)), (2, .inl (.int x1)), (3, .inl (.int 0))], [], m)) : ab_G Z X (0, [(0, .inl (.ref 1)), (1, .inl (.int x1))], [], m) := ab_go (st1 := (4, [(0, .inl (.ref 1)), (1, .inl (.int x1)), (2, .inl (.int x1)), (3, .inl (.int 0))], [], m)) (C := True) 15 [] hX ck_Kinds_keepingOf (es := [(0, .iload_n 1, 0, 0, 0, 1), (1, .istore_n 2, 0, 0, 0, 2), (2, .iconst 0, 0, 0, 0, 3), (3, .istore_n 3, 0, 0, 0, 4)]) (by decide +kernel) rfl trivial hG
theorem bk_Kinds_keepingOf_4_0 {Z : ab_Z} {X : ab_X} {x1 x2 x3 : Int32} {m m1 : ab_M} {d1 : Nat} {r1 : Int32} {m0 : ab_M} {r0 : Int32} (hX : ab_okX Z X ∧ ab_xk X = 15) (c0 : ¬ 40 ≤ x3) (c1 : d1 < ab_xd X ∧ ab_C Z d1 10 [.inl (.ref 1), .inl (.int x2)] m (some r1) m1) (c2 : ¬ r1 = 0) (c3 : vp_in x2 40) (c4 : ¬ (ab_rd m1 14 x2.toNatClampNeg) = (-1)) (c5 : vp_in x2 40) (hR : ab_Rt Z X 15 (some r0) m0) (hv : ab_rd m1 14 x2.toNatClampNeg = r0) (hm : m1 = m0) : ab_G Z X (4, [(0, .inl (.ref 1)), (1, .inl (.int x1)), (2, .inl (.int x2)), (3, .inl (.int x3))], [], m) := by
  subst hm
  subst hv
  exact ab_go (st1 := (34, [(0, .inl (.ref 1)), (1, .inl (.int x1)), (2, .inl (.int x2)), (3, .inl (.int x3))], [.inl (.int (ab_rd m1 14 x2.toNatClampNeg))], m1)) (C := (¬ 40 ≤ x3) ∧ (d1 < ab_xd X ∧ ab_C Z d1 10 [.inl (.ref 1), .inl (.int x2)] m (some r1) m1) ∧ (¬ r1 = 0) ∧ (vp_in x2 40) ∧ (¬ (ab_rd m1 14 x2.toNatClampNeg) = (-1)) ∧ (vp_in x2 40) ∧ True) 15 [(d1, some r1, m1)] hX ck_Kinds_keepingOf (es := [(4, .iload_n 3, 0, 0, 0, 5), (5, .bipush 40, 0, 0, 40, 7), (7, .if_icmp .ge 41, 0, 0, 0, 10), (10, .aload_n 0, 0, 0, 0, 11), (11, .iload_n 2, 0, 0, 0, 12), (12, .invokevirtual 26, 10, 349, 0, 15), (15, .ifCond .eq 33, 0, 0, 0, 18), (18, .aload_n 0, 0, 0, 0, 19), (19, .getfield 19, 202, 82, 0, 22), (22, .iload_n 2, 0, 0, 0, 23), (23, .iaload, 0, 0, 0, 24), (24, .iconst (-1), 0, 0, (-1), 25), (25, .if_icmp .eq 10, 0, 0, 0, 28), (28, .aload_n 0, 0, 0, 0, 29), (29, .getfield 19, 202, 82, 0, 32), (32, .iload_n 2, 0, 0, 0, 33), (33, .iaload, 0, 0, 0, 34)]) (by decide +kernel) rfl ⟨c0, c1, c2, c3, c4, c5, trivial⟩ (hR _ _ (ab_rpci ck_Kinds_keepingOf (by decide +kernel)))
theorem bk_Kinds_keepingOf_4_1 {Z : ab_Z} {X : ab_X} {x1 x2 x3 : Int32} {m m1 : ab_M} {d1 : Nat} {r1 : Int32} (hX : ab_okX Z X ∧ ab_xk X = 15) (c0 : ¬ 40 ≤ x3) (c1 : d1 < ab_xd X ∧ ab_C Z d1 10 [.inl (.ref 1), .inl (.int x2)] m (some r1) m1) (c2 : ¬ r1 = 0) (c3 : vp_in x2 40) (c4 : (ab_rd m1 14 x2.toNatClampNeg) = (-1)) (c5 : vp_in x2 40) (hG : ab_G Z X (4, [(0, .inl (.ref 1)), (1, .inl (.int x1)), (2, .inl (.int (ab_rd m1 12 x2.toNatClampNeg))), (3, .inl (.int (x3 + 1)))], [], m1)) : ab_G Z X (4, [(0, .inl (.ref 1)), (1, .inl (.int x1)), (2, .inl (.int x2)), (3, .inl (.int x3))], [], m) := ab_go (st1 := (4, [(0, .inl (.ref 1)), (1, .inl (.int x1)), (2, .inl (.int (ab_rd m1 12 x2.toNatClampNeg))), (3, .inl (.int (x3 + 1)))], [], m1)) (C := (¬ 40 ≤ x3) ∧ (d1 < ab_xd X ∧ ab_C Z d1 10 [.inl (.ref 1), .inl (.int x2)] m (some r1) m1) ∧ (¬ r1 = 0) ∧ (vp_in x2 40) ∧ ((ab_rd m1 14 x2.toNatClampNeg) = (-1)) ∧ (vp_in x2 40) ∧ True) 15 [(d1, some r1, m1)] hX ck_Kinds_keepingOf (es := [(4, .iload_n 3, 0, 0, 0, 5), (5, .bipush 40, 0, 0, 40, 7), (7, .if_icmp .ge 41, 0, 0, 0, 10), (10, .aload_n 0, 0, 0, 0, 11), (11, .iload_n 2, 0, 0, 0, 12), (12, .invokevirtual 26, 10, 349, 0, 15), (15, .ifCond .eq 33, 0, 0, 0, 18), (18, .aload_n 0, 0, 0, 0, 19), (19, .getfield 19, 202, 82, 0, 22), (22, .iload_n 2, 0, 0, 0, 23), (23, .iaload, 0, 0, 0, 24), (24, .iconst (-1), 0, 0, (-1), 25), (25, .if_icmp .eq 10, 1, 0, 0, 35), (35, .aload_n 0, 0, 0, 0, 36), (36, .getfield 9, 200, 80, 0, 39), (39, .iload_n 2, 0, 0, 0, 40), (40, .iaload, 0, 0, 0, 41), (41, .istore_n 2, 0, 0, 0, 42), (42, .iinc 3 1, 0, 0, 1, 45), (45, .goto (-41), 0, 0, 0, 4)]) (by decide +kernel) rfl ⟨c0, c1, c2, c3, c4, c5, trivial⟩ hG
theorem bk_Kinds_keepingOf_4_2 {Z : ab_Z} {X : ab_X} {x1 x2 x3 : Int32} {m m1 : ab_M} {d1 : Nat} {r1 : Int32} {m0 : ab_M} {r0 : Int32} (hX : ab_okX Z X ∧ ab_xk X = 15) (c0 : ¬ 40 ≤ x3) (c1 : d1 < ab_xd X ∧ ab_C Z d1 10 [.inl (.ref 1), .inl (.int x2)] m (some r1) m1) (c2 : r1 = 0) (hR : ab_Rt Z X 15 (some r0) m0) (hv : 30 = r0) (hm : m1 = m0) : ab_G Z X (4, [(0, .inl (.ref 1)), (1, .inl (.int x1)), (2, .inl (.int x2)), (3, .inl (.int x3))], [], m) := by
  subst hm
  subst hv
  exact ab_go (st1 := (50, [(0, .inl (.ref 1)), (1, .inl (.int x1)), (2, .inl (.int x2)), (3, .inl (.int x3))], [.inl (.int 30)], m1)) (C := (¬ 40 ≤ x3) ∧ (d1 < ab_xd X ∧ ab_C Z d1 10 [.inl (.ref 1), .inl (.int x2)] m (some r1) m1) ∧ (r1 = 0) ∧ True) 15 [(d1, some r1, m1)] hX ck_Kinds_keepingOf (es := [(4, .iload_n 3, 0, 0, 0, 5), (5, .bipush 40, 0, 0, 40, 7), (7, .if_icmp .ge 41, 0, 0, 0, 10), (10, .aload_n 0, 0, 0, 0, 11), (11, .iload_n 2, 0, 0, 0, 12), (12, .invokevirtual 26, 10, 349, 0, 15), (15, .ifCond .eq 33, 1, 0, 0, 48), (48, .bipush 30, 0, 0, 30, 50)]) (by decide +kernel) rfl ⟨c0, c1, c2, trivial⟩ (hR _ _ (ab_rpci ck_Kinds_keepingOf (by decide +kernel)))
theorem bk_Kinds_keepingOf_4_3 {Z : ab_Z} {X : ab_X} {x1 x2 x3 : Int32} {m : ab_M} {m0 : ab_M} {r0 : Int32} (hX : ab_okX Z X ∧ ab_xk X = 15) (c0 : 40 ≤ x3) (hR : ab_Rt Z X 15 (some r0) m0) (hv : 30 = r0) (hm : m = m0) : ab_G Z X (4, [(0, .inl (.ref 1)), (1, .inl (.int x1)), (2, .inl (.int x2)), (3, .inl (.int x3))], [], m) := by
  subst hm
  subst hv
  exact ab_go (st1 := (50, [(0, .inl (.ref 1)), (1, .inl (.int x1)), (2, .inl (.int x2)), (3, .inl (.int x3))], [.inl (.int 30)], m)) (C := (40 ≤ x3) ∧ True) 15 [] hX ck_Kinds_keepingOf (es := [(4, .iload_n 3, 0, 0, 0, 5), (5, .bipush 40, 0, 0, 40, 7), (7, .if_icmp .ge 41, 1, 0, 0, 48), (48, .bipush 30, 0, 0, 30, 50)]) (by decide +kernel) rfl ⟨c0, trivial⟩ (hR _ _ (ab_rpci ck_Kinds_keepingOf (by decide +kernel)))
end
