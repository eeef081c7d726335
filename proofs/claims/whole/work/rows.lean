section
-- ===== PART A: goes FIRST, ahead of the names: the tables' words, and 'selects' of the private methods out of them =====
/-- a private method of a class that the tables say can be made, by its rows of tables_1 -/
def lw_okq (q : MethodName × Nat) : Prop := (q.1.cls ≠ "java/lang/invoke/MethodHandle" ∧ q.1.cls ≠ "java/lang/invoke/VarHandle") ∧ Cond.instantiable q.1.cls q.2 ∈ tables_1 ∧ Cond.privateMethod q.1 ∈ tables_1 ∧ Cond.instanceMethod q.1 ∈ tables_1
theorem lw_p0 : lw_okq (⟨"SlotConference", "airportAt", "(I)LSlotConference$Airport;"⟩, 15) := ⟨⟨by decide +kernel, by decide +kernel⟩, List.mem_of_getElem? (i := 18) (by decide +kernel), List.mem_of_getElem? (i := 313) (by decide +kernel), List.mem_of_getElem? (i := 314) (by decide +kernel)⟩
theorem lw_p1 : lw_okq (⟨"java/lang/Throwable", "fillInStackTrace", "(I)Ljava/lang/Throwable;"⟩, 6) := ⟨⟨by decide +kernel, by decide +kernel⟩, List.mem_of_getElem? (i := 355) (by decide +kernel), List.mem_of_getElem? (i := 353) (by decide +kernel), List.mem_of_getElem? (i := 354) (by decide +kernel)⟩
theorem lw_p2 : lw_okq (⟨"SlotConference", "groupAt", "(I)I"⟩, 15) := ⟨⟨by decide +kernel, by decide +kernel⟩, List.mem_of_getElem? (i := 18) (by decide +kernel), List.mem_of_getElem? (i := 458) (by decide +kernel), List.mem_of_getElem? (i := 459) (by decide +kernel)⟩
theorem lw_p3 : lw_okq (⟨"SlotConference", "rightAt", "(I)LSlotConference$Right;"⟩, 15) := ⟨⟨by decide +kernel, by decide +kernel⟩, List.mem_of_getElem? (i := 18) (by decide +kernel), List.mem_of_getElem? (i := 471) (by decide +kernel), List.mem_of_getElem? (i := 472) (by decide +kernel)⟩
theorem lw_p4 : lw_okq (⟨"SlotConference", "requestAt", "(I)LSlotConference$Request;"⟩, 15) := ⟨⟨by decide +kernel, by decide +kernel⟩, List.mem_of_getElem? (i := 18) (by decide +kernel), List.mem_of_getElem? (i := 485) (by decide +kernel), List.mem_of_getElem? (i := 486) (by decide +kernel)⟩
theorem lw_p5 : lw_okq (⟨"SlotConference", "requestsThatAre", "(I)I"⟩, 15) := ⟨⟨by decide +kernel, by decide +kernel⟩, List.mem_of_getElem? (i := 18) (by decide +kernel), List.mem_of_getElem? (i := 514) (by decide +kernel), List.mem_of_getElem? (i := 515) (by decide +kernel)⟩
theorem lw_p6 : lw_okq (⟨"SlotConference", "sortAllAsked", "()V"⟩, 15) := ⟨⟨by decide +kernel, by decide +kernel⟩, List.mem_of_getElem? (i := 18) (by decide +kernel), List.mem_of_getElem? (i := 519) (by decide +kernel), List.mem_of_getElem? (i := 520) (by decide +kernel)⟩
theorem lw_p7 : lw_okq (⟨"SlotConference", "sortNow", "(LSlotConference$Request;)I"⟩, 15) := ⟨⟨by decide +kernel, by decide +kernel⟩, List.mem_of_getElem? (i := 18) (by decide +kernel), List.mem_of_getElem? (i := 523) (by decide +kernel), List.mem_of_getElem? (i := 524) (by decide +kernel)⟩
theorem lw_p8 : lw_okq (⟨"SlotConference", "isGroupNew", "(II)Z"⟩, 15) := ⟨⟨by decide +kernel, by decide +kernel⟩, List.mem_of_getElem? (i := 18) (by decide +kernel), List.mem_of_getElem? (i := 533) (by decide +kernel), List.mem_of_getElem? (i := 534) (by decide +kernel)⟩
theorem lw_p9 : lw_okq (⟨"SlotConference", "seriesAt", "(I)LSlotConference$Series;"⟩, 15) := ⟨⟨by decide +kernel, by decide +kernel⟩, List.mem_of_getElem? (i := 18) (by decide +kernel), List.mem_of_getElem? (i := 537) (by decide +kernel), List.mem_of_getElem? (i := 538) (by decide +kernel)⟩
theorem lw_p10 : lw_okq (⟨"SlotConference", "putAskedInOrder", "()I"⟩, 15) := ⟨⟨by decide +kernel, by decide +kernel⟩, List.mem_of_getElem? (i := 18) (by decide +kernel), List.mem_of_getElem? (i := 542) (by decide +kernel), List.mem_of_getElem? (i := 543) (by decide +kernel)⟩
theorem lw_p11 : lw_okq (⟨"SlotConference", "addAskedOf", "(I[II)I"⟩, 15) := ⟨⟨by decide +kernel, by decide +kernel⟩, List.mem_of_getElem? (i := 18) (by decide +kernel), List.mem_of_getElem? (i := 546) (by decide +kernel), List.mem_of_getElem? (i := 547) (by decide +kernel)⟩
theorem lw_p12 : lw_okq (⟨"SlotConference", "insertByWeeks", "(I[III)V"⟩, 15) := ⟨⟨by decide +kernel, by decide +kernel⟩, List.mem_of_getElem? (i := 18) (by decide +kernel), List.mem_of_getElem? (i := 550) (by decide +kernel), List.mem_of_getElem? (i := 551) (by decide +kernel)⟩
theorem lw_p13 : lw_okq (⟨"SlotConference", "decideAlone", "(I)I"⟩, 15) := ⟨⟨by decide +kernel, by decide +kernel⟩, List.mem_of_getElem? (i := 18) (by decide +kernel), List.mem_of_getElem? (i := 560) (by decide +kernel), List.mem_of_getElem? (i := 561) (by decide +kernel)⟩
theorem lw_p14 : lw_okq (⟨"SlotConference", "giveIfItFits", "(I)Z"⟩, 15) := ⟨⟨by decide +kernel, by decide +kernel⟩, List.mem_of_getElem? (i := 18) (by decide +kernel), List.mem_of_getElem? (i := 564) (by decide +kernel), List.mem_of_getElem? (i := 565) (by decide +kernel)⟩
theorem lw_p15 : lw_okq (⟨"SlotConference", "reasonAgainst", "(LSlotConference$Slot;I)I"⟩, 15) := ⟨⟨by decide +kernel, by decide +kernel⟩, List.mem_of_getElem? (i := 18) (by decide +kernel), List.mem_of_getElem? (i := 568) (by decide +kernel), List.mem_of_getElem? (i := 569) (by decide +kernel)⟩
def lw_privs_1 : List (MethodName × Nat) := [(⟨"SlotConference", "airportAt", "(I)LSlotConference$Airport;"⟩, 15), (⟨"java/lang/Throwable", "fillInStackTrace", "(I)Ljava/lang/Throwable;"⟩, 6), (⟨"SlotConference", "groupAt", "(I)I"⟩, 15), (⟨"SlotConference", "rightAt", "(I)LSlotConference$Right;"⟩, 15), (⟨"SlotConference", "requestAt", "(I)LSlotConference$Request;"⟩, 15), (⟨"SlotConference", "requestsThatAre", "(I)I"⟩, 15), (⟨"SlotConference", "sortAllAsked", "()V"⟩, 15), (⟨"SlotConference", "sortNow", "(LSlotConference$Request;)I"⟩, 15), (⟨"SlotConference", "isGroupNew", "(II)Z"⟩, 15), (⟨"SlotConference", "seriesAt", "(I)LSlotConference$Series;"⟩, 15), (⟨"SlotConference", "putAskedInOrder", "()I"⟩, 15), (⟨"SlotConference", "addAskedOf", "(I[II)I"⟩, 15), (⟨"SlotConference", "insertByWeeks", "(I[III)V"⟩, 15), (⟨"SlotConference", "decideAlone", "(I)I"⟩, 15), (⟨"SlotConference", "giveIfItFits", "(I)Z"⟩, 15), (⟨"SlotConference", "reasonAgainst", "(LSlotConference$Slot;I)I"⟩, 15)]
theorem lw_r1 : ∀ q ∈ lw_privs_1, lw_okq q := List.forall_mem_cons.mpr ⟨lw_p0, List.forall_mem_cons.mpr ⟨lw_p1, List.forall_mem_cons.mpr ⟨lw_p2, List.forall_mem_cons.mpr ⟨lw_p3, List.forall_mem_cons.mpr ⟨lw_p4, List.forall_mem_cons.mpr ⟨lw_p5, List.forall_mem_cons.mpr ⟨lw_p6, List.forall_mem_cons.mpr ⟨lw_p7, List.forall_mem_cons.mpr ⟨lw_p8, List.forall_mem_cons.mpr ⟨lw_p9, List.forall_mem_cons.mpr ⟨lw_p10, List.forall_mem_cons.mpr ⟨lw_p11, List.forall_mem_cons.mpr ⟨lw_p12, List.forall_mem_cons.mpr ⟨lw_p13, List.forall_mem_cons.mpr ⟨lw_p14, List.forall_mem_cons.mpr ⟨lw_p15, fun _ h => absurd h List.not_mem_nil⟩⟩⟩⟩⟩⟩⟩⟩⟩⟩⟩⟩⟩⟩⟩⟩
theorem lw_p16 : lw_okq (⟨"SlotConference", "noiseByNight", "(I)I"⟩, 15) := ⟨⟨by decide +kernel, by decide +kernel⟩, List.mem_of_getElem? (i := 18) (by decide +kernel), List.mem_of_getElem? (i := 579) (by decide +kernel), List.mem_of_getElem? (i := 580) (by decide +kernel)⟩
theorem lw_p17 : lw_okq (⟨"SlotConference", "wouldBreak", "(LSlotConference$Rule;LSlotConference$Slot;I)Z"⟩, 15) := ⟨⟨by decide +kernel, by decide +kernel⟩, List.mem_of_getElem? (i := 18) (by decide +kernel), List.mem_of_getElem? (i := 591) (by decide +kernel), List.mem_of_getElem? (i := 592) (by decide +kernel)⟩
theorem lw_p18 : lw_okq (⟨"SlotConference", "isWindowFull", "(LSlotConference$Rule;ILSlotConference$Slot;)Z"⟩, 15) := ⟨⟨by decide +kernel, by decide +kernel⟩, List.mem_of_getElem? (i := 18) (by decide +kernel), List.mem_of_getElem? (i := 605) (by decide +kernel), List.mem_of_getElem? (i := 606) (by decide +kernel)⟩
theorem lw_p19 : lw_okq (⟨"SlotConference", "give", "(II)V"⟩, 15) := ⟨⟨by decide +kernel, by decide +kernel⟩, List.mem_of_getElem? (i := 18) (by decide +kernel), List.mem_of_getElem? (i := 624) (by decide +kernel), List.mem_of_getElem? (i := 625) (by decide +kernel)⟩
theorem lw_p20 : lw_okq (⟨"SlotConference", "timeToOffer", "(LSlotConference$Request;)I"⟩, 15) := ⟨⟨by decide +kernel, by decide +kernel⟩, List.mem_of_getElem? (i := 18) (by decide +kernel), List.mem_of_getElem? (i := 638) (by decide +kernel), List.mem_of_getElem? (i := 639) (by decide +kernel)⟩
theorem lw_p21 : lw_okq (⟨"SlotConference", "putInQueue", "(I)V"⟩, 15) := ⟨⟨by decide +kernel, by decide +kernel⟩, List.mem_of_getElem? (i := 18) (by decide +kernel), List.mem_of_getElem? (i := 642) (by decide +kernel), List.mem_of_getElem? (i := 643) (by decide +kernel)⟩
theorem lw_p22 : lw_okq (⟨"SlotConference", "decidePair", "(II)I"⟩, 15) := ⟨⟨by decide +kernel, by decide +kernel⟩, List.mem_of_getElem? (i := 18) (by decide +kernel), List.mem_of_getElem? (i := 646) (by decide +kernel), List.mem_of_getElem? (i := 647) (by decide +kernel)⟩
theorem lw_p23 : lw_okq (⟨"SlotConference", "takeLatestSeriesBack", "()V"⟩, 15) := ⟨⟨by decide +kernel, by decide +kernel⟩, List.mem_of_getElem? (i := 18) (by decide +kernel), List.mem_of_getElem? (i := 650) (by decide +kernel), List.mem_of_getElem? (i := 651) (by decide +kernel)⟩
theorem lw_p24 : lw_okq (⟨"SlotConference", "serveQueueAt", "(I)I"⟩, 15) := ⟨⟨by decide +kernel, by decide +kernel⟩, List.mem_of_getElem? (i := 18) (by decide +kernel), List.mem_of_getElem? (i := 670) (by decide +kernel), List.mem_of_getElem? (i := 671) (by decide +kernel)⟩
theorem lw_p25 : lw_okq (⟨"SlotConference", "turnSeriesIntoRights", "()I"⟩, 15) := ⟨⟨by decide +kernel, by decide +kernel⟩, List.mem_of_getElem? (i := 18) (by decide +kernel), List.mem_of_getElem? (i := 732) (by decide +kernel), List.mem_of_getElem? (i := 733) (by decide +kernel)⟩
theorem lw_p26 : lw_okq (⟨"SlotConference", "earnsRight", "(LSlotConference$Series;)Z"⟩, 15) := ⟨⟨by decide +kernel, by decide +kernel⟩, List.mem_of_getElem? (i := 18) (by decide +kernel), List.mem_of_getElem? (i := 736) (by decide +kernel), List.mem_of_getElem? (i := 737) (by decide +kernel)⟩
theorem lw_p27 : lw_okq (⟨"SlotConference", "weeksUsed", "(LSlotConference$Series;)I"⟩, 15) := ⟨⟨by decide +kernel, by decide +kernel⟩, List.mem_of_getElem? (i := 18) (by decide +kernel), List.mem_of_getElem? (i := 743) (by decide +kernel), List.mem_of_getElem? (i := 744) (by decide +kernel)⟩
theorem lw_p28 : lw_okq (⟨"SlotConference", "slotsBetween", "(IIIIII)I"⟩, 15) := ⟨⟨by decide +kernel, by decide +kernel⟩, List.mem_of_getElem? (i := 18) (by decide +kernel), List.mem_of_getElem? (i := 771) (by decide +kernel), List.mem_of_getElem? (i := 772) (by decide +kernel)⟩
theorem lw_p29 : lw_okq (⟨"SlotConference", "seriesThatAreGone", "()I"⟩, 15) := ⟨⟨by decide +kernel, by decide +kernel⟩, List.mem_of_getElem? (i := 18) (by decide +kernel), List.mem_of_getElem? (i := 841) (by decide +kernel), List.mem_of_getElem? (i := 842) (by decide +kernel)⟩
theorem lw_p30 : lw_okq (⟨"SlotConferenceModel", "holds", "(I)Z"⟩, 54) := ⟨⟨by decide +kernel, by decide +kernel⟩, List.mem_of_getElem? (i := 846) (by decide +kernel), List.mem_of_getElem? (i := 1030) (by decide +kernel), List.mem_of_getElem? (i := 1031) (by decide +kernel)⟩
theorem lw_p31 : lw_okq (⟨"SlotConferenceModel", "isRule", "(II)Z"⟩, 54) := ⟨⟨by decide +kernel, by decide +kernel⟩, List.mem_of_getElem? (i := 846) (by decide +kernel), List.mem_of_getElem? (i := 1038) (by decide +kernel), List.mem_of_getElem? (i := 1039) (by decide +kernel)⟩
def lw_privs_2 : List (MethodName × Nat) := [(⟨"SlotConference", "noiseByNight", "(I)I"⟩, 15), (⟨"SlotConference", "wouldBreak", "(LSlotConference$Rule;LSlotConference$Slot;I)Z"⟩, 15), (⟨"SlotConference", "isWindowFull", "(LSlotConference$Rule;ILSlotConference$Slot;)Z"⟩, 15), (⟨"SlotConference", "give", "(II)V"⟩, 15), (⟨"SlotConference", "timeToOffer", "(LSlotConference$Request;)I"⟩, 15), (⟨"SlotConference", "putInQueue", "(I)V"⟩, 15), (⟨"SlotConference", "decidePair", "(II)I"⟩, 15), (⟨"SlotConference", "takeLatestSeriesBack", "()V"⟩, 15), (⟨"SlotConference", "serveQueueAt", "(I)I"⟩, 15), (⟨"SlotConference", "turnSeriesIntoRights", "()I"⟩, 15), (⟨"SlotConference", "earnsRight", "(LSlotConference$Series;)Z"⟩, 15), (⟨"SlotConference", "weeksUsed", "(LSlotConference$Series;)I"⟩, 15), (⟨"SlotConference", "slotsBetween", "(IIIIII)I"⟩, 15), (⟨"SlotConference", "seriesThatAreGone", "()I"⟩, 15), (⟨"SlotConferenceModel", "holds", "(I)Z"⟩, 54), (⟨"SlotConferenceModel", "isRule", "(II)Z"⟩, 54)]
theorem lw_r2 : ∀ q ∈ lw_privs_2, lw_okq q := List.forall_mem_cons.mpr ⟨lw_p16, List.forall_mem_cons.mpr ⟨lw_p17, List.forall_mem_cons.mpr ⟨lw_p18, List.forall_mem_cons.mpr ⟨lw_p19, List.forall_mem_cons.mpr ⟨lw_p20, List.forall_mem_cons.mpr ⟨lw_p21, List.forall_mem_cons.mpr ⟨lw_p22, List.forall_mem_cons.mpr ⟨lw_p23, List.forall_mem_cons.mpr ⟨lw_p24, List.forall_mem_cons.mpr ⟨lw_p25, List.forall_mem_cons.mpr ⟨lw_p26, List.forall_mem_cons.mpr ⟨lw_p27, List.forall_mem_cons.mpr ⟨lw_p28, List.forall_mem_cons.mpr ⟨lw_p29, List.forall_mem_cons.mpr ⟨lw_p30, List.forall_mem_cons.mpr ⟨lw_p31, fun _ h => absurd h List.not_mem_nil⟩⟩⟩⟩⟩⟩⟩⟩⟩⟩⟩⟩⟩⟩⟩⟩
theorem lw_p32 : lw_okq (⟨"SlotConferenceModel", "mayClaim", "(IIIII)Z"⟩, 54) := ⟨⟨by decide +kernel, by decide +kernel⟩, List.mem_of_getElem? (i := 846) (by decide +kernel), List.mem_of_getElem? (i := 1064) (by decide +kernel), List.mem_of_getElem? (i := 1065) (by decide +kernel)⟩
theorem lw_p33 : lw_okq (⟨"SlotConferenceModel", "isRequest", "(I)Z"⟩, 54) := ⟨⟨by decide +kernel, by decide +kernel⟩, List.mem_of_getElem? (i := 846) (by decide +kernel), List.mem_of_getElem? (i := 1072) (by decide +kernel), List.mem_of_getElem? (i := 1073) (by decide +kernel)⟩
theorem lw_p34 : lw_okq (⟨"SlotConferenceModel", "countOf", "(I)I"⟩, 54) := ⟨⟨by decide +kernel, by decide +kernel⟩, List.mem_of_getElem? (i := 846) (by decide +kernel), List.mem_of_getElem? (i := 1080) (by decide +kernel), List.mem_of_getElem? (i := 1081) (by decide +kernel)⟩
theorem lw_p35 : lw_okq (⟨"SlotConferenceModel", "sorts", "()V"⟩, 54) := ⟨⟨by decide +kernel, by decide +kernel⟩, List.mem_of_getElem? (i := 846) (by decide +kernel), List.mem_of_getElem? (i := 1084) (by decide +kernel), List.mem_of_getElem? (i := 1085) (by decide +kernel)⟩
theorem lw_p36 : lw_okq (⟨"SlotConferenceModel", "sortOf", "(I)I"⟩, 54) := ⟨⟨by decide +kernel, by decide +kernel⟩, List.mem_of_getElem? (i := 846) (by decide +kernel), List.mem_of_getElem? (i := 1088) (by decide +kernel), List.mem_of_getElem? (i := 1089) (by decide +kernel)⟩
theorem lw_p37 : lw_okq (⟨"SlotConferenceModel", "isNewAt", "(II)Z"⟩, 54) := ⟨⟨by decide +kernel, by decide +kernel⟩, List.mem_of_getElem? (i := 846) (by decide +kernel), List.mem_of_getElem? (i := 1092) (by decide +kernel), List.mem_of_getElem? (i := 1093) (by decide +kernel)⟩
theorem lw_p38 : lw_okq (⟨"SlotConferenceModel", "orders", "(I)Z"⟩, 54) := ⟨⟨by decide +kernel, by decide +kernel⟩, List.mem_of_getElem? (i := 846) (by decide +kernel), List.mem_of_getElem? (i := 1096) (by decide +kernel), List.mem_of_getElem? (i := 1097) (by decide +kernel)⟩
theorem lw_p39 : lw_okq (⟨"SlotConferenceModel", "firstOf", "(I)I"⟩, 54) := ⟨⟨by decide +kernel, by decide +kernel⟩, List.mem_of_getElem? (i := 846) (by decide +kernel), List.mem_of_getElem? (i := 1100) (by decide +kernel), List.mem_of_getElem? (i := 1101) (by decide +kernel)⟩
theorem lw_p40 : lw_okq (⟨"SlotConferenceModel", "isOrdered", "(I)Z"⟩, 54) := ⟨⟨by decide +kernel, by decide +kernel⟩, List.mem_of_getElem? (i := 846) (by decide +kernel), List.mem_of_getElem? (i := 1104) (by decide +kernel), List.mem_of_getElem? (i := 1105) (by decide +kernel)⟩
theorem lw_p41 : lw_okq (⟨"SlotConferenceModel", "isAhead", "(II)Z"⟩, 54) := ⟨⟨by decide +kernel, by decide +kernel⟩, List.mem_of_getElem? (i := 846) (by decide +kernel), List.mem_of_getElem? (i := 1108) (by decide +kernel), List.mem_of_getElem? (i := 1109) (by decide +kernel)⟩
theorem lw_p42 : lw_okq (⟨"SlotConferenceModel", "weeks", "(I)I"⟩, 54) := ⟨⟨by decide +kernel, by decide +kernel⟩, List.mem_of_getElem? (i := 846) (by decide +kernel), List.mem_of_getElem? (i := 1112) (by decide +kernel), List.mem_of_getElem? (i := 1113) (by decide +kernel)⟩
theorem lw_p43 : lw_okq (⟨"SlotConferenceModel", "looksAt", "(I)V"⟩, 54) := ⟨⟨by decide +kernel, by decide +kernel⟩, List.mem_of_getElem? (i := 846) (by decide +kernel), List.mem_of_getElem? (i := 1116) (by decide +kernel), List.mem_of_getElem? (i := 1117) (by decide +kernel)⟩
theorem lw_p44 : lw_okq (⟨"SlotConferenceModel", "looksAtBoth", "(II)V"⟩, 54) := ⟨⟨by decide +kernel, by decide +kernel⟩, List.mem_of_getElem? (i := 846) (by decide +kernel), List.mem_of_getElem? (i := 1120) (by decide +kernel), List.mem_of_getElem? (i := 1121) (by decide +kernel)⟩
theorem lw_p45 : lw_okq (⟨"SlotConferenceModel", "reason", "(II)I"⟩, 54) := ⟨⟨by decide +kernel, by decide +kernel⟩, List.mem_of_getElem? (i := 846) (by decide +kernel), List.mem_of_getElem? (i := 1124) (by decide +kernel), List.mem_of_getElem? (i := 1125) (by decide +kernel)⟩
theorem lw_p46 : lw_okq (⟨"SlotConferenceModel", "noiseOf", "(I)I"⟩, 54) := ⟨⟨by decide +kernel, by decide +kernel⟩, List.mem_of_getElem? (i := 846) (by decide +kernel), List.mem_of_getElem? (i := 1131) (by decide +kernel), List.mem_of_getElem? (i := 1132) (by decide +kernel)⟩
theorem lw_p47 : lw_okq (⟨"SlotConferenceModel", "breaks", "(III)Z"⟩, 54) := ⟨⟨by decide +kernel, by decide +kernel⟩, List.mem_of_getElem? (i := 846) (by decide +kernel), List.mem_of_getElem? (i := 1135) (by decide +kernel), List.mem_of_getElem? (i := 1136) (by decide +kernel)⟩
def lw_privs_3 : List (MethodName × Nat) := [(⟨"SlotConferenceModel", "mayClaim", "(IIIII)Z"⟩, 54), (⟨"SlotConferenceModel", "isRequest", "(I)Z"⟩, 54), (⟨"SlotConferenceModel", "countOf", "(I)I"⟩, 54), (⟨"SlotConferenceModel", "sorts", "()V"⟩, 54), (⟨"SlotConferenceModel", "sortOf", "(I)I"⟩, 54), (⟨"SlotConferenceModel", "isNewAt", "(II)Z"⟩, 54), (⟨"SlotConferenceModel", "orders", "(I)Z"⟩, 54), (⟨"SlotConferenceModel", "firstOf", "(I)I"⟩, 54), (⟨"SlotConferenceModel", "isOrdered", "(I)Z"⟩, 54), (⟨"SlotConferenceModel", "isAhead", "(II)Z"⟩, 54), (⟨"SlotConferenceModel", "weeks", "(I)I"⟩, 54), (⟨"SlotConferenceModel", "looksAt", "(I)V"⟩, 54), (⟨"SlotConferenceModel", "looksAtBoth", "(II)V"⟩, 54), (⟨"SlotConferenceModel", "reason", "(II)I"⟩, 54), (⟨"SlotConferenceModel", "noiseOf", "(I)I"⟩, 54), (⟨"SlotConferenceModel", "breaks", "(III)Z"⟩, 54)]
theorem lw_r3 : ∀ q ∈ lw_privs_3, lw_okq q := List.forall_mem_cons.mpr ⟨lw_p32, List.forall_mem_cons.mpr ⟨lw_p33, List.forall_mem_cons.mpr ⟨lw_p34, List.forall_mem_cons.mpr ⟨lw_p35, List.forall_mem_cons.mpr ⟨lw_p36, List.forall_mem_cons.mpr ⟨lw_p37, List.forall_mem_cons.mpr ⟨lw_p38, List.forall_mem_cons.mpr ⟨lw_p39, List.forall_mem_cons.mpr ⟨lw_p40, List.forall_mem_cons.mpr ⟨lw_p41, List.forall_mem_cons.mpr ⟨lw_p42, List.forall_mem_cons.mpr ⟨lw_p43, List.forall_mem_cons.mpr ⟨lw_p44, List.forall_mem_cons.mpr ⟨lw_p45, List.forall_mem_cons.mpr ⟨lw_p46, List.forall_mem_cons.mpr ⟨lw_p47, fun _ h => absurd h List.not_mem_nil⟩⟩⟩⟩⟩⟩⟩⟩⟩⟩⟩⟩⟩⟩⟩⟩
theorem lw_p48 : lw_okq (⟨"SlotConferenceModel", "loadOf", "(IIIIII)I"⟩, 54) := ⟨⟨by decide +kernel, by decide +kernel⟩, List.mem_of_getElem? (i := 846) (by decide +kernel), List.mem_of_getElem? (i := 1139) (by decide +kernel), List.mem_of_getElem? (i := 1140) (by decide +kernel)⟩
theorem lw_p49 : lw_okq (⟨"SlotConferenceModel", "isThere", "(IIII)Z"⟩, 54) := ⟨⟨by decide +kernel, by decide +kernel⟩, List.mem_of_getElem? (i := 846) (by decide +kernel), List.mem_of_getElem? (i := 1143) (by decide +kernel), List.mem_of_getElem? (i := 1144) (by decide +kernel)⟩
theorem lw_p50 : lw_okq (⟨"SlotConferenceModel", "gives", "(II)V"⟩, 54) := ⟨⟨by decide +kernel, by decide +kernel⟩, List.mem_of_getElem? (i := 846) (by decide +kernel), List.mem_of_getElem? (i := 1147) (by decide +kernel), List.mem_of_getElem? (i := 1148) (by decide +kernel)⟩
theorem lw_p51 : lw_okq (⟨"SlotConferenceModel", "waits", "(II)V"⟩, 54) := ⟨⟨by decide +kernel, by decide +kernel⟩, List.mem_of_getElem? (i := 846) (by decide +kernel), List.mem_of_getElem? (i := 1151) (by decide +kernel), List.mem_of_getElem? (i := 1152) (by decide +kernel)⟩
theorem lw_p52 : lw_okq (⟨"SlotConferenceModel", "isSeries", "(I)Z"⟩, 54) := ⟨⟨by decide +kernel, by decide +kernel⟩, List.mem_of_getElem? (i := 846) (by decide +kernel), List.mem_of_getElem? (i := 1163) (by decide +kernel), List.mem_of_getElem? (i := 1164) (by decide +kernel)⟩
theorem lw_p53 : lw_okq (⟨"SlotConferenceModel", "nextAt", "(II)I"⟩, 54) := ⟨⟨by decide +kernel, by decide +kernel⟩, List.mem_of_getElem? (i := 846) (by decide +kernel), List.mem_of_getElem? (i := 1167) (by decide +kernel), List.mem_of_getElem? (i := 1168) (by decide +kernel)⟩
theorem lw_p54 : lw_okq (⟨"SlotConferenceModel", "isWaiting", "(I)Z"⟩, 54) := ⟨⟨by decide +kernel, by decide +kernel⟩, List.mem_of_getElem? (i := 846) (by decide +kernel), List.mem_of_getElem? (i := 1171) (by decide +kernel), List.mem_of_getElem? (i := 1172) (by decide +kernel)⟩
theorem lw_p55 : lw_okq (⟨"SlotConferenceModel", "isEarned", "(I)Z"⟩, 54) := ⟨⟨by decide +kernel, by decide +kernel⟩, List.mem_of_getElem? (i := 846) (by decide +kernel), List.mem_of_getElem? (i := 1195) (by decide +kernel), List.mem_of_getElem? (i := 1196) (by decide +kernel)⟩
theorem lw_p56 : lw_okq (⟨"SlotConferenceModel", "usedOf", "(I)I"⟩, 54) := ⟨⟨by decide +kernel, by decide +kernel⟩, List.mem_of_getElem? (i := 846) (by decide +kernel), List.mem_of_getElem? (i := 1199) (by decide +kernel), List.mem_of_getElem? (i := 1200) (by decide +kernel)⟩
def lw_privs_4 : List (MethodName × Nat) := [(⟨"SlotConferenceModel", "loadOf", "(IIIIII)I"⟩, 54), (⟨"SlotConferenceModel", "isThere", "(IIII)Z"⟩, 54), (⟨"SlotConferenceModel", "gives", "(II)V"⟩, 54), (⟨"SlotConferenceModel", "waits", "(II)V"⟩, 54), (⟨"SlotConferenceModel", "isSeries", "(I)Z"⟩, 54), (⟨"SlotConferenceModel", "nextAt", "(II)I"⟩, 54), (⟨"SlotConferenceModel", "isWaiting", "(I)Z"⟩, 54), (⟨"SlotConferenceModel", "isEarned", "(I)Z"⟩, 54), (⟨"SlotConferenceModel", "usedOf", "(I)I"⟩, 54)]
theorem lw_r4 : ∀ q ∈ lw_privs_4, lw_okq q := List.forall_mem_cons.mpr ⟨lw_p48, List.forall_mem_cons.mpr ⟨lw_p49, List.forall_mem_cons.mpr ⟨lw_p50, List.forall_mem_cons.mpr ⟨lw_p51, List.forall_mem_cons.mpr ⟨lw_p52, List.forall_mem_cons.mpr ⟨lw_p53, List.forall_mem_cons.mpr ⟨lw_p54, List.forall_mem_cons.mpr ⟨lw_p55, List.forall_mem_cons.mpr ⟨lw_p56, fun _ h => absurd h List.not_mem_nil⟩⟩⟩⟩⟩⟩⟩⟩⟩
def lw_privs : List (MethodName × Nat) := lw_privs_1 ++ (lw_privs_2 ++ (lw_privs_3 ++ (lw_privs_4)))
def lw_tbl : List Cond := k2_sels lw_privs ++ tables_1
theorem lw_privs_ok : ∀ q ∈ lw_privs, lw_okq q := by
  show ∀ q ∈ lw_privs_1 ++ (lw_privs_2 ++ (lw_privs_3 ++ (lw_privs_4))), lw_okq q
  exact List.forall_mem_append.mpr ⟨lw_r1, List.forall_mem_append.mpr ⟨lw_r2, List.forall_mem_append.mpr ⟨lw_r3, lw_r4⟩⟩⟩
-- ===== end of PART A; then your names; then what follows =====
/-! ===== BEGIN words of one list among another's, by their places ===== -/
theorem goodIn_r {big : List Cond} (ws : List Cond) (ps : List Nat) (hp : ws = ps.filterMap (fun i => big[i]?)) (h : ws.all goodWord = true) : GoodIn big ws := by
  intro w hw
  have h1 := List.all_eq_true.mp h w hw
  rw [hp] at hw
  obtain ⟨i, -, hi⟩ := List.mem_filterMap.mp hw
  have hm : w ∈ big := by first | exact List.mem_of_getElem? hi | exact List.getElem?_mem hi
  exact ⟨hm, good_of_word h1⟩
theorem goodIn_app {big a b : List Cond} (ha : GoodIn big a) (hb : GoodIn big b) : GoodIn big (a ++ b) := fun w h => (List.mem_append.mp h).elim (ha w) (hb w)
theorem goodIn_ca {big a b : List Cond} {c : Cond} (ha : GoodIn big (c :: a)) (hb : GoodIn big b) : GoodIn big (c :: (a ++ b)) := fun w h => (List.mem_cons.mp h).elim (fun e => ha w (List.mem_cons.mpr (Or.inl e))) (fun h => (List.mem_append.mp h).elim (fun h => ha w (List.mem_cons.mpr (Or.inr h))) (hb w))
theorem goodIn_sub {big ws : List Cond} (hm : ∀ w ∈ ws, w ∈ big) (h : ws.all goodWord = true) : GoodIn big ws := fun w hw => ⟨hm w hw, good_of_word (List.all_eq_true.mp h w hw)⟩
/-! ===== END ===== -/

/-! ===== BEGIN exceptions that leave a method, and their catching by the caller (launches without stack traces) ===== -/
section VXA
/-! The laws vx_back, vx_callV, vx_callS, vx_callSW, vx_throw0, vx_throwS follow proofs of the library, with one case more: JvmDerived/Free/Laws.lean (Back.of_free), Shelf42/LK1.lean (callV, callS), Shelf/KitTraced.lean (throwNew0V, throwNewS). -/
/-- where a method has thrown q: the class by its name, the cell, what was written, the world -/
def vx_T (XC : String → State → State → Prop) (st : State) (q : Addr) (t : State) (mc ms : Nat) (free : Addr → Prop) : Prop :=
  ∃ (E : String) (ce : Cell) (L : List Loc), XC E st t ∧ t.heap[q]? = some ce ∧ ce.vm = .none ∧ st.vm.findClass E = some ce.cls ∧ st.WarmedH t.vm ∧ st.sameButNew ({ t with vm := st.vm } : State) L mc ms ∧ ∀ z ∈ L, free z.base
def vx_Q (Qc : Array Value → State → Outcome → State → Prop) (XC : String → State → State → Prop) (mc ms : Nat) (free : Addr → Prop) : Array Value → State → Outcome → State → Prop := fun a st o t =>
  (Qc a st o t ∧ ∃ L, FrameEnd st o t L mc ms ∧ ∀ q ∈ L, free q.base) ∨ ∃ q, o = .threw q ∧ vx_T XC st q t mc ms free
/-- a callee that returns or throws -/
def vx_Met (l : Launch) (y : MethodName) (ws : List Cond) (rm : Room) (Pc : Array Value → State → Prop) (Qc : Array Value → State → Outcome → State → Prop) (XC : String → State → State → Prop) (mc ms : Nat) (free : Addr → Prop) : Prop :=
  MetFree l y (headSpec ws rm) Pc (fun _ _ _ _ _ => True) (vx_Q Qc XC mc ms free)
def vx_Post (XC : String → State → State → Prop) (mc ms : Nat) (free : Addr → Prop) : Pt → Array Value → Addr → Pt → Prop := fun A a q B =>
  ∃ (g : JFrame) (mk : MethodId) (t : State) (L : List Loc) (E : String) (ce : Cell), B.U.heap = t.heap ∧ B.U.vm = t.vm ∧ XC E (A.U.calling g mk a) t ∧ t.heap[q]? = some ce ∧ ce.vm = .none ∧ A.U.vm.findClass E = some ce.cls ∧ B.locs = A.locs ++ L ∧ (∀ z ∈ L, free z.base) ∧ B.cells = A.cells + mc ∧ B.slots = A.slots + ms
def vx_Back (l : Launch) (R : Room) (p : Program) (e : Env) (below : List Frame) (s : State) (sargs : Array Value) (y : MethodName) (len W9 : Nat)
    (Pre : Pt → Array Value → Prop) (Post : Pt → Array Value → Option Value → Pt → Prop) (PostX : Pt → Array Value → Addr → Pt → Prop) : Prop :=
  ∀ (m : MethodId) (meth : Method) (c : Code) (A : Pt) (g : JFrame) (ig : Instr) (mk : MethodId) (a : Array Value),
    Stand p l e R s m sargs below meth c A.U A.locs A.cells A.slots → g.method = m → g.locals.size = c.maxLocals → decode c.code g.pc = .ok (ig, len) →
    2 * g.monitorRoom + (g.stack.map fun v => v.category).sum ≤ W9 → A.U.methodNamed? y = some mk → Pre A a →
    (∃ (v : Option Value) (B : Pt), Stand p l e R s m sargs below meth c B.U B.locs B.cells B.slots ∧ Post A a v B ∧
      Steps p.tables e below (doInvoke e (A.U.setTop g) [] mk a).1 (B.U.setTop { g with pc := g.pc + len, stack := v.toList ++ g.stack })) ∨
    (∃ (q : Addr) (B : Pt), Stand p l e R s m sargs below meth c B.U B.locs B.cells B.slots ∧ PostX A a q B ∧
      Steps p.tables e below (doInvoke e (A.U.setTop g) [] mk a).1 ((B.U.setTop g).pushFrame (.throwing q)))
section Payer
variable {l : Launch} {R : Room} {p : Program} {e : Env} {below : List Frame} {s : State} {sargs : Array Value} {y : MethodName} {len W9 : Nat}
theorem vx_back {ws : List Cond} {rm : Room} {Pc : Array Value → State → Prop} {Qc : Array Value → State → Outcome → State → Prop} {XC : String → State → State → Prop} {mc ms : Nat} {free : Addr → Prop} {bytes : ByteArray} {maxL : Nat} {ret : Option FieldType}
    (hM : vx_Met l y ws rm Pc Qc XC mc ms free) (hblind : FrameBlind Pc) (hrc : rm.cells = mc) (hrs : rm.slots = ms)
    (hframes : rm.frames + 1 ≤ R.frames) (hlocals : W9 + (maxL + 11) + rm.locals ≤ R.locals)
    (hws : ∀ w ∈ ws, ∀ a' U, s.WarmedH U.vm → w.before a' U = true) (hcode : Cond.code y bytes maxL ret ∈ ws) (hinit : ∀ a' U, s.WarmedH U.vm → (Cond.initialized y.cls).before a' U = true) :
    vx_Back l R p e below s sargs y len W9 (PreOf R mc ms Pc) (PostOf Qc mc ms free) (vx_Post XC mc ms free) := by
  intro m meth c A g ig mk a X hg hsize hdg hW hn hp
  have h1 : (headSpec ws rm).pre.before a A.U = true := atoms_intro fun w hw => hws w hw _ _ X.warmed
  have h2 : (Cond.code y bytes maxL ret).before a A.U = true := hws _ hcode _ _ X.warmed
  have h3 : (Cond.initialized y.cls).before a A.U = true := hinit _ _ X.warmed
  have h4 : A.cells + (headSpec ws rm).room.cells ≤ R.cells := by rw [show (headSpec ws rm).room.cells = mc from hrc]; exact hp.1
  have h5 : A.slots + (headSpec ws rm).room.slots ≤ R.slots := by rw [show (headSpec ws rm).room.slots = ms from hrs]; exact hp.2.1
  have hPc : Pc a (A.U.calling g mk a) := hblind _ _ _ _ hp.2.2
  obtain ⟨U, Ls, c0, s0⟩ := A
  dsimp only [Pt.U, Pt.locs, Pt.cells, Pt.slots] at h1 h2 h3 h4 h5 X hn hPc ⊢
  obtain ⟨methY, cY, hmY, hcY, -, hlY, -, -, -, -⟩ := Cond.code_spec hn h2
  obtain ⟨kY, hkY, -⟩ := className_of_methodNamed hn
  have hinitY : kY.init = .initialized := Cond.initialized_spec (findClass_of_methodNamed hn) hkY h3
  have h : At U g.method c below := by rw [hg]; exact X.here
  have hlocals9 : W9 + (maxL + 11) + (headSpec ws rm).room.locals ≤ R.locals := hlocals
  have happ : (headSpec ws rm).appliesLoose y e.platform (U.calling g mk a) = true :=
    Spec.appliesLoose_calling (g := g) h hdg hn hkY hinitY
      (X.room_calling (g := g) (R' := (headSpec ws rm).room) hsize hmY hcY hframes (by rw [hlY]; omega) h4 h5) h1
  obtain ⟨mid, hmid⟩ := h.above
  have hfr : (U.setTop g).frames = (.java g :: mid) ++ below := by rw [State.frames_setTop' g h.top, hmid]; rfl
  obtain ⟨o, s₂, hsteps, -, hend, hq⟩ := Steps.callFree hM p X.admits X.cas X.clock (acts := []) hfr happ hPc trivial
  have hq' : vx_Q Qc XC mc ms free a (U.calling g mk a) o s₂ := hq
  rw [State.frames_setTop' g h.top] at hend
  obtain ⟨g₀, hg0⟩ := Option.isSome_iff_exists.mp h.top
  obtain ⟨r, hr⟩ := State.topJava?_eq_some.mp hg0
  have hr' : (({ U with heap := s₂.heap, slotsUsed := s₂.slotsUsed } : State).setVm s₂.vm).frames = .java g₀ :: r := hr
  rcases hq' with ⟨hqc, L, hfe, hL⟩ | ⟨q, rfl, E, ce, L, hx, hce, hcv, hcl, hW₂, hsm, hL⟩
  · obtain ⟨⟨v, rfl⟩, hW₂, e2, q2, q3, q4, q5, q6⟩ := id hfe
    have e3 : s₂ = ({ (U.calling g mk a).setFrames s₂.frames with heap := s₂.heap, slotsUsed := s₂.slotsUsed } : State).setVm s₂.vm := by
      have : s₂ = ({ s₂ with vm := (U.calling g mk a).vm } : State).setVm s₂.vm := rfl
      rw [e2] at this
      exact this
    obtain ⟨c₂, i₂, len₂, hc₂, hd₂, hf₂⟩ := hend
    have hW' : U.WarmedH s₂.vm := hW₂
    have hcc : c₂ = c := by
      have h1 : s₂.code? g.method = U.code? g.method := by
        rw [State.code?_eq, State.code?_eq, hW'.alike.method?]
      exact Option.some.inj (hc₂.symm.trans (h1.trans h.code))
    subst hcc
    have hlen : len₂ = len := by rw [hdg] at hd₂; cases hd₂; rfl
    subst hlen
    have hs₂ : s₂ = (({ U with heap := s₂.heap, slotsUsed := s₂.slotsUsed } : State).setVm s₂.vm).setTop { g with pc := g.pc + len₂, stack := v.toList ++ g.stack } := by
      refine e3.trans ?_
      rw [hf₂, State.calling_eq h.top, State.setFrames_setFrames, State.setTop_of_frames _ hr', hr]
      rfl
    have hsame : U.sameButNew ({ U with heap := s₂.heap, slotsUsed := s₂.slotsUsed } : State) L mc ms := by
      refine ⟨?_, q2, q3, q4, q5, q6⟩
      obtain ⟨t, ht, -⟩ := State.frames_cons hr
      show ({ U with heap := s₂.heap, slotsUsed := s₂.slotsUsed } : State) = { U.setFrames U.frames with heap := s₂.heap, slotsUsed := s₂.slotsUsed }
      rw [State.setFrames_self ht]
    subst hg
    refine Or.inl ⟨v, ⟨(({ U with heap := s₂.heap, slotsUsed := s₂.slotsUsed } : State).setVm s₂.vm), Ls ++ L, c0 + mc, s0 + ms⟩,
      ⟨X.admits, X.cas, X.clock, X.frames, X.room, X.hears, X.method, X.code, (X.here.setHeapUsed s₂.heap s₂.slotsUsed).setVm hW'.alike, X.tail, State.WarmedH.trans X.warmed hW', X.limits, X.bytes, X.same.trans (hsame.setVm s.vm)⟩,
      ⟨g, mk, s₂, L, rfl, rfl, hqc, rfl, hL, rfl, rfl⟩, ?_⟩
    show Steps p.tables e below _ ((({ U with heap := s₂.heap, slotsUsed := s₂.slotsUsed } : State).setVm s₂.vm).setTop { g with pc := g.pc + len₂, stack := v.toList ++ g.stack })
    rw [← hs₂]
    exact hsteps
  · obtain ⟨e2, q2, q3, q4, q5, q6⟩ := id hsm
    have e3 : s₂ = ({ (U.calling g mk a).setFrames s₂.frames with heap := s₂.heap, slotsUsed := s₂.slotsUsed } : State).setVm s₂.vm := by
      have : s₂ = ({ s₂ with vm := (U.calling g mk a).vm } : State).setVm s₂.vm := rfl
      rw [e2] at this
      exact this
    have hf₂ : s₂.frames = .throwing q :: .java g :: U.frames.tail := hend
    have hW' : U.WarmedH s₂.vm := hW₂
    have hs₂ : s₂ = ((({ U with heap := s₂.heap, slotsUsed := s₂.slotsUsed } : State).setVm s₂.vm).setTop g).pushFrame (.throwing q) := by
      refine e3.trans ?_
      rw [hf₂, State.calling_eq h.top, State.setFrames_setFrames, State.pushFrame, State.frames_setTop _ hr', State.setTop_of_frames _ hr', State.setFrames_setFrames, hr]
      rfl
    have hsame : U.sameButNew ({ U with heap := s₂.heap, slotsUsed := s₂.slotsUsed } : State) L mc ms := by
      refine ⟨?_, q2, q3, q4, q5, q6⟩
      obtain ⟨t, ht, -⟩ := State.frames_cons hr
      show ({ U with heap := s₂.heap, slotsUsed := s₂.slotsUsed } : State) = { U.setFrames U.frames with heap := s₂.heap, slotsUsed := s₂.slotsUsed }
      rw [State.setFrames_self ht]
    subst hg
    refine Or.inr ⟨q, ⟨(({ U with heap := s₂.heap, slotsUsed := s₂.slotsUsed } : State).setVm s₂.vm), Ls ++ L, c0 + mc, s0 + ms⟩,
      ⟨X.admits, X.cas, X.clock, X.frames, X.room, X.hears, X.method, X.code, (X.here.setHeapUsed s₂.heap s₂.slotsUsed).setVm hW'.alike, X.tail, State.WarmedH.trans X.warmed hW', X.limits, X.bytes, X.same.trans (hsame.setVm s.vm)⟩,
      ⟨g, mk, s₂, L, E, ce, rfl, rfl, hx, hce, hcv, hcl, rfl, hL, rfl, rfl⟩, ?_⟩
    show Steps p.tables e below _ (((({ U with heap := s₂.heap, slotsUsed := s₂.slotsUsed } : State).setVm s₂.vm).setTop g).pushFrame (.throwing q))
    rw [← hs₂]
    exact hsteps
end Payer
section Calls
variable {p : Program} {l : Launch} {e : Env} {R : Room} {s : State} {m : MethodId} {args : Array Value} {below : List Frame} {meth : Method} {c : Code} {T : State} {locs : List Loc} {cells slots : Nat}
theorem vx_callV (X : Stand p l e R s m args below meth c T locs cells slots) (hexec : p.tables.exec = Jvm.exec) {own C : String} {index : Nat} {y : MethodName} {bytes : ByteArray} {maxL : Nat} {ret : Option FieldType}
    (hown : s.vm.findClass own = some m.cls) (hlink : (Cond.methodLink own index y).before args s = true) (hinst : (Cond.instanceMethod y).before args s = true) (hsel : (Cond.selects C y y).before args s = true)
    (hcode : (Cond.code y bytes maxL ret).before args s = true) (hy : y.cls ≠ "java/lang/invoke/MethodHandle" ∧ y.cls ≠ "java/lang/invoke/VarHandle")
    {W9 : Nat} {Pre : Pt → Array Value → Prop} {Post : Pt → Array Value → Option Value → Pt → Prop} {PostX : Pt → Array Value → Addr → Pt → Prop} (hK : vx_Back l R p e below s args y 3 W9 Pre Post PostX)
    {b : Addr} {cellB : Cell} (hcell : T.heap[b]? = some cellB) (hobj : cellB.vm.isStatics = false) (hcls : s.vm.findClass C = some cellB.cls)
    {g : JFrame} (hg : g.method = m) (hsize : g.locals.size = c.maxLocals) {argsL rest : List Value} (hlen : ∀ sig, parseMethodDescriptor y.desc = some sig → argsL.length = sig.parameters.length)
    (hstack : g.stack = argsL.reverse ++ .ref b :: rest) (hW : 2 * g.monitorRoom + (rest.map fun v => v.category).sum ≤ W9) (hdg : decode c.code g.pc = .ok (.invokevirtual index, 3))
    (hpre : ∀ vm₁, s.WarmedH vm₁ → Pre ⟨T.setVm vm₁, locs, cells, slots⟩ (Value.ref b :: argsL).toArray) :
    (∃ (v : Option Value) (vm₁ : Vm) (B : Pt), s.WarmedH vm₁ ∧ Stand p l e R s m args below meth c B.U B.locs B.cells B.slots ∧ Post ⟨T.setVm vm₁, locs, cells, slots⟩ (Value.ref b :: argsL).toArray v B ∧
      ∀ target, Steps p.tables e below (B.U.setTop { g with pc := g.pc + 3, stack := v.toList ++ rest }) target → Steps p.tables e below (T.setTop g) target) ∨
    (∃ (q : Addr) (vm₁ : Vm) (B : Pt), s.WarmedH vm₁ ∧ Stand p l e R s m args below meth c B.U B.locs B.cells B.slots ∧ PostX ⟨T.setVm vm₁, locs, cells, slots⟩ (Value.ref b :: argsL).toArray q B ∧
      Steps p.tables e below (T.setTop g) ((B.U.setTop { g with stack := rest }).pushFrame (.throwing q))) := by
  obtain ⟨mk, methM, hnamed, hmethM, hstM, habM⟩ := Cond.instanceMethod_spec hinst
  obtain ⟨methM', cM, hmethM', -, -, -, -, -, -, hsigM⟩ := Cond.code_spec hnamed hcode
  cases hmethM.symm.trans hmethM'
  obtain ⟨c2, r2, m2, q1, q2, q3, q4, kP, hkP, hkPi⟩ := Cond.selects_spec hsel
  cases hcls.symm.trans q1
  cases (State.methodFound?_of_named hnamed hy).symm.trans q2
  cases hnamed.symm.trans q3
  have hselP : selectMethod e.platform s.vm cellB.cls mk = .method mk := by rw [Launch.admits_selectMethod X.admits]; exact q4
  obtain ⟨vm₁, X₁, hstep₁⟩ := X.invokevirtual hexec hown hlink hnamed hmethM hstM hkP hkPi hy (a := b) (cell := cellB) hcell
    (fun z h => by rw [h] at hobj; cases hobj) hselP hmethM habM hkP hkPi (g := g) hg (argsL := argsL) (rest := rest) (hlen _ hsigM) hstack hdg
  rcases hK m meth c ⟨T.setVm vm₁, locs, cells, slots⟩ { g with stack := rest } (.invokevirtual index) mk (Value.ref b :: argsL).toArray X₁ hg hsize hdg hW (X₁.named hnamed) (hpre vm₁ X₁.warmed) with ⟨v, B, X', hpost, hsteps⟩ | ⟨q, B, X', hpost, hsteps⟩
  · exact Or.inl ⟨v, vm₁, B, X₁.warmed, X', hpost, fun target h => hstep₁ _ fun acts => by rw [doInvoke_state]; exact hsteps.trans h⟩
  · exact Or.inr ⟨q, vm₁, B, X₁.warmed, X', hpost, hstep₁ _ fun acts => by rw [doInvoke_state]; exact hsteps⟩
theorem vx_callS (X : Stand p l e R s m args below meth c T locs cells slots) (hexec : p.tables.exec = Jvm.exec) {own : String} {index : Nat} {y : MethodName} {bytes : ByteArray} {maxL : Nat} {ret : Option FieldType}
    (hown : s.vm.findClass own = some m.cls) (hlink : (Cond.methodLink own index y).before args s = true) (hstat : (Cond.static y).before args s = true) (hinit : (Cond.initialized y.cls).before args s = true)
    (hcode : (Cond.code y bytes maxL ret).before args s = true) (hy : y.cls ≠ "java/lang/invoke/MethodHandle" ∧ y.cls ≠ "java/lang/invoke/VarHandle")
    {W9 : Nat} {Pre : Pt → Array Value → Prop} {Post : Pt → Array Value → Option Value → Pt → Prop} {PostX : Pt → Array Value → Addr → Pt → Prop} (hK : vx_Back l R p e below s args y 3 W9 Pre Post PostX)
    {g : JFrame} (hg : g.method = m) (hsize : g.locals.size = c.maxLocals) {argsL rest : List Value} (hlen : ∀ sig, parseMethodDescriptor y.desc = some sig → argsL.length = sig.parameters.length)
    (hstack : g.stack = argsL.reverse ++ rest) (hW : 2 * g.monitorRoom + (rest.map fun v => v.category).sum ≤ W9) (hdg : decode c.code g.pc = .ok (.invokestatic index, 3))
    (hpre : ∀ vm₁, s.WarmedH vm₁ → Pre ⟨T.setVm vm₁, locs, cells, slots⟩ argsL.toArray) :
    (∃ (v : Option Value) (vm₁ : Vm) (B : Pt), s.WarmedH vm₁ ∧ Stand p l e R s m args below meth c B.U B.locs B.cells B.slots ∧ Post ⟨T.setVm vm₁, locs, cells, slots⟩ argsL.toArray v B ∧
      ∀ target, Steps p.tables e below (B.U.setTop { g with pc := g.pc + 3, stack := v.toList ++ rest }) target → Steps p.tables e below (T.setTop g) target) ∨
    (∃ (q : Addr) (vm₁ : Vm) (B : Pt), s.WarmedH vm₁ ∧ Stand p l e R s m args below meth c B.U B.locs B.cells B.slots ∧ PostX ⟨T.setVm vm₁, locs, cells, slots⟩ argsL.toArray q B ∧
      Steps p.tables e below (T.setTop g) ((B.U.setTop { g with stack := rest }).pushFrame (.throwing q))) := by
  obtain ⟨mk, hnamed⟩ := Cond.code_named hcode
  obtain ⟨methM, cM, hmethM, -, -, -, -, -, -, hsigM⟩ := Cond.code_spec hnamed hcode
  have hstatic : methM.isStatic = true := Cond.static_spec hnamed hmethM hstat
  obtain ⟨kP, hkP, -⟩ := className_of_methodNamed hnamed
  have hinitP : kP.init = .initialized := Cond.initialized_spec (findClass_of_methodNamed hnamed) hkP hinit
  obtain ⟨vm₁, X₁, hstep₁⟩ := X.invokestatic hexec hown hlink hnamed hmethM hstatic hkP hinitP hy (g := g) hg (argsL := argsL) (rest := rest) (hlen _ hsigM) hstack hdg
  rcases hK m meth c ⟨T.setVm vm₁, locs, cells, slots⟩ { g with stack := rest } (.invokestatic index) mk argsL.toArray X₁ hg hsize hdg hW (X₁.named hnamed) (hpre vm₁ X₁.warmed) with ⟨v, B, X', hpost, hsteps⟩ | ⟨q, B, X', hpost, hsteps⟩
  · exact Or.inl ⟨v, vm₁, B, X₁.warmed, X', hpost, fun target h => hstep₁ _ fun acts => by rw [doInvoke_state]; exact hsteps.trans h⟩
  · exact Or.inr ⟨q, vm₁, B, X₁.warmed, X', hpost, hstep₁ _ fun acts => by rw [doInvoke_state]; exact hsteps⟩
end Calls
theorem vx_cls {s : State} {T : State} {vm₁ : Vm} {E : String} {k : ClassId} (hW : s.WarmedH vm₁) (h : (T.setVm vm₁).vm.findClass E = some k) : s.vm.findClass E = some k := by
  have h1 : vm₁.findClass E = some k := h
  rw [hW.alike.findClass] at h1
  exact h1
/-- the method's frame g, with q thrown over it -/
def vx_W (p : Program) (l : Launch) (e : Env) (R : Room) (s : State) (m : MethodId) (args : Array Value) (below : List Frame) (meth : Method) (c : Code) (H : Heap) (locs : List Loc) (cells slots : Nat) (Q : State → Prop) (g : JFrame) (q : Addr) : Prop :=
  ∀ T : State, T.heap = H → Stand p l e R s m args below meth c T locs cells slots → ∃ t, Steps p.tables e below ((T.setTop g).pushFrame (.throwing q)) t ∧ Q t
def vx_Run (p : Program) (l : Launch) (e : Env) (R : Room) (s : State) (m : MethodId) (args : Array Value) (below : List Frame) (meth : Method) (c : Code) (H : Heap) (locs : List Loc) (cells slots mc ms : Nat) (g : JFrame) (rest : List Value) (Qa : State → Outcome → State → Prop) (XC : String → State → State → Prop) (free : Addr → Prop) : Prop :=
  ∀ T : State, T.heap = H → Stand p l e R s m args below meth c T locs cells slots →
    (∃ (v : Option Value) (st₀ t T' : State) (L : List Loc), st₀.heap = H ∧ Stand p l e R s m args below meth c T' (locs ++ L) (cells + mc) (slots + ms) ∧ (∀ q ∈ L, free q.base) ∧ T'.heap = t.heap ∧ T'.vm = t.vm ∧ Qa st₀ (.returned v) t ∧
      Goes p e below T g T' { g with pc := g.pc + 3, stack := v.toList ++ rest }) ∨
    (∃ (q : Addr) (st₀ t T' : State) (L : List Loc) (E : String) (ce : Cell), st₀.heap = H ∧ Stand p l e R s m args below meth c T' (locs ++ L) (cells + mc) (slots + ms) ∧ (∀ z ∈ L, free z.base) ∧ T'.heap = t.heap ∧ T'.vm = t.vm ∧ XC E st₀ t ∧ t.heap[q]? = some ce ∧ ce.vm = .none ∧ s.vm.findClass E = some ce.cls ∧
      Steps p.tables e below (T.setTop g) ((T'.setTop { g with stack := rest }).pushFrame (.throwing q)))
def vx_X {S : Type} (px : S → Prop) (B : String → S → State → Prop) (A : Nat → Prop) : String → State → State → Prop := fun E st t => ∃ u : S, px u ∧ B E u t ∧ va_F A st t
section Runs
variable {p : Program} {l : Launch} {e : Env} {R : Room} {s : State} {m : MethodId} {args : Array Value} {below : List Frame} {meth : Method} {c : Code} {H : Heap} {locs : List Loc} {cells slots : Nat}
variable {y : MethodName} {bytes cc : ByteArray} {maxL nL mc ms n index : Nat} {ret : Option FieldType} {ws : List Cond} {rm : Room} {Pc : Array Value → State → Prop} {Qc : Array Value → State → Outcome → State → Prop} {XC : String → State → State → Prop} {free : Addr → Prop} {Ts : List Cond} {own C : String} {b : Addr} {As rest : List Value} {g : JFrame}
theorem vx_callBack (cb : CallB R s args own index y bytes maxL ret ws rm mc ms n) (hM : vx_Met l y ws rm Pc Qc XC mc ms free) (hbl : FrameBlind Pc) : vx_Back l R p e below s args y 3 8 (PreOf R mc ms Pc) (PostOf Qc mc ms free) (vx_Post XC mc ms free) := by
  obtain ⟨hrc, hrs, hfr, hlo, hws, hcw, -, hini, -⟩ := cb
  exact vx_back (bytes := bytes) (maxL := maxL) (ret := ret) hM hbl hrc hrs hfr hlo hws hcw (fun a' U hW => word_at hW (Or.inl (by first | rfl | simp [Cond.onTables, Cond.keeps, Cond.steady])) hini)
theorem vx_runV (S : CallFix p m c cc nL s args Ts own) (hM : vx_Met l y ws rm Pc Qc XC mc ms free) (cw : CallW R s args own C index y bytes maxL ret ws rm mc ms n) (hp : PreV s H C b Pc As)
    (hg : g.method = m) (hn : As.length = n) (hsize : g.locals.size = nL) (hstack : g.stack = As.reverse ++ .ref b :: rest) (hW : 2 * g.monitorRoom + (rest.map fun v => v.category).sum ≤ 8) (hdg : decode cc g.pc = .ok (.invokevirtual index, 3)) (hf : cells + mc ≤ R.cells ∧ slots + ms ≤ R.slots) :
    vx_Run p l e R s m args below meth c H locs cells slots mc ms g rest (Qc (Value.ref b :: As).toArray) XC free := by
  have hK : vx_Back l R p e below s args y 3 8 (PreOf R mc ms Pc) (PostOf Qc mc ms free) (vx_Post XC mc ms free) := vx_callBack cw.1 hM hp.1
  obtain ⟨⟨-, -, -, -, -, -, hcode, -, hy, hlen, hl⟩, hin, hse⟩ := cw
  obtain ⟨hx, hb, hml, ho, -⟩ := S
  obtain ⟨-, ⟨cellB, hcB, hoB, hclB⟩, hPc⟩ := hp
  intro T hT X
  rcases vx_callV X hx (C := C) (bytes := bytes) (maxL := maxL) (ret := ret) ho hl hin hse hcode hy hK (by rw [hT]; exact hcB) hoB hclB hg (hsize.trans hml.symm) (argsL := As) (rest := rest) (fun sig h => hn.trans (hlen sig h)) hstack hW (by rw [hb]; exact hdg)
    (fun vm₁ hW₁ => ⟨hf.1, hf.2, hPc (T.setVm vm₁) hT hW₁⟩) with ⟨v, vm₁, ⟨U', l2, c2, s2⟩, hW₁, X', ⟨g', mk, t, L, e1, e2, hq, h1, hL, h2, h3⟩, st⟩ | ⟨q, vm₁, ⟨U', l2, c2, s2⟩, hW₁, X', ⟨g', mk, t, L, E, ce, e1, e2, hq, hce, hcv, hcl, h1, hL, h2, h3⟩, st⟩
  · dsimp only [Pt.U, Pt.locs, Pt.cells, Pt.slots] at X' e1 e2 h1 h2 h3 st
    subst h1; subst h2; subst h3
    exact Or.inl ⟨v, (T.setVm vm₁).calling g' mk (Value.ref b :: As).toArray, t, U', L, hT, X', hL, e1, e2, hq, st⟩
  · dsimp only [Pt.U, Pt.locs, Pt.cells, Pt.slots] at X' e1 e2 h1 h2 h3 st hcl
    subst h1; subst h2; subst h3
    exact Or.inr ⟨q, (T.setVm vm₁).calling g' mk (Value.ref b :: As).toArray, t, U', L, E, ce, hT, X', hL, e1, e2, hq, hce, hcv, vx_cls hW₁ hcl, st⟩
theorem vx_runS (S : CallFix p m c cc nL s args Ts own) (hM : vx_Met l y ws rm Pc Qc XC mc ms free) (cw : CallB R s args own index y bytes maxL ret ws rm mc ms n ∧ (Cond.static y).before args s = true) (hp : PreS s H Pc As)
    (hg : g.method = m) (hn : As.length = n) (hsize : g.locals.size = nL) (hstack : g.stack = As.reverse ++ rest) (hW : 2 * g.monitorRoom + (rest.map fun v => v.category).sum ≤ 8) (hdg : decode cc g.pc = .ok (.invokestatic index, 3)) (hf : cells + mc ≤ R.cells ∧ slots + ms ≤ R.slots) :
    vx_Run p l e R s m args below meth c H locs cells slots mc ms g rest (Qc As.toArray) XC free := by
  have hK : vx_Back l R p e below s args y 3 8 (PreOf R mc ms Pc) (PostOf Qc mc ms free) (vx_Post XC mc ms free) := vx_callBack cw.1 hM hp.1
  obtain ⟨⟨-, -, -, -, -, -, hcode, hini, hy, hlen, hl⟩, hstt⟩ := cw
  obtain ⟨hx, hb, hml, ho, -⟩ := S
  intro T hT X
  rcases vx_callS X hx (bytes := bytes) (maxL := maxL) (ret := ret) ho hl hstt hini hcode hy hK hg (hsize.trans hml.symm) (argsL := As) (rest := rest) (fun sig h => hn.trans (hlen sig h)) hstack hW (by rw [hb]; exact hdg)
    (fun vm₁ hW₁ => ⟨hf.1, hf.2, hp.2 (T.setVm vm₁) hT hW₁⟩) with ⟨v, vm₁, ⟨U', l2, c2, s2⟩, hW₁, X', ⟨g', mk, t, L, e1, e2, hq, h1, hL, h2, h3⟩, st⟩ | ⟨q, vm₁, ⟨U', l2, c2, s2⟩, hW₁, X', ⟨g', mk, t, L, E, ce, e1, e2, hq, hce, hcv, hcl, h1, hL, h2, h3⟩, st⟩
  · dsimp only [Pt.U, Pt.locs, Pt.cells, Pt.slots] at X' e1 e2 h1 h2 h3 st
    subst h1; subst h2; subst h3
    exact Or.inl ⟨v, (T.setVm vm₁).calling g' mk As.toArray, t, U', L, hT, X', hL, e1, e2, hq, st⟩
  · dsimp only [Pt.U, Pt.locs, Pt.cells, Pt.slots] at X' e1 e2 h1 h2 h3 st hcl
    subst h1; subst h2; subst h3
    exact Or.inr ⟨q, (T.setVm vm₁).calling g' mk As.toArray, t, U', L, E, ce, hT, X', hL, e1, e2, hq, hce, hcv, vx_cls hW₁ hcl, st⟩
end Runs
section Rows
variable {p : Program} {l : Launch} {e : Env} {R : Room} {s : State} {m : MethodId} {args : Array Value} {below : List Frame} {meth : Method} {c : Code} {H : Heap} {locs : List Loc} {cells slots : Nat} {Q : State → Prop}
variable {mc ms : Nat} {free : Addr → Prop} {A0 A1 : Nat → Prop} {H0 : Heap} {a : Array Value} {pc : Nat} {ls : Array Slot} {st0 rest : List Value}
theorem vx_keep {st₀ t T' : State} {L : List Loc} (h0 : st₀.heap = H) (e1 : T'.heap = t.heap) (hS : va_S A0 H0 H locs) (hA : ∀ q, q < H.size → A1 q → A0 q) (hf : ∀ q, free q → A0 q) (hL : ∀ q ∈ L, free q.base) (hF : va_F A1 st₀ t) :
    H.size ≤ T'.heap.size ∧ (∀ q : Nat, q < H.size → ¬ A1 q → T'.heap[q]? = H[q]?) ∧ va_S A0 H0 T'.heap (locs ++ L) := by
  obtain ⟨hz, hk⟩ := hF
  rw [h0] at hz hk
  exact ⟨by rw [e1]; exact hz, fun q h1 h2 => by rw [e1]; exact hk q h1 h2,
    ⟨Nat.le_trans hS.1 (by rw [e1]; exact hz), fun q h1 h2 => by rw [e1, hk q (Nat.lt_of_lt_of_le h1 hS.1) (fun z => h2 (hA q (Nat.lt_of_lt_of_le h1 hS.1) z))]; exact hS.2.1 q h1 h2, fun q hq => by
      rcases List.mem_append.mp hq with h | h
      · exact hS.2.2 q h
      · exact hf _ (hL q h)⟩⟩
theorem vx_calli {S SX : Type} {post : Int32 → S → Prop} {px : SX → Prop} {B : S → State → Prop} {BX : String → SX → State → Prop} {AX : Nat → Prop} (hr : vx_Run p l e R s m args below meth c H locs cells slots mc ms (F0 m pc ls st0) rest (va_Qi post B A1 a) (vx_X px BX AX) free) (hS : va_S A0 H0 H locs) (hA : ∀ q, q < H.size → A1 q → A0 q) (hf : ∀ q, free q → A0 q) (hAX : ∀ q, q < H.size → AX q → A0 q)
    (kx : ∀ (E : String) (ce : Cell) (q9 : Addr) (u : SX) (t : State) (H1 : Heap) (locs1 : List Loc), t.heap = H1 → s.vm.Alike t.vm → px u → BX E u t → H.size ≤ H1.size → (∀ q : Nat, q < H.size → ¬ AX q → H1[q]? = H[q]?) → va_S A0 H0 H1 locs1 → H1[q9]? = some ce → ce.vm = .none → s.vm.findClass E = some ce.cls → vx_W p l e R s m args below meth c H1 locs1 (cells + mc) (slots + ms) Q (F0 m pc ls rest) q9)
    (kk : ∀ (r : Int32) (u : S) (t : State) (H1 : Heap) (locs1 : List Loc), t.heap = H1 → s.vm.Alike t.vm → post r u → B u t → H.size ≤ H1.size → (∀ q : Nat, q < H.size → ¬ A1 q → H1[q]? = H[q]?) → va_S A0 H0 H1 locs1 → W p l e R s m args below meth c H1 locs1 (cells + mc) (slots + ms) Q (F0 m (pc + 3) ls (.int r :: rest))) : W p l e R s m args below meth c H locs cells slots Q (F0 m pc ls st0) := by
  intro T hT X
  rcases hr T hT X with ⟨v, st₀, t, T', L, h0, X', hL, e1, e2, ⟨⟨r, u, hv, hp, hb⟩, hF⟩, st⟩ | ⟨q, st₀, t, T', L, E, ce, h0, X', hL, e1, e2, ⟨u, hp, hb, hF⟩, hce, hcv, hcl, st⟩
  · cases hv
    obtain ⟨k1, k2, k3⟩ := vx_keep h0 e1 hS hA hf hL hF
    obtain ⟨t2, a1, b1⟩ := kk r u t T'.heap (locs ++ L) e1.symm (by rw [← e2]; exact X'.warmed.alike) hp hb k1 k2 k3 T' rfl X'
    exact ⟨t2, st t2 a1, b1⟩
  · obtain ⟨k1, k2, k3⟩ := vx_keep h0 e1 hS hAX hf hL hF
    obtain ⟨t2, a1, b1⟩ := kx E ce q u t T'.heap (locs ++ L) e1.symm (by rw [← e2]; exact X'.warmed.alike) hp hb k1 k2 k3 (by rw [e1]; exact hce) hcv hcl T' rfl X'
    exact ⟨t2, st.trans a1, b1⟩
theorem vx_calll {S SX : Type} {post : Int64 → S → Prop} {px : SX → Prop} {B : S → State → Prop} {BX : String → SX → State → Prop} {AX : Nat → Prop} (hr : vx_Run p l e R s m args below meth c H locs cells slots mc ms (F0 m pc ls st0) rest (va_Ql post B A1 a) (vx_X px BX AX) free) (hS : va_S A0 H0 H locs) (hA : ∀ q, q < H.size → A1 q → A0 q) (hf : ∀ q, free q → A0 q) (hAX : ∀ q, q < H.size → AX q → A0 q)
    (kx : ∀ (E : String) (ce : Cell) (q9 : Addr) (u : SX) (t : State) (H1 : Heap) (locs1 : List Loc), t.heap = H1 → s.vm.Alike t.vm → px u → BX E u t → H.size ≤ H1.size → (∀ q : Nat, q < H.size → ¬ AX q → H1[q]? = H[q]?) → va_S A0 H0 H1 locs1 → H1[q9]? = some ce → ce.vm = .none → s.vm.findClass E = some ce.cls → vx_W p l e R s m args below meth c H1 locs1 (cells + mc) (slots + ms) Q (F0 m pc ls rest) q9)
    (kk : ∀ (r : Int64) (u : S) (t : State) (H1 : Heap) (locs1 : List Loc), t.heap = H1 → s.vm.Alike t.vm → post r u → B u t → H.size ≤ H1.size → (∀ q : Nat, q < H.size → ¬ A1 q → H1[q]? = H[q]?) → va_S A0 H0 H1 locs1 → W p l e R s m args below meth c H1 locs1 (cells + mc) (slots + ms) Q (F0 m (pc + 3) ls (.long r :: rest))) : W p l e R s m args below meth c H locs cells slots Q (F0 m pc ls st0) := by
  intro T hT X
  rcases hr T hT X with ⟨v, st₀, t, T', L, h0, X', hL, e1, e2, ⟨⟨r, u, hv, hp, hb⟩, hF⟩, st⟩ | ⟨q, st₀, t, T', L, E, ce, h0, X', hL, e1, e2, ⟨u, hp, hb, hF⟩, hce, hcv, hcl, st⟩
  · cases hv
    obtain ⟨k1, k2, k3⟩ := vx_keep h0 e1 hS hA hf hL hF
    obtain ⟨t2, a1, b1⟩ := kk r u t T'.heap (locs ++ L) e1.symm (by rw [← e2]; exact X'.warmed.alike) hp hb k1 k2 k3 T' rfl X'
    exact ⟨t2, st t2 a1, b1⟩
  · obtain ⟨k1, k2, k3⟩ := vx_keep h0 e1 hS hAX hf hL hF
    obtain ⟨t2, a1, b1⟩ := kx E ce q u t T'.heap (locs ++ L) e1.symm (by rw [← e2]; exact X'.warmed.alike) hp hb k1 k2 k3 (by rw [e1]; exact hce) hcv hcl T' rfl X'
    exact ⟨t2, st.trans a1, b1⟩
theorem vx_callf {S SX : Type} {post : UInt32 → S → Prop} {px : SX → Prop} {B : S → State → Prop} {BX : String → SX → State → Prop} {AX : Nat → Prop} (hr : vx_Run p l e R s m args below meth c H locs cells slots mc ms (F0 m pc ls st0) rest (va_Qf post B A1 a) (vx_X px BX AX) free) (hS : va_S A0 H0 H locs) (hA : ∀ q, q < H.size → A1 q → A0 q) (hf : ∀ q, free q → A0 q) (hAX : ∀ q, q < H.size → AX q → A0 q)
    (kx : ∀ (E : String) (ce : Cell) (q9 : Addr) (u : SX) (t : State) (H1 : Heap) (locs1 : List Loc), t.heap = H1 → s.vm.Alike t.vm → px u → BX E u t → H.size ≤ H1.size → (∀ q : Nat, q < H.size → ¬ AX q → H1[q]? = H[q]?) → va_S A0 H0 H1 locs1 → H1[q9]? = some ce → ce.vm = .none → s.vm.findClass E = some ce.cls → vx_W p l e R s m args below meth c H1 locs1 (cells + mc) (slots + ms) Q (F0 m pc ls rest) q9)
    (kk : ∀ (r : UInt32) (u : S) (t : State) (H1 : Heap) (locs1 : List Loc), t.heap = H1 → s.vm.Alike t.vm → post r u → B u t → H.size ≤ H1.size → (∀ q : Nat, q < H.size → ¬ A1 q → H1[q]? = H[q]?) → va_S A0 H0 H1 locs1 → W p l e R s m args below meth c H1 locs1 (cells + mc) (slots + ms) Q (F0 m (pc + 3) ls (.float r :: rest))) : W p l e R s m args below meth c H locs cells slots Q (F0 m pc ls st0) := by
  intro T hT X
  rcases hr T hT X with ⟨v, st₀, t, T', L, h0, X', hL, e1, e2, ⟨⟨r, u, hv, hp, hb⟩, hF⟩, st⟩ | ⟨q, st₀, t, T', L, E, ce, h0, X', hL, e1, e2, ⟨u, hp, hb, hF⟩, hce, hcv, hcl, st⟩
  · cases hv
    obtain ⟨k1, k2, k3⟩ := vx_keep h0 e1 hS hA hf hL hF
    obtain ⟨t2, a1, b1⟩ := kk r u t T'.heap (locs ++ L) e1.symm (by rw [← e2]; exact X'.warmed.alike) hp hb k1 k2 k3 T' rfl X'
    exact ⟨t2, st t2 a1, b1⟩
  · obtain ⟨k1, k2, k3⟩ := vx_keep h0 e1 hS hAX hf hL hF
    obtain ⟨t2, a1, b1⟩ := kx E ce q u t T'.heap (locs ++ L) e1.symm (by rw [← e2]; exact X'.warmed.alike) hp hb k1 k2 k3 (by rw [e1]; exact hce) hcv hcl T' rfl X'
    exact ⟨t2, st.trans a1, b1⟩
theorem vx_calld {S SX : Type} {post : UInt64 → S → Prop} {px : SX → Prop} {B : S → State → Prop} {BX : String → SX → State → Prop} {AX : Nat → Prop} (hr : vx_Run p l e R s m args below meth c H locs cells slots mc ms (F0 m pc ls st0) rest (va_Qd post B A1 a) (vx_X px BX AX) free) (hS : va_S A0 H0 H locs) (hA : ∀ q, q < H.size → A1 q → A0 q) (hf : ∀ q, free q → A0 q) (hAX : ∀ q, q < H.size → AX q → A0 q)
    (kx : ∀ (E : String) (ce : Cell) (q9 : Addr) (u : SX) (t : State) (H1 : Heap) (locs1 : List Loc), t.heap = H1 → s.vm.Alike t.vm → px u → BX E u t → H.size ≤ H1.size → (∀ q : Nat, q < H.size → ¬ AX q → H1[q]? = H[q]?) → va_S A0 H0 H1 locs1 → H1[q9]? = some ce → ce.vm = .none → s.vm.findClass E = some ce.cls → vx_W p l e R s m args below meth c H1 locs1 (cells + mc) (slots + ms) Q (F0 m pc ls rest) q9)
    (kk : ∀ (r : UInt64) (u : S) (t : State) (H1 : Heap) (locs1 : List Loc), t.heap = H1 → s.vm.Alike t.vm → post r u → B u t → H.size ≤ H1.size → (∀ q : Nat, q < H.size → ¬ A1 q → H1[q]? = H[q]?) → va_S A0 H0 H1 locs1 → W p l e R s m args below meth c H1 locs1 (cells + mc) (slots + ms) Q (F0 m (pc + 3) ls (.double r :: rest))) : W p l e R s m args below meth c H locs cells slots Q (F0 m pc ls st0) := by
  intro T hT X
  rcases hr T hT X with ⟨v, st₀, t, T', L, h0, X', hL, e1, e2, ⟨⟨r, u, hv, hp, hb⟩, hF⟩, st⟩ | ⟨q, st₀, t, T', L, E, ce, h0, X', hL, e1, e2, ⟨u, hp, hb, hF⟩, hce, hcv, hcl, st⟩
  · cases hv
    obtain ⟨k1, k2, k3⟩ := vx_keep h0 e1 hS hA hf hL hF
    obtain ⟨t2, a1, b1⟩ := kk r u t T'.heap (locs ++ L) e1.symm (by rw [← e2]; exact X'.warmed.alike) hp hb k1 k2 k3 T' rfl X'
    exact ⟨t2, st t2 a1, b1⟩
  · obtain ⟨k1, k2, k3⟩ := vx_keep h0 e1 hS hAX hf hL hF
    obtain ⟨t2, a1, b1⟩ := kx E ce q u t T'.heap (locs ++ L) e1.symm (by rw [← e2]; exact X'.warmed.alike) hp hb k1 k2 k3 (by rw [e1]; exact hce) hcv hcl T' rfl X'
    exact ⟨t2, st.trans a1, b1⟩
theorem vx_callv {S SX : Type} {post : S → Prop} {px : SX → Prop} {B : S → State → Prop} {BX : String → SX → State → Prop} {AX : Nat → Prop} (hr : vx_Run p l e R s m args below meth c H locs cells slots mc ms (F0 m pc ls st0) rest (va_Qv post B A1 a) (vx_X px BX AX) free) (hS : va_S A0 H0 H locs) (hA : ∀ q, q < H.size → A1 q → A0 q) (hf : ∀ q, free q → A0 q) (hAX : ∀ q, q < H.size → AX q → A0 q)
    (kx : ∀ (E : String) (ce : Cell) (q9 : Addr) (u : SX) (t : State) (H1 : Heap) (locs1 : List Loc), t.heap = H1 → s.vm.Alike t.vm → px u → BX E u t → H.size ≤ H1.size → (∀ q : Nat, q < H.size → ¬ AX q → H1[q]? = H[q]?) → va_S A0 H0 H1 locs1 → H1[q9]? = some ce → ce.vm = .none → s.vm.findClass E = some ce.cls → vx_W p l e R s m args below meth c H1 locs1 (cells + mc) (slots + ms) Q (F0 m pc ls rest) q9)
    (kk : ∀ (u : S) (t : State) (H1 : Heap) (locs1 : List Loc), t.heap = H1 → s.vm.Alike t.vm → post u → B u t → H.size ≤ H1.size → (∀ q : Nat, q < H.size → ¬ A1 q → H1[q]? = H[q]?) → va_S A0 H0 H1 locs1 → W p l e R s m args below meth c H1 locs1 (cells + mc) (slots + ms) Q (F0 m (pc + 3) ls (rest))) : W p l e R s m args below meth c H locs cells slots Q (F0 m pc ls st0) := by
  intro T hT X
  rcases hr T hT X with ⟨v, st₀, t, T', L, h0, X', hL, e1, e2, ⟨⟨u, hv, hp, hb⟩, hF⟩, st⟩ | ⟨q, st₀, t, T', L, E, ce, h0, X', hL, e1, e2, ⟨u, hp, hb, hF⟩, hce, hcv, hcl, st⟩
  · cases hv
    obtain ⟨k1, k2, k3⟩ := vx_keep h0 e1 hS hA hf hL hF
    obtain ⟨t2, a1, b1⟩ := kk u t T'.heap (locs ++ L) e1.symm (by rw [← e2]; exact X'.warmed.alike) hp hb k1 k2 k3 T' rfl X'
    exact ⟨t2, st t2 a1, b1⟩
  · obtain ⟨k1, k2, k3⟩ := vx_keep h0 e1 hS hAX hf hL hF
    obtain ⟨t2, a1, b1⟩ := kx E ce q u t T'.heap (locs ++ L) e1.symm (by rw [← e2]; exact X'.warmed.alike) hp hb k1 k2 k3 (by rw [e1]; exact hce) hcv hcl T' rfl X'
    exact ⟨t2, st.trans a1, b1⟩
/-- caught by the row x of this method's table; the rows ahead don't take it -/
theorem vx_catch {own name : String} {E : String} {ce : Cell} {q : Addr} (hown : s.vm.findClass own = some m.cls) (pre : List ExceptionTableEntry) (x : ExceptionTableEntry) (suf : List ExceptionTableEntry) (hsplit : c.exceptionTable.toList = pre ++ x :: suf)
    (hpass : ∀ z ∈ pre, covers z pc = false ∨ (z.catchType ≠ 0 ∧ ∃ nm : String, (Cond.classLink own z.catchType nm).before args s = true ∧ va_Nc E nm s)) (hx : covers x pc = true) (h0 : x.catchType ≠ 0)
    (hlink : (Cond.classLink own x.catchType name).before args s = true) (hcast : (Cond.castable E name).before args s = true) (hcell : H[q]? = some ce) (hv : ce.vm = .none) (hcl : s.vm.findClass E = some ce.cls)
    (kk : W p l e R s m args below meth c H locs cells slots Q (F0 m x.handlerPc ls [.ref q])) : vx_W p l e R s m args below meth c H locs cells slots Q (F0 m pc ls rest) q := by
  intro T hT X
  have hpl : e.platform.magicAccessors = ({} : Platform).magicAccessors := by rw [X.admits.platform]
  obtain ⟨c3, c4, hc3, hc4, hasg⟩ := Cond.castable_spec hcast
  cases Option.some.inj (hc3.symm.trans hcl)
  obtain ⟨c5, hc5, hcl5⟩ := Cond.classLink_spec hown hlink e.platform hpl
  cases Option.some.inj (hc4.symm.trans hc5)
  obtain ⟨vm', X', st⟩ := X.thenCaughtThrough q (g := F0 m pc ls rest) rfl (Steps.refl _) (by rw [hT]; exact hcell) (by rw [hv]; rfl) (by obtain ⟨k9, h9, -⟩ := Vm.findClass_spec hcl; exact ⟨k9, h9⟩) pre x suf hsplit
    (fun z hz => by
      rcases hpass z hz with h | ⟨hz0, nm, hl1, hn1⟩
      · exact Or.inl h
      · obtain ⟨c6, hc6, hcl6⟩ := Cond.classLink_spec hown hl1 e.platform hpl
        obtain ⟨a8, b8, h1, h2, h3⟩ := hn1
        cases Option.some.inj (h1.symm.trans hcl)
        cases Option.some.inj (h2.symm.trans hc6)
        exact Or.inr ⟨hz0, _, hcl6, h3⟩) hx (Or.inr ⟨h0, c4, hcl5, hasg⟩)
  obtain ⟨t, a1, b1⟩ := kk (T.setVm vm') hT X'
  exact ⟨t, st.trans a1, b1⟩
end Rows
section Ends
variable {p : Program} {l : Launch} {e : Env} {R : Room} {s : State} {m : MethodId} {args : Array Value} {below : List Frame} {meth : Method} {c : Code} {H : Heap} {locs : List Loc} {cells slots : Nat} {Q : State → Prop}
variable {mc ms : Nat} {free : Addr → Prop} {A0 A1 : Nat → Prop} {H0 : Heap} {a : Array Value} {ls : Array Slot} {st0 rest : List Value}
variable {Qc : Array Value → State → Outcome → State → Prop} {XC : String → State → State → Prop}
/-- what a body that may throw owes at its end -/
def vx_MQ (below : List Frame) (Qc : Array Value → State → Outcome → State → Prop) (XC : String → State → State → Prop) (a : Array Value) (s : State) (mc ms : Nat) (free : Addr → Prop) : State → Prop := fun t =>
  ∃ o, t.status = .running ∧ Ended t below o ∧ vx_Q Qc XC mc ms free a s o t
theorem vx_ret {g : JFrame} {mc ms : Nat} (k : W p l e R s m args below meth c H locs cells slots (MQ below Qc args s mc ms free) g) : W p l e R s m args below meth c H locs cells slots (vx_MQ below Qc XC args s mc ms free) g := by
  intro T hT X
  obtain ⟨t, a1, o, b1, b2, b3, b4⟩ := k T hT X
  exact ⟨t, a1, o, b1, b2, Or.inl ⟨b3, b4⟩⟩
/-- not caught here: it goes on to the caller -/
theorem vx_widen {g : JFrame} {q : Addr} {k n : Nat} (h1 : cells ≤ k) (h2 : slots ≤ n) (kk : vx_W p l e R s m args below meth c H locs k n Q g q) : vx_W p l e R s m args below meth c H locs cells slots Q g q := fun T hT X => kk T hT (stand_widen X h1 h2)
theorem vx_out {pc : Nat} {E : String} {ce : Cell} {q : Addr} {mc ms : Nat} (hout : ∀ x ∈ c.exceptionTable.toList, covers x pc = false) (hlocks : meth.locks = false) (hcell : H[q]? = some ce) (hv : ce.vm = .none) (hcl : s.vm.findClass E = some ce.cls)
    (hx : ∀ t : State, t.heap = H → s.vm.Alike t.vm → XC E s t) (hf : ∀ z ∈ locs, free z.base) (hc : cells ≤ mc) (hs : slots ≤ ms) :
    vx_W p l e R s m args below meth c H locs cells slots (vx_MQ below Qc XC args s mc ms free) (F0 m pc ls rest) q := by
  intro T hT X
  obtain ⟨st1, hrun, hend, hW, hsm⟩ := X.leaveThrown q (g := F0 m pc ls rest) rfl rfl rfl hout hlocks
  have hcell9 : (T.setFrames (.throwing q :: below)).heap[q]? = some ce := by
    show T.heap[q]? = some ce
    rw [hT]; exact hcell
  exact ⟨_, st1, .threw q, hrun, hend, Or.inr ⟨q, rfl, E, ce, locs, hx _ hT hW.alike, hcell9, hv, hcl, hW, hsm.mono hc hs, hf⟩⟩
theorem vx_frame {U : State} {k n : Nat} (h : s.sameButNew ({ U with vm := s.vm } : State) locs k n) : s.heap.size ≤ U.heap.size ∧ ∀ q : Nat, q < s.heap.size → (∀ z ∈ locs, z.base ≠ q) → U.heap[q]? = s.heap[q]? := by
  obtain ⟨-, h2, -, -, -, h6⟩ := h
  refine ⟨h2, fun q hq hz => ?_⟩
  obtain ⟨c9, e1, e2, e3, e4⟩ := h6 q _ (Array.getElem?_eq_getElem hq)
  have hs : c9.slots = (s.heap[q]).slots := Array.ext_getElem? fun i => e4 i fun hm => hz _ hm rfl
  have h9 : c9 = s.heap[q] := by
    rw [hs] at e2
    exact e2
  have e5 : U.heap[q]? = some c9 := e1
  rw [e5, h9, Array.getElem?_eq_getElem hq]
/-- the words of a throw but the four that speak of the heap -/
def vx_no (w : Cond) : Bool := decide (w ≠ .isRef (.static Bundle.tN "UNASSIGNED_STACK" Bundle.steD)) && decide (w ≠ .isRef (.static Bundle.tN "SUPPRESSED_SENTINEL" Bundle.listD)) && decide (w ≠ .laysStatic Bundle.tN "UNASSIGNED_STACK" Bundle.steD) && decide (w ≠ .laysStatic Bundle.tN "SUPPRESSED_SENTINEL" Bundle.listD)
def vx_at0 (own : String) (ic : Nat) (X : String) (names : List String) : List Cond := (Bundle.ownAtoms0 own ic X names).filter vx_no
def vx_atS (own : String) (ic : Nat) (X : String) (names : List String) : List Cond := (Bundle.ownAtoms own ic X names).filter vx_no
/-- a word that the tables alone decide, or a good one -/
def vx_ot (w : Cond) : Bool := w.onTables || goodWord w
theorem vx_ot_at {args a' : Array Value} {s U : State} {w : Cond} (hW : s.WarmedH U.vm) (hvm : s.vm = U.vm) (hg : vx_ot w = true) (h : w.before args s = true) : w.before a' U = true := by
  simp only [vx_ot, Bool.or_eq_true] at hg
  rcases hg with hg | hg
  · exact va_tabs hg hvm h
  · exact word_at hW (good_of_word hg) h
/-- a list's words: the good ones out of the method's own list, the others by premises of their own -/
theorem vx_hat {args : Array Value} {s : State} {L B : List Cond} (h1 : ∀ w ∈ L.filter goodWord, w.before args s = true) (h2 : ∀ w ∈ L.filter (fun w => !goodWord w), w ∈ B) (h3 : ∀ w ∈ B, w.before args s = true) : ∀ w ∈ L, w.before args s = true := by
  intro w hw
  by_cases g : goodWord w = true
  · exact h1 w (List.mem_filter.mpr ⟨hw, g⟩)
  · refine h3 w (h2 w (List.mem_filter.mpr ⟨hw, ?_⟩))
    show (!goodWord w) = true
    cases hgw : goodWord w
    · rfl
    · exact absurd hgw g
theorem vx_c {args : Array Value} {s : State} {w : Cond} {B : List Cond} (h : w.before args s = true) (t : ∀ w ∈ B, w.before args s = true) : ∀ w' ∈ w :: B, w'.before args s = true := fun w' h' => (List.mem_cons.mp h').elim (fun e => by rw [e]; exact h) (t w')
theorem vx_n {args : Array Value} {s : State} : ∀ w ∈ ([] : List Cond), w.before args s = true := fun _ h => nomatch h
theorem vx_own {args : Array Value} {s : State} {L : List Cond} (h1 : ∀ w ∈ L.filter vx_no, w.before args s = true)
    (hU : (Cond.isRef (.static Bundle.tN "UNASSIGNED_STACK" Bundle.steD)).before args s = true) (hN : (Cond.isRef (.static Bundle.tN "SUPPRESSED_SENTINEL" Bundle.listD)).before args s = true)
    (lU : (Cond.laysStatic Bundle.tN "UNASSIGNED_STACK" Bundle.steD).before args s = true) (lN : (Cond.laysStatic Bundle.tN "SUPPRESSED_SENTINEL" Bundle.listD).before args s = true) : ∀ w ∈ L, w.before args s = true := by
  intro w hw
  by_cases e1 : w = .isRef (.static Bundle.tN "UNASSIGNED_STACK" Bundle.steD)
  · rw [e1]; exact hU
  · by_cases e2 : w = .isRef (.static Bundle.tN "SUPPRESSED_SENTINEL" Bundle.listD)
    · rw [e2]; exact hN
    · by_cases e3 : w = .laysStatic Bundle.tN "UNASSIGNED_STACK" Bundle.steD
      · rw [e3]; exact lU
      · by_cases e4 : w = .laysStatic Bundle.tN "SUPPRESSED_SENTINEL" Bundle.listD
        · rw [e4]; exact lN
        · exact h1 w (List.mem_filter.mpr ⟨hw, by unfold vx_no; rw [decide_eq_true e1, decide_eq_true e2, decide_eq_true e3, decide_eq_true e4]; rfl⟩)
/-- where a static field lies, its class's statics cell in H -/
def vx_L (C n d : String) (A : Nat → Prop) (U : State) (H : Heap) : Prop := ∃ (c : ClassId) (k : Class) (i : Nat) (f : Field) (a : Nat) (cell : Cell), U.vm.findClass C = some c ∧ U.fieldFound? C n d = some (c, k, i, f) ∧ f.isStatic = true ∧ k.statics = some a ∧ H[a]? = some cell ∧ cell.vm.isStatics = true ∧ cell.cls = c ∧ f.slot < cell.slots.size ∧ k.staticTypes[f.slot]? = some f.type ∧ ¬ A a
theorem vx_L.moved {C n d : String} {A : Nat → Prop} {u U : State} {H : Heap} (hvm : u.vm.Alike U.vm) (h : vx_L C n d A u H) : vx_L C n d A U H := by
  obtain ⟨c, k, i, f, a, cell, h1, h2, h3, h4, h5, h6, h7, h8, h9, h10⟩ := h
  obtain ⟨k', hi', he⟩ := State.fieldFound?_setVm hvm h2
  exact ⟨c, k', i, f, a, cell, by rw [hvm.findClass]; exact h1, hi', h3, by rw [he]; exact h4, h5, h6, h7, h8, by rw [he]; exact h9, h10⟩
theorem vx_L.kept {C n d : String} {A : Nat → Prop} {U : State} {H H1 : Heap} (h : vx_L C n d A U H) (hq : ∀ a : Nat, a < H.size → ¬ A a → H1[a]? = H[a]?) : vx_L C n d A U H1 := by
  obtain ⟨c, k, i, f, a, cell, h1, h2, h3, h4, h5, h6, h7, h8, h9, h10⟩ := h
  exact ⟨c, k, i, f, a, cell, h1, h2, h3, h4, by rw [hq a (Array.getElem?_eq_some_iff.mp h5).1 h10]; exact h5, h6, h7, h8, h9, h10⟩
theorem vx_L.narrow {C n d : String} {A B : Nat → Prop} {U : State} {H : Heap} (h : vx_L C n d A U H) (hAB : ∀ q, B q → A q) : vx_L C n d B U H := by
  obtain ⟨c, k, i, f, a, cell, h1, h2, h3, h4, h5, h6, h7, h8, h9, h10⟩ := h
  exact ⟨c, k, i, f, a, cell, h1, h2, h3, h4, h5, h6, h7, h8, h9, fun z => h10 (hAB _ z)⟩
theorem vx_L.word {C n d : String} {A : Nat → Prop} {s : State} {args : Array Value} (h : vx_L C n d A s s.heap) : (Cond.laysStatic C n d).before args s = true := by
  obtain ⟨c, k, i, f, a, cell, h1, h2, h3, h4, h5, h6, h7, h8, h9, -⟩ := h
  show (Cond.laysStatic C n d).holds args s none s [] = true
  exact Cond.laysStatic_of h1 h2 h3 h4 h5 h6 h7 h8 h9
/-- .. and what it holds: null or some reference -/
def vx_Zq (C n d : String) (A : Nat → Prop) (U : State) (H : Heap) : Prop := va_Zq C n d A U H ∧ vx_L C n d A U H
theorem vx_Zq.moved {C n d : String} {A : Nat → Prop} {u U : State} {H : Heap} (hvm : u.vm.Alike U.vm) (h : vx_Zq C n d A u H) : vx_Zq C n d A U H := ⟨va_Zq.moved hvm h.1, vx_L.moved hvm h.2⟩
theorem vx_Zq.kept {C n d : String} {A : Nat → Prop} {U : State} {H H1 : Heap} (h : vx_Zq C n d A U H) (hq : ∀ a : Nat, a < H.size → ¬ A a → H1[a]? = H[a]?) : vx_Zq C n d A U H1 := ⟨va_Zq.kept h.1 hq, vx_L.kept h.2 hq⟩
theorem vx_Zq.narrow {C n d : String} {A B : Nat → Prop} {U : State} {H : Heap} (h : vx_Zq C n d A U H) (hAB : ∀ q, B q → A q) : vx_Zq C n d B U H := ⟨va_Zq.narrow h.1 hAB, vx_L.narrow h.2 hAB⟩
theorem vx_Zqof {args : Array Value} {s : State} {C n d : String} {A : Nat → Prop} (hl : (Cond.laysStatic C n d).before args s = true) (hini : (Cond.initialized C).before args s = true) (h : (Cond.isRef (.static C n d)).before args s = true) (hA : ∀ a : Nat, a < s.heap.size → ¬ A a) : vx_Zq C n d A s s.heap := by
  refine ⟨va_Zqof hl hini h hA, ?_⟩
  obtain ⟨c, k, i, f, a, cell, h1, h2, h3, h4, h5, h6, h7, h8, h9⟩ := Cond.laysStatic_spec hl
  exact ⟨c, k, i, f, a, cell, h1, h2, h3, h4, h5, h6, h7, h8, h9, hA a (Array.getElem?_eq_some_iff.mp h5).1⟩
theorem vx_isRef {C n d : String} {v : Value} {A : Nat → Prop} {s : State} {args : Array Value} (h : va_Z C n d v A s s.heap) (hv : v.isRef = true) : (Cond.isRef (.static C n d)).before args s = true := by
  obtain ⟨cf, kf, fi, f, a, cell, h1, h2, h3, h4, h5, h6, h7, -⟩ := h
  have he : (Term.static C n d).eval args s none [] s = some v := by
    simp [Term.eval, State.fieldNamed?, h1, h2, h4, h5, h6, h7]
  simp only [Cond.before, Cond.holds, Cond.value, he]
  cases v <;> simp_all [Value.isRef]
theorem vx_isRefq {C n d : String} {A : Nat → Prop} {s : State} {args : Array Value} (h : va_Zq C n d A s s.heap) : (Cond.isRef (.static C n d)).before args s = true := by
  rcases h with h | ⟨t, h⟩
  · exact vx_isRef h rfl
  · exact vx_isRef h rfl
/-- the same frame, seen from here: as if the method were called anew in this heap -/
theorem vx_rebase {T : State} (X : Stand p l e R s m args below meth c T locs cells slots) {R' : Room} (hf : R'.frames ≤ R.frames) (hl : R'.locals ≤ R.locals) (hc : cells + R'.cells ≤ R.cells) (hs : slots + R'.slots ≤ R.slots) :
    Stand p l e R' ((T.setVm s.vm).setFrames (.invoking m args :: below)) m args below meth c T [] 0 0 := by
  have htop : (T.setVm s.vm).topJava?.isSome := X.here.top
  have hF : ((T.setVm s.vm).setFrames (.invoking m args :: below)).frames = .invoking m args :: below := State.frames_setFrames _ (State.cur_lt_of_top htop)
  obtain ⟨g₀, hg0⟩ := Option.isSome_iff_exists.mp htop
  obtain ⟨r, hr⟩ := State.topJava?_eq_some.mp hg0
  have hl9 : e.platform.stackLimits (T.setVm s.vm).me = e.platform.stackLimits s.me := X.limits
  have hb9 : (T.setVm s.vm).me.stackBytes = s.me.stackBytes := X.bytes
  refine ⟨X.admits, X.cas, X.clock, hF, ?_, X.hears, X.method, X.code, X.here, X.tail, X.warmed, ?_, ?_, ?_⟩
  · have h := X.room
    have hU : ((T.setVm s.vm).setFrames (.invoking m args :: below)).localsInUse = s.localsInUse := by
      rw [State.localsInUse_invoking hF (meth := meth) (c := c) X.method X.code, State.localsInUse_invoking X.frames X.method X.code]
    simp only [State.hasRoom, Bool.and_eq_true, decide_eq_true_eq] at h ⊢
    obtain ⟨⟨⟨⟨h1, h2, h3, h4, h5, h6⟩, h7⟩, h8⟩, h9⟩ := h
    rw [X.frames, List.length_cons] at h2 h3
    have q1 := X.heapSize
    have q2 := X.used
    simp only [hF, hU, List.length_cons, State.stackLimits_setFrames, State.stackBytes_setFrames, hl9, hb9]
    refine ⟨⟨⟨⟨by omega, by omega, by omega, by omega, by omega, h6⟩, ?_⟩, ?_⟩, X.book⟩
    · show T.heap.size + R'.cells ≤ e.platform.maxCells
      omega
    · show T.slotsUsed + R'.slots ≤ e.platform.maxSlots
      omega
  · rw [State.stackLimits_setFrames]; rfl
  · rw [State.stackBytes_setFrames]; rfl
  · refine ⟨?_, Nat.le_refl _, Nat.le_refl _, ?_, ?_, fun a c9 h9 => ⟨c9, h9, rfl, rfl, fun _ _ => rfl⟩⟩
    · obtain ⟨t, ht, -⟩ := State.frames_cons hr
      show T.setVm s.vm = { ((T.setVm s.vm).setFrames (.invoking m args :: below)).setFrames (T.setVm s.vm).frames with heap := T.heap, slotsUsed := T.slotsUsed }
      rw [State.setFrames_setFrames, State.setFrames_self ht]
      rfl
    · show T.slotsUsed = T.slotsUsed + ((T.heap.toList.drop T.heap.size).map (·.slots.size)).sum
      rw [List.drop_eq_nil_of_le (Nat.le_of_eq Array.length_toList)]
      rfl
    · show ((T.heap.toList.drop T.heap.size).map (·.slots.size)).sum ≤ 0
      rw [List.drop_eq_nil_of_le (Nat.le_of_eq Array.length_toList)]
      exact Nat.le_refl _
/-- 'throw new E()': new; dup; invokespecial; athrow -/
theorem vx_throw0 {cc : ByteArray} {pc : Nat} (hexec : p.tables.exec = Jvm.exec) (hb : c.code = cc) (hl : l.stackTraces = false) {own cls : String} {names : List String} {ik ic mc ms : Nat} {A : Nat → Prop}
    (hown : s.vm.findClass own = some m.cls) (hcls : Bundle.fit cls = true) (hnames : ∀ n ∈ names, Bundle.fit n = true)
    (hk : (Cond.classLink own ik cls).before args s = true) (hini : (Cond.initialized cls).before args s = true) (hat : ∀ w ∈ vx_at0 own ic cls names, w.before args s = true)
    (hgood : ∀ w ∈ Cond.classLink own ik cls :: Cond.initialized cls :: vx_at0 own ic cls names, vx_ot w = true)
    (hU : vx_Zq Bundle.tN "UNASSIGNED_STACK" Bundle.steD A s s.heap) (hN : vx_Zq Bundle.tN "SUPPRESSED_SENTINEL" Bundle.listD A s s.heap) (hS : va_S A s.heap H locs) (hsize : ls.size = c.maxLocals)
    (d0 : decode cc pc = .ok (.new ik, 3)) (d3 : decode cc (pc + 3) = .ok (.dup, 1)) (d4 : decode cc (pc + 4) = .ok (.invokespecial ic, 3)) (d7 : decode cc (pc + 7) = .ok (.athrow, 1))
    (hout : ∀ x ∈ c.exceptionTable.toList, covers x (pc + 7) = false)
    (hRframes : names.length + 3 < R.frames) (hRlocals : (rest.map fun v => v.category).sum + (13 * (names.length + 1) + 42) ≤ R.locals) (hRcells : cells + 1 ≤ R.cells) (hRslots : slots + 6 ≤ R.slots) (hlocks : meth.locks = false)
    (hx : ∀ t : State, s.vm.Alike t.vm → H.size ≤ t.heap.size → (∀ q : Nat, q < H.size → t.heap[q]? = H[q]?) → XC cls s t)
    (hf : ∀ z ∈ locs, free z.base) (hc : cells + 1 ≤ mc) (hs : slots + 6 ≤ ms) :
    W p l e R s m args below meth c H locs cells slots (vx_MQ below Qc XC args s mc ms free) (F0 m pc ls rest) := by
  intro T hT X
  have htr : e.platform.stackTraces = false := (show e.platform.stackTraces = l.stackTraces by rw [X.admits.platform]).trans hl
  have Y := vx_rebase X (R' := { frames := R.frames, locals := R.locals, cells := 1, slots := 6 }) (Nat.le_refl _) (Nat.le_refl _) hRcells hRslots
  obtain ⟨s', hA⟩ : ∃ z, z = (T.setVm s.vm).setFrames (.invoking m args :: below) := ⟨_, rfl⟩
  rw [← hA] at Y
  have hvm : s'.vm = s.vm := by rw [hA]; rfl
  have hhp : s'.heap = H := by rw [hA]; exact hT
  have hW0 : s.WarmedH s'.vm := by rw [hvm]; exact State.WarmedH.refl s
  have hat' : ∀ w ∈ vx_at0 own ic cls names, w.before args s' = true := fun w hw => vx_ot_at hW0 hvm.symm (hgood w (List.mem_cons_of_mem _ (List.mem_cons_of_mem _ hw))) (hat w hw)
  have hk' : (Cond.classLink own ik cls).before args s' = true := vx_ot_at hW0 hvm.symm (hgood _ List.mem_cons_self) hk
  have hini' : (Cond.initialized cls).before args s' = true := vx_ot_at hW0 hvm.symm (hgood _ (List.mem_cons_of_mem _ List.mem_cons_self)) hini
  have hU' : vx_Zq Bundle.tN "UNASSIGNED_STACK" Bundle.steD A s' s'.heap := by rw [hhp]; exact vx_Zq.moved hW0.alike (hU.kept hS.2.1)
  have hN' : vx_Zq Bundle.tN "SUPPRESSED_SENTINEL" Bundle.listD A s' s'.heap := by rw [hhp]; exact vx_Zq.moved hW0.alike (hN.kept hS.2.1)
  have h : ∀ w ∈ Bundle.ownAtoms0 own ic cls names, w.before args s' = true := vx_own hat' (vx_isRefq hU'.1) (vx_isRefq hN'.1) hU'.2.word hN'.2.word
  have hown' : s'.vm.findClass own = some m.cls := by rw [hvm]; exact hown
  have hins : (Cond.instantiable cls 6).before args s' = true := h _ (by simp [Bundle.ownAtoms0])
  obtain ⟨vm₁, cX, kX, hfX, hkX, -, -, X₁, st1⟩ := Y.newCold hexec (own := own) (C := cls) (index := ik) (n := 6) hown' hk' hins hini'
    (g := F0 m pc ls rest) rfl (by rw [hb]; exact d0) (Nat.le_refl _) (Nat.le_refl _)
  generalize hT1 : (T.setVm vm₁).pushCell { cls := cX, slots := kX.instanceTypes.map defaultValue, vm := .none } = T1 at X₁ st1
  have hcat : (Value.ref T.heap.size).category = 1 := rfl
  have hcellA : T1.heap[T.heap.size]? = some (freshCell cX kX) := by rw [← hT1]; exact State.heap_pushCell_size _ _
  have d3' : decode c.code (pc + 3) = .ok (.dup, 1) := by rw [hb]; exact d3
  obtain ⟨U, hsteps, hrun, hend, hW, hsame, ce, hce, hO⟩ := X₁.ctorThrow0 hexec htr (own := own) (cls := cls) (names := names) (ic := ic) hown' hcls hnames h (fun x hx => nomatch hx) hfX hkX hcellA (by rw [hhp, hT]; exact Nat.le_refl _)
    (g := { method := m, pc := pc + 4, locals := ls, stack := .ref T.heap.size :: .ref T.heap.size :: rest, locked := none }) rfl hsize rfl rfl (rest := rest) rfl
    (by rw [hb]; exact d4) (by rw [hb]; exact d7) hout hRframes (by simp only [List.map_cons, List.sum_cons, hcat]; omega) hlocks
  obtain ⟨f1, f2⟩ := vx_frame hsame
  rw [hhp] at f1 f2
  have hWs : s.WarmedH U.vm := State.WarmedH.trans hW0 hW
  have hcl : s.vm.findClass cls = some ce.cls := by
    have h9 := hO.cls
    rw [hvm] at h9
    exact h9
  have hall : s.sameButNew ({ U with vm := s.vm } : State) locs mc ms := by
    subst hA
    obtain ⟨e1, e2⟩ := hsame
    rw [State.setFrames_setFrames] at e1
    have h2 : (T.setVm s.vm).sameButNew ({ U with vm := s.vm } : State) [] (0 + 1) (0 + 6) := ⟨e1, e2⟩
    have h3 := X.same.trans h2
    rw [List.append_nil] at h3
    exact h3.mono hc hs
  refine ⟨U, ?_, .threw T.heap.size, hrun, hend, Or.inr ⟨T.heap.size, rfl, cls, ce, locs, hx U hWs.alike f1 (fun q hq => f2 q hq (fun z hz => nomatch hz)), hce, hO.vm, hcl, hWs, hall, hf⟩⟩
  refine st1 _ ?_
  show Steps p.tables e below (T1.setTop { method := m, pc := pc + 3, locals := ls, stack := .ref T.heap.size :: rest, locked := none }) _
  jvm_step X₁.here [X₁.here.top, hexec, d3', Value.category]
  exact hsteps
/-- 'throw new E("text")': new; dup; ldc; invokespecial; athrow -/
theorem vx_throwS {cc : ByteArray} {pc : Nat} (hexec : p.tables.exec = Jvm.exec) (hb : c.code = cc) (hl : l.stackTraces = false) {own cls text : String} {names : List String} {ik is ic mc ms sa : Nat} {A : Nat → Prop}
    (hown : s.vm.findClass own = some m.cls) (hcls : Bundle.fit cls = true) (hnames : ∀ n ∈ names, Bundle.fit n = true)
    (hk : (Cond.classLink own ik cls).before args s = true) (hini : (Cond.initialized cls).before args s = true) (hstr : vk_R own is text sa s) (hat : ∀ w ∈ vx_atS own ic cls names, w.before args s = true)
    (hgood : ∀ w ∈ Cond.classLink own ik cls :: Cond.initialized cls :: vx_atS own ic cls names, vx_ot w = true)
    (hU : vx_Zq Bundle.tN "UNASSIGNED_STACK" Bundle.steD A s s.heap) (hN : vx_Zq Bundle.tN "SUPPRESSED_SENTINEL" Bundle.listD A s s.heap) (hS : va_S A s.heap H locs) (hsize : ls.size = c.maxLocals)
    (d0 : decode cc pc = .ok (.new ik, 3)) (d3 : decode cc (pc + 3) = .ok (.dup, 1)) (d4 : decode cc (pc + 4) = .ok (.ldc is, 2)) (d6 : decode cc (pc + 6) = .ok (.invokespecial ic, 3)) (d9 : decode cc (pc + 9) = .ok (.athrow, 1))
    (hout : ∀ x ∈ c.exceptionTable.toList, covers x (pc + 9) = false)
    (hRframes : names.length + 3 < R.frames) (hRlocals : (rest.map fun v => v.category).sum + (13 * (names.length + 1) + 43) ≤ R.locals) (hRcells : cells + 1 ≤ R.cells) (hRslots : slots + 6 ≤ R.slots) (hlocks : meth.locks = false)
    (hx : ∀ t : State, s.vm.Alike t.vm → H.size ≤ t.heap.size → (∀ q : Nat, q < H.size → t.heap[q]? = H[q]?) → XC cls s t)
    (hf : ∀ z ∈ locs, free z.base) (hc : cells + 1 ≤ mc) (hs : slots + 6 ≤ ms) :
    W p l e R s m args below meth c H locs cells slots (vx_MQ below Qc XC args s mc ms free) (F0 m pc ls rest) := by
  intro T hT X
  have htr : e.platform.stackTraces = false := (show e.platform.stackTraces = l.stackTraces by rw [X.admits.platform]).trans hl
  have Y := vx_rebase X (R' := { frames := R.frames, locals := R.locals, cells := 1, slots := 6 }) (Nat.le_refl _) (Nat.le_refl _) hRcells hRslots
  obtain ⟨s', hA⟩ : ∃ z, z = (T.setVm s.vm).setFrames (.invoking m args :: below) := ⟨_, rfl⟩
  rw [← hA] at Y
  have hvm : s'.vm = s.vm := by rw [hA]; rfl
  have hhp : s'.heap = H := by rw [hA]; exact hT
  have hW0 : s.WarmedH s'.vm := by rw [hvm]; exact State.WarmedH.refl s
  have hat' : ∀ w ∈ vx_atS own ic cls names, w.before args s' = true := fun w hw => vx_ot_at hW0 hvm.symm (hgood w (List.mem_cons_of_mem _ (List.mem_cons_of_mem _ hw))) (hat w hw)
  have hk' : (Cond.classLink own ik cls).before args s' = true := vx_ot_at hW0 hvm.symm (hgood _ List.mem_cons_self) hk
  have hini' : (Cond.initialized cls).before args s' = true := vx_ot_at hW0 hvm.symm (hgood _ (List.mem_cons_of_mem _ List.mem_cons_self)) hini
  have hU' : vx_Zq Bundle.tN "UNASSIGNED_STACK" Bundle.steD A s' s'.heap := by rw [hhp]; exact vx_Zq.moved hW0.alike (hU.kept hS.2.1)
  have hN' : vx_Zq Bundle.tN "SUPPRESSED_SENTINEL" Bundle.listD A s' s'.heap := by rw [hhp]; exact vx_Zq.moved hW0.alike (hN.kept hS.2.1)
  have h : ∀ w ∈ Bundle.ownAtoms own ic cls names, w.before args s' = true := vx_own hat' (vx_isRefq hU'.1) (vx_isRefq hN'.1) hU'.2.word hN'.2.word
  have hown' : s'.vm.findClass own = some m.cls := by rw [hvm]; exact hown
  have hins : (Cond.instantiable cls 6).before args s' = true := h _ (by simp [Bundle.ownAtoms])
  obtain ⟨vm₁, cX, kX, hfX, hkX, -, -, X₁, st1⟩ := Y.newCold hexec (own := own) (C := cls) (index := ik) (n := 6) hown' hk' hins hini'
    (g := F0 m pc ls rest) rfl (by rw [hb]; exact d0) (Nat.le_refl _) (Nat.le_refl _)
  generalize hT1 : (T.setVm vm₁).pushCell { cls := cX, slots := kX.instanceTypes.map defaultValue, vm := .none } = T1 at X₁ st1
  have hcat : (Value.ref T.heap.size).category = 1 := rfl
  have hcellA : T1.heap[T.heap.size]? = some (freshCell cX kX) := by rw [← hT1]; exact State.heap_pushCell_size _ _
  have d3' : decode c.code (pc + 3) = .ok (.dup, 1) := by rw [hb]; exact d3
  have d4' : decode c.code (pc + 4) = .ok (.ldc is, 2) := by rw [hb]; exact d4
  have hstr' : vk_R own is text sa s' := vk_R.warm hW0 hstr
  obtain ⟨U, hsteps, hrun, hend, hW, hsame, ce, hce, hO⟩ := X₁.ctorThrowS hexec htr (own := own) (cls := cls) (names := names) (ic := ic) hown' hcls hnames h (fun x hx => nomatch hx) hfX hkX hcellA (by rw [hhp, hT]; exact Nat.le_refl _) (msg := .ref sa) rfl
    (g := { method := m, pc := pc + 6, locals := ls, stack := .ref sa :: .ref T.heap.size :: .ref T.heap.size :: rest, locked := none }) rfl hsize rfl rfl (rest := rest) rfl
    (by rw [hb]; exact d6) (by rw [hb]; exact d9) hout hRframes (by simp only [List.map_cons, List.sum_cons, hcat]; omega) hlocks
  obtain ⟨f1, f2⟩ := vx_frame hsame
  rw [hhp] at f1 f2
  have hWs : s.WarmedH U.vm := State.WarmedH.trans hW0 hW
  have hcl : s.vm.findClass cls = some ce.cls := by
    have h9 := hO.cls
    rw [hvm] at h9
    exact h9
  have hall : s.sameButNew ({ U with vm := s.vm } : State) locs mc ms := by
    subst hA
    obtain ⟨e1, e2⟩ := hsame
    rw [State.setFrames_setFrames] at e1
    have h2 : (T.setVm s.vm).sameButNew ({ U with vm := s.vm } : State) [] (0 + 1) (0 + 6) := ⟨e1, e2⟩
    have h3 := X.same.trans h2
    rw [List.append_nil] at h3
    exact h3.mono hc hs
  refine ⟨U, ?_, .threw T.heap.size, hrun, hend, Or.inr ⟨T.heap.size, rfl, cls, ce, locs, hx U hWs.alike f1 (fun q hq => f2 q hq (fun z hz => nomatch hz)), hce, hO.vm, hcl, hWs, hall, hf⟩⟩
  refine st1 _ ?_
  show Steps p.tables e below (T1.setTop { method := m, pc := pc + 3, locals := ls, stack := .ref T.heap.size :: rest, locked := none }) _
  jvm_step X₁.here [X₁.here.top, hexec, d3', Value.category]
  exact X₁.ldcString hexec (own := own) (text := text) (index := is) (a := sa) hown' hstr'.1 hstr'.2
    (g := { method := m, pc := pc + 4, locals := ls, stack := .ref T.heap.size :: .ref T.heap.size :: rest, locked := none }) rfl d4' _ hsteps
/-- 'throw new E("text")', the text by a wide index -/
theorem vx_throwSW {cc : ByteArray} {pc : Nat} (hexec : p.tables.exec = Jvm.exec) (hb : c.code = cc) (hl : l.stackTraces = false) {own cls text : String} {names : List String} {ik is ic mc ms sa : Nat} {A : Nat → Prop}
    (hown : s.vm.findClass own = some m.cls) (hcls : Bundle.fit cls = true) (hnames : ∀ n ∈ names, Bundle.fit n = true)
    (hk : (Cond.classLink own ik cls).before args s = true) (hini : (Cond.initialized cls).before args s = true) (hstr : vk_R own is text sa s) (hat : ∀ w ∈ vx_atS own ic cls names, w.before args s = true)
    (hgood : ∀ w ∈ Cond.classLink own ik cls :: Cond.initialized cls :: vx_atS own ic cls names, vx_ot w = true)
    (hU : vx_Zq Bundle.tN "UNASSIGNED_STACK" Bundle.steD A s s.heap) (hN : vx_Zq Bundle.tN "SUPPRESSED_SENTINEL" Bundle.listD A s s.heap) (hS : va_S A s.heap H locs) (hsize : ls.size = c.maxLocals)
    (d0 : decode cc pc = .ok (.new ik, 3)) (d3 : decode cc (pc + 3) = .ok (.dup, 1)) (d4 : decode cc (pc + 4) = .ok (.ldc_w is, 3)) (d7 : decode cc (pc + 7) = .ok (.invokespecial ic, 3)) (d10 : decode cc (pc + 10) = .ok (.athrow, 1))
    (hout : ∀ x ∈ c.exceptionTable.toList, covers x (pc + 10) = false)
    (hRframes : names.length + 3 < R.frames) (hRlocals : (rest.map fun v => v.category).sum + (13 * (names.length + 1) + 43) ≤ R.locals) (hRcells : cells + 1 ≤ R.cells) (hRslots : slots + 6 ≤ R.slots) (hlocks : meth.locks = false)
    (hx : ∀ t : State, s.vm.Alike t.vm → H.size ≤ t.heap.size → (∀ q : Nat, q < H.size → t.heap[q]? = H[q]?) → XC cls s t)
    (hf : ∀ z ∈ locs, free z.base) (hc : cells + 1 ≤ mc) (hs : slots + 6 ≤ ms) :
    W p l e R s m args below meth c H locs cells slots (vx_MQ below Qc XC args s mc ms free) (F0 m pc ls rest) := by
  intro T hT X
  have htr : e.platform.stackTraces = false := (show e.platform.stackTraces = l.stackTraces by rw [X.admits.platform]).trans hl
  have Y := vx_rebase X (R' := { frames := R.frames, locals := R.locals, cells := 1, slots := 6 }) (Nat.le_refl _) (Nat.le_refl _) hRcells hRslots
  obtain ⟨s', hA⟩ : ∃ z, z = (T.setVm s.vm).setFrames (.invoking m args :: below) := ⟨_, rfl⟩
  rw [← hA] at Y
  have hvm : s'.vm = s.vm := by rw [hA]; rfl
  have hhp : s'.heap = H := by rw [hA]; exact hT
  have hW0 : s.WarmedH s'.vm := by rw [hvm]; exact State.WarmedH.refl s
  have hat' : ∀ w ∈ vx_atS own ic cls names, w.before args s' = true := fun w hw => vx_ot_at hW0 hvm.symm (hgood w (List.mem_cons_of_mem _ (List.mem_cons_of_mem _ hw))) (hat w hw)
  have hk' : (Cond.classLink own ik cls).before args s' = true := vx_ot_at hW0 hvm.symm (hgood _ List.mem_cons_self) hk
  have hini' : (Cond.initialized cls).before args s' = true := vx_ot_at hW0 hvm.symm (hgood _ (List.mem_cons_of_mem _ List.mem_cons_self)) hini
  have hU' : vx_Zq Bundle.tN "UNASSIGNED_STACK" Bundle.steD A s' s'.heap := by rw [hhp]; exact vx_Zq.moved hW0.alike (hU.kept hS.2.1)
  have hN' : vx_Zq Bundle.tN "SUPPRESSED_SENTINEL" Bundle.listD A s' s'.heap := by rw [hhp]; exact vx_Zq.moved hW0.alike (hN.kept hS.2.1)
  have h : ∀ w ∈ Bundle.ownAtoms own ic cls names, w.before args s' = true := vx_own hat' (vx_isRefq hU'.1) (vx_isRefq hN'.1) hU'.2.word hN'.2.word
  have hown' : s'.vm.findClass own = some m.cls := by rw [hvm]; exact hown
  have hins : (Cond.instantiable cls 6).before args s' = true := h _ (by simp [Bundle.ownAtoms])
  obtain ⟨vm₁, cX, kX, hfX, hkX, -, -, X₁, st1⟩ := Y.newCold hexec (own := own) (C := cls) (index := ik) (n := 6) hown' hk' hins hini'
    (g := F0 m pc ls rest) rfl (by rw [hb]; exact d0) (Nat.le_refl _) (Nat.le_refl _)
  generalize hT1 : (T.setVm vm₁).pushCell { cls := cX, slots := kX.instanceTypes.map defaultValue, vm := .none } = T1 at X₁ st1
  have hcat : (Value.ref T.heap.size).category = 1 := rfl
  have hcellA : T1.heap[T.heap.size]? = some (freshCell cX kX) := by rw [← hT1]; exact State.heap_pushCell_size _ _
  have d3' : decode c.code (pc + 3) = .ok (.dup, 1) := by rw [hb]; exact d3
  have d4' : decode c.code (pc + 4) = .ok (.ldc_w is, 3) := by rw [hb]; exact d4
  have hstr' : vk_R own is text sa s' := vk_R.warm hW0 hstr
  obtain ⟨U, hsteps, hrun, hend, hW, hsame, ce, hce, hO⟩ := X₁.ctorThrowS hexec htr (own := own) (cls := cls) (names := names) (ic := ic) hown' hcls hnames h (fun x hx => nomatch hx) hfX hkX hcellA (by rw [hhp, hT]; exact Nat.le_refl _) (msg := .ref sa) rfl
    (g := { method := m, pc := pc + 7, locals := ls, stack := .ref sa :: .ref T.heap.size :: .ref T.heap.size :: rest, locked := none }) rfl hsize rfl rfl (rest := rest) rfl
    (by rw [hb]; exact d7) (by rw [hb]; exact d10) hout hRframes (by simp only [List.map_cons, List.sum_cons, hcat]; omega) hlocks
  obtain ⟨f1, f2⟩ := vx_frame hsame
  rw [hhp] at f1 f2
  have hWs : s.WarmedH U.vm := State.WarmedH.trans hW0 hW
  have hcl : s.vm.findClass cls = some ce.cls := by
    have h9 := hO.cls
    rw [hvm] at h9
    exact h9
  have hall : s.sameButNew ({ U with vm := s.vm } : State) locs mc ms := by
    subst hA
    obtain ⟨e1, e2⟩ := hsame
    rw [State.setFrames_setFrames] at e1
    have h2 : (T.setVm s.vm).sameButNew ({ U with vm := s.vm } : State) [] (0 + 1) (0 + 6) := ⟨e1, e2⟩
    have h3 := X.same.trans h2
    rw [List.append_nil] at h3
    exact h3.mono hc hs
  refine ⟨U, ?_, .threw T.heap.size, hrun, hend, Or.inr ⟨T.heap.size, rfl, cls, ce, locs, hx U hWs.alike f1 (fun q hq => f2 q hq (fun z hz => nomatch hz)), hce, hO.vm, hcl, hWs, hall, hf⟩⟩
  refine st1 _ ?_
  show Steps p.tables e below (T1.setTop { method := m, pc := pc + 3, locals := ls, stack := .ref T.heap.size :: rest, locked := none }) _
  jvm_step X₁.here [X₁.here.top, hexec, d3', Value.category]
  exact X₁.ldcStringW hexec (own := own) (text := text) (index := is) (a := sa) hown' hstr'.1 hstr'.2
    (g := { method := m, pc := pc + 4, locals := ls, stack := .ref T.heap.size :: .ref T.heap.size :: rest, locked := none }) rfl d4' _ hsteps
end Ends
section Bodies
variable {l : Launch}
theorem vx_ofW {y : MethodName} {ws ws' : List Cond} {rm : Room} {Pc : Array Value → State → Prop} {Qc : Array Value → State → Outcome → State → Prop} {XC : String → State → State → Prop} {mc ms : Nat} {free : Addr → Prop} {cc : ByteArray} {maxL : Nat} {ret : Option FieldType}
    (hy : plainName y.cls = true) (hw : ws = Cond.code y cc maxL ret :: ws')
    (body : ∀ p e s m args below meth c s₁, BodyLoose p l y (headSpec ws rm) cc maxL ret e s m args below meth c s₁ → c.maxLocals = maxL → (∀ x ∈ c.exceptionTable.toList, False) → Pc args s →
      W p l e (headSpec ws rm).room s m args below meth c s.heap [] 0 0 (vx_MQ below Qc XC args s mc ms free) (entryFrame m args maxL)) : vx_Met l y ws rm Pc Qc XC mc ms free := by
  refine MetFree.of_bodyS (code := cc) (maxLocals := maxL) (ret := ret) hy ?_ ?_
  · intro args s m h hn
    obtain ⟨meth, c, h1, h2, h3, h4, h5, h6, -, -⟩ := Cond.code_spec hn (atoms_spec (ws := ws) h _ (by rw [hw]; exact List.mem_cons_self))
    exact ⟨meth, c, h1, h2, h3, h4, h5, h6⟩
  · intro p e s m args below meth c s₁ B hml hP _
    have hh0 : s₁.heap = s.heap := by rw [B.state]; rfl
    have ht : ∀ x ∈ c.exceptionTable.toList, False := by
      obtain ⟨meth9, c9, h1, h2, -, -, -, -, h7, -⟩ := Cond.code_spec B.named (atoms_spec (ws := ws) B.pre _ (by rw [hw]; exact List.mem_cons_self))
      cases Option.some.inj (h1.symm.trans B.method)
      cases Option.some.inj (h2.symm.trans (Stand.of_body B).code)
      intro x hx
      rw [Array.isEmpty_iff.mp h7] at hx
      cases hx
    obtain ⟨t, a1, o, b1, b2, b3⟩ := body p e s m args below meth c s₁ B hml ht hP s₁ hh0 (Stand.of_body B)
    exact ⟨t, o, a1, b1, b2, b3⟩
/-- the table of a body with handlers -/
theorem vx_table {p : Program} {x y : MethodName} {S : Spec} {cc bytes : ByteArray} {maxL maxL' : Nat} {ret ret' : Option FieldType} {e : Env} {s s₁ : State} {m : MethodId} {args : Array Value} {below : List Frame} {meth : Method} {c : Code} {hh : List (Nat × Nat × Nat × Nat)}
    (B : BodyLoose p l y S cc maxL ret e s m args below meth c s₁) (h : (Cond.codeWith y bytes maxL' ret' hh).before args s = true) : c.exceptionTable.toList = tableOf hh := by
  obtain ⟨m9, meth9, c9, hn9, h1, h2, -, -, h6, -⟩ := Cond.codeWith_spec h
  cases Option.some.inj (hn9.symm.trans B.named)
  cases Option.some.inj (h1.symm.trans B.method)
  cases Option.some.inj (h2.symm.trans (Stand.of_body B).code)
  rw [← h6, table_eq]
end Bodies
end VXA
/-! ===== END ===== -/
/-! ===== BEGIN a static call of a method with an exception table ===== -/
section VXS
variable {p : Program} {l : Launch} {e : Env} {R : Room} {s : State} {m : MethodId} {args : Array Value} {below : List Frame} {meth : Method} {c : Code} {T : State} {H : Heap} {locs : List Loc} {cells slots : Nat}
abbrev vx_CSW (R : Room) (s : State) (args : Array Value) (own : String) (index : Nat) (y : MethodName) (bytes : ByteArray) (maxL : Nat) (ret : Option FieldType) (hh : List (Nat × Nat × Nat × Nat)) (ws : List Cond) (rm : Room) (mc ms n : Nat) : Prop :=
  (rm.cells = mc ∧ rm.slots = ms ∧ rm.frames + 1 ≤ R.frames ∧ 8 + (maxL + 11) + rm.locals ≤ R.locals ∧ (∀ w ∈ ws, ∀ (a' : Array Value) (U : State), s.WarmedH U.vm → w.before a' U = true) ∧ Cond.codeWith y bytes maxL ret hh ∈ ws) ∧
  (Cond.codeWith y bytes maxL ret hh).before args s = true ∧ (Cond.initialized y.cls).before args s = true ∧ (y.cls ≠ "java/lang/invoke/MethodHandle" ∧ y.cls ≠ "java/lang/invoke/VarHandle") ∧
  (∀ sig, parseMethodDescriptor y.desc = some sig → n = sig.parameters.length) ∧ (Cond.methodLink own index y).before args s = true ∧ (Cond.static y).before args s = true
theorem vx_cwSW {own : String} {index maxL mc ms : Nat} {y : MethodName} {bytes : ByteArray} {ret : Option FieldType} {hh : List (Nat × Nat × Nat × Nat)} {Ts ws ws' : List Cond} {rm : Room} (n : Nat) (ht : ∀ w ∈ Ts, w.before args s = true) (hT : GoodIn Ts (va_wsS own index y ws)) (hw : ws = Cond.codeWith y bytes maxL ret hh :: ws') (hrc : rm.cells = mc) (hrs : rm.slots = ms)
    (hd : y.cls ≠ "java/lang/invoke/MethodHandle" ∧ y.cls ≠ "java/lang/invoke/VarHandle" ∧ (parseMethodDescriptor y.desc).map (fun d => d.parameters.length) = some n) (hR : rm.frames + 1 ≤ R.frames ∧ 8 + (maxL + 11) + rm.locals ≤ R.locals) :
    vx_CSW R s args own index y bytes maxL ret hh ws rm mc ms n := by
  have ok : ∀ w ∈ va_wsS own index y ws, w.before args s = true := fun w h => ht w (hT w h).1
  have hG : GoodIn Ts ws := fun w h => hT w (by unfold va_wsS; exact List.mem_append_right _ h)
  have hc : Cond.codeWith y bytes maxL ret hh ∈ ws := by rw [hw]; exact List.mem_cons_self
  refine ⟨⟨hrc, hrs, hR.1, hR.2, pay_in ht hG, hc⟩, ht _ (hG _ hc).1, ok _ (by simp [va_wsS]), ⟨hd.1, hd.2.1⟩, fun sig h => ?_, ok _ (by simp [va_wsS]), ok _ (by simp [va_wsS])⟩
  have h2 := hd.2.2
  rw [h] at h2
  exact (Option.some.inj h2).symm
theorem vx_callSW (X : Stand p l e R s m args below meth c T locs cells slots) (hexec : p.tables.exec = Jvm.exec) {own : String} {index : Nat} {y : MethodName} {bytes : ByteArray} {maxL : Nat} {ret : Option FieldType} {hh : List (Nat × Nat × Nat × Nat)}
    (hown : s.vm.findClass own = some m.cls) (hlink : (Cond.methodLink own index y).before args s = true) (hstat : (Cond.static y).before args s = true) (hinit : (Cond.initialized y.cls).before args s = true)
    (hcode : (Cond.codeWith y bytes maxL ret hh).before args s = true) (hy : y.cls ≠ "java/lang/invoke/MethodHandle" ∧ y.cls ≠ "java/lang/invoke/VarHandle")
    {W9 : Nat} {Pre : Pt → Array Value → Prop} {Post : Pt → Array Value → Option Value → Pt → Prop} (hK : Back l R p e below s args y 3 W9 Pre Post)
    {g : JFrame} (hg : g.method = m) (hsize : g.locals.size = c.maxLocals) {argsL rest : List Value} (hlen : ∀ sig, parseMethodDescriptor y.desc = some sig → argsL.length = sig.parameters.length)
    (hstack : g.stack = argsL.reverse ++ rest) (hW : 2 * g.monitorRoom + (rest.map fun v => v.category).sum ≤ W9) (hdg : decode c.code g.pc = .ok (.invokestatic index, 3))
    (hpre : ∀ vm₁, s.WarmedH vm₁ → Pre ⟨T.setVm vm₁, locs, cells, slots⟩ argsL.toArray) :
    ∃ (v : Option Value) (vm₁ : Vm) (B : Pt), s.WarmedH vm₁ ∧ Stand p l e R s m args below meth c B.U B.locs B.cells B.slots ∧ Post ⟨T.setVm vm₁, locs, cells, slots⟩ argsL.toArray v B ∧
      ∀ target, Steps p.tables e below (B.U.setTop { g with pc := g.pc + 3, stack := v.toList ++ rest }) target → Steps p.tables e below (T.setTop g) target := by
  obtain ⟨mk, methM, cM, hnamed, hmethM, -, -, -, -, -, -, hsigM⟩ := Cond.codeWith_spec hcode
  have hstatic : methM.isStatic = true := Cond.static_spec hnamed hmethM hstat
  obtain ⟨kP, hkP, -⟩ := className_of_methodNamed hnamed
  have hinitP : kP.init = .initialized := Cond.initialized_spec (findClass_of_methodNamed hnamed) hkP hinit
  obtain ⟨vm₁, X₁, hstep₁⟩ := X.invokestatic hexec hown hlink hnamed hmethM hstatic hkP hinitP hy (g := g) hg (argsL := argsL) (rest := rest) (hlen _ hsigM) hstack hdg
  obtain ⟨v, B, X', hpost, hsteps⟩ := hK m meth c ⟨T.setVm vm₁, locs, cells, slots⟩ { g with stack := rest } (.invokestatic index) mk argsL.toArray X₁ hg hsize hdg hW (X₁.named hnamed) (hpre vm₁ X₁.warmed)
  exact ⟨v, vm₁, B, X₁.warmed, X', hpost, fun target h => hstep₁ _ fun acts => by rw [doInvoke_state]; exact hsteps.trans h⟩
theorem vx_runSW {y : MethodName} {bytes cc : ByteArray} {maxL nL mc ms n index : Nat} {ret : Option FieldType} {hh : List (Nat × Nat × Nat × Nat)} {ws : List Cond} {rm : Room} {Pc : Array Value → State → Prop} {Qc : Array Value → State → Outcome → State → Prop} {free : Addr → Prop} {Ts : List Cond} {own : String} {As rest : List Value} {g : JFrame}
    (S : CallFix p m c cc nL s args Ts own) (hM : Met l y ws rm Pc Qc mc ms free) (cw : vx_CSW R s args own index y bytes maxL ret hh ws rm mc ms n) (hp : PreS s H Pc As)
    (hg : g.method = m) (hn : As.length = n) (hsize : g.locals.size = nL) (hstack : g.stack = As.reverse ++ rest) (hW : 2 * g.monitorRoom + (rest.map fun v => v.category).sum ≤ 8) (hdg : decode cc g.pc = .ok (.invokestatic index, 3)) (hf : cells + mc ≤ R.cells ∧ slots + ms ≤ R.slots) :
    va_Run p l e R s m args below meth c H locs cells slots mc ms g rest (Qc As.toArray) (free) := by
  obtain ⟨⟨hrc, hrs, hfr, hlo, hws, hcw⟩, hcode, hini, hy, hlen, hl, hstt⟩ := cw
  have hK : Back l R p e below s args y 3 8 (PreOf R mc ms Pc) (PostOf Qc mc ms free) := va_backW (hh := hh) (bytes := bytes) (maxL := maxL) (ret := ret) hM hp.1 hrc hrs hfr hlo hws hcw (fun a' U hW => word_at hW (Or.inl (by first | rfl | simp [Cond.onTables, Cond.keeps, Cond.steady])) hini)
  obtain ⟨hx, hb, hml, ho, -⟩ := S
  intro T hT X
  obtain ⟨v, vm₁, ⟨U', l2, c2, s2⟩, hW₁, X', ⟨g', mk, t, L, e1, e2, hq, h1, hL, h2, h3⟩, st⟩ := vx_callSW X hx (hh := hh) (bytes := bytes) (maxL := maxL) (ret := ret) ho hl hstt hini hcode hy hK hg (hsize.trans hml.symm) (argsL := As) (rest := rest) (fun sig h => hn.trans (hlen sig h)) hstack hW (by rw [hb]; exact hdg)
    (fun vm₁ hW₁ => ⟨hf.1, hf.2, hp.2 (T.setVm vm₁) hT hW₁⟩)
  dsimp only [Pt.U, Pt.locs, Pt.cells, Pt.slots] at X' e1 e2 h1 h2 h3 st
  subst h1; subst h2; subst h3
  exact ⟨v, (T.setVm vm₁).calling g' mk As.toArray, t, U', L, hT, X', hL, e1, e2, hq, st⟩
/-- not caught here, past rows that name other classes: it goes on to the caller -/
theorem vx_outP {p : Program} {l : Launch} {e : Env} {R : Room} {s : State} {m : MethodId} {args : Array Value} {below : List Frame} {meth : Method} {c : Code} {H : Heap} {locs : List Loc} {cells slots : Nat} {free : Addr → Prop} {ls : Array Slot} {rest : List Value} {Qc : Array Value → State → Outcome → State → Prop} {XC : String → State → State → Prop}
    {pc : Nat} {own E : String} {ce : Cell} {q : Addr} {mc ms : Nat} (hown : s.vm.findClass own = some m.cls) (hlocks : meth.locks = false)
    (hpass : ∀ z ∈ c.exceptionTable.toList, covers z pc = false ∨ (z.catchType ≠ 0 ∧ ∃ nm : String, (Cond.classLink own z.catchType nm).before args s = true ∧ va_Nc E nm s)) (hcell : H[q]? = some ce) (hv : ce.vm = .none) (hcl : s.vm.findClass E = some ce.cls)
    (hx : ∀ t : State, t.heap = H → s.vm.Alike t.vm → XC E s t) (hf : ∀ z ∈ locs, free z.base) (hc : cells ≤ mc) (hs : slots ≤ ms) :
    vx_W p l e R s m args below meth c H locs cells slots (vx_MQ below Qc XC args s mc ms free) (F0 m pc ls rest) q := by
  intro T hT X
  have hpl : e.platform.magicAccessors = ({} : Platform).magicAccessors := by rw [X.admits.platform]
  obtain ⟨vm', hW', X', st⟩ := X.outThrough hlocks q (g := F0 m pc ls rest) rfl rfl rfl (cell := ce) (by rw [hT]; exact hcell) (by rw [hv]; rfl)
    (by obtain ⟨k9, h9, -⟩ := Vm.findClass_spec hcl; exact ⟨k9, h9⟩) (fun z hz => by
      rcases hpass z hz with h | ⟨hz0, nm, hl1, hn1⟩
      · exact Or.inl h
      · obtain ⟨c6, hc6, hcl6⟩ := Cond.classLink_spec hown hl1 e.platform hpl
        obtain ⟨a8, b8, h1, h2, h3⟩ := hn1
        cases Option.some.inj (h1.symm.trans hcl)
        cases Option.some.inj (h2.symm.trans hc6)
        exact Or.inr ⟨hz0, _, hcl6, h3⟩)
  obtain ⟨g₀, hfr⟩ := X'.frames_eq
  have hcell9 : ((T.setVm vm').setFrames (.throwing q :: below)).heap[q]? = some ce := by
    show T.heap[q]? = some ce
    rw [hT]; exact hcell
  have hend : Ended ((T.setVm vm').setFrames (.throwing q :: below)) below (.threw q) := State.frames_setFrames _ (State.cur_lt_of_frames hfr)
  refine ⟨(T.setVm vm').setFrames (.throwing q :: below), ?_, .threw q, X'.here.running, hend, Or.inr ⟨q, rfl, E, ce, locs, hx _ hT (X'.ends _).1.alike, hcell9, hv, hcl, (X'.ends _).1, (X'.ends _).2.mono hc hs, hf⟩⟩
  rw [X.pushThrowing_eq]
  exact st
/-- a thing of a world lies in the heap -/
theorem vx_lt {D : va_G} {cl : List vw_C} {ws : va_W} {H1 : Heap} (h : va_P D cl ws H1) {k : Nat} {q : Nat × va_E} (hk : ws[k]? = some q) : q.1 < H1.size := (h k q hk).lt
end VXS
/-! ===== END ===== -/
/-! ===== BEGIN methods with a table of their own: called by a name, returning or throwing ===== -/
section VXH
/-! vx_backW, vx_callVX, vx_callSX, vx_callVW, vx_runVW, vx_runVX, vx_runSX, vx_ofWH follow the same proofs as their sisters above (Free/Laws.lean, Shelf42/LK1.lean); vx_outP calls Shelf42/NT130.lean (outThrough). -/
section
variable {l : Launch} {R : Room} {p : Program} {e : Env} {below : List Frame} {s : State} {sargs : Array Value} {y : MethodName} {len W9 : Nat}
theorem vx_backW {ws : List Cond} {rm : Room} {Pc : Array Value → State → Prop} {Qc : Array Value → State → Outcome → State → Prop} {XC : String → State → State → Prop} {mc ms : Nat} {free : Addr → Prop} {bytes : ByteArray} {maxL : Nat} {ret : Option FieldType} {hh : List (Nat × Nat × Nat × Nat)}
    (hM : vx_Met l y ws rm Pc Qc XC mc ms free) (hblind : FrameBlind Pc) (hrc : rm.cells = mc) (hrs : rm.slots = ms)
    (hframes : rm.frames + 1 ≤ R.frames) (hlocals : W9 + (maxL + 11) + rm.locals ≤ R.locals)
    (hws : ∀ w ∈ ws, ∀ a' U, s.WarmedH U.vm → w.before a' U = true) (hcode : Cond.codeWith y bytes maxL ret hh ∈ ws) (hinit : ∀ a' U, s.WarmedH U.vm → (Cond.initialized y.cls).before a' U = true) :
    vx_Back l R p e below s sargs y len W9 (PreOf R mc ms Pc) (PostOf Qc mc ms free) (vx_Post XC mc ms free) := by
  intro m meth c A g ig mk a X hg hsize hdg hW hn hp
  have h1 : (headSpec ws rm).pre.before a A.U = true := atoms_intro fun w hw => hws w hw _ _ X.warmed
  have h2 : (Cond.codeWith y bytes maxL ret hh).before a A.U = true := hws _ hcode _ _ X.warmed
  have h3 : (Cond.initialized y.cls).before a A.U = true := hinit _ _ X.warmed
  have h4 : A.cells + (headSpec ws rm).room.cells ≤ R.cells := by rw [show (headSpec ws rm).room.cells = mc from hrc]; exact hp.1
  have h5 : A.slots + (headSpec ws rm).room.slots ≤ R.slots := by rw [show (headSpec ws rm).room.slots = ms from hrs]; exact hp.2.1
  have hPc : Pc a (A.U.calling g mk a) := hblind _ _ _ _ hp.2.2
  obtain ⟨U, Ls, c0, s0⟩ := A
  dsimp only [Pt.U, Pt.locs, Pt.cells, Pt.slots] at h1 h2 h3 h4 h5 X hn hPc ⊢
  obtain ⟨m9, methY, cY, hn9, hmY, hcY, -, hlY, -⟩ := Cond.codeWith_spec h2
  cases Option.some.inj (hn9.symm.trans hn)
  obtain ⟨kY, hkY, -⟩ := className_of_methodNamed hn
  have hinitY : kY.init = .initialized := Cond.initialized_spec (findClass_of_methodNamed hn) hkY h3
  have h : At U g.method c below := by rw [hg]; exact X.here
  have hlocals9 : W9 + (maxL + 11) + (headSpec ws rm).room.locals ≤ R.locals := hlocals
  have happ : (headSpec ws rm).appliesLoose y e.platform (U.calling g mk a) = true :=
    Spec.appliesLoose_calling (g := g) h hdg hn hkY hinitY
      (X.room_calling (g := g) (R' := (headSpec ws rm).room) hsize hmY hcY hframes (by rw [hlY]; omega) h4 h5) h1
  obtain ⟨mid, hmid⟩ := h.above
  have hfr : (U.setTop g).frames = (.java g :: mid) ++ below := by rw [State.frames_setTop' g h.top, hmid]; rfl
  obtain ⟨o, s₂, hsteps, -, hend, hq⟩ := Steps.callFree hM p X.admits X.cas X.clock (acts := []) hfr happ hPc trivial
  have hq' : vx_Q Qc XC mc ms free a (U.calling g mk a) o s₂ := hq
  rw [State.frames_setTop' g h.top] at hend
  obtain ⟨g₀, hg0⟩ := Option.isSome_iff_exists.mp h.top
  obtain ⟨r, hr⟩ := State.topJava?_eq_some.mp hg0
  have hr' : (({ U with heap := s₂.heap, slotsUsed := s₂.slotsUsed } : State).setVm s₂.vm).frames = .java g₀ :: r := hr
  rcases hq' with ⟨hqc, L, hfe, hL⟩ | ⟨q, rfl, E, ce, L, hx, hce, hcv, hcl, hW₂, hsm, hL⟩
  · obtain ⟨⟨v, rfl⟩, hW₂, e2, q2, q3, q4, q5, q6⟩ := id hfe
    have e3 : s₂ = ({ (U.calling g mk a).setFrames s₂.frames with heap := s₂.heap, slotsUsed := s₂.slotsUsed } : State).setVm s₂.vm := by
      have : s₂ = ({ s₂ with vm := (U.calling g mk a).vm } : State).setVm s₂.vm := rfl
      rw [e2] at this
      exact this
    obtain ⟨c₂, i₂, len₂, hc₂, hd₂, hf₂⟩ := hend
    have hW' : U.WarmedH s₂.vm := hW₂
    have hcc : c₂ = c := by
      have h1 : s₂.code? g.method = U.code? g.method := by
        rw [State.code?_eq, State.code?_eq, hW'.alike.method?]
      exact Option.some.inj (hc₂.symm.trans (h1.trans h.code))
    subst hcc
    have hlen : len₂ = len := by rw [hdg] at hd₂; cases hd₂; rfl
    subst hlen
    have hs₂ : s₂ = (({ U with heap := s₂.heap, slotsUsed := s₂.slotsUsed } : State).setVm s₂.vm).setTop { g with pc := g.pc + len₂, stack := v.toList ++ g.stack } := by
      refine e3.trans ?_
      rw [hf₂, State.calling_eq h.top, State.setFrames_setFrames, State.setTop_of_frames _ hr', hr]
      rfl
    have hsame : U.sameButNew ({ U with heap := s₂.heap, slotsUsed := s₂.slotsUsed } : State) L mc ms := by
      refine ⟨?_, q2, q3, q4, q5, q6⟩
      obtain ⟨t, ht, -⟩ := State.frames_cons hr
      show ({ U with heap := s₂.heap, slotsUsed := s₂.slotsUsed } : State) = { U.setFrames U.frames with heap := s₂.heap, slotsUsed := s₂.slotsUsed }
      rw [State.setFrames_self ht]
    subst hg
    refine Or.inl ⟨v, ⟨(({ U with heap := s₂.heap, slotsUsed := s₂.slotsUsed } : State).setVm s₂.vm), Ls ++ L, c0 + mc, s0 + ms⟩,
      ⟨X.admits, X.cas, X.clock, X.frames, X.room, X.hears, X.method, X.code, (X.here.setHeapUsed s₂.heap s₂.slotsUsed).setVm hW'.alike, X.tail, State.WarmedH.trans X.warmed hW', X.limits, X.bytes, X.same.trans (hsame.setVm s.vm)⟩,
      ⟨g, mk, s₂, L, rfl, rfl, hqc, rfl, hL, rfl, rfl⟩, ?_⟩
    show Steps p.tables e below _ ((({ U with heap := s₂.heap, slotsUsed := s₂.slotsUsed } : State).setVm s₂.vm).setTop { g with pc := g.pc + len₂, stack := v.toList ++ g.stack })
    rw [← hs₂]
    exact hsteps
  · obtain ⟨e2, q2, q3, q4, q5, q6⟩ := id hsm
    have e3 : s₂ = ({ (U.calling g mk a).setFrames s₂.frames with heap := s₂.heap, slotsUsed := s₂.slotsUsed } : State).setVm s₂.vm := by
      have : s₂ = ({ s₂ with vm := (U.calling g mk a).vm } : State).setVm s₂.vm := rfl
      rw [e2] at this
      exact this
    have hf₂ : s₂.frames = .throwing q :: .java g :: U.frames.tail := hend
    have hW' : U.WarmedH s₂.vm := hW₂
    have hs₂ : s₂ = ((({ U with heap := s₂.heap, slotsUsed := s₂.slotsUsed } : State).setVm s₂.vm).setTop g).pushFrame (.throwing q) := by
      refine e3.trans ?_
      rw [hf₂, State.calling_eq h.top, State.setFrames_setFrames, State.pushFrame, State.frames_setTop _ hr', State.setTop_of_frames _ hr', State.setFrames_setFrames, hr]
      rfl
    have hsame : U.sameButNew ({ U with heap := s₂.heap, slotsUsed := s₂.slotsUsed } : State) L mc ms := by
      refine ⟨?_, q2, q3, q4, q5, q6⟩
      obtain ⟨t, ht, -⟩ := State.frames_cons hr
      show ({ U with heap := s₂.heap, slotsUsed := s₂.slotsUsed } : State) = { U.setFrames U.frames with heap := s₂.heap, slotsUsed := s₂.slotsUsed }
      rw [State.setFrames_self ht]
    subst hg
    refine Or.inr ⟨q, ⟨(({ U with heap := s₂.heap, slotsUsed := s₂.slotsUsed } : State).setVm s₂.vm), Ls ++ L, c0 + mc, s0 + ms⟩,
      ⟨X.admits, X.cas, X.clock, X.frames, X.room, X.hears, X.method, X.code, (X.here.setHeapUsed s₂.heap s₂.slotsUsed).setVm hW'.alike, X.tail, State.WarmedH.trans X.warmed hW', X.limits, X.bytes, X.same.trans (hsame.setVm s.vm)⟩,
      ⟨g, mk, s₂, L, E, ce, rfl, rfl, hx, hce, hcv, hcl, rfl, hL, rfl, rfl⟩, ?_⟩
    show Steps p.tables e below _ (((({ U with heap := s₂.heap, slotsUsed := s₂.slotsUsed } : State).setVm s₂.vm).setTop g).pushFrame (.throwing q))
    rw [← hs₂]
    exact hsteps
end
variable {p : Program} {l : Launch} {e : Env} {R : Room} {s : State} {m : MethodId} {args : Array Value} {below : List Frame} {meth : Method} {c : Code} {T : State} {H : Heap} {locs : List Loc} {cells slots : Nat}
theorem vx_callVX (X : Stand p l e R s m args below meth c T locs cells slots) (hexec : p.tables.exec = Jvm.exec) {own C : String} {index : Nat} {y : MethodName} {bytes : ByteArray} {maxL : Nat} {ret : Option FieldType} {hh : List (Nat × Nat × Nat × Nat)}
    (hown : s.vm.findClass own = some m.cls) (hlink : (Cond.methodLink own index y).before args s = true) (hinst : (Cond.instanceMethod y).before args s = true) (hsel : (Cond.selects C y y).before args s = true)
    (hcode : (Cond.codeWith y bytes maxL ret hh).before args s = true) (hy : y.cls ≠ "java/lang/invoke/MethodHandle" ∧ y.cls ≠ "java/lang/invoke/VarHandle")
    {W9 : Nat} {Pre : Pt → Array Value → Prop} {Post : Pt → Array Value → Option Value → Pt → Prop} {PostX : Pt → Array Value → Addr → Pt → Prop} (hK : vx_Back l R p e below s args y 3 W9 Pre Post PostX)
    {b : Addr} {cellB : Cell} (hcell : T.heap[b]? = some cellB) (hobj : cellB.vm.isStatics = false) (hcls : s.vm.findClass C = some cellB.cls)
    {g : JFrame} (hg : g.method = m) (hsize : g.locals.size = c.maxLocals) {argsL rest : List Value} (hlen : ∀ sig, parseMethodDescriptor y.desc = some sig → argsL.length = sig.parameters.length)
    (hstack : g.stack = argsL.reverse ++ .ref b :: rest) (hW : 2 * g.monitorRoom + (rest.map fun v => v.category).sum ≤ W9) (hdg : decode c.code g.pc = .ok (.invokevirtual index, 3))
    (hpre : ∀ vm₁, s.WarmedH vm₁ → Pre ⟨T.setVm vm₁, locs, cells, slots⟩ (Value.ref b :: argsL).toArray) :
    (∃ (v : Option Value) (vm₁ : Vm) (B : Pt), s.WarmedH vm₁ ∧ Stand p l e R s m args below meth c B.U B.locs B.cells B.slots ∧ Post ⟨T.setVm vm₁, locs, cells, slots⟩ (Value.ref b :: argsL).toArray v B ∧
      ∀ target, Steps p.tables e below (B.U.setTop { g with pc := g.pc + 3, stack := v.toList ++ rest }) target → Steps p.tables e below (T.setTop g) target) ∨
    (∃ (q : Addr) (vm₁ : Vm) (B : Pt), s.WarmedH vm₁ ∧ Stand p l e R s m args below meth c B.U B.locs B.cells B.slots ∧ PostX ⟨T.setVm vm₁, locs, cells, slots⟩ (Value.ref b :: argsL).toArray q B ∧
      Steps p.tables e below (T.setTop g) ((B.U.setTop { g with stack := rest }).pushFrame (.throwing q))) := by
  obtain ⟨mk, methM, hnamed, hmethM, hstM, habM⟩ := Cond.instanceMethod_spec hinst
  obtain ⟨m8, methM', cM, hn8, hmethM', -, -, -, -, -, -, hsigM⟩ := Cond.codeWith_spec hcode
  cases Option.some.inj (hn8.symm.trans hnamed)
  cases hmethM.symm.trans hmethM'
  obtain ⟨c2, r2, m2, q1, q2, q3, q4, kP, hkP, hkPi⟩ := Cond.selects_spec hsel
  cases hcls.symm.trans q1
  cases (State.methodFound?_of_named hnamed hy).symm.trans q2
  cases hnamed.symm.trans q3
  have hselP : selectMethod e.platform s.vm cellB.cls mk = .method mk := by rw [Launch.admits_selectMethod X.admits]; exact q4
  obtain ⟨vm₁, X₁, hstep₁⟩ := X.invokevirtual hexec hown hlink hnamed hmethM hstM hkP hkPi hy (a := b) (cell := cellB) hcell
    (fun z h => by rw [h] at hobj; cases hobj) hselP hmethM habM hkP hkPi (g := g) hg (argsL := argsL) (rest := rest) (hlen _ hsigM) hstack hdg
  rcases hK m meth c ⟨T.setVm vm₁, locs, cells, slots⟩ { g with stack := rest } (.invokevirtual index) mk (Value.ref b :: argsL).toArray X₁ hg hsize hdg hW (X₁.named hnamed) (hpre vm₁ X₁.warmed) with ⟨v, B, X', hpost, hsteps⟩ | ⟨q, B, X', hpost, hsteps⟩
  · exact Or.inl ⟨v, vm₁, B, X₁.warmed, X', hpost, fun target h => hstep₁ _ fun acts => by rw [doInvoke_state]; exact hsteps.trans h⟩
  · exact Or.inr ⟨q, vm₁, B, X₁.warmed, X', hpost, hstep₁ _ fun acts => by rw [doInvoke_state]; exact hsteps⟩
theorem vx_callSX (X : Stand p l e R s m args below meth c T locs cells slots) (hexec : p.tables.exec = Jvm.exec) {own : String} {index : Nat} {y : MethodName} {bytes : ByteArray} {maxL : Nat} {ret : Option FieldType} {hh : List (Nat × Nat × Nat × Nat)}
    (hown : s.vm.findClass own = some m.cls) (hlink : (Cond.methodLink own index y).before args s = true) (hstat : (Cond.static y).before args s = true) (hinit : (Cond.initialized y.cls).before args s = true)
    (hcode : (Cond.codeWith y bytes maxL ret hh).before args s = true) (hy : y.cls ≠ "java/lang/invoke/MethodHandle" ∧ y.cls ≠ "java/lang/invoke/VarHandle")
    {W9 : Nat} {Pre : Pt → Array Value → Prop} {Post : Pt → Array Value → Option Value → Pt → Prop} {PostX : Pt → Array Value → Addr → Pt → Prop} (hK : vx_Back l R p e below s args y 3 W9 Pre Post PostX)
    {g : JFrame} (hg : g.method = m) (hsize : g.locals.size = c.maxLocals) {argsL rest : List Value} (hlen : ∀ sig, parseMethodDescriptor y.desc = some sig → argsL.length = sig.parameters.length)
    (hstack : g.stack = argsL.reverse ++ rest) (hW : 2 * g.monitorRoom + (rest.map fun v => v.category).sum ≤ W9) (hdg : decode c.code g.pc = .ok (.invokestatic index, 3))
    (hpre : ∀ vm₁, s.WarmedH vm₁ → Pre ⟨T.setVm vm₁, locs, cells, slots⟩ argsL.toArray) :
    (∃ (v : Option Value) (vm₁ : Vm) (B : Pt), s.WarmedH vm₁ ∧ Stand p l e R s m args below meth c B.U B.locs B.cells B.slots ∧ Post ⟨T.setVm vm₁, locs, cells, slots⟩ argsL.toArray v B ∧
      ∀ target, Steps p.tables e below (B.U.setTop { g with pc := g.pc + 3, stack := v.toList ++ rest }) target → Steps p.tables e below (T.setTop g) target) ∨
    (∃ (q : Addr) (vm₁ : Vm) (B : Pt), s.WarmedH vm₁ ∧ Stand p l e R s m args below meth c B.U B.locs B.cells B.slots ∧ PostX ⟨T.setVm vm₁, locs, cells, slots⟩ argsL.toArray q B ∧
      Steps p.tables e below (T.setTop g) ((B.U.setTop { g with stack := rest }).pushFrame (.throwing q))) := by
  obtain ⟨mk, methM, cM, hnamed, hmethM, -, -, -, -, -, -, hsigM⟩ := Cond.codeWith_spec hcode
  have hstatic : methM.isStatic = true := Cond.static_spec hnamed hmethM hstat
  obtain ⟨kP, hkP, -⟩ := className_of_methodNamed hnamed
  have hinitP : kP.init = .initialized := Cond.initialized_spec (findClass_of_methodNamed hnamed) hkP hinit
  obtain ⟨vm₁, X₁, hstep₁⟩ := X.invokestatic hexec hown hlink hnamed hmethM hstatic hkP hinitP hy (g := g) hg (argsL := argsL) (rest := rest) (hlen _ hsigM) hstack hdg
  rcases hK m meth c ⟨T.setVm vm₁, locs, cells, slots⟩ { g with stack := rest } (.invokestatic index) mk argsL.toArray X₁ hg hsize hdg hW (X₁.named hnamed) (hpre vm₁ X₁.warmed) with ⟨v, B, X', hpost, hsteps⟩ | ⟨q, B, X', hpost, hsteps⟩
  · exact Or.inl ⟨v, vm₁, B, X₁.warmed, X', hpost, fun target h => hstep₁ _ fun acts => by rw [doInvoke_state]; exact hsteps.trans h⟩
  · exact Or.inr ⟨q, vm₁, B, X₁.warmed, X', hpost, hstep₁ _ fun acts => by rw [doInvoke_state]; exact hsteps⟩
theorem vx_callVW (X : Stand p l e R s m args below meth c T locs cells slots) (hexec : p.tables.exec = Jvm.exec) {own C : String} {index : Nat} {y : MethodName} {bytes : ByteArray} {maxL : Nat} {ret : Option FieldType} {hh : List (Nat × Nat × Nat × Nat)}
    (hown : s.vm.findClass own = some m.cls) (hlink : (Cond.methodLink own index y).before args s = true) (hinst : (Cond.instanceMethod y).before args s = true) (hsel : (Cond.selects C y y).before args s = true)
    (hcode : (Cond.codeWith y bytes maxL ret hh).before args s = true) (hy : y.cls ≠ "java/lang/invoke/MethodHandle" ∧ y.cls ≠ "java/lang/invoke/VarHandle")
    {W9 : Nat} {Pre : Pt → Array Value → Prop} {Post : Pt → Array Value → Option Value → Pt → Prop} (hK : Back l R p e below s args y 3 W9 Pre Post)
    {b : Addr} {cellB : Cell} (hcell : T.heap[b]? = some cellB) (hobj : cellB.vm.isStatics = false) (hcls : s.vm.findClass C = some cellB.cls)
    {g : JFrame} (hg : g.method = m) (hsize : g.locals.size = c.maxLocals) {argsL rest : List Value} (hlen : ∀ sig, parseMethodDescriptor y.desc = some sig → argsL.length = sig.parameters.length)
    (hstack : g.stack = argsL.reverse ++ .ref b :: rest) (hW : 2 * g.monitorRoom + (rest.map fun v => v.category).sum ≤ W9) (hdg : decode c.code g.pc = .ok (.invokevirtual index, 3))
    (hpre : ∀ vm₁, s.WarmedH vm₁ → Pre ⟨T.setVm vm₁, locs, cells, slots⟩ (Value.ref b :: argsL).toArray) :
    ∃ (v : Option Value) (vm₁ : Vm) (B : Pt), s.WarmedH vm₁ ∧ Stand p l e R s m args below meth c B.U B.locs B.cells B.slots ∧ Post ⟨T.setVm vm₁, locs, cells, slots⟩ (Value.ref b :: argsL).toArray v B ∧
      ∀ target, Steps p.tables e below (B.U.setTop { g with pc := g.pc + 3, stack := v.toList ++ rest }) target → Steps p.tables e below (T.setTop g) target := by
  obtain ⟨mk, methM, hnamed, hmethM, hstM, habM⟩ := Cond.instanceMethod_spec hinst
  obtain ⟨m8, methM', cM, hn8, hmethM', -, -, -, -, -, -, hsigM⟩ := Cond.codeWith_spec hcode
  cases Option.some.inj (hn8.symm.trans hnamed)
  cases hmethM.symm.trans hmethM'
  obtain ⟨c2, r2, m2, q1, q2, q3, q4, kP, hkP, hkPi⟩ := Cond.selects_spec hsel
  cases hcls.symm.trans q1
  cases (State.methodFound?_of_named hnamed hy).symm.trans q2
  cases hnamed.symm.trans q3
  have hselP : selectMethod e.platform s.vm cellB.cls mk = .method mk := by rw [Launch.admits_selectMethod X.admits]; exact q4
  obtain ⟨vm₁, X₁, hstep₁⟩ := X.invokevirtual hexec hown hlink hnamed hmethM hstM hkP hkPi hy (a := b) (cell := cellB) hcell
    (fun z h => by rw [h] at hobj; cases hobj) hselP hmethM habM hkP hkPi (g := g) hg (argsL := argsL) (rest := rest) (hlen _ hsigM) hstack hdg
  obtain ⟨v, B, X', hpost, hsteps⟩ := hK m meth c ⟨T.setVm vm₁, locs, cells, slots⟩ { g with stack := rest } (.invokevirtual index) mk (Value.ref b :: argsL).toArray X₁ hg hsize hdg hW (X₁.named hnamed) (hpre vm₁ X₁.warmed)
  exact ⟨v, vm₁, B, X₁.warmed, X', hpost, fun target h => hstep₁ _ fun acts => by rw [doInvoke_state]; exact hsteps.trans h⟩
abbrev vx_CVW (R : Room) (s : State) (args : Array Value) (own C : String) (index : Nat) (y : MethodName) (bytes : ByteArray) (maxL : Nat) (ret : Option FieldType) (hh : List (Nat × Nat × Nat × Nat)) (ws : List Cond) (rm : Room) (mc ms n : Nat) : Prop :=
  (rm.cells = mc ∧ rm.slots = ms ∧ rm.frames + 1 ≤ R.frames ∧ 8 + (maxL + 11) + rm.locals ≤ R.locals ∧ (∀ w ∈ ws, ∀ (a' : Array Value) (U : State), s.WarmedH U.vm → w.before a' U = true) ∧ Cond.codeWith y bytes maxL ret hh ∈ ws) ∧
  (Cond.codeWith y bytes maxL ret hh).before args s = true ∧ (Cond.initialized y.cls).before args s = true ∧ (y.cls ≠ "java/lang/invoke/MethodHandle" ∧ y.cls ≠ "java/lang/invoke/VarHandle") ∧
  (∀ sig, parseMethodDescriptor y.desc = some sig → n = sig.parameters.length) ∧ (Cond.methodLink own index y).before args s = true ∧ (Cond.instanceMethod y).before args s = true ∧ (Cond.selects C y y).before args s = true
theorem vx_cwVW {own C : String} {index maxL mc ms : Nat} {y : MethodName} {bytes : ByteArray} {ret : Option FieldType} {hh : List (Nat × Nat × Nat × Nat)} {Ts ws ws' : List Cond} {rm : Room} (n : Nat) (ht : ∀ w ∈ Ts, w.before args s = true) (hT : GoodIn Ts (wsV own index C y ws)) (hw : ws = Cond.codeWith y bytes maxL ret hh :: ws') (hrc : rm.cells = mc) (hrs : rm.slots = ms)
    (hd : y.cls = C ∧ y.cls ≠ "java/lang/invoke/MethodHandle" ∧ y.cls ≠ "java/lang/invoke/VarHandle" ∧ (parseMethodDescriptor y.desc).map (fun d => d.parameters.length) = some n) (hR : rm.frames + 1 ≤ R.frames ∧ 8 + (maxL + 11) + rm.locals ≤ R.locals) :
    vx_CVW R s args own C index y bytes maxL ret hh ws rm mc ms n := by
  obtain ⟨hC, hd⟩ := hd
  subst hC
  have ok : ∀ w ∈ wsV own index y.cls y ws, w.before args s = true := fun w h => ht w (hT w h).1
  have hG : GoodIn Ts ws := fun w h => hT w (by unfold wsV; exact List.mem_append_right _ h)
  have hc : Cond.codeWith y bytes maxL ret hh ∈ ws := by rw [hw]; exact List.mem_cons_self
  refine ⟨⟨hrc, hrs, hR.1, hR.2, pay_in ht hG, hc⟩, ht _ (hG _ hc).1, ok _ (by simp [wsV]), ⟨hd.1, hd.2.1⟩, fun sig h => ?_, ok _ (by simp [wsV]), ok _ (by simp [wsV]), ok _ (by simp [wsV])⟩
  have h2 := hd.2.2
  rw [h] at h2
  exact (Option.some.inj h2).symm
theorem vx_runVW {y : MethodName} {bytes cc : ByteArray} {maxL nL mc ms n index : Nat} {ret : Option FieldType} {hh : List (Nat × Nat × Nat × Nat)} {ws : List Cond} {rm : Room} {Pc : Array Value → State → Prop} {Qc : Array Value → State → Outcome → State → Prop} {free : Addr → Prop} {Ts : List Cond} {own C : String} {b : Addr} {As rest : List Value} {g : JFrame}
    (S : CallFix p m c cc nL s args Ts own) (hM : Met l y ws rm Pc Qc mc ms free) (cw : vx_CVW R s args own C index y bytes maxL ret hh ws rm mc ms n) (hp : PreV s H C b Pc As)
    (hg : g.method = m) (hn : As.length = n) (hsize : g.locals.size = nL) (hstack : g.stack = As.reverse ++ .ref b :: rest) (hW : 2 * g.monitorRoom + (rest.map fun v => v.category).sum ≤ 8) (hdg : decode cc g.pc = .ok (.invokevirtual index, 3)) (hf : cells + mc ≤ R.cells ∧ slots + ms ≤ R.slots) :
    va_Run p l e R s m args below meth c H locs cells slots mc ms g rest (Qc (Value.ref b :: As).toArray) free := by
  obtain ⟨⟨hrc, hrs, hfr, hlo, hws, hcw⟩, hcode, hini, hy, hlen, hl, hin, hse⟩ := cw
  have hK : Back l R p e below s args y 3 8 (PreOf R mc ms Pc) (PostOf Qc mc ms free) := va_backW (hh := hh) (bytes := bytes) (maxL := maxL) (ret := ret) hM hp.1 hrc hrs hfr hlo hws hcw (fun a' U hW => word_at hW (Or.inl (by first | rfl | simp [Cond.onTables, Cond.keeps, Cond.steady])) hini)
  obtain ⟨hx, hb, hml, ho, -⟩ := S
  obtain ⟨-, ⟨cellB, hcB, hoB, hclB⟩, hPc⟩ := hp
  intro T hT X
  obtain ⟨v, vm₁, ⟨U', l2, c2, s2⟩, hW₁, X', ⟨g', mk, t, L, e1, e2, hq, h1, hL, h2, h3⟩, st⟩ := vx_callVW X hx (C := C) (hh := hh) (bytes := bytes) (maxL := maxL) (ret := ret) ho hl hin hse hcode hy hK (by rw [hT]; exact hcB) hoB hclB hg (hsize.trans hml.symm) (argsL := As) (rest := rest) (fun sig h => hn.trans (hlen sig h)) hstack hW (by rw [hb]; exact hdg)
    (fun vm₁ hW₁ => ⟨hf.1, hf.2, hPc (T.setVm vm₁) hT hW₁⟩)
  dsimp only [Pt.U, Pt.locs, Pt.cells, Pt.slots] at X' e1 e2 h1 h2 h3 st
  subst h1; subst h2; subst h3
  exact ⟨v, (T.setVm vm₁).calling g' mk (Value.ref b :: As).toArray, t, U', L, hT, X', hL, e1, e2, hq, st⟩
section
variable {y : MethodName} {bytes cc : ByteArray} {maxL nL mc ms n index : Nat} {ret : Option FieldType} {ws : List Cond} {rm : Room} {Pc : Array Value → State → Prop} {Qc : Array Value → State → Outcome → State → Prop} {XC : String → State → State → Prop} {free : Addr → Prop} {Ts : List Cond} {own C : String} {b : Addr} {As rest : List Value} {g : JFrame}
theorem vx_runVX {hh : List (Nat × Nat × Nat × Nat)} (S : CallFix p m c cc nL s args Ts own) (hM : vx_Met l y ws rm Pc Qc XC mc ms free) (cw : vx_CVW R s args own C index y bytes maxL ret hh ws rm mc ms n) (hp : PreV s H C b Pc As)
    (hg : g.method = m) (hn : As.length = n) (hsize : g.locals.size = nL) (hstack : g.stack = As.reverse ++ .ref b :: rest) (hW : 2 * g.monitorRoom + (rest.map fun v => v.category).sum ≤ 8) (hdg : decode cc g.pc = .ok (.invokevirtual index, 3)) (hf : cells + mc ≤ R.cells ∧ slots + ms ≤ R.slots) :
    vx_Run p l e R s m args below meth c H locs cells slots mc ms g rest (Qc (Value.ref b :: As).toArray) XC free := by
  obtain ⟨⟨hrc, hrs, hfr, hlo, hws, hcw⟩, hcode, hini, hy, hlen, hl, hin, hse⟩ := cw
  have hK : vx_Back l R p e below s args y 3 8 (PreOf R mc ms Pc) (PostOf Qc mc ms free) (vx_Post XC mc ms free) := vx_backW (hh := hh) (bytes := bytes) (maxL := maxL) (ret := ret) hM hp.1 hrc hrs hfr hlo hws hcw (fun a' U hW => word_at hW (Or.inl (by first | rfl | simp [Cond.onTables, Cond.keeps, Cond.steady])) hini)
  obtain ⟨hx, hb, hml, ho, -⟩ := S
  obtain ⟨-, ⟨cellB, hcB, hoB, hclB⟩, hPc⟩ := hp
  intro T hT X
  rcases vx_callVX X hx (C := C) (hh := hh) (bytes := bytes) (maxL := maxL) (ret := ret) ho hl hin hse hcode hy hK (by rw [hT]; exact hcB) hoB hclB hg (hsize.trans hml.symm) (argsL := As) (rest := rest) (fun sig h => hn.trans (hlen sig h)) hstack hW (by rw [hb]; exact hdg)
    (fun vm₁ hW₁ => ⟨hf.1, hf.2, hPc (T.setVm vm₁) hT hW₁⟩) with ⟨v, vm₁, ⟨U', l2, c2, s2⟩, hW₁, X', ⟨g', mk, t, L, e1, e2, hq, h1, hL, h2, h3⟩, st⟩ | ⟨q, vm₁, ⟨U', l2, c2, s2⟩, hW₁, X', ⟨g', mk, t, L, E, ce, e1, e2, hq, hce, hcv, hcl, h1, hL, h2, h3⟩, st⟩
  · dsimp only [Pt.U, Pt.locs, Pt.cells, Pt.slots] at X' e1 e2 h1 h2 h3 st
    subst h1; subst h2; subst h3
    exact Or.inl ⟨v, (T.setVm vm₁).calling g' mk (Value.ref b :: As).toArray, t, U', L, hT, X', hL, e1, e2, hq, st⟩
  · dsimp only [Pt.U, Pt.locs, Pt.cells, Pt.slots] at X' e1 e2 h1 h2 h3 st hcl
    subst h1; subst h2; subst h3
    exact Or.inr ⟨q, (T.setVm vm₁).calling g' mk (Value.ref b :: As).toArray, t, U', L, E, ce, hT, X', hL, e1, e2, hq, hce, hcv, vx_cls hW₁ hcl, st⟩
theorem vx_runSX {hh : List (Nat × Nat × Nat × Nat)} (S : CallFix p m c cc nL s args Ts own) (hM : vx_Met l y ws rm Pc Qc XC mc ms free) (cw : vx_CSW R s args own index y bytes maxL ret hh ws rm mc ms n) (hp : PreS s H Pc As)
    (hg : g.method = m) (hn : As.length = n) (hsize : g.locals.size = nL) (hstack : g.stack = As.reverse ++ rest) (hW : 2 * g.monitorRoom + (rest.map fun v => v.category).sum ≤ 8) (hdg : decode cc g.pc = .ok (.invokestatic index, 3)) (hf : cells + mc ≤ R.cells ∧ slots + ms ≤ R.slots) :
    vx_Run p l e R s m args below meth c H locs cells slots mc ms g rest (Qc As.toArray) XC free := by
  obtain ⟨⟨hrc, hrs, hfr, hlo, hws, hcw⟩, hcode, hini, hy, hlen, hl, hstt⟩ := cw
  have hK : vx_Back l R p e below s args y 3 8 (PreOf R mc ms Pc) (PostOf Qc mc ms free) (vx_Post XC mc ms free) := vx_backW (hh := hh) (bytes := bytes) (maxL := maxL) (ret := ret) hM hp.1 hrc hrs hfr hlo hws hcw (fun a' U hW => word_at hW (Or.inl (by first | rfl | simp [Cond.onTables, Cond.keeps, Cond.steady])) hini)
  obtain ⟨hx, hb, hml, ho, -⟩ := S
  intro T hT X
  rcases vx_callSX X hx (hh := hh) (bytes := bytes) (maxL := maxL) (ret := ret) ho hl hstt hini hcode hy hK hg (hsize.trans hml.symm) (argsL := As) (rest := rest) (fun sig h => hn.trans (hlen sig h)) hstack hW (by rw [hb]; exact hdg)
    (fun vm₁ hW₁ => ⟨hf.1, hf.2, hp.2 (T.setVm vm₁) hT hW₁⟩) with ⟨v, vm₁, ⟨U', l2, c2, s2⟩, hW₁, X', ⟨g', mk, t, L, e1, e2, hq, h1, hL, h2, h3⟩, st⟩ | ⟨q, vm₁, ⟨U', l2, c2, s2⟩, hW₁, X', ⟨g', mk, t, L, E, ce, e1, e2, hq, hce, hcv, hcl, h1, hL, h2, h3⟩, st⟩
  · dsimp only [Pt.U, Pt.locs, Pt.cells, Pt.slots] at X' e1 e2 h1 h2 h3 st
    subst h1; subst h2; subst h3
    exact Or.inl ⟨v, (T.setVm vm₁).calling g' mk As.toArray, t, U', L, hT, X', hL, e1, e2, hq, st⟩
  · dsimp only [Pt.U, Pt.locs, Pt.cells, Pt.slots] at X' e1 e2 h1 h2 h3 st hcl
    subst h1; subst h2; subst h3
    exact Or.inr ⟨q, (T.setVm vm₁).calling g' mk As.toArray, t, U', L, E, ce, hT, X', hL, e1, e2, hq, hce, hcv, vx_cls hW₁ hcl, st⟩
end
end VXH
theorem vx_ofWH {l : Launch} {y : MethodName} {ws ws' : List Cond} {rm : Room} {Pc : Array Value → State → Prop} {Qc : Array Value → State → Outcome → State → Prop} {XC : String → State → State → Prop} {mc ms : Nat} {free : Addr → Prop} {cc : ByteArray} {maxL : Nat} {ret : Option FieldType} {hh : List (Nat × Nat × Nat × Nat)}
    (hy : plainName y.cls = true) (hw : ws = Cond.codeWith y cc maxL ret hh :: ws')
    (body : ∀ p e s m args below meth c s₁, BodyLoose p l y (headSpec ws rm) cc maxL ret e s m args below meth c s₁ → c.maxLocals = maxL → Pc args s →
      W p l e (headSpec ws rm).room s m args below meth c s.heap [] 0 0 (vx_MQ below Qc XC args s mc ms free) (entryFrame m args maxL)) : vx_Met l y ws rm Pc Qc XC mc ms free := by
  refine MetFree.of_bodyS (code := cc) (maxLocals := maxL) (ret := ret) hy ?_ ?_
  · intro args s m h hn
    obtain ⟨m9, meth, c, hn9, h1, h2, h3, h4, -, h5, h6, -⟩ := Cond.codeWith_spec (atoms_spec (ws := ws) h _ (by rw [hw]; exact List.mem_cons_self))
    cases hn.symm.trans hn9
    exact ⟨meth, c, h1, h2, h3, h4, h5, h6⟩
  · intro p e s m args below meth c s₁ B hml hP _
    have hh0 : s₁.heap = s.heap := by rw [B.state]; rfl
    obtain ⟨t, a1, o, b1, b2, b3⟩ := body p e s m args below meth c s₁ B hml hP s₁ hh0 (Stand.of_body B)
    exact ⟨t, o, a1, b1, b2, b3⟩
/-! ===== END ===== -/
end
section
/-! ===== BEGIN printed: names, fields, word lists, decode rows ===== -/
def RX0 : String := "SlotConference$Airport"
def TX0 : u_T := fun k => match k with
  | 0 => ("SlotConference$Airport", "rules", "[LSlotConference$Rule;", true)
  | 1 => ("SlotConference$Airport", "closedWeeks", "[I", true)
  | 2 => ("SlotConference$Airport", "ruleCount", "I", false)
  | 3 => ("SlotConference$Airport", "curfewFrom", "I", false)
  | 4 => ("SlotConference$Airport", "curfewTo", "I", false)
  | _ => ("SlotConference$Airport", "quota", "I", false)
def tyX0 : Nat → FieldType := fun k => match k with
  | 0 => .array (.object "SlotConference$Rule")
  | 1 => .array .int
  | 2 => .int
  | 3 => .int
  | 4 => .int
  | _ => .int
abbrev wsX00 : List Cond := u_ws RX0 TX0 6
theorem nmX0 : ∀ a, a < 6 → ∀ b, b < 6 → a ≠ b → (TX0 a).2.1 ≠ (TX0 b).2.1 := by decide +kernel
theorem tyX0_ok : ∀ k, k < 6 → parseFieldDescriptor (TX0 k).2.2.1 = some (tyX0 k) := by decide +kernel
abbrev cX0_init : ByteArray := prog_2_method_1_code
def yX0_init : MethodName := ⟨RX0, "<init>", "()V"⟩
abbrev cX0_ruleAt : ByteArray := prog_2_method_2_code
def yX0_ruleAt : MethodName := ⟨RX0, "ruleAt", "(I)LSlotConference$Rule;"⟩
abbrev cX0_bars : ByteArray := prog_2_method_3_code
def yX0_bars : MethodName := ⟨RX0, "bars", "(I)Z"⟩
abbrev cX0_closedWeeksOn : ByteArray := prog_2_method_4_code
def yX0_closedWeeksOn : MethodName := ⟨RX0, "closedWeeksOn", "(I)I"⟩
abbrev cX0_closeWeeksOn : ByteArray := prog_2_method_5_code
def yX0_closeWeeksOn : MethodName := ⟨RX0, "closeWeeksOn", "(II)V"⟩
abbrev cX0_openAllDays : ByteArray := prog_2_method_6_code
def yX0_openAllDays : MethodName := ⟨RX0, "openAllDays", "()V"⟩
def RX1 : String := "SlotConference$Request"
def TX1 : u_T := fun k => match k with
  | 0 => ("SlotConference$Slot", "airport", "I", false)
  | 1 => ("SlotConference$Slot", "kind", "I", false)
  | 2 => ("SlotConference$Slot", "weekday", "I", false)
  | 3 => ("SlotConference$Slot", "time", "I", false)
  | 4 => ("SlotConference$Slot", "first", "I", false)
  | 5 => ("SlotConference$Slot", "last", "I", false)
  | 6 => ("SlotConference$Slot", "noise", "I", false)
  | 7 => ("SlotConference$Request", "carrier", "I", false)
  | 8 => ("SlotConference$Request", "right", "I", false)
  | 9 => ("SlotConference$Request", "state", "I", false)
  | 10 => ("SlotConference$Request", "sort", "I", false)
  | 11 => ("SlotConference$Request", "series", "I", false)
  | 12 => ("SlotConference$Request", "offer", "I", false)
  | _ => ("SlotConference$Request", "partner", "I", false)
def tyX1 : Nat → FieldType := fun k => match k with
  | 0 => .int
  | 1 => .int
  | 2 => .int
  | 3 => .int
  | 4 => .int
  | 5 => .int
  | 6 => .int
  | 7 => .int
  | 8 => .int
  | 9 => .int
  | 10 => .int
  | 11 => .int
  | 12 => .int
  | _ => .int
abbrev wsX10 : List Cond := u_ws RX1 TX1 14
theorem nmX1 : ∀ a, a < 14 → ∀ b, b < 14 → a ≠ b → (TX1 a).2.1 ≠ (TX1 b).2.1 := by decide +kernel
theorem tyX1_ok : ∀ k, k < 14 → parseFieldDescriptor (TX1 k).2.2.1 = some (tyX1 k) := by decide +kernel
abbrev cX1_init : ByteArray := prog_3_method_1_code
def yX1_init : MethodName := ⟨RX1, "<init>", "()V"⟩
abbrev cX1_ask : ByteArray := prog_3_method_2_code
def yX1_ask : MethodName := ⟨RX1, "ask", "(II)V"⟩
abbrev cX1_mayBeLinked : ByteArray := prog_3_method_3_code
def yX1_mayBeLinked : MethodName := ⟨RX1, "mayBeLinked", "()Z"⟩
abbrev cX1_isInQueue : ByteArray := prog_3_method_4_code
def yX1_isInQueue : MethodName := ⟨RX1, "isInQueue", "()Z"⟩
def RX2 : String := "SlotConference$Right"
def TX2 : u_T := fun k => match k with
  | 0 => ("SlotConference$Slot", "airport", "I", false)
  | 1 => ("SlotConference$Slot", "kind", "I", false)
  | 2 => ("SlotConference$Slot", "weekday", "I", false)
  | 3 => ("SlotConference$Slot", "time", "I", false)
  | 4 => ("SlotConference$Slot", "first", "I", false)
  | 5 => ("SlotConference$Slot", "last", "I", false)
  | 6 => ("SlotConference$Slot", "noise", "I", false)
  | 7 => ("SlotConference$Right", "carrier", "I", false)
  | _ => ("SlotConference$Right", "claim", "I", false)
def tyX2 : Nat → FieldType := fun k => match k with
  | 0 => .int
  | 1 => .int
  | 2 => .int
  | 3 => .int
  | 4 => .int
  | 5 => .int
  | 6 => .int
  | 7 => .int
  | _ => .int
abbrev wsX20 : List Cond := u_ws RX2 TX2 9
theorem nmX2 : ∀ a, a < 9 → ∀ b, b < 9 → a ≠ b → (TX2 a).2.1 ≠ (TX2 b).2.1 := by decide +kernel
theorem tyX2_ok : ∀ k, k < 9 → parseFieldDescriptor (TX2 k).2.2.1 = some (tyX2 k) := by decide +kernel
abbrev cX2_init : ByteArray := prog_4_method_1_code
def yX2_init : MethodName := ⟨RX2, "<init>", "()V"⟩
abbrev cX2_begin : ByteArray := prog_4_method_2_code
def yX2_begin : MethodName := ⟨RX2, "begin", "(LSlotConference$Series;)V"⟩
abbrev cX2_mayBeClaimed : ByteArray := prog_4_method_3_code
def yX2_mayBeClaimed : MethodName := ⟨RX2, "mayBeClaimed", "(IIII)Z"⟩
def RX3 : String := "SlotConference$Rule"
def TX3 : u_T := fun k => match k with
  | 0 => ("SlotConference$Rule", "kind", "I", false)
  | 1 => ("SlotConference$Rule", "length", "I", false)
  | _ => ("SlotConference$Rule", "most", "I", false)
def tyX3 : Nat → FieldType := fun k => match k with
  | 0 => .int
  | 1 => .int
  | _ => .int
abbrev wsX30 : List Cond := u_ws RX3 TX3 3
theorem nmX3 : ∀ a, a < 3 → ∀ b, b < 3 → a ≠ b → (TX3 a).2.1 ≠ (TX3 b).2.1 := by decide +kernel
theorem tyX3_ok : ∀ k, k < 3 → parseFieldDescriptor (TX3 k).2.2.1 = some (tyX3 k) := by decide +kernel
abbrev cX3_init : ByteArray := prog_5_method_1_code
def yX3_init : MethodName := ⟨RX3, "<init>", "()V"⟩
abbrev cX3_isFor : ByteArray := prog_5_method_2_code
def yX3_isFor : MethodName := ⟨RX3, "isFor", "(I)Z"⟩
def RX4 : String := "SlotConference$Series"
def TX4 : u_T := fun k => match k with
  | 0 => ("SlotConference$Slot", "airport", "I", false)
  | 1 => ("SlotConference$Slot", "kind", "I", false)
  | 2 => ("SlotConference$Slot", "weekday", "I", false)
  | 3 => ("SlotConference$Slot", "time", "I", false)
  | 4 => ("SlotConference$Slot", "first", "I", false)
  | 5 => ("SlotConference$Slot", "last", "I", false)
  | 6 => ("SlotConference$Slot", "noise", "I", false)
  | 7 => ("SlotConference$Series", "request", "I", false)
  | 8 => ("SlotConference$Series", "holder", "I", false)
  | 9 => ("SlotConference$Series", "user", "I", false)
  | 10 => ("SlotConference$Series", "flownWeeks", "I", false)
  | 11 => ("SlotConference$Series", "off", "I", false)
  | _ => ("SlotConference$Series", "gone", "Z", false)
def tyX4 : Nat → FieldType := fun k => match k with
  | 0 => .int
  | 1 => .int
  | 2 => .int
  | 3 => .int
  | 4 => .int
  | 5 => .int
  | 6 => .int
  | 7 => .int
  | 8 => .int
  | 9 => .int
  | 10 => .int
  | 11 => .int
  | _ => .boolean
abbrev wsX40 : List Cond := u_ws RX4 TX4 13
theorem nmX4 : ∀ a, a < 13 → ∀ b, b < 13 → a ≠ b → (TX4 a).2.1 ≠ (TX4 b).2.1 := by decide +kernel
theorem tyX4_ok : ∀ k, k < 13 → parseFieldDescriptor (TX4 k).2.2.1 = some (tyX4 k) := by decide +kernel
abbrev cX4_init : ByteArray := prog_6_method_1_code
def yX4_init : MethodName := ⟨RX4, "<init>", "()V"⟩
abbrev cX4_begin : ByteArray := prog_6_method_2_code
def yX4_begin : MethodName := ⟨RX4, "begin", "(LSlotConference$Request;II)V"⟩
abbrev cX4_isOn : ByteArray := prog_6_method_3_code
def yX4_isOn : MethodName := ⟨RX4, "isOn", "(III)Z"⟩
abbrev cX4_isBetween : ByteArray := prog_6_method_4_code
def yX4_isBetween : MethodName := ⟨RX4, "isBetween", "(II)Z"⟩
def RX5 : String := "SlotConference$Slot"
def TX5 : u_T := fun k => match k with
  | _ => ("", "", "", false)
def tyX5 : Nat → FieldType := fun k => match k with
  | _ => .int
abbrev wsX50 : List Cond := u_ws RX5 TX5 0
theorem nmX5 : ∀ a, a < 0 → ∀ b, b < 0 → a ≠ b → (TX5 a).2.1 ≠ (TX5 b).2.1 := by decide +kernel
theorem tyX5_ok : ∀ k, k < 0 → parseFieldDescriptor (TX5 k).2.2.1 = some (tyX5 k) := by decide +kernel
abbrev cX5_init : ByteArray := prog_7_method_1_code
def yX5_init : MethodName := ⟨RX5, "<init>", "()V"⟩
abbrev cX5_weeks : ByteArray := prog_7_method_2_code
def yX5_weeks : MethodName := ⟨RX5, "weeks", "()I"⟩
abbrev cX5_wholeNoise : ByteArray := prog_7_method_3_code
def yX5_wholeNoise : MethodName := ⟨RX5, "wholeNoise", "()I"⟩
abbrev cX5_lastsIn : ByteArray := prog_7_method_4_code
def yX5_lastsIn : MethodName := ⟨RX5, "lastsIn", "(I)Z"⟩
abbrev cX5_isSameAs : ByteArray := prog_7_method_5_code
def yX5_isSameAs : MethodName := ⟨RX5, "isSameAs", "(LSlotConference$Slot;)Z"⟩
abbrev cX5_copyFrom : ByteArray := prog_7_method_6_code
def yX5_copyFrom : MethodName := ⟨RX5, "copyFrom", "(LSlotConference$Slot;)V"⟩
def RX6 : String := "SlotConference"
def TX6 : u_T := fun k => match k with
  | 0 => ("SlotConference", "airports", "[LSlotConference$Airport;", true)
  | 1 => ("SlotConference", "groups", "[I", true)
  | 2 => ("SlotConference", "requests", "[LSlotConference$Request;", true)
  | 3 => ("SlotConference", "series", "[LSlotConference$Series;", true)
  | 4 => ("SlotConference", "rights", "[LSlotConference$Right;", true)
  | 5 => ("SlotConference", "queue", "[I", true)
  | 6 => ("SlotConference", "order", "[I", true)
  | 7 => ("SlotConference", "newOnes", "[I", true)
  | 8 => ("SlotConference", "otherOnes", "[I", true)
  | 9 => ("SlotConference", "slotsOfWeek", "[I", true)
  | 10 => ("SlotConference", "requestCount", "I", false)
  | 11 => ("SlotConference", "seriesCount", "I", false)
  | 12 => ("SlotConference", "rightCount", "I", false)
  | 13 => ("SlotConference", "queueCount", "I", false)
  | _ => ("SlotConference", "season", "I", false)
def tyX6 : Nat → FieldType := fun k => match k with
  | 0 => .array (.object "SlotConference$Airport")
  | 1 => .array .int
  | 2 => .array (.object "SlotConference$Request")
  | 3 => .array (.object "SlotConference$Series")
  | 4 => .array (.object "SlotConference$Right")
  | 5 => .array .int
  | 6 => .array .int
  | 7 => .array .int
  | 8 => .array .int
  | 9 => .array .int
  | 10 => .int
  | 11 => .int
  | 12 => .int
  | 13 => .int
  | _ => .int
abbrev wsX60 : List Cond := u_ws RX6 TX6 15
theorem nmX6 : ∀ a, a < 15 → ∀ b, b < 15 → a ≠ b → (TX6 a).2.1 ≠ (TX6 b).2.1 := by decide +kernel
theorem tyX6_ok : ∀ k, k < 15 → parseFieldDescriptor (TX6 k).2.2.1 = some (tyX6 k) := by decide +kernel
abbrev cX6_init : ByteArray := prog_1_method_1_code
def yX6_init : MethodName := ⟨RX6, "<init>", "()V"⟩
abbrev cX6_declare : ByteArray := prog_1_method_2_code
def yX6_declare : MethodName := ⟨RX6, "declare", "(IIII)I"⟩
abbrev cX6_revise : ByteArray := prog_1_method_3_code
def yX6_revise : MethodName := ⟨RX6, "revise", "(III)I"⟩
abbrev cX6_curfew : ByteArray := prog_1_method_4_code
def yX6_curfew : MethodName := ⟨RX6, "curfew", "(III)V"⟩
abbrev cX6_quota : ByteArray := prog_1_method_5_code
def yX6_quota : MethodName := ⟨RX6, "quota", "(II)I"⟩
abbrev cX6_merge : ByteArray := prog_1_method_6_code
def yX6_merge : MethodName := ⟨RX6, "merge", "(II)I"⟩
abbrev cX6_request : ByteArray := prog_1_method_7_code
def yX6_request : MethodName := ⟨RX6, "request", "(IIIIIIIII)I"⟩
abbrev cX6_link : ByteArray := prog_1_method_8_code
def yX6_link : MethodName := ⟨RX6, "link", "(II)V"⟩
abbrev cX6_confer : ByteArray := prog_1_method_9_code
def yX6_confer : MethodName := ⟨RX6, "confer", "()I"⟩
abbrev cX6_accept : ByteArray := prog_1_method_10_code
def yX6_accept : MethodName := ⟨RX6, "accept", "(I)Z"⟩
abbrev cX6_giveBack : ByteArray := prog_1_method_11_code
def yX6_giveBack : MethodName := ⟨RX6, "giveBack", "(II)I"⟩
abbrev cX6_swap : ByteArray := prog_1_method_12_code
def yX6_swap : MethodName := ⟨RX6, "swap", "(II)V"⟩
abbrev cX6_lease : ByteArray := prog_1_method_13_code
def yX6_lease : MethodName := ⟨RX6, "lease", "(II)I"⟩
abbrev cX6_fly : ByteArray := prog_1_method_14_code
def yX6_fly : MethodName := ⟨RX6, "fly", "(III)I"⟩
abbrev cX6_close : ByteArray := prog_1_method_15_code
def yX6_close : MethodName := ⟨RX6, "close", "(III)Z"⟩
abbrev cX6_end : ByteArray := prog_1_method_16_code
def yX6_end : MethodName := ⟨RX6, "end", "()I"⟩
abbrev cX6_season : ByteArray := prog_1_method_17_code
def yX6_season : MethodName := ⟨RX6, "season", "()I"⟩
abbrev cX6_load : ByteArray := prog_1_method_18_code
def yX6_load : MethodName := ⟨RX6, "load", "(IIIIII)I"⟩
abbrev cX6_worst : ByteArray := prog_1_method_19_code
def yX6_worst : MethodName := ⟨RX6, "worst", "(IIII)I"⟩
abbrev cX6_noise : ByteArray := prog_1_method_20_code
def yX6_noise : MethodName := ⟨RX6, "noise", "(I)I"⟩
abbrev cX6_requestOf : ByteArray := prog_1_method_21_code
def yX6_requestOf : MethodName := ⟨RX6, "requestOf", "(II)I"⟩
abbrev cX6_ahead : ByteArray := prog_1_method_22_code
def yX6_ahead : MethodName := ⟨RX6, "ahead", "(I)I"⟩
abbrev cX6_seriesOf : ByteArray := prog_1_method_23_code
def yX6_seriesOf : MethodName := ⟨RX6, "seriesOf", "(II)I"⟩
abbrev cX6_earns : ByteArray := prog_1_method_24_code
def yX6_earns : MethodName := ⟨RX6, "earns", "(I)Z"⟩
abbrev cX6_rights : ByteArray := prog_1_method_25_code
def yX6_rights : MethodName := ⟨RX6, "rights", "()I"⟩
abbrev cX6_rightOf : ByteArray := prog_1_method_26_code
def yX6_rightOf : MethodName := ⟨RX6, "rightOf", "(II)I"⟩
abbrev cX6_isNew : ByteArray := prog_1_method_27_code
def yX6_isNew : MethodName := ⟨RX6, "isNew", "(II)Z"⟩
abbrev cX6_count : ByteArray := prog_1_method_28_code
def yX6_count : MethodName := ⟨RX6, "count", "(I)I"⟩
abbrev cX6_requireRange : ByteArray := prog_1_method_29_code
def yX6_requireRange : MethodName := ⟨RX6, "requireRange", "(III)V"⟩
abbrev cX6_requireKindOrEither : ByteArray := prog_1_method_30_code
def yX6_requireKindOrEither : MethodName := ⟨RX6, "requireKindOrEither", "(I)V"⟩
abbrev cX6_requireSlot : ByteArray := prog_1_method_31_code
def yX6_requireSlot : MethodName := ⟨RX6, "requireSlot", "(IIIIII)V"⟩
abbrev cX6_airportAt : ByteArray := prog_1_method_32_code
def yX6_airportAt : MethodName := ⟨RX6, "airportAt", "(I)LSlotConference$Airport;"⟩
abbrev cX6_groupAt : ByteArray := prog_1_method_33_code
def yX6_groupAt : MethodName := ⟨RX6, "groupAt", "(I)I"⟩
abbrev cX6_requestAt : ByteArray := prog_1_method_34_code
def yX6_requestAt : MethodName := ⟨RX6, "requestAt", "(I)LSlotConference$Request;"⟩
abbrev cX6_seriesAt : ByteArray := prog_1_method_35_code
def yX6_seriesAt : MethodName := ⟨RX6, "seriesAt", "(I)LSlotConference$Series;"⟩
abbrev cX6_rightAt : ByteArray := prog_1_method_36_code
def yX6_rightAt : MethodName := ⟨RX6, "rightAt", "(I)LSlotConference$Right;"⟩
abbrev cX6_isByNight : ByteArray := prog_1_method_37_code
def yX6_isByNight : MethodName := ⟨RX6, "isByNight", "(I)Z"⟩
abbrev cX6_weeksFromTo : ByteArray := prog_1_method_38_code
def yX6_weeksFromTo : MethodName := ⟨RX6, "weeksFromTo", "(II)I"⟩
abbrev cX6_reasonAgainst : ByteArray := prog_1_method_39_code
def yX6_reasonAgainst : MethodName := ⟨RX6, "reasonAgainst", "(LSlotConference$Slot;I)I"⟩
abbrev cX6_wouldBreak : ByteArray := prog_1_method_40_code
def yX6_wouldBreak : MethodName := ⟨RX6, "wouldBreak", "(LSlotConference$Rule;LSlotConference$Slot;I)Z"⟩
abbrev cX6_isWindowFull : ByteArray := prog_1_method_41_code
def yX6_isWindowFull : MethodName := ⟨RX6, "isWindowFull", "(LSlotConference$Rule;ILSlotConference$Slot;)Z"⟩
abbrev cX6_slotsBetween : ByteArray := prog_1_method_42_code
def yX6_slotsBetween : MethodName := ⟨RX6, "slotsBetween", "(IIIIII)I"⟩
abbrev cX6_noiseByNight : ByteArray := prog_1_method_43_code
def yX6_noiseByNight : MethodName := ⟨RX6, "noiseByNight", "(I)I"⟩
abbrev cX6_isGroupNew : ByteArray := prog_1_method_44_code
def yX6_isGroupNew : MethodName := ⟨RX6, "isGroupNew", "(II)Z"⟩
abbrev cX6_sortNow : ByteArray := prog_1_method_45_code
def yX6_sortNow : MethodName := ⟨RX6, "sortNow", "(LSlotConference$Request;)I"⟩
abbrev cX6_sortAllAsked : ByteArray := prog_1_method_46_code
def yX6_sortAllAsked : MethodName := ⟨RX6, "sortAllAsked", "()V"⟩
abbrev cX6_putAskedInOrder : ByteArray := prog_1_method_47_code
def yX6_putAskedInOrder : MethodName := ⟨RX6, "putAskedInOrder", "()I"⟩
abbrev cX6_addAskedOf : ByteArray := prog_1_method_48_code
def yX6_addAskedOf : MethodName := ⟨RX6, "addAskedOf", "(I[II)I"⟩
abbrev cX6_insertByWeeks : ByteArray := prog_1_method_49_code
def yX6_insertByWeeks : MethodName := ⟨RX6, "insertByWeeks", "(I[III)V"⟩
abbrev cX6_decideAlone : ByteArray := prog_1_method_50_code
def yX6_decideAlone : MethodName := ⟨RX6, "decideAlone", "(I)I"⟩
abbrev cX6_decidePair : ByteArray := prog_1_method_51_code
def yX6_decidePair : MethodName := ⟨RX6, "decidePair", "(II)I"⟩
abbrev cX6_timeToOffer : ByteArray := prog_1_method_52_code
def yX6_timeToOffer : MethodName := ⟨RX6, "timeToOffer", "(LSlotConference$Request;)I"⟩
abbrev cX6_giveIfItFits : ByteArray := prog_1_method_53_code
def yX6_giveIfItFits : MethodName := ⟨RX6, "giveIfItFits", "(I)Z"⟩
abbrev cX6_give : ByteArray := prog_1_method_54_code
def yX6_give : MethodName := ⟨RX6, "give", "(II)V"⟩
abbrev cX6_takeLatestSeriesBack : ByteArray := prog_1_method_55_code
def yX6_takeLatestSeriesBack : MethodName := ⟨RX6, "takeLatestSeriesBack", "()V"⟩
abbrev cX6_putInQueue : ByteArray := prog_1_method_56_code
def yX6_putInQueue : MethodName := ⟨RX6, "putInQueue", "(I)V"⟩
abbrev cX6_serveQueueAt : ByteArray := prog_1_method_57_code
def yX6_serveQueueAt : MethodName := ⟨RX6, "serveQueueAt", "(I)I"⟩
abbrev cX6_weeksUsed : ByteArray := prog_1_method_58_code
def yX6_weeksUsed : MethodName := ⟨RX6, "weeksUsed", "(LSlotConference$Series;)I"⟩
abbrev cX6_earnsRight : ByteArray := prog_1_method_59_code
def yX6_earnsRight : MethodName := ⟨RX6, "earnsRight", "(LSlotConference$Series;)Z"⟩
abbrev cX6_turnSeriesIntoRights : ByteArray := prog_1_method_60_code
def yX6_turnSeriesIntoRights : MethodName := ⟨RX6, "turnSeriesIntoRights", "()I"⟩
abbrev cX6_requestsThatAre : ByteArray := prog_1_method_61_code
def yX6_requestsThatAre : MethodName := ⟨RX6, "requestsThatAre", "(I)I"⟩
abbrev cX6_seriesThatAreGone : ByteArray := prog_1_method_62_code
def yX6_seriesThatAreGone : MethodName := ⟨RX6, "seriesThatAreGone", "()I"⟩
def RX7 : String := "SlotConferenceModel"
def TX7 : u_T := fun k => match k with
  | 0 => ("SlotConferenceModel", "thrown", "I", false)
  | 1 => ("SlotConferenceModel", "season", "I", false)
  | 2 => ("SlotConferenceModel", "rules", "[I", true)
  | 3 => ("SlotConferenceModel", "ruleKind", "[I", true)
  | 4 => ("SlotConferenceModel", "ruleLength", "[I", true)
  | 5 => ("SlotConferenceModel", "ruleMost", "[I", true)
  | 6 => ("SlotConferenceModel", "barFrom", "[I", true)
  | 7 => ("SlotConferenceModel", "barTo", "[I", true)
  | 8 => ("SlotConferenceModel", "quota", "[I", true)
  | 9 => ("SlotConferenceModel", "group", "[I", true)
  | 10 => ("SlotConferenceModel", "rights", "I", false)
  | 11 => ("SlotConferenceModel", "rightCarrier", "[I", true)
  | 12 => ("SlotConferenceModel", "rightAirport", "[I", true)
  | 13 => ("SlotConferenceModel", "rightKind", "[I", true)
  | 14 => ("SlotConferenceModel", "rightDay", "[I", true)
  | 15 => ("SlotConferenceModel", "rightTime", "[I", true)
  | 16 => ("SlotConferenceModel", "rightFirst", "[I", true)
  | 17 => ("SlotConferenceModel", "rightLast", "[I", true)
  | 18 => ("SlotConferenceModel", "rightNoise", "[I", true)
  | 19 => ("SlotConferenceModel", "claimedBy", "[I", true)
  | 20 => ("SlotConferenceModel", "requests", "I", false)
  | 21 => ("SlotConferenceModel", "carrier", "[I", true)
  | 22 => ("SlotConferenceModel", "airport", "[I", true)
  | 23 => ("SlotConferenceModel", "kind", "[I", true)
  | 24 => ("SlotConferenceModel", "weekday", "[I", true)
  | 25 => ("SlotConferenceModel", "time", "[I", true)
  | 26 => ("SlotConferenceModel", "first", "[I", true)
  | 27 => ("SlotConferenceModel", "last", "[I", true)
  | 28 => ("SlotConferenceModel", "noise", "[I", true)
  | 29 => ("SlotConferenceModel", "right", "[I", true)
  | 30 => ("SlotConferenceModel", "state", "[I", true)
  | 31 => ("SlotConferenceModel", "sort", "[I", true)
  | 32 => ("SlotConferenceModel", "became", "[I", true)
  | 33 => ("SlotConferenceModel", "offered", "[I", true)
  | 34 => ("SlotConferenceModel", "linked", "[I", true)
  | 35 => ("SlotConferenceModel", "place", "[I", true)
  | 36 => ("SlotConferenceModel", "places", "I", false)
  | 37 => ("SlotConferenceModel", "series", "I", false)
  | 38 => ("SlotConferenceModel", "holder", "[I", true)
  | 39 => ("SlotConferenceModel", "user", "[I", true)
  | 40 => ("SlotConferenceModel", "at", "[I", true)
  | 41 => ("SlotConferenceModel", "ofKind", "[I", true)
  | 42 => ("SlotConferenceModel", "ofDay", "[I", true)
  | 43 => ("SlotConferenceModel", "ofTime", "[I", true)
  | 44 => ("SlotConferenceModel", "begins", "[I", true)
  | 45 => ("SlotConferenceModel", "ends", "[I", true)
  | 46 => ("SlotConferenceModel", "loud", "[I", true)
  | 47 => ("SlotConferenceModel", "asked", "[I", true)
  | 48 => ("SlotConferenceModel", "flown", "[I", true)
  | 49 => ("SlotConferenceModel", "off", "[I", true)
  | 50 => ("SlotConferenceModel", "isGone", "[Z", true)
  | 51 => ("SlotConferenceModel", "closed", "[I", true)
  | 52 => ("SlotConferenceModel", "many", "I", false)
  | _ => ("SlotConferenceModel", "order", "[I", true)
def tyX7 : Nat → FieldType := fun k => match k with
  | 0 => .int
  | 1 => .int
  | 2 => .array .int
  | 3 => .array .int
  | 4 => .array .int
  | 5 => .array .int
  | 6 => .array .int
  | 7 => .array .int
  | 8 => .array .int
  | 9 => .array .int
  | 10 => .int
  | 11 => .array .int
  | 12 => .array .int
  | 13 => .array .int
  | 14 => .array .int
  | 15 => .array .int
  | 16 => .array .int
  | 17 => .array .int
  | 18 => .array .int
  | 19 => .array .int
  | 20 => .int
  | 21 => .array .int
  | 22 => .array .int
  | 23 => .array .int
  | 24 => .array .int
  | 25 => .array .int
  | 26 => .array .int
  | 27 => .array .int
  | 28 => .array .int
  | 29 => .array .int
  | 30 => .array .int
  | 31 => .array .int
  | 32 => .array .int
  | 33 => .array .int
  | 34 => .array .int
  | 35 => .array .int
  | 36 => .int
  | 37 => .int
  | 38 => .array .int
  | 39 => .array .int
  | 40 => .array .int
  | 41 => .array .int
  | 42 => .array .int
  | 43 => .array .int
  | 44 => .array .int
  | 45 => .array .int
  | 46 => .array .int
  | 47 => .array .int
  | 48 => .array .int
  | 49 => .array .int
  | 50 => .array .boolean
  | 51 => .array .int
  | 52 => .int
  | _ => .array .int
abbrev wsX70 : List Cond := u_ws RX7 TX7 54
theorem nmX7 : ∀ a, a < 54 → ∀ b, b < 54 → a ≠ b → (TX7 a).2.1 ≠ (TX7 b).2.1 := by decide +kernel
theorem tyX7_ok : ∀ k, k < 54 → parseFieldDescriptor (TX7 k).2.2.1 = some (tyX7 k) := by decide +kernel
abbrev cX7_init : ByteArray := prog_9_method_1_code
def yX7_init : MethodName := ⟨RX7, "<init>", "()V"⟩
abbrev cX7_thrown : ByteArray := prog_9_method_2_code
def yX7_thrown : MethodName := ⟨RX7, "thrown", "()I"⟩
abbrev cX7_holds : ByteArray := prog_9_method_3_code
def yX7_holds : MethodName := ⟨RX7, "holds", "(I)Z"⟩
abbrev cX7_isIn : ByteArray := prog_9_method_4_code
def yX7_isIn : MethodName := ⟨RX7, "isIn", "(III)Z"⟩
abbrev cX7_isAirport : ByteArray := prog_9_method_5_code
def yX7_isAirport : MethodName := ⟨RX7, "isAirport", "(I)Z"⟩
abbrev cX7_isCarrier : ByteArray := prog_9_method_6_code
def yX7_isCarrier : MethodName := ⟨RX7, "isCarrier", "(I)Z"⟩
abbrev cX7_isRule : ByteArray := prog_9_method_7_code
def yX7_isRule : MethodName := ⟨RX7, "isRule", "(II)Z"⟩
abbrev cX7_isRequest : ByteArray := prog_9_method_8_code
def yX7_isRequest : MethodName := ⟨RX7, "isRequest", "(I)Z"⟩
abbrev cX7_isSeries : ByteArray := prog_9_method_9_code
def yX7_isSeries : MethodName := ⟨RX7, "isSeries", "(I)Z"⟩
abbrev cX7_isDay : ByteArray := prog_9_method_10_code
def yX7_isDay : MethodName := ⟨RX7, "isDay", "(II)Z"⟩
abbrev cX7_declare : ByteArray := prog_9_method_11_code
def yX7_declare : MethodName := ⟨RX7, "declare", "(IIII)I"⟩
abbrev cX7_revise : ByteArray := prog_9_method_12_code
def yX7_revise : MethodName := ⟨RX7, "revise", "(III)I"⟩
abbrev cX7_curfew : ByteArray := prog_9_method_13_code
def yX7_curfew : MethodName := ⟨RX7, "curfew", "(III)V"⟩
abbrev cX7_quota : ByteArray := prog_9_method_14_code
def yX7_quota : MethodName := ⟨RX7, "quota", "(II)I"⟩
abbrev cX7_merge : ByteArray := prog_9_method_15_code
def yX7_merge : MethodName := ⟨RX7, "merge", "(II)I"⟩
abbrev cX7_isNight : ByteArray := prog_9_method_16_code
def yX7_isNight : MethodName := ⟨RX7, "isNight", "(I)Z"⟩
abbrev cX7_isThere : ByteArray := prog_9_method_17_code
def yX7_isThere : MethodName := ⟨RX7, "isThere", "(IIII)Z"⟩
abbrev cX7_loadOf : ByteArray := prog_9_method_18_code
def yX7_loadOf : MethodName := ⟨RX7, "loadOf", "(IIIIII)I"⟩
abbrev cX7_noiseOf : ByteArray := prog_9_method_19_code
def yX7_noiseOf : MethodName := ⟨RX7, "noiseOf", "(I)I"⟩
abbrev cX7_breaks : ByteArray := prog_9_method_20_code
def yX7_breaks : MethodName := ⟨RX7, "breaks", "(III)Z"⟩
abbrev cX7_weeks : ByteArray := prog_9_method_21_code
def yX7_weeks : MethodName := ⟨RX7, "weeks", "(I)I"⟩
abbrev cX7_reason : ByteArray := prog_9_method_22_code
def yX7_reason : MethodName := ⟨RX7, "reason", "(II)I"⟩
abbrev cX7_isNewAt : ByteArray := prog_9_method_23_code
def yX7_isNewAt : MethodName := ⟨RX7, "isNewAt", "(II)Z"⟩
abbrev cX7_sortOf : ByteArray := prog_9_method_24_code
def yX7_sortOf : MethodName := ⟨RX7, "sortOf", "(I)I"⟩
abbrev cX7_request : ByteArray := prog_9_method_25_code
def yX7_request : MethodName := ⟨RX7, "request", "(IIIIIIIII)I"⟩
abbrev cX7_mayClaim : ByteArray := prog_9_method_26_code
def yX7_mayClaim : MethodName := ⟨RX7, "mayClaim", "(IIIII)Z"⟩
abbrev cX7_link : ByteArray := prog_9_method_27_code
def yX7_link : MethodName := ⟨RX7, "link", "(II)V"⟩
abbrev cX7_gives : ByteArray := prog_9_method_28_code
def yX7_gives : MethodName := ⟨RX7, "gives", "(II)V"⟩
abbrev cX7_waits : ByteArray := prog_9_method_29_code
def yX7_waits : MethodName := ⟨RX7, "waits", "(II)V"⟩
abbrev cX7_isAhead : ByteArray := prog_9_method_30_code
def yX7_isAhead : MethodName := ⟨RX7, "isAhead", "(II)Z"⟩
abbrev cX7_firstOf : ByteArray := prog_9_method_31_code
def yX7_firstOf : MethodName := ⟨RX7, "firstOf", "(I)I"⟩
abbrev cX7_isOrdered : ByteArray := prog_9_method_32_code
def yX7_isOrdered : MethodName := ⟨RX7, "isOrdered", "(I)Z"⟩
abbrev cX7_orders : ByteArray := prog_9_method_33_code
def yX7_orders : MethodName := ⟨RX7, "orders", "(I)Z"⟩
abbrev cX7_sorts : ByteArray := prog_9_method_34_code
def yX7_sorts : MethodName := ⟨RX7, "sorts", "()V"⟩
abbrev cX7_looksAtBoth : ByteArray := prog_9_method_35_code
def yX7_looksAtBoth : MethodName := ⟨RX7, "looksAtBoth", "(II)V"⟩
abbrev cX7_looksAt : ByteArray := prog_9_method_36_code
def yX7_looksAt : MethodName := ⟨RX7, "looksAt", "(I)V"⟩
abbrev cX7_countOf : ByteArray := prog_9_method_37_code
def yX7_countOf : MethodName := ⟨RX7, "countOf", "(I)I"⟩
abbrev cX7_confer : ByteArray := prog_9_method_38_code
def yX7_confer : MethodName := ⟨RX7, "confer", "()I"⟩
abbrev cX7_accept : ByteArray := prog_9_method_39_code
def yX7_accept : MethodName := ⟨RX7, "accept", "(I)Z"⟩
abbrev cX7_isWaiting : ByteArray := prog_9_method_40_code
def yX7_isWaiting : MethodName := ⟨RX7, "isWaiting", "(I)Z"⟩
abbrev cX7_nextAt : ByteArray := prog_9_method_41_code
def yX7_nextAt : MethodName := ⟨RX7, "nextAt", "(II)I"⟩
abbrev cX7_giveBack : ByteArray := prog_9_method_42_code
def yX7_giveBack : MethodName := ⟨RX7, "giveBack", "(II)I"⟩
abbrev cX7_swap : ByteArray := prog_9_method_43_code
def yX7_swap : MethodName := ⟨RX7, "swap", "(II)V"⟩
abbrev cX7_lease : ByteArray := prog_9_method_44_code
def yX7_lease : MethodName := ⟨RX7, "lease", "(II)I"⟩
abbrev cX7_fly : ByteArray := prog_9_method_45_code
def yX7_fly : MethodName := ⟨RX7, "fly", "(III)I"⟩
abbrev cX7_close : ByteArray := prog_9_method_46_code
def yX7_close : MethodName := ⟨RX7, "close", "(III)Z"⟩
abbrev cX7_usedOf : ByteArray := prog_9_method_47_code
def yX7_usedOf : MethodName := ⟨RX7, "usedOf", "(I)I"⟩
abbrev cX7_isEarned : ByteArray := prog_9_method_48_code
def yX7_isEarned : MethodName := ⟨RX7, "isEarned", "(I)Z"⟩
abbrev cX7_end : ByteArray := prog_9_method_49_code
def yX7_end : MethodName := ⟨RX7, "end", "()I"⟩
abbrev cX7_season : ByteArray := prog_9_method_50_code
def yX7_season : MethodName := ⟨RX7, "season", "()I"⟩
abbrev cX7_load : ByteArray := prog_9_method_51_code
def yX7_load : MethodName := ⟨RX7, "load", "(IIIIII)I"⟩
abbrev cX7_worst : ByteArray := prog_9_method_52_code
def yX7_worst : MethodName := ⟨RX7, "worst", "(IIII)I"⟩
abbrev cX7_noise : ByteArray := prog_9_method_53_code
def yX7_noise : MethodName := ⟨RX7, "noise", "(I)I"⟩
abbrev cX7_requestOf : ByteArray := prog_9_method_54_code
def yX7_requestOf : MethodName := ⟨RX7, "requestOf", "(II)I"⟩
abbrev cX7_ahead : ByteArray := prog_9_method_55_code
def yX7_ahead : MethodName := ⟨RX7, "ahead", "(I)I"⟩
abbrev cX7_seriesOf : ByteArray := prog_9_method_56_code
def yX7_seriesOf : MethodName := ⟨RX7, "seriesOf", "(II)I"⟩
abbrev cX7_earns : ByteArray := prog_9_method_57_code
def yX7_earns : MethodName := ⟨RX7, "earns", "(I)Z"⟩
abbrev cX7_rights : ByteArray := prog_9_method_58_code
def yX7_rights : MethodName := ⟨RX7, "rights", "()I"⟩
abbrev cX7_rightOf : ByteArray := prog_9_method_59_code
def yX7_rightOf : MethodName := ⟨RX7, "rightOf", "(II)I"⟩
abbrev cX7_isNew : ByteArray := prog_9_method_60_code
def yX7_isNew : MethodName := ⟨RX7, "isNew", "(II)Z"⟩
abbrev cX7_count : ByteArray := prog_9_method_61_code
def yX7_count : MethodName := ⟨RX7, "count", "(I)I"⟩
def RJ6 : String := "java/lang/Integer"
def TJ6 : u_T := fun k => match k with
  | _ => ("", "", "", false)
def tyJ6 : Nat → FieldType := fun k => match k with
  | _ => .int
abbrev wsJ60 : List Cond := u_ws RJ6 TJ6 0
theorem nmJ6 : ∀ a, a < 0 → ∀ b, b < 0 → a ≠ b → (TJ6 a).2.1 ≠ (TJ6 b).2.1 := by decide +kernel
theorem tyJ6_ok : ∀ k, k < 0 → parseFieldDescriptor (TJ6 k).2.2.1 = some (tyJ6 k) := by decide +kernel
abbrev cJ6_bitCount_0f7a4 : ByteArray := prog_14_method_49_code
def yJ6_bitCount_0f7a4 : MethodName := ⟨RJ6, "bitCount", "(I)I"⟩
def RJ9 : String := "java/lang/Math"
def TJ9 : u_T := fun k => match k with
  | _ => ("", "", "", false)
def tyJ9 : Nat → FieldType := fun k => match k with
  | _ => .int
abbrev wsJ90 : List Cond := u_ws RJ9 TJ9 0
theorem nmJ9 : ∀ a, a < 0 → ∀ b, b < 0 → a ≠ b → (TJ9 a).2.1 ≠ (TJ9 b).2.1 := by decide +kernel
theorem tyJ9_ok : ∀ k, k < 0 → parseFieldDescriptor (TJ9 k).2.2.1 = some (tyJ9 k) := by decide +kernel
abbrev cJ9_abs_0f7a4 : ByteArray := prog_15_method_59_code
def yJ9_abs_0f7a4 : MethodName := ⟨RJ9, "abs", "(I)I"⟩
abbrev cJ9_max_7cf53 : ByteArray := prog_15_method_65_code
def yJ9_max_7cf53 : MethodName := ⟨RJ9, "max", "(II)I"⟩
abbrev cJ9_min_7cf53 : ByteArray := prog_15_method_69_code
def yJ9_min_7cf53 : MethodName := ⟨RJ9, "min", "(II)I"⟩
def RJ0 : String := "java/lang/String"
def TJ0 : u_T := fun k => match k with
  | _ => ("", "", "", false)
def tyJ0 : Nat → FieldType := fun k => match k with
  | _ => .int
abbrev wsJ00 : List Cond := u_ws RJ0 TJ0 0
theorem nmJ0 : ∀ a, a < 0 → ∀ b, b < 0 → a ≠ b → (TJ0 a).2.1 ≠ (TJ0 b).2.1 := by decide +kernel
theorem tyJ0_ok : ∀ k, k < 0 → parseFieldDescriptor (TJ0 k).2.2.1 = some (tyJ0 k) := by decide +kernel
def RL : String := "SlotConferenceLaw"
abbrev cL_declare : ByteArray := method_3_code
def yL_declare : MethodName := ⟨RL, "declare", "(LSlotConference;IIII[J)I"⟩
abbrev cL_revise : ByteArray := method_4_code
def yL_revise : MethodName := ⟨RL, "revise", "(LSlotConference;III[J)I"⟩
abbrev cL_curfew : ByteArray := method_5_code
def yL_curfew : MethodName := ⟨RL, "curfew", "(LSlotConference;III)I"⟩
abbrev cL_quota : ByteArray := method_6_code
def yL_quota : MethodName := ⟨RL, "quota", "(LSlotConference;II[J)I"⟩
abbrev cL_merge : ByteArray := method_7_code
def yL_merge : MethodName := ⟨RL, "merge", "(LSlotConference;II[J)I"⟩
abbrev cL_request : ByteArray := method_8_code
def yL_request : MethodName := ⟨RL, "request", "(LSlotConference;IIIIIIIII[J)I"⟩
abbrev cL_link : ByteArray := method_9_code
def yL_link : MethodName := ⟨RL, "link", "(LSlotConference;II)I"⟩
abbrev cL_confer : ByteArray := method_10_code
def yL_confer : MethodName := ⟨RL, "confer", "(LSlotConference;[J)I"⟩
abbrev cL_accept : ByteArray := method_11_code
def yL_accept : MethodName := ⟨RL, "accept", "(LSlotConference;I[J)I"⟩
abbrev cL_giveBack : ByteArray := method_12_code
def yL_giveBack : MethodName := ⟨RL, "giveBack", "(LSlotConference;II[J)I"⟩
abbrev cL_swap : ByteArray := method_13_code
def yL_swap : MethodName := ⟨RL, "swap", "(LSlotConference;II)I"⟩
abbrev cL_lease : ByteArray := method_14_code
def yL_lease : MethodName := ⟨RL, "lease", "(LSlotConference;II[J)I"⟩
abbrev cL_fly : ByteArray := method_15_code
def yL_fly : MethodName := ⟨RL, "fly", "(LSlotConference;III[J)I"⟩
abbrev cL_close : ByteArray := method_16_code
def yL_close : MethodName := ⟨RL, "close", "(LSlotConference;III[J)I"⟩
abbrev cL_end : ByteArray := method_17_code
def yL_end : MethodName := ⟨RL, "end", "(LSlotConference;[J)I"⟩
abbrev cL_load : ByteArray := method_18_code
def yL_load : MethodName := ⟨RL, "load", "(LSlotConference;IIIIII[J)I"⟩
abbrev cL_worst : ByteArray := method_19_code
def yL_worst : MethodName := ⟨RL, "worst", "(LSlotConference;IIII[J)I"⟩
abbrev cL_noise : ByteArray := method_20_code
def yL_noise : MethodName := ⟨RL, "noise", "(LSlotConference;I[J)I"⟩
abbrev cL_requestOf : ByteArray := method_21_code
def yL_requestOf : MethodName := ⟨RL, "requestOf", "(LSlotConference;II[J)I"⟩
abbrev cL_ahead : ByteArray := method_22_code
def yL_ahead : MethodName := ⟨RL, "ahead", "(LSlotConference;I[J)I"⟩
abbrev cL_seriesOf : ByteArray := method_23_code
def yL_seriesOf : MethodName := ⟨RL, "seriesOf", "(LSlotConference;II[J)I"⟩
abbrev cL_earns : ByteArray := method_24_code
def yL_earns : MethodName := ⟨RL, "earns", "(LSlotConference;I[J)I"⟩
abbrev cL_rightOf : ByteArray := method_25_code
def yL_rightOf : MethodName := ⟨RL, "rightOf", "(LSlotConference;II[J)I"⟩
abbrev cL_isNew : ByteArray := method_26_code
def yL_isNew : MethodName := ⟨RL, "isNew", "(LSlotConference;II[J)I"⟩
abbrev cL_count : ByteArray := method_27_code
def yL_count : MethodName := ⟨RL, "count", "(LSlotConference;I[J)I"⟩
abbrev cL_law : ByteArray := code
def yL_law : MethodName := ⟨RL, "law", "([I)Z"⟩
abbrev vwCl : List vw_C := [(RX0, TX0, 6), (RX1, TX1, 14), (RX2, TX2, 9), (RX3, TX3, 3), (RX4, TX4, 13), (RX6, TX6, 15), (RX7, TX7, 54)]
end
section
/-! ===== an abstract machine: ints by a relative address and a slot; addresses as the two constructors make them ===== -/
abbrev Hp : Type := (Nat → Nat → Int32) × (Nat → Int64)
abbrev Res : Type := Option ((Option Value × Hp) ⊕ (Nat × Hp))
abbrev Kt : Type := Nat → List Value → List Value → Hp → Res
abbrev Fn : Type := List Value → Hp → Res
/-- which locals are forgotten ahead of it, instruction, length, three numbers, a constant -/
abbrev Ent : Type := List Bool × Instr × Nat × Nat × Nat × Nat × Int32
def kl : List Bool → List Value → List Value
  | [], ls => ls
  | _ :: _, [] => []
  | true :: m, _ :: t => .retAddr 0 :: kl m t
  | false :: m, v :: t => v :: kl m t
theorem kl_kl : ∀ (m : List Bool) (ls : List Value), kl m (kl m ls) = kl m ls
  | [], _ => rfl
  | _ :: _, [] => rfl
  | true :: m, _ :: t => congrArg (fun q => Value.retAddr 0 :: q) (kl_kl m t)
  | false :: m, v :: t => congrArg (fun q => v :: q) (kl_kl m t)
def msk (ft : Nat → Option Ent) (pc : Nat) : List Bool := match ft pc with
  | some e => e.1
  | none => []
/-- a method's locals at its entry -/
def pad : Nat → List Value → List Value
  | 0, _ => []
  | n + 1, [] => .retAddr 0 :: pad n []
  | n + 1, v :: t => v :: pad n t
def rd (h : Hp) (a k : Nat) : Int32 := h.1 a k
def wr (h : Hp) (a k : Nat) (x : Int32) : Hp := (fun b j => if b = a ∧ j = k then x else h.1 b j, h.2)
def rdL (h : Hp) (j : Nat) : Int64 := h.2 j
def wrL (h : Hp) (j : Nat) (x : Int64) : Hp := (h.1, fun i => if i = j then x else h.2 i)
def rtn (v : Option Value) (h : Hp) : Res := some (.inl (v, h))
def thr (E : Nat) (h : Hp) : Res := some (.inr (E, h))
def gd (b : Bool) (r : Res) : Res := match b with | true => r | false => none
def bV (r : Res) (k : Hp → Res) (kx : Nat → Hp → Res) : Res := match r with
  | some (.inl (none, h)) => k h
  | some (.inr (E, h)) => kx E h
  | _ => none
def bI (r : Res) (k : Int32 → Hp → Res) (kx : Nat → Hp → Res) : Res := match r with
  | some (.inl (some (.int x), h)) => k x h
  | some (.inr (E, h)) => kx E h
  | _ => none
def bR (r : Res) (k : Nat → Hp → Res) (kx : Nat → Hp → Res) : Res := match r with
  | some (.inl (some (.ref x), h)) => k x h
  | some (.inr (E, h)) => kx E h
  | _ => none
def pI (st : List Value) (f : Int32 → List Value → Res) : Res := match st with
  | .int x :: t => f x t
  | _ => none
def pL (st : List Value) (f : Int64 → List Value → Res) : Res := match st with
  | .long x :: t => f x t
  | _ => none
def pR (st : List Value) (f : Nat → List Value → Res) : Res := match st with
  | .ref x :: t => f x t
  | _ => none
/-- a value of one word -/
def pA (st : List Value) (f : Value → List Value → Res) : Res := match st with
  | .ref x :: t => f (.ref x) t
  | .null :: t => f .null t
  | _ => none
def p1 (st : List Value) (f : Value → List Value → Res) : Res := match st with
  | .int x :: t => f (.int x) t
  | .ref x :: t => f (.ref x) t
  | _ => none
def pN (st : List Value) (A B : List Value → Res) : Res := match st with
  | .null :: t => A t
  | .ref _ :: t => B t
  | _ => none
def nth : List Value → Nat → Value
  | [], _ => .retAddr 0
  | v :: _, 0 => v
  | _ :: t, n + 1 => nth t n
def setn : List Value → Nat → Value → List Value
  | [], _, _ => []
  | _ :: t, 0, x => x :: t
  | v :: t, n + 1, x => v :: setn t n x
def lI (v : Value) (f : Int32 → Res) : Res := match v with
  | .int x => f x
  | _ => none
def lA (v : Value) (f : Value → Res) : Res := match v with
  | .ref x => f (.ref x)
  | .null => f .null
  | _ => none
def nthF : List Fn → Nat → Fn
  | [], _ => fun _ _ => none
  | f :: _, 0 => f
  | _ :: t, n + 1 => nthF t n
def nthS : List (List Nat) → Nat → List Nat
  | [], _ => []
  | f :: _, 0 => f
  | _ :: t, n + 1 => nthS t n
def lkp {α : Type} : List (Nat × α) → Nat → Option α
  | [], _ => none
  | (k, v) :: t, p => cond (Nat.beq k p) (some v) (lkp t p)
def memb (x : Nat) : List Nat → Bool
  | [] => false
  | y :: t => cond (Nat.beq x y) true (memb x t)
def icmp (cnd : ClassFile.Cond) (v y : Int32) (A B : Res) : Res := match cnd with
  | .eq => if v = y then A else B
  | .ne => if v = y then B else A
  | .lt => if v < y then A else B
  | .ge => if v < y then B else A
  | .gt => if y < v then A else B
  | .le => if y < v then B else A
def swt (v : Int32) : Nat → List Nat → (Nat → Res) → Res → Res
  | _, [], _, d => d
  | n, t :: ts, k, d => if v = Int32.ofNat n then k t else swt v (n + 1) ts k d
def inb (i : Int32) (n : Nat) : Bool := !decide (i < 0) && Nat.blt i.toNatClampNeg n
theorem inb_in {i : Int32} {n : Nat} (h : inb i n = true) : vp_in i n := by
  simp only [inb, Bool.and_eq_true, Bool.not_eq_true', decide_eq_false_iff_not, Nat.blt_eq] at h
  rintro (q | q)
  · exact h.1 q
  · omega
def okZ (k : Nat) (v : Int32) : Bool := match k with
  | 0 => true
  | _ => decide (v = 0) || decide (v = 1)
def cats : List Value → Nat
  | [] => 0
  | v :: t => v.category + cats t
/-- n values off the stack, in the order in which they were put -/
def popn : Nat → List Value → List Value → (List Value → List Value → Res) → Res
  | 0, st, acc, f => f acc st
  | n + 1, st, acc, f => match st with
    | .int x :: t => popn n t (.int x :: acc) f
    | .ref x :: t => popn n t (.ref x :: acc) f
    | _ => none
def hnk (hn : List (Nat × Int32)) (E : Nat) (h : Hp) : Res := match lkp hn E with
  | some c => rtn (some (.int c)) h
  | none => thr E h
def clK (rk : Nat) (r : Res) (kV : Hp → Res) (kI : Int32 → Hp → Res) (kR : Nat → Hp → Res) (kx : Nat → Hp → Res) : Res := match rk with
  | 0 => bV r kV kx
  | 1 => bI r kI kx
  | _ => bR r kR kx
def rI (st : List Value) (h : Hp) : Res := match st with
  | [.int v] => rtn (some (.int v)) h
  | _ => none
def rR (st : List Value) (h : Hp) : Res := match st with
  | [.ref v] => rtn (some (.ref v)) h
  | _ => none
def rV (st : List Value) (h : Hp) : Res := match st with
  | [] => rtn none h
  | _ => none
/-- where the script's contents, and its length, stand -/
abbrev SCRA : Nat := 1000
abbrev SCRB : Nat := 1001
section
variable (SKc SKn : Nat → Nat) (SKr : Nat → Nat → Nat) (CS : Nat → List Nat)
def alen (h : Hp) (a : Nat) : Nat := cond (Nat.beq a SCRA) (rd h SCRB 0).toNatClampNeg (SKn a)
def stI (cl : List Fn) (hn : List (Nat × Int32)) (sw : List (List Nat)) (i : Instr) (len b c : Nat) (x : Int32) (K : Kt) (pc : Nat) (ls st : List Value) (h : Hp) : Res := match i with
  | .iconst _ => K (pc + len) ls (.int x :: st) h
  | .bipush _ => K (pc + len) ls (.int x :: st) h
  | .sipush _ => K (pc + len) ls (.int x :: st) h
  | .ldc _ => K (pc + len) ls (.int x :: st) h
  | .ldc_w _ => K (pc + len) ls (.int x :: st) h
  | .lconst n => K (pc + len) ls (.long (Int64.ofNat (n : Nat)) :: st) h
  | .aconst_null => K (pc + len) ls (.null :: st) h
  | .iload_n _ => lI (nth ls b) fun v => K (pc + len) ls (.int v :: st) h
  | .iload _ => lI (nth ls b) fun v => K (pc + len) ls (.int v :: st) h
  | .aload_n _ => lA (nth ls b) fun v => K (pc + len) ls (v :: st) h
  | .aload _ => lA (nth ls b) fun v => K (pc + len) ls (v :: st) h
  | .istore_n _ => pI st fun v t => K (pc + len) (setn ls b (.int v)) t h
  | .istore _ => pI st fun v t => K (pc + len) (setn ls b (.int v)) t h
  | .astore_n _ => pA st fun v t => K (pc + len) (setn ls b v) t h
  | .astore _ => pA st fun v t => K (pc + len) (setn ls b v) t h
  | .iinc _ _ => lI (nth ls b) fun v => K (pc + len) (setn ls b (.int (v + x))) st h
  | .iadd => pI st fun y t => pI t fun v t => K (pc + len) ls (.int (v + y) :: t) h
  | .isub => pI st fun y t => pI t fun v t => K (pc + len) ls (.int (v - y) :: t) h
  | .imul => pI st fun y t => pI t fun v t => K (pc + len) ls (.int (v * y) :: t) h
  | .iand => pI st fun y t => pI t fun v t => K (pc + len) ls (.int (v &&& y) :: t) h
  | .ior => pI st fun y t => pI t fun v t => K (pc + len) ls (.int (v ||| y) :: t) h
  | .ishl => pI st fun y t => pI t fun v t => K (pc + len) ls (.int (v <<< (y &&& 31)) :: t) h
  | .ishr => pI st fun y t => pI t fun v t => K (pc + len) ls (.int (v >>> (y &&& 31)) :: t) h
  | .iushr => pI st fun y t => pI t fun v t => K (pc + len) ls (.int ((v.toUInt32 >>> (y.toUInt32 &&& Int32.toUInt32 31)).toInt32) :: t) h
  | .idiv => pI st fun y t => pI t fun v t => gd (!decide (y = 0)) (K (pc + len) ls (.int (v / y) :: t) h)
  | .irem => pI st fun y t => pI t fun v t => gd (!decide (y = 0)) (K (pc + len) ls (.int (v - v / y * y) :: t) h)
  | .ineg => pI st fun v t => K (pc + len) ls (.int (-v) :: t) h
  | .i2l => pI st fun v t => K (pc + len) ls (.long v.toInt64 :: t) h
  | .lcmp => pL st fun y t => pL t fun v t => K (pc + len) ls (.int (lg_cmp v y) :: t) h
  | .dup => p1 st fun v t => K (pc + len) ls (v :: v :: t) h
  | .dup2 => p1 st fun v t => p1 t fun w t => K (pc + len) ls (v :: w :: v :: w :: t) h
  | .pop => p1 st fun _ t => K (pc + len) ls t h
  | .ifnull _ => pN st (fun t => K b ls t h) (fun t => K (pc + len) ls t h)
  | .if_icmp cnd _ => pI st fun y t => pI t fun v t => icmp cnd v y (K b ls t h) (K (pc + len) ls t h)
  | .ifCond cnd _ => pI st fun v t => icmp cnd v 0 (K b ls t h) (K (pc + len) ls t h)
  | .goto _ => K b ls st h
  | .tableswitch _ _ _ _ => pI st fun v t => swt v 0 (nthS sw c) (fun tg => K tg ls t h) (K b ls t h)
  | .getfield _ => pR st fun a t => gd (memb (SKc a) (CS (c / 2))) (match c % 2 with
      | 0 => K (pc + len) ls (.int (rd h a b) :: t) h
      | _ => K (pc + len) ls (.ref (SKr a b) :: t) h)
  | .putfield _ => pI st fun v t => pR t fun a t => gd (memb (SKc a) (CS (c / 2))) (gd (okZ (c % 2) v) (K (pc + len) ls t (wr h a b v)))
  | .iaload => pI st fun i t => pR t fun a t => gd (memb (SKc a) [10, 18] && inb i (alen SKn h a)) (K (pc + len) ls (.int (rd h a i.toNatClampNeg) :: t) h)
  | .baload => pI st fun i t => pR t fun a t => gd (Nat.beq (SKc a) 11 && inb i (SKn a)) (K (pc + len) ls (.int (rd h a i.toNatClampNeg) :: t) h)
  | .laload => pI st fun i t => pR t fun a t => gd (Nat.beq (SKc a) 12 && inb i (SKn a)) (K (pc + len) ls (.long (rdL h i.toNatClampNeg) :: t) h)
  | .aaload => pI st fun i t => pR t fun a t => gd (memb (SKc a) [13, 14, 15, 16, 17] && inb i (SKn a)) (K (pc + len) ls (.ref (SKr a i.toNatClampNeg) :: t) h)
  | .iastore => pI st fun v t => pI t fun i t => pR t fun a t => gd (Nat.beq (SKc a) 10 && inb i (SKn a)) (K (pc + len) ls t (wr h a i.toNatClampNeg v))
  | .bastore => pI st fun v t => pI t fun i t => pR t fun a t => gd (Nat.beq (SKc a) 11 && inb i (SKn a)) (K (pc + len) ls t (wr h a i.toNatClampNeg (vp_nar .boolean v)))
  | .lastore => pL st fun v t => pI t fun i t => pR t fun a t => gd (Nat.beq (SKc a) 12 && inb i (SKn a)) (K (pc + len) ls t (wrL h i.toNatClampNeg v))
  | .arraylength => pR st fun a t => gd (memb (SKc a) [10, 11, 12, 13, 14, 15, 16, 17, 18]) (K (pc + len) ls (.int (Int32.ofNat (alen SKn h a)) :: t) h)
  | .invokevirtual _ => popn (c / 4) st [] fun as t => gd (Nat.ble (cats t) 8) (clK (c % 4) (nthF cl b as h) (fun g => K (pc + len) ls t g) (fun v g => K (pc + len) ls (.int v :: t) g) (fun v g => K (pc + len) ls (.ref v :: t) g) (hnk hn))
  | .invokestatic _ => popn (c / 4) st [] fun as t => gd (Nat.ble (cats t) 8) (clK (c % 4) (nthF cl b as h) (fun g => K (pc + len) ls t g) (fun v g => K (pc + len) ls (.int v :: t) g) (fun v g => K (pc + len) ls (.ref v :: t) g) (hnk hn))
  | .new _ => gd (Nat.ble (cats st) 8) (thr b h)
  | .ireturn => rI st h
  | .areturn => rR st h
  | .return_ => rV st h
  | _ => none
def stp (ft : Nat → Option Ent) (cl : List Fn) (hn : List (Nat × Int32)) (sw : List (List Nat)) (K : Kt) (pc : Nat) (ls st : List Value) (h : Hp) : Res := match ft pc with
  | none => none
  | some (m, i, len, b, c, _, x) => stI SKc SKn SKr CS cl hn sw i len b c x K pc (kl m ls) st h
def exN (ft : Nat → Option Ent) (cl : List Fn) (hn : List (Nat × Int32)) (sw : List (List Nat)) : Nat → Kt
  | 0 => fun _ _ _ _ => none
  | n + 1 => stp SKc SKn SKr CS ft cl hn sw (exN ft cl hn sw n)
end
/-- what a step asks of what comes behind it: one place at most -/
def Lin (f : Kt → Res) : Prop := (∃ (pc : Nat) (ls st : List Value) (h : Hp), ∀ K, f K = K pc ls st h) ∨ ∃ r : Res, ∀ K, f K = r
theorem Lin.k (pc : Nat) (ls st : List Value) (h : Hp) : Lin (fun K => K pc ls st h) := Or.inl ⟨pc, ls, st, h, fun _ => rfl⟩
theorem Lin.c (r : Res) : Lin (fun _ => r) := Or.inr ⟨r, fun _ => rfl⟩
theorem Lin.gd {f : Kt → Res} (b : Bool) (h : Lin f) : Lin (fun K => gd b (f K)) := by cases b; exact Lin.c none; exact h
theorem Lin.bV {r : Res} {f : Hp → Kt → Res} {kx : Nat → Hp → Res} (h : ∀ g, Lin (f g)) : Lin (fun K => bV r (fun g => f g K) kx) := by
  rcases r with _ | ⟨_ | v, g⟩ | ⟨E, g⟩
  · exact Lin.c none
  · exact h g
  · exact Lin.c none
  · exact Lin.c (kx E g)
theorem Lin.bI {r : Res} {f : Int32 → Hp → Kt → Res} {kx : Nat → Hp → Res} (h : ∀ v g, Lin (f v g)) : Lin (fun K => bI r (fun v g => f v g K) kx) := by
  rcases r with _ | ⟨_ | v, g⟩ | ⟨E, g⟩
  · exact Lin.c none
  · exact Lin.c none
  · cases v <;> first | exact h _ g | exact Lin.c none
  · exact Lin.c (kx E g)
theorem Lin.bR {r : Res} {f : Nat → Hp → Kt → Res} {kx : Nat → Hp → Res} (h : ∀ v g, Lin (f v g)) : Lin (fun K => bR r (fun v g => f v g K) kx) := by
  rcases r with _ | ⟨_ | v, g⟩ | ⟨E, g⟩
  · exact Lin.c none
  · exact Lin.c none
  · cases v <;> first | exact h _ g | exact Lin.c none
  · exact Lin.c (kx E g)
theorem Lin.clK {r : Res} {rk : Nat} {f : Hp → Kt → Res} {fi : Int32 → Hp → Kt → Res} {fr : Nat → Hp → Kt → Res} {kx : Nat → Hp → Res} (h : ∀ g, Lin (f g)) (hi : ∀ v g, Lin (fi v g)) (hr : ∀ v g, Lin (fr v g)) : Lin (fun K => clK rk r (fun g => f g K) (fun v g => fi v g K) (fun v g => fr v g K) kx) := by
  rcases rk with _ | _ | _
  · exact Lin.bV h
  · exact Lin.bI hi
  · exact Lin.bR hr
theorem Lin.pI {st : List Value} {f : Int32 → List Value → Kt → Res} (h : ∀ v t, Lin (f v t)) : Lin (fun K => pI st (fun v t => f v t K)) := by
  rcases st with _ | ⟨v, t⟩
  · exact Lin.c none
  · cases v <;> first | exact h _ t | exact Lin.c none
theorem Lin.pL {st : List Value} {f : Int64 → List Value → Kt → Res} (h : ∀ v t, Lin (f v t)) : Lin (fun K => pL st (fun v t => f v t K)) := by
  rcases st with _ | ⟨v, t⟩
  · exact Lin.c none
  · cases v <;> first | exact h _ t | exact Lin.c none
theorem Lin.pR {st : List Value} {f : Nat → List Value → Kt → Res} (h : ∀ v t, Lin (f v t)) : Lin (fun K => pR st (fun v t => f v t K)) := by
  rcases st with _ | ⟨v, t⟩
  · exact Lin.c none
  · cases v <;> first | exact h _ t | exact Lin.c none
theorem Lin.pA {st : List Value} {f : Value → List Value → Kt → Res} (h : ∀ v t, Lin (f v t)) : Lin (fun K => pA st (fun v t => f v t K)) := by
  rcases st with _ | ⟨v, t⟩
  · exact Lin.c none
  · cases v <;> first | exact h _ t | exact Lin.c none
theorem Lin.p1 {st : List Value} {f : Value → List Value → Kt → Res} (h : ∀ v t, Lin (f v t)) : Lin (fun K => p1 st (fun v t => f v t K)) := by
  rcases st with _ | ⟨v, t⟩
  · exact Lin.c none
  · cases v <;> first | exact h _ t | exact Lin.c none
theorem Lin.pN {st : List Value} {f g : List Value → Kt → Res} (h : ∀ t, Lin (f t)) (h2 : ∀ t, Lin (g t)) : Lin (fun K => pN st (fun t => f t K) (fun t => g t K)) := by
  rcases st with _ | ⟨v, t⟩
  · exact Lin.c none
  · cases v <;> first | exact h t | exact h2 t | exact Lin.c none
theorem Lin.lI {v : Value} {f : Int32 → Kt → Res} (h : ∀ v, Lin (f v)) : Lin (fun K => lI v (fun v => f v K)) := by
  cases v <;> first | exact h _ | exact Lin.c none
theorem Lin.lA {v : Value} {f : Value → Kt → Res} (h : ∀ v, Lin (f v)) : Lin (fun K => lA v (fun v => f v K)) := by
  cases v <;> first | exact h _ | exact Lin.c none
theorem Lin.ite {c : Prop} [Decidable c] {f g : Kt → Res} (h : Lin f) (h2 : Lin g) : Lin (fun K => if c then f K else g K) := by
  by_cases q : c
  · simpa [q] using h
  · simpa [q] using h2
theorem Lin.icmp {cnd : ClassFile.Cond} {v y : Int32} {f g : Kt → Res} (h : Lin f) (h2 : Lin g) : Lin (fun K => icmp cnd v y (f K) (g K)) := by
  cases cnd
  · exact Lin.ite h h2
  · exact Lin.ite h2 h
  · exact Lin.ite h h2
  · exact Lin.ite h2 h
  · exact Lin.ite h h2
  · exact Lin.ite h2 h
theorem Lin.swt {v : Int32} {k : Nat → Kt → Res} {d : Kt → Res} (h : ∀ t, Lin (k t)) (h2 : Lin d) : ∀ (ts : List Nat) (n : Nat), Lin (fun K => swt v n ts (fun t => k t K) (d K)) := by
  intro ts
  induction ts with
  | nil => intro n; exact h2
  | cons t ts ih => intro n; exact Lin.ite (h t) (ih (n + 1))
theorem Lin.popn {f : List Value → List Value → Kt → Res} (h : ∀ a t, Lin (f a t)) : ∀ (n : Nat) (st acc : List Value), Lin (fun K => popn n st acc (fun a t => f a t K)) := by
  intro n
  induction n with
  | zero => intro st acc; exact h acc st
  | succ n ih =>
    intro st acc
    rcases st with _ | ⟨v, t⟩
    · exact Lin.c none
    · cases v <;> first | exact ih t _ | exact Lin.c none
theorem Lin.sel {n : Nat} {f g : Kt → Res} (h : Lin f) (h2 : Lin g) : Lin (fun K => match n with | 0 => f K | _ => g K) := by
  cases n
  · exact h
  · exact h2
section
variable (SKc SKn : Nat → Nat) (SKr : Nat → Nat → Nat) (CS : Nat → List Nat)
theorem stI_lin (cl : List Fn) (hn : List (Nat × Int32)) (sw : List (List Nat)) (i : Instr) (len b c : Nat) (x : Int32) (pc : Nat) (ls st : List Value) (h : Hp) : Lin (fun K => stI SKc SKn SKr CS cl hn sw i len b c x K pc ls st h) := by
  cases i <;> (try exact Lin.c none) <;> (try exact Lin.k _ _ _ _) <;>
    first
    | (refine Lin.lI ?_; intros <;> exact Lin.k _ _ _ _)
    | (refine Lin.lA ?_; intros <;> exact Lin.k _ _ _ _)
    | (refine Lin.pI ?_; intros <;> exact Lin.k _ _ _ _)
    | (refine Lin.pA ?_; intros <;> exact Lin.k _ _ _ _)
    | (refine Lin.p1 ?_; intros <;> exact Lin.k _ _ _ _)
    | (refine Lin.p1 ?_; intros; refine Lin.p1 ?_; intros <;> exact Lin.k _ _ _ _)
    | (refine Lin.pI ?_; intros; refine Lin.pI ?_; intros <;> exact Lin.k _ _ _ _)
    | (refine Lin.pL ?_; intros; refine Lin.pL ?_; intros <;> exact Lin.k _ _ _ _)
    | (refine Lin.pI ?_; intros; refine Lin.pI ?_; intros; refine Lin.gd _ ?_ <;> exact Lin.k _ _ _ _)
    | (refine Lin.pI ?_; intros; refine Lin.pI ?_; intros; refine Lin.icmp ?_ ?_ <;> exact Lin.k _ _ _ _)
    | (refine Lin.pI ?_; intros; refine Lin.icmp ?_ ?_ <;> exact Lin.k _ _ _ _)
    | (refine Lin.pN ?_ ?_ <;> intros <;> exact Lin.k _ _ _ _)
    | (refine Lin.pI ?_; intros; refine Lin.swt ?_ ?_ _ _ <;> intros <;> exact Lin.k _ _ _ _)
    | (refine Lin.pR ?_; intros; refine Lin.gd _ ?_; refine Lin.sel ?_ ?_ <;> exact Lin.k _ _ _ _)
    | (refine Lin.pI ?_; intros; refine Lin.pR ?_; intros; refine Lin.gd _ ?_; refine Lin.gd _ ?_ <;> exact Lin.k _ _ _ _)
    | (refine Lin.pI ?_; intros; refine Lin.pR ?_; intros; refine Lin.gd _ ?_ <;> exact Lin.k _ _ _ _)
    | (refine Lin.pI ?_; intros; refine Lin.pI ?_; intros; refine Lin.pR ?_; intros; refine Lin.gd _ ?_ <;> exact Lin.k _ _ _ _)
    | (refine Lin.pL ?_; intros; refine Lin.pI ?_; intros; refine Lin.pR ?_; intros; refine Lin.gd _ ?_ <;> exact Lin.k _ _ _ _)
    | (refine Lin.pR ?_; intros; refine Lin.gd _ ?_ <;> exact Lin.k _ _ _ _)
    | (refine Lin.popn ?_ _ _ _; intros; refine Lin.gd _ ?_; refine Lin.clK ?_ ?_ ?_ <;> intros <;> exact Lin.k _ _ _ _)
    | (refine Lin.gd _ ?_ <;> exact Lin.c _)
    | (show Lin (fun K => lA (nth ls b) (fun v => K (pc + len) ls (v :: st) h)); refine Lin.lA ?_; intros; exact Lin.k _ _ _ _)
    | (show Lin (fun K => pA st (fun v t => K (pc + len) (setn ls b v) t h)); refine Lin.pA ?_; intros; exact Lin.k _ _ _ _)
    | (show Lin (fun K => p1 st (fun v t => K (pc + len) ls (v :: v :: t) h)); refine Lin.p1 ?_; intros; exact Lin.k _ _ _ _)
    | (show Lin (fun K => p1 st (fun v t => p1 t (fun w t => K (pc + len) ls (v :: w :: v :: w :: t) h))); refine Lin.p1 (f := fun v t K => p1 t (fun w t => K (pc + len) ls (v :: w :: v :: w :: t) h)) ?_; intro v t; refine Lin.p1 ?_; intros; exact Lin.k _ _ _ _)
    | (show Lin (fun K => p1 st (fun _ t => K (pc + len) ls t h)); refine Lin.p1 (f := fun _ t K => K (pc + len) ls t h) ?_; intros; exact Lin.k _ _ _ _)
    | exact Lin.c _
theorem stp_lin (ft : Nat → Option Ent) (cl : List Fn) (hn : List (Nat × Int32)) (sw : List (List Nat)) (pc : Nat) (ls st : List Value) (h : Hp) : Lin (fun K => stp SKc SKn SKr CS ft cl hn sw K pc ls st h) := by
  unfold stp
  rcases ft pc with _ | ⟨m, i, len, b, c, d, x⟩
  · exact Lin.c none
  · exact stI_lin SKc SKn SKr CS cl hn sw i len b c x pc (kl m ls) st h
theorem stp_l2 (ft : Nat → Option Ent) (cl : List Fn) (hn : List (Nat × Int32)) (sw : List (List Nat)) (pc : Nat) (ls st : List Value) (h : Hp) : (∃ (pc2 : Nat) (ls2 st2 : List Value) (h2 : Hp), ∀ K : Kt, stp SKc SKn SKr CS ft cl hn sw K pc ls st h = K pc2 ls2 st2 h2) ∨ ∃ r : Res, ∀ K : Kt, stp SKc SKn SKr CS ft cl hn sw K pc ls st h = r := stp_lin SKc SKn SKr CS ft cl hn sw pc ls st h
theorem exN_mono (ft : Nat → Option Ent) (cl : List Fn) (hn : List (Nat × Int32)) (sw : List (List Nat)) : ∀ (n : Nat) (pc : Nat) (ls st : List Value) (h : Hp) (r : (Option Value × Hp) ⊕ (Nat × Hp)), exN SKc SKn SKr CS ft cl hn sw n pc ls st h = some r → exN SKc SKn SKr CS ft cl hn sw (n + 1) pc ls st h = some r := by
  intro n
  induction n with
  | zero => intro pc ls st h r e; cases e
  | succ n ih =>
    intro pc ls st h r e
    show stp SKc SKn SKr CS ft cl hn sw (exN SKc SKn SKr CS ft cl hn sw (n + 1)) pc ls st h = some r
    have e1 : stp SKc SKn SKr CS ft cl hn sw (exN SKc SKn SKr CS ft cl hn sw n) pc ls st h = some r := e
    rcases stp_l2 SKc SKn SKr CS ft cl hn sw pc ls st h with ⟨pc2, ls2, st2, h2, q⟩ | ⟨r2, q⟩
    · rw [q] at e1 ⊢
      exact ih _ _ _ _ _ e1
    · rw [q] at e1 ⊢
      exact e1
theorem exN_le (ft : Nat → Option Ent) (cl : List Fn) (hn : List (Nat × Int32)) (sw : List (List Nat)) {n k : Nat} (hk : n ≤ k) (pc : Nat) (ls st : List Value) (h : Hp) (r : (Option Value × Hp) ⊕ (Nat × Hp)) (e : exN SKc SKn SKr CS ft cl hn sw n pc ls st h = some r) : exN SKc SKn SKr CS ft cl hn sw k pc ls st h = some r := by
  induction hk with
  | refl => exact e
  | step _ ih => exact exN_mono SKc SKn SKr CS ft cl hn sw _ _ _ _ _ _ ih
/-- a method's run, whatever number of steps it takes -/
noncomputable def exL (ft : Nat → Option Ent) (cl : List Fn) (hn : List (Nat × Int32)) (sw : List (List Nat)) : Kt := fun pc ls st h =>
  @dite _ (∃ (r : (Option Value × Hp) ⊕ (Nat × Hp)) (n : Nat), exN SKc SKn SKr CS ft cl hn sw n pc ls st h = some r) (Classical.propDecidable _) (fun q => some (Classical.choose q)) (fun _ => none)
theorem exL_of (ft : Nat → Option Ent) (cl : List Fn) (hn : List (Nat × Int32)) (sw : List (List Nat)) {n pc : Nat} {ls st : List Value} {h : Hp} {r : (Option Value × Hp) ⊕ (Nat × Hp)} (e : exN SKc SKn SKr CS ft cl hn sw n pc ls st h = some r) : exL SKc SKn SKr CS ft cl hn sw pc ls st h = some r := by
  have q : ∃ (r : (Option Value × Hp) ⊕ (Nat × Hp)) (n : Nat), exN SKc SKn SKr CS ft cl hn sw n pc ls st h = some r := ⟨r, n, e⟩
  unfold exL
  rw [dif_pos q]
  obtain ⟨k, hk⟩ := Classical.choose_spec q
  have h1 := exN_le SKc SKn SKr CS ft cl hn sw (Nat.le_max_left n k) _ _ _ _ _ e
  have h2 := exN_le SKc SKn SKr CS ft cl hn sw (Nat.le_max_right n k) _ _ _ _ _ hk
  exact h2.symm.trans h1
theorem exL_to (ft : Nat → Option Ent) (cl : List Fn) (hn : List (Nat × Int32)) (sw : List (List Nat)) {pc : Nat} {ls st : List Value} {h : Hp} {r : (Option Value × Hp) ⊕ (Nat × Hp)} (e : exL SKc SKn SKr CS ft cl hn sw pc ls st h = some r) : ∃ n, exN SKc SKn SKr CS ft cl hn sw n pc ls st h = some r := by
  unfold exL at e
  split at e
  · rename_i q
    obtain ⟨k, hk⟩ := Classical.choose_spec q
    exact ⟨k, hk.trans e⟩
  · cases e
theorem exL_stp (ft : Nat → Option Ent) (cl : List Fn) (hn : List (Nat × Int32)) (sw : List (List Nat)) (pc : Nat) (ls st : List Value) (h : Hp) : exL SKc SKn SKr CS ft cl hn sw pc ls st h = stp SKc SKn SKr CS ft cl hn sw (exL SKc SKn SKr CS ft cl hn sw) pc ls st h := by
  rcases stp_l2 SKc SKn SKr CS ft cl hn sw pc ls st h with ⟨pc2, ls2, st2, h2, q⟩ | ⟨r2, q⟩
  · rw [q]
    rcases e : exL SKc SKn SKr CS ft cl hn sw pc2 ls2 st2 h2 with _ | r
    · rcases e1 : exL SKc SKn SKr CS ft cl hn sw pc ls st h with _ | r
      · rfl
      · obtain ⟨n, hn1⟩ := exL_to SKc SKn SKr CS ft cl hn sw e1
        cases n with
        | zero => cases hn1
        | succ n =>
          have h3 : stp SKc SKn SKr CS ft cl hn sw (exN SKc SKn SKr CS ft cl hn sw n) pc ls st h = some r := hn1
          rw [q] at h3
          rw [exL_of SKc SKn SKr CS ft cl hn sw h3] at e
          cases e
    · obtain ⟨n, hn1⟩ := exL_to SKc SKn SKr CS ft cl hn sw e
      refine exL_of SKc SKn SKr CS ft cl hn sw (n := n + 1) ?_
      show stp SKc SKn SKr CS ft cl hn sw (exN SKc SKn SKr CS ft cl hn sw n) pc ls st h = some r
      rw [q]; exact hn1
  · rw [q]
    cases r2 with
    | none =>
      rcases e1 : exL SKc SKn SKr CS ft cl hn sw pc ls st h with _ | r
      · rfl
      · obtain ⟨n, hn1⟩ := exL_to SKc SKn SKr CS ft cl hn sw e1
        cases n with
        | zero => cases hn1
        | succ n =>
          have h3 : stp SKc SKn SKr CS ft cl hn sw (exN SKc SKn SKr CS ft cl hn sw n) pc ls st h = some r := hn1
          rw [q] at h3
          cases h3
    | some r =>
      refine exL_of SKc SKn SKr CS ft cl hn sw (n := 1) ?_
      show stp SKc SKn SKr CS ft cl hn sw (exN SKc SKn SKr CS ft cl hn sw 0) pc ls st h = some r
      rw [q]
theorem exL_kl (ft : Nat → Option Ent) (cl : List Fn) (hn : List (Nat × Int32)) (sw : List (List Nat)) (pc : Nat) (ls st : List Value) (h : Hp) : exL SKc SKn SKr CS ft cl hn sw pc (kl (msk ft pc) ls) st h = exL SKc SKn SKr CS ft cl hn sw pc ls st h := by
  rw [exL_stp, exL_stp SKc SKn SKr CS ft cl hn sw pc ls st h]
  unfold stp msk
  rcases ft pc with _ | ⟨m, i, len, b, c, d, x⟩
  · rfl
  · show stI SKc SKn SKr CS cl hn sw i len b c x _ pc (kl m (kl m ls)) st h = _
    rw [kl_kl]
/-- k steps at once, stopping at the places of a list -/
def itK (ft : Nat → Option Ent) (cl : List Fn) (hn : List (Nat × Int32)) (sw : List (List Nat)) (cuts : List Nat) (K : Kt) : Nat → Kt
  | 0 => K
  | n + 1 => fun pc ls st h => stp SKc SKn SKr CS ft cl hn sw (fun pc2 ls2 st2 h2 => match memb pc2 cuts with
      | true => K pc2 (kl (msk ft pc2) ls2) st2 h2
      | false => itK ft cl hn sw cuts K n pc2 ls2 st2 h2) pc ls st h
theorem exL_it (ft : Nat → Option Ent) (cl : List Fn) (hn : List (Nat × Int32)) (sw : List (List Nat)) (cuts : List Nat) : ∀ (n : Nat) (pc : Nat) (ls st : List Value) (h : Hp), exL SKc SKn SKr CS ft cl hn sw pc ls st h = itK SKc SKn SKr CS ft cl hn sw cuts (exL SKc SKn SKr CS ft cl hn sw) n pc ls st h := by
  intro n
  induction n with
  | zero => intro pc ls st h; rfl
  | succ n ih =>
    intro pc ls st h
    rw [exL_stp]
    show _ = stp SKc SKn SKr CS ft cl hn sw (fun pc2 ls2 st2 h2 => match memb pc2 cuts with
      | true => exL SKc SKn SKr CS ft cl hn sw pc2 (kl (msk ft pc2) ls2) st2 h2
      | false => itK SKc SKn SKr CS ft cl hn sw cuts (exL SKc SKn SKr CS ft cl hn sw) n pc2 ls2 st2 h2) pc ls st h
    congr 1
    funext pc2 ls2 st2 h2
    cases memb pc2 cuts
    · exact ih pc2 ls2 st2 h2
    · exact (exL_kl SKc SKn SKr CS ft cl hn sw pc2 ls2 st2 h2).symm
end
end
section
/-! ===== where the two constructors put what they make, counted from the first ===== -/
def nthN : List Nat → Nat → Nat
  | [], _ => 99
  | x :: _, 0 => x
  | _ :: t, n + 1 => nthN t n
def SKc (a : Nat) : Nat := cond (Nat.blt a 11) (nthN [5, 13, 10, 15, 16, 17, 10, 10, 10, 10, 10] a) (cond (Nat.blt a 47) (nthN [0, 14, 10, 3, 3, 3, 3, 3, 3] ((a - 11) % 9)) (cond (Nat.blt a 107) 1 (cond (Nat.blt a 167) 4 (cond (Nat.blt a 227) 2 (cond (Nat.blt a 276) (nthN [6, 10, 10, 10, 10, 10, 10, 10, 10, 10, 10, 10, 10, 10, 10, 10, 10, 10, 10, 10, 10, 10, 10, 10, 10, 10, 10, 10, 10, 10, 10, 10, 10, 10, 10, 10, 10, 10, 10, 10, 10, 10, 10, 10, 10, 11, 10, 10, 12] (a - 227)) (cond (Nat.beq a 1000) 18 99))))))
def SKn (a : Nat) : Nat := cond (Nat.blt a 11) (nthN [15, 4, 10, 60, 60, 60, 60, 60, 60, 60, 20] a) (cond (Nat.blt a 47) (nthN [6, 6, 7, 3, 3, 3, 3, 3, 3] ((a - 11) % 9)) (cond (Nat.blt a 107) 14 (cond (Nat.blt a 167) 13 (cond (Nat.blt a 227) 9 (cond (Nat.blt a 276) (nthN [54, 4, 24, 24, 24, 4, 4, 4, 10, 60, 60, 60, 60, 60, 60, 60, 60, 60, 60, 60, 60, 60, 60, 60, 60, 60, 60, 60, 60, 60, 60, 60, 60, 60, 60, 60, 60, 60, 60, 60, 60, 60, 60, 60, 60, 60, 28, 60, 1] (a - 227)) 0)))))
def SKr (a k : Nat) : Nat := cond (Nat.beq a 227) (nthN [99, 99, 228, 229, 230, 231, 232, 233, 234, 235, 99, 236, 237, 238, 239, 240, 241, 242, 243, 244, 99, 245, 246, 247, 248, 249, 250, 251, 252, 253, 254, 255, 256, 257, 258, 259, 99, 99, 260, 261, 262, 263, 264, 265, 266, 267, 268, 269, 270, 271, 272, 273, 99, 274] k) (cond (Nat.beq a 0) (k + 1) (cond (Nat.beq a 1) (11 + 9 * k) (cond (Nat.beq a 3) (47 + k) (cond (Nat.beq a 4) (107 + k) (cond (Nat.beq a 5) (167 + k) (cond (Nat.beq ((a - 11) % 9) 0) (a + 1 + k) (a + 2 + k)))))))
def CSL : List (List Nat) := [[5], [6], [0], [3], [1], [4], [2], [1, 2, 4]]
def CS (n : Nat) : List Nat := nthS CSL n
def okc (a n : Nat) : Bool := memb (SKc a) (CS n)
def F_mmax : Fn := fun as h => match as with
  | [.int x, .int y] => rtn (some (.int (if x < y then y else x))) h
  | _ => none
def F_mmin : Fn := fun as h => match as with
  | [.int x, .int y] => rtn (some (.int (if y < x then y else x))) h
  | _ => none
def F_mabs : Fn := fun as h => match as with
  | [.int x] => rtn (some (.int (if 0 ≤ x then x else 0 - x))) h
  | _ => none
end
section
def T_X0_ruleAt : List (Nat × Ent) := [(0, ([], .iload_n 1, 1, 1, 0, 0, 0)),
  (1, ([], .ifCond .lt 20, 3, 21, 0, 0, 0)),
  (4, ([], .iload_n 1, 1, 1, 0, 0, 0)),
  (5, ([], .aload_n 0, 1, 0, 0, 0, 0)),
  (6, ([], .getfield 26, 3, 2, 4, 0, 0)),
  (9, ([], .if_icmp .ge 12, 3, 21, 0, 0, 0)),
  (12, ([], .iload_n 1, 1, 1, 0, 0, 0)),
  (13, ([], .aload_n 0, 1, 0, 0, 0, 0)),
  (14, ([], .getfield 11, 3, 0, 5, 0, 0)),
  (17, ([], .arraylength, 1, 0, 0, 0, 0)),
  (18, ([], .if_icmp .lt 13, 3, 31, 0, 0, 0)),
  (21, ([true, true], .new 29, 3, 0, 0, 0, 0)),
  (31, ([], .aload_n 0, 1, 0, 0, 0, 0)),
  (32, ([], .getfield 11, 3, 0, 5, 0, 0)),
  (35, ([], .iload_n 1, 1, 1, 0, 0, 0)),
  (36, ([], .aaload, 1, 0, 0, 0, 0)),
  (37, ([], .areturn, 1, 0, 0, 0, 0))]
noncomputable def E_X0_ruleAt : Kt := exL SKc SKn SKr CS (lkp T_X0_ruleAt) [] [] []
noncomputable def F_X0_ruleAt : Fn := fun as h => E_X0_ruleAt 0 (pad 2 as) [] h
noncomputable def f_X0_ruleAt_21 (h : Hp) : Res := E_X0_ruleAt 21 [.retAddr 0, .retAddr 0] [] h
set_option maxRecDepth 100000 in
set_option maxHeartbeats 4000000 in
theorem e_X0_ruleAt_0 (a0 : Nat) (x1 : Int32) (h : Hp) : F_X0_ruleAt [.ref a0, .int x1] h = if x1 < 0 then f_X0_ruleAt_21 h else gd (okc a0 2) (if x1 < (rd h a0 2) then gd (okc a0 2) (gd (memb (SKc (SKr a0 0)) [10, 11, 12, 13, 14, 15, 16, 17, 18]) (if x1 < (Int32.ofNat (alen SKn h (SKr a0 0))) then gd (okc a0 2) (gd (memb (SKc (SKr a0 0)) [13, 14, 15, 16, 17] && inb x1 (SKn (SKr a0 0))) (rtn (some (.ref (SKr (SKr a0 0) x1.toNatClampNeg))) h)) else f_X0_ruleAt_21 h)) else f_X0_ruleAt_21 h) :=
  (exL_it SKc SKn SKr CS (lkp T_X0_ruleAt) [] [] [] [21] 16 0 [.ref a0, .int x1] [] h).trans rfl
set_option maxRecDepth 100000 in
set_option maxHeartbeats 4000000 in
theorem e_X0_ruleAt_21 (h : Hp) : f_X0_ruleAt_21 h = thr 0 h :=
  (exL_it SKc SKn SKr CS (lkp T_X0_ruleAt) [] [] [] [21] 1 21 [.retAddr 0, .retAddr 0] [] h).trans rfl

def T_X0_bars : List (Nat × Ent) := [(0, ([], .iload_n 1, 1, 1, 0, 0, 0)),
  (1, ([], .aload_n 0, 1, 0, 0, 0, 0)),
  (2, ([], .getfield 36, 3, 3, 4, 0, 0)),
  (5, ([], .if_icmp .lt 15, 3, 20, 0, 0, 0)),
  (8, ([], .iload_n 1, 1, 1, 0, 0, 0)),
  (9, ([], .aload_n 0, 1, 0, 0, 0, 0)),
  (10, ([], .getfield 39, 3, 4, 4, 0, 0)),
  (13, ([], .if_icmp .ge 7, 3, 20, 0, 0, 0)),
  (16, ([], .iconst 1, 1, 0, 0, 0, 1)),
  (17, ([], .goto 4, 3, 21, 0, 0, 0)),
  (20, ([], .iconst 0, 1, 0, 0, 0, 0)),
  (21, ([], .ireturn, 1, 0, 0, 0, 0))]
noncomputable def E_X0_bars : Kt := exL SKc SKn SKr CS (lkp T_X0_bars) [] [] []
noncomputable def F_X0_bars : Fn := fun as h => E_X0_bars 0 (pad 2 as) [] h
set_option maxRecDepth 100000 in
set_option maxHeartbeats 4000000 in
theorem e_X0_bars_0 (a0 : Nat) (x1 : Int32) (h : Hp) : F_X0_bars [.ref a0, .int x1] h = gd (okc a0 2) (if x1 < (rd h a0 3) then rtn (some (.int 0)) h else gd (okc a0 2) (if x1 < (rd h a0 4) then rtn (some (.int 1)) h else rtn (some (.int 0)) h)) :=
  (exL_it SKc SKn SKr CS (lkp T_X0_bars) [] [] [] [] 11 0 [.ref a0, .int x1] [] h).trans rfl

def T_X0_closedWeeksOn : List (Nat × Ent) := [(0, ([], .iload_n 1, 1, 1, 0, 0, 0)),
  (1, ([], .ifCond .lt 21, 3, 22, 0, 0, 0)),
  (4, ([], .iload_n 1, 1, 1, 0, 0, 0)),
  (5, ([], .aload_n 0, 1, 0, 0, 0, 0)),
  (6, ([], .getfield 17, 3, 1, 5, 0, 0)),
  (9, ([], .arraylength, 1, 0, 0, 0, 0)),
  (10, ([], .if_icmp .ge 12, 3, 22, 0, 0, 0)),
  (13, ([], .aload_n 0, 1, 0, 0, 0, 0)),
  (14, ([], .getfield 17, 3, 1, 5, 0, 0)),
  (17, ([], .iload_n 1, 1, 1, 0, 0, 0)),
  (18, ([], .iaload, 1, 0, 0, 0, 0)),
  (19, ([], .goto 4, 3, 23, 0, 0, 0)),
  (22, ([], .iconst 0, 1, 0, 0, 0, 0)),
  (23, ([], .ireturn, 1, 0, 0, 0, 0))]
noncomputable def E_X0_closedWeeksOn : Kt := exL SKc SKn SKr CS (lkp T_X0_closedWeeksOn) [] [] []
noncomputable def F_X0_closedWeeksOn : Fn := fun as h => E_X0_closedWeeksOn 0 (pad 2 as) [] h
set_option maxRecDepth 100000 in
set_option maxHeartbeats 4000000 in
theorem e_X0_closedWeeksOn_0 (a0 : Nat) (x1 : Int32) (h : Hp) : F_X0_closedWeeksOn [.ref a0, .int x1] h = if x1 < 0 then rtn (some (.int 0)) h else gd (okc a0 2) (gd (memb (SKc (SKr a0 1)) [10, 11, 12, 13, 14, 15, 16, 17, 18]) (if x1 < (Int32.ofNat (alen SKn h (SKr a0 1))) then gd (okc a0 2) (gd (memb (SKc (SKr a0 1)) [10, 18] && inb x1 (alen SKn h (SKr a0 1))) (rtn (some (.int (rd h (SKr a0 1) x1.toNatClampNeg))) h)) else rtn (some (.int 0)) h)) :=
  (exL_it SKc SKn SKr CS (lkp T_X0_closedWeeksOn) [] [] [] [] 13 0 [.ref a0, .int x1] [] h).trans rfl

def T_X0_closeWeeksOn : List (Nat × Ent) := [(0, ([], .iload_n 1, 1, 1, 0, 0, 0)),
  (1, ([], .ifCond .lt 22, 3, 23, 0, 0, 0)),
  (4, ([], .iload_n 1, 1, 1, 0, 0, 0)),
  (5, ([], .aload_n 0, 1, 0, 0, 0, 0)),
  (6, ([], .getfield 17, 3, 1, 5, 0, 0)),
  (9, ([], .arraylength, 1, 0, 0, 0, 0)),
  (10, ([], .if_icmp .ge 13, 3, 23, 0, 0, 0)),
  (13, ([], .aload_n 0, 1, 0, 0, 0, 0)),
  (14, ([], .getfield 17, 3, 1, 5, 0, 0)),
  (17, ([], .iload_n 1, 1, 1, 0, 0, 0)),
  (18, ([], .dup2, 1, 0, 0, 0, 0)),
  (19, ([], .iaload, 1, 0, 0, 0, 0)),
  (20, ([], .iload_n 2, 1, 2, 0, 0, 0)),
  (21, ([], .ior, 1, 0, 0, 0, 0)),
  (22, ([], .iastore, 1, 0, 0, 0, 0)),
  (23, ([], .return_, 1, 0, 0, 0, 0))]
noncomputable def E_X0_closeWeeksOn : Kt := exL SKc SKn SKr CS (lkp T_X0_closeWeeksOn) [] [] []
noncomputable def F_X0_closeWeeksOn : Fn := fun as h => E_X0_closeWeeksOn 0 (pad 3 as) [] h
set_option maxRecDepth 100000 in
set_option maxHeartbeats 4000000 in
theorem e_X0_closeWeeksOn_0 (a0 : Nat) (x1 : Int32) (x2 : Int32) (h : Hp) : F_X0_closeWeeksOn [.ref a0, .int x1, .int x2] h = if x1 < 0 then rtn none h else gd (okc a0 2) (gd (memb (SKc (SKr a0 1)) [10, 11, 12, 13, 14, 15, 16, 17, 18]) (if x1 < (Int32.ofNat (alen SKn h (SKr a0 1))) then gd (okc a0 2) (gd (memb (SKc (SKr a0 1)) [10, 18] && inb x1 (alen SKn h (SKr a0 1))) (gd (Nat.beq (SKc (SKr a0 1)) 10 && inb x1 (SKn (SKr a0 1))) (rtn none (wr h (SKr a0 1) x1.toNatClampNeg ((rd h (SKr a0 1) x1.toNatClampNeg) ||| x2))))) else rtn none h)) :=
  (exL_it SKc SKn SKr CS (lkp T_X0_closeWeeksOn) [] [] [] [] 16 0 [.ref a0, .int x1, .int x2] [] h).trans rfl

def T_X0_openAllDays : List (Nat × Ent) := [(0, ([], .iconst 0, 1, 0, 0, 0, 0)),
  (1, ([], .istore_n 1, 1, 1, 0, 0, 0)),
  (2, ([false, false], .iload_n 1, 1, 1, 0, 0, 0)),
  (3, ([], .aload_n 0, 1, 0, 0, 0, 0)),
  (4, ([], .getfield 17, 3, 1, 5, 0, 0)),
  (7, ([], .arraylength, 1, 0, 0, 0, 0)),
  (8, ([], .if_icmp .ge 16, 3, 24, 0, 0, 0)),
  (11, ([], .aload_n 0, 1, 0, 0, 0, 0)),
  (12, ([], .getfield 17, 3, 1, 5, 0, 0)),
  (15, ([], .iload_n 1, 1, 1, 0, 0, 0)),
  (16, ([], .iconst 0, 1, 0, 0, 0, 0)),
  (17, ([], .iastore, 1, 0, 0, 0, 0)),
  (18, ([], .iinc 1 1, 3, 1, 0, 0, 1)),
  (21, ([], .goto (-19), 3, 2, 0, 0, 0)),
  (24, ([], .return_, 1, 0, 0, 0, 0))]
noncomputable def E_X0_openAllDays : Kt := exL SKc SKn SKr CS (lkp T_X0_openAllDays) [] [] []
noncomputable def F_X0_openAllDays : Fn := fun as h => E_X0_openAllDays 0 (pad 2 as) [] h
noncomputable def f_X0_openAllDays_2 (a0 : Nat) (x1 : Int32) (h : Hp) : Res := E_X0_openAllDays 2 [.ref a0, .int x1] [] h
set_option maxRecDepth 100000 in
set_option maxHeartbeats 4000000 in
theorem e_X0_openAllDays_0 (a0 : Nat) (h : Hp) : F_X0_openAllDays [.ref a0] h = f_X0_openAllDays_2 a0 0 h :=
  (exL_it SKc SKn SKr CS (lkp T_X0_openAllDays) [] [] [] [2] 2 0 [.ref a0, .retAddr 0] [] h).trans rfl
set_option maxRecDepth 100000 in
set_option maxHeartbeats 4000000 in
theorem e_X0_openAllDays_2 (a0 : Nat) (x1 : Int32) (h : Hp) : f_X0_openAllDays_2 a0 x1 h = gd (okc a0 2) (gd (memb (SKc (SKr a0 1)) [10, 11, 12, 13, 14, 15, 16, 17, 18]) (if x1 < (Int32.ofNat (alen SKn h (SKr a0 1))) then gd (okc a0 2) (gd (Nat.beq (SKc (SKr a0 1)) 10 && inb x1 (SKn (SKr a0 1))) (f_X0_openAllDays_2 a0 (x1 + 1) (wr h (SKr a0 1) x1.toNatClampNeg 0))) else rtn none h)) :=
  (exL_it SKc SKn SKr CS (lkp T_X0_openAllDays) [] [] [] [2] 12 2 [.ref a0, .int x1] [] h).trans rfl

def T_X1_ask : List (Nat × Ent) := [(0, ([], .aload_n 0, 1, 0, 0, 0, 0)),
  (1, ([], .iload_n 1, 1, 1, 0, 0, 0)),
  (2, ([], .putfield 9, 3, 7, 8, 0, 0)),
  (5, ([], .aload_n 0, 1, 0, 0, 0, 0)),
  (6, ([], .iload_n 2, 1, 2, 0, 0, 0)),
  (7, ([], .putfield 15, 3, 8, 8, 0, 0)),
  (10, ([], .aload_n 0, 1, 0, 0, 0, 0)),
  (11, ([], .iconst 0, 1, 0, 0, 0, 0)),
  (12, ([], .putfield 18, 3, 9, 8, 0, 0)),
  (15, ([], .aload_n 0, 1, 0, 0, 0, 0)),
  (16, ([], .iconst 3, 1, 0, 0, 0, 3)),
  (17, ([], .putfield 21, 3, 10, 8, 0, 0)),
  (20, ([], .aload_n 0, 1, 0, 0, 0, 0)),
  (21, ([], .iconst (-1), 1, 0, 0, 0, (-1))),
  (22, ([], .putfield 24, 3, 11, 8, 0, 0)),
  (25, ([], .aload_n 0, 1, 0, 0, 0, 0)),
  (26, ([], .iconst (-1), 1, 0, 0, 0, (-1))),
  (27, ([], .putfield 27, 3, 12, 8, 0, 0)),
  (30, ([], .aload_n 0, 1, 0, 0, 0, 0)),
  (31, ([], .iconst (-1), 1, 0, 0, 0, (-1))),
  (32, ([], .putfield 30, 3, 13, 8, 0, 0)),
  (35, ([], .return_, 1, 0, 0, 0, 0))]
noncomputable def E_X1_ask : Kt := exL SKc SKn SKr CS (lkp T_X1_ask) [] [] []
noncomputable def F_X1_ask : Fn := fun as h => E_X1_ask 0 (pad 3 as) [] h
set_option maxRecDepth 100000 in
set_option maxHeartbeats 4000000 in
theorem e_X1_ask_0 (a0 : Nat) (x1 : Int32) (x2 : Int32) (h : Hp) : F_X1_ask [.ref a0, .int x1, .int x2] h = gd (okc a0 4) (gd (okc a0 4) (gd (okc a0 4) (gd (okc a0 4) (gd (okc a0 4) (gd (okc a0 4) (gd (okc a0 4) (rtn none (wr (wr (wr (wr (wr (wr (wr h a0 7 x1) a0 8 x2) a0 9 0) a0 10 3) a0 11 (-1)) a0 12 (-1)) a0 13 (-1))))))))) :=
  (exL_it SKc SKn SKr CS (lkp T_X1_ask) [] [] [] [] 22 0 [.ref a0, .int x1, .int x2] [] h).trans rfl

def T_X1_mayBeLinked : List (Nat × Ent) := [(0, ([], .aload_n 0, 1, 0, 0, 0, 0)),
  (1, ([], .getfield 30, 3, 13, 8, 0, 0)),
  (4, ([], .iconst (-1), 1, 0, 0, 0, (-1))),
  (5, ([], .if_icmp .ne 14, 3, 19, 0, 0, 0)),
  (8, ([], .aload_n 0, 1, 0, 0, 0, 0)),
  (9, ([], .getfield 18, 3, 9, 8, 0, 0)),
  (12, ([], .ifCond .ne 7, 3, 19, 0, 0, 0)),
  (15, ([], .iconst 1, 1, 0, 0, 0, 1)),
  (16, ([], .goto 4, 3, 20, 0, 0, 0)),
  (19, ([], .iconst 0, 1, 0, 0, 0, 0)),
  (20, ([], .ireturn, 1, 0, 0, 0, 0))]
noncomputable def E_X1_mayBeLinked : Kt := exL SKc SKn SKr CS (lkp T_X1_mayBeLinked) [] [] []
noncomputable def F_X1_mayBeLinked : Fn := fun as h => E_X1_mayBeLinked 0 (pad 1 as) [] h
set_option maxRecDepth 100000 in
set_option maxHeartbeats 4000000 in
theorem e_X1_mayBeLinked_0 (a0 : Nat) (h : Hp) : F_X1_mayBeLinked [.ref a0] h = gd (okc a0 4) (if (rd h a0 13) = (-1) then gd (okc a0 4) (if (rd h a0 9) = 0 then rtn (some (.int 1)) h else rtn (some (.int 0)) h) else rtn (some (.int 0)) h) :=
  (exL_it SKc SKn SKr CS (lkp T_X1_mayBeLinked) [] [] [] [] 10 0 [.ref a0] [] h).trans rfl

def T_X1_isInQueue : List (Nat × Ent) := [(0, ([], .aload_n 0, 1, 0, 0, 0, 0)),
  (1, ([], .getfield 18, 3, 9, 8, 0, 0)),
  (4, ([], .iconst 2, 1, 0, 0, 0, 2)),
  (5, ([], .if_icmp .eq 11, 3, 16, 0, 0, 0)),
  (8, ([], .aload_n 0, 1, 0, 0, 0, 0)),
  (9, ([], .getfield 18, 3, 9, 8, 0, 0)),
  (12, ([], .iconst 3, 1, 0, 0, 0, 3)),
  (13, ([], .if_icmp .ne 7, 3, 20, 0, 0, 0)),
  (16, ([], .iconst 1, 1, 0, 0, 0, 1)),
  (17, ([], .goto 4, 3, 21, 0, 0, 0)),
  (20, ([], .iconst 0, 1, 0, 0, 0, 0)),
  (21, ([], .ireturn, 1, 0, 0, 0, 0))]
noncomputable def E_X1_isInQueue : Kt := exL SKc SKn SKr CS (lkp T_X1_isInQueue) [] [] []
noncomputable def F_X1_isInQueue : Fn := fun as h => E_X1_isInQueue 0 (pad 1 as) [] h
set_option maxRecDepth 100000 in
set_option maxHeartbeats 4000000 in
theorem e_X1_isInQueue_0 (a0 : Nat) (h : Hp) : F_X1_isInQueue [.ref a0] h = gd (okc a0 4) (if (rd h a0 9) = 2 then rtn (some (.int 1)) h else gd (okc a0 4) (if (rd h a0 9) = 3 then rtn (some (.int 1)) h else rtn (some (.int 0)) h)) :=
  (exL_it SKc SKn SKr CS (lkp T_X1_isInQueue) [] [] [] [] 11 0 [.ref a0] [] h).trans rfl

def T_X5_copyFrom : List (Nat × Ent) := [(0, ([], .aload_n 0, 1, 0, 0, 0, 0)),
  (1, ([], .aload_n 1, 1, 1, 0, 0, 0)),
  (2, ([], .getfield 26, 3, 0, 14, 0, 0)),
  (5, ([], .putfield 26, 3, 0, 14, 0, 0)),
  (8, ([], .aload_n 0, 1, 0, 0, 0, 0)),
  (9, ([], .aload_n 1, 1, 1, 0, 0, 0)),
  (10, ([], .getfield 29, 3, 1, 14, 0, 0)),
  (13, ([], .putfield 29, 3, 1, 14, 0, 0)),
  (16, ([], .aload_n 0, 1, 0, 0, 0, 0)),
  (17, ([], .aload_n 1, 1, 1, 0, 0, 0)),
  (18, ([], .getfield 32, 3, 2, 14, 0, 0)),
  (21, ([], .putfield 32, 3, 2, 14, 0, 0)),
  (24, ([], .aload_n 0, 1, 0, 0, 0, 0)),
  (25, ([], .aload_n 1, 1, 1, 0, 0, 0)),
  (26, ([], .getfield 23, 3, 3, 14, 0, 0)),
  (29, ([], .putfield 23, 3, 3, 14, 0, 0)),
  (32, ([], .aload_n 0, 1, 0, 0, 0, 0)),
  (33, ([], .aload_n 1, 1, 1, 0, 0, 0)),
  (34, ([], .getfield 13, 3, 4, 14, 0, 0)),
  (37, ([], .putfield 13, 3, 4, 14, 0, 0)),
  (40, ([], .aload_n 0, 1, 0, 0, 0, 0)),
  (41, ([], .aload_n 1, 1, 1, 0, 0, 0)),
  (42, ([], .getfield 7, 3, 5, 14, 0, 0)),
  (45, ([], .putfield 7, 3, 5, 14, 0, 0)),
  (48, ([], .aload_n 0, 1, 0, 0, 0, 0)),
  (49, ([], .aload_n 1, 1, 1, 0, 0, 0)),
  (50, ([], .getfield 16, 3, 6, 14, 0, 0)),
  (53, ([], .putfield 16, 3, 6, 14, 0, 0)),
  (56, ([], .return_, 1, 0, 0, 0, 0))]
noncomputable def E_X5_copyFrom : Kt := exL SKc SKn SKr CS (lkp T_X5_copyFrom) [] [] []
noncomputable def F_X5_copyFrom : Fn := fun as h => E_X5_copyFrom 0 (pad 2 as) [] h
set_option maxRecDepth 100000 in
set_option maxHeartbeats 4000000 in
theorem e_X5_copyFrom_0 (a0 : Nat) (a1 : Nat) (h : Hp) : F_X5_copyFrom [.ref a0, .ref a1] h = gd (okc a1 7) (gd (okc a0 7) (gd (okc a1 7) (gd (okc a0 7) (gd (okc a1 7) (gd (okc a0 7) (gd (okc a1 7) (gd (okc a0 7) (gd (okc a1 7) (gd (okc a0 7) (gd (okc a1 7) (gd (okc a0 7) (gd (okc a1 7) (gd (okc a0 7) (rtn none (wr (wr (wr (wr (wr (wr (wr h a0 0 (rd h a1 0)) a0 1 (rd (wr h a0 0 (rd h a1 0)) a1 1)) a0 2 (rd (wr (wr h a0 0 (rd h a1 0)) a0 1 (rd (wr h a0 0 (rd h a1 0)) a1 1)) a1 2)) a0 3 (rd (wr (wr (wr h a0 0 (rd h a1 0)) a0 1 (rd (wr h a0 0 (rd h a1 0)) a1 1)) a0 2 (rd (wr (wr h a0 0 (rd h a1 0)) a0 1 (rd (wr h a0 0 (rd h a1 0)) a1 1)) a1 2)) a1 3)) a0 4 (rd (wr (wr (wr (wr h a0 0 (rd h a1 0)) a0 1 (rd (wr h a0 0 (rd h a1 0)) a1 1)) a0 2 (rd (wr (wr h a0 0 (rd h a1 0)) a0 1 (rd (wr h a0 0 (rd h a1 0)) a1 1)) a1 2)) a0 3 (rd (wr (wr (wr h a0 0 (rd h a1 0)) a0 1 (rd (wr h a0 0 (rd h a1 0)) a1 1)) a0 2 (rd (wr (wr h a0 0 (rd h a1 0)) a0 1 (rd (wr h a0 0 (rd h a1 0)) a1 1)) a1 2)) a1 3)) a1 4)) a0 5 (rd (wr (wr (wr (wr (wr h a0 0 (rd h a1 0)) a0 1 (rd (wr h a0 0 (rd h a1 0)) a1 1)) a0 2 (rd (wr (wr h a0 0 (rd h a1 0)) a0 1 (rd (wr h a0 0 (rd h a1 0)) a1 1)) a1 2)) a0 3 (rd (wr (wr (wr h a0 0 (rd h a1 0)) a0 1 (rd (wr h a0 0 (rd h a1 0)) a1 1)) a0 2 (rd (wr (wr h a0 0 (rd h a1 0)) a0 1 (rd (wr h a0 0 (rd h a1 0)) a1 1)) a1 2)) a1 3)) a0 4 (rd (wr (wr (wr (wr h a0 0 (rd h a1 0)) a0 1 (rd (wr h a0 0 (rd h a1 0)) a1 1)) a0 2 (rd (wr (wr h a0 0 (rd h a1 0)) a0 1 (rd (wr h a0 0 (rd h a1 0)) a1 1)) a1 2)) a0 3 (rd (wr (wr (wr h a0 0 (rd h a1 0)) a0 1 (rd (wr h a0 0 (rd h a1 0)) a1 1)) a0 2 (rd (wr (wr h a0 0 (rd h a1 0)) a0 1 (rd (wr h a0 0 (rd h a1 0)) a1 1)) a1 2)) a1 3)) a1 4)) a1 5)) a0 6 (rd (wr (wr (wr (wr (wr (wr h a0 0 (rd h a1 0)) a0 1 (rd (wr h a0 0 (rd h a1 0)) a1 1)) a0 2 (rd (wr (wr h a0 0 (rd h a1 0)) a0 1 (rd (wr h a0 0 (rd h a1 0)) a1 1)) a1 2)) a0 3 (rd (wr (wr (wr h a0 0 (rd h a1 0)) a0 1 (rd (wr h a0 0 (rd h a1 0)) a1 1)) a0 2 (rd (wr (wr h a0 0 (rd h a1 0)) a0 1 (rd (wr h a0 0 (rd h a1 0)) a1 1)) a1 2)) a1 3)) a0 4 (rd (wr (wr (wr (wr h a0 0 (rd h a1 0)) a0 1 (rd (wr h a0 0 (rd h a1 0)) a1 1)) a0 2 (rd (wr (wr h a0 0 (rd h a1 0)) a0 1 (rd (wr h a0 0 (rd h a1 0)) a1 1)) a1 2)) a0 3 (rd (wr (wr (wr h a0 0 (rd h a1 0)) a0 1 (rd (wr h a0 0 (rd h a1 0)) a1 1)) a0 2 (rd (wr (wr h a0 0 (rd h a1 0)) a0 1 (rd (wr h a0 0 (rd h a1 0)) a1 1)) a1 2)) a1 3)) a1 4)) a0 5 (rd (wr (wr (wr (wr (wr h a0 0 (rd h a1 0)) a0 1 (rd (wr h a0 0 (rd h a1 0)) a1 1)) a0 2 (rd (wr (wr h a0 0 (rd h a1 0)) a0 1 (rd (wr h a0 0 (rd h a1 0)) a1 1)) a1 2)) a0 3 (rd (wr (wr (wr h a0 0 (rd h a1 0)) a0 1 (rd (wr h a0 0 (rd h a1 0)) a1 1)) a0 2 (rd (wr (wr h a0 0 (rd h a1 0)) a0 1 (rd (wr h a0 0 (rd h a1 0)) a1 1)) a1 2)) a1 3)) a0 4 (rd (wr (wr (wr (wr h a0 0 (rd h a1 0)) a0 1 (rd (wr h a0 0 (rd h a1 0)) a1 1)) a0 2 (rd (wr (wr h a0 0 (rd h a1 0)) a0 1 (rd (wr h a0 0 (rd h a1 0)) a1 1)) a1 2)) a0 3 (rd (wr (wr (wr h a0 0 (rd h a1 0)) a0 1 (rd (wr h a0 0 (rd h a1 0)) a1 1)) a0 2 (rd (wr (wr h a0 0 (rd h a1 0)) a0 1 (rd (wr h a0 0 (rd h a1 0)) a1 1)) a1 2)) a1 3)) a1 4)) a1 5)) a1 6)))))))))))))))) :=
  (exL_it SKc SKn SKr CS (lkp T_X5_copyFrom) [] [] [] [] 29 0 [.ref a0, .ref a1] [] h).trans rfl

def T_X2_begin : List (Nat × Ent) := [(0, ([], .aload_n 0, 1, 0, 0, 0, 0)),
  (1, ([], .aload_n 1, 1, 1, 0, 0, 0)),
  (2, ([], .invokevirtual 9, 3, 0, 8, 0, 0)),
  (5, ([], .aload_n 0, 1, 0, 0, 0, 0)),
  (6, ([], .aload_n 1, 1, 1, 0, 0, 0)),
  (7, ([], .getfield 15, 3, 8, 10, 0, 0)),
  (10, ([], .putfield 21, 3, 7, 12, 0, 0)),
  (13, ([], .aload_n 0, 1, 0, 0, 0, 0)),
  (14, ([], .iconst (-1), 1, 0, 0, 0, (-1))),
  (15, ([], .putfield 24, 3, 8, 12, 0, 0)),
  (18, ([], .return_, 1, 0, 0, 0, 0))]
noncomputable def E_X2_begin : Kt := exL SKc SKn SKr CS (lkp T_X2_begin) [F_X5_copyFrom] [] []
noncomputable def F_X2_begin : Fn := fun as h => E_X2_begin 0 (pad 2 as) [] h
set_option maxRecDepth 100000 in
set_option maxHeartbeats 4000000 in
theorem e_X2_begin_0 (a0 : Nat) (a1 : Nat) (h : Hp) : F_X2_begin [.ref a0, .ref a1] h = bV (F_X5_copyFrom [.ref a0, .ref a1] h) (fun h1 => gd (okc a1 5) (gd (okc a0 6) (gd (okc a0 6) (rtn none (wr (wr h1 a0 7 (rd h1 a1 8)) a0 8 (-1)))))) (hnk []) :=
  (exL_it SKc SKn SKr CS (lkp T_X2_begin) [F_X5_copyFrom] [] [] [] 11 0 [.ref a0, .ref a1] [] h).trans rfl

def T_X2_mayBeClaimed : List (Nat × Ent) := [(0, ([], .aload_n 0, 1, 0, 0, 0, 0)),
  (1, ([], .getfield 24, 3, 8, 12, 0, 0)),
  (4, ([], .iconst (-1), 1, 0, 0, 0, (-1))),
  (5, ([], .if_icmp .ne 40, 3, 45, 0, 0, 0)),
  (8, ([], .aload_n 0, 1, 0, 0, 0, 0)),
  (9, ([], .getfield 21, 3, 7, 12, 0, 0)),
  (12, ([], .iload_n 1, 1, 1, 0, 0, 0)),
  (13, ([], .if_icmp .ne 32, 3, 45, 0, 0, 0)),
  (16, ([], .aload_n 0, 1, 0, 0, 0, 0)),
  (17, ([], .getfield 27, 3, 0, 12, 0, 0)),
  (20, ([], .iload_n 2, 1, 2, 0, 0, 0)),
  (21, ([], .if_icmp .ne 24, 3, 45, 0, 0, 0)),
  (24, ([], .aload_n 0, 1, 0, 0, 0, 0)),
  (25, ([], .getfield 30, 3, 1, 12, 0, 0)),
  (28, ([], .iload_n 3, 1, 3, 0, 0, 0)),
  (29, ([], .if_icmp .ne 16, 3, 45, 0, 0, 0)),
  (32, ([], .aload_n 0, 1, 0, 0, 0, 0)),
  (33, ([], .getfield 33, 3, 2, 12, 0, 0)),
  (36, ([], .iload 4, 2, 4, 0, 0, 0)),
  (38, ([], .if_icmp .ne 7, 3, 45, 0, 0, 0)),
  (41, ([], .iconst 1, 1, 0, 0, 0, 1)),
  (42, ([], .goto 4, 3, 46, 0, 0, 0)),
  (45, ([], .iconst 0, 1, 0, 0, 0, 0)),
  (46, ([], .ireturn, 1, 0, 0, 0, 0))]
noncomputable def E_X2_mayBeClaimed : Kt := exL SKc SKn SKr CS (lkp T_X2_mayBeClaimed) [] [] []
noncomputable def F_X2_mayBeClaimed : Fn := fun as h => E_X2_mayBeClaimed 0 (pad 5 as) [] h
set_option maxRecDepth 100000 in
set_option maxHeartbeats 4000000 in
theorem e_X2_mayBeClaimed_0 (a0 : Nat) (x1 : Int32) (x2 : Int32) (x3 : Int32) (x4 : Int32) (h : Hp) : F_X2_mayBeClaimed [.ref a0, .int x1, .int x2, .int x3, .int x4] h = gd (okc a0 6) (if (rd h a0 8) = (-1) then gd (okc a0 6) (if (rd h a0 7) = x1 then gd (okc a0 6) (if (rd h a0 0) = x2 then gd (okc a0 6) (if (rd h a0 1) = x3 then gd (okc a0 6) (if (rd h a0 2) = x4 then rtn (some (.int 1)) h else rtn (some (.int 0)) h) else rtn (some (.int 0)) h) else rtn (some (.int 0)) h) else rtn (some (.int 0)) h) else rtn (some (.int 0)) h) :=
  (exL_it SKc SKn SKr CS (lkp T_X2_mayBeClaimed) [] [] [] [] 23 0 [.ref a0, .int x1, .int x2, .int x3, .int x4] [] h).trans rfl

def T_X3_isFor : List (Nat × Ent) := [(0, ([], .aload_n 0, 1, 0, 0, 0, 0)),
  (1, ([], .getfield 9, 3, 0, 6, 0, 0)),
  (4, ([], .iconst 2, 1, 0, 0, 0, 2)),
  (5, ([], .if_icmp .eq 11, 3, 16, 0, 0, 0)),
  (8, ([], .aload_n 0, 1, 0, 0, 0, 0)),
  (9, ([], .getfield 9, 3, 0, 6, 0, 0)),
  (12, ([], .iload_n 1, 1, 1, 0, 0, 0)),
  (13, ([], .if_icmp .ne 7, 3, 20, 0, 0, 0)),
  (16, ([], .iconst 1, 1, 0, 0, 0, 1)),
  (17, ([], .goto 4, 3, 21, 0, 0, 0)),
  (20, ([], .iconst 0, 1, 0, 0, 0, 0)),
  (21, ([], .ireturn, 1, 0, 0, 0, 0))]
noncomputable def E_X3_isFor : Kt := exL SKc SKn SKr CS (lkp T_X3_isFor) [] [] []
noncomputable def F_X3_isFor : Fn := fun as h => E_X3_isFor 0 (pad 2 as) [] h
set_option maxRecDepth 100000 in
set_option maxHeartbeats 4000000 in
theorem e_X3_isFor_0 (a0 : Nat) (x1 : Int32) (h : Hp) : F_X3_isFor [.ref a0, .int x1] h = gd (okc a0 3) (if (rd h a0 0) = 2 then rtn (some (.int 1)) h else gd (okc a0 3) (if (rd h a0 0) = x1 then rtn (some (.int 1)) h else rtn (some (.int 0)) h)) :=
  (exL_it SKc SKn SKr CS (lkp T_X3_isFor) [] [] [] [] 11 0 [.ref a0, .int x1] [] h).trans rfl

def T_X4_begin : List (Nat × Ent) := [(0, ([], .aload_n 0, 1, 0, 0, 0, 0)),
  (1, ([], .aload_n 1, 1, 1, 0, 0, 0)),
  (2, ([], .invokevirtual 9, 3, 0, 8, 0, 0)),
  (5, ([], .aload_n 0, 1, 0, 0, 0, 0)),
  (6, ([], .iload_n 3, 1, 3, 0, 0, 0)),
  (7, ([], .putfield 15, 3, 3, 10, 0, 0)),
  (10, ([], .aload_n 0, 1, 0, 0, 0, 0)),
  (11, ([], .iload_n 2, 1, 2, 0, 0, 0)),
  (12, ([], .putfield 19, 3, 7, 10, 0, 0)),
  (15, ([], .aload_n 0, 1, 0, 0, 0, 0)),
  (16, ([], .aload_n 1, 1, 1, 0, 0, 0)),
  (17, ([], .getfield 22, 3, 7, 8, 0, 0)),
  (20, ([], .putfield 27, 3, 8, 10, 0, 0)),
  (23, ([], .aload_n 0, 1, 0, 0, 0, 0)),
  (24, ([], .aload_n 1, 1, 1, 0, 0, 0)),
  (25, ([], .getfield 22, 3, 7, 8, 0, 0)),
  (28, ([], .putfield 30, 3, 9, 10, 0, 0)),
  (31, ([], .aload_n 0, 1, 0, 0, 0, 0)),
  (32, ([], .iconst 0, 1, 0, 0, 0, 0)),
  (33, ([], .putfield 33, 3, 10, 10, 0, 0)),
  (36, ([], .aload_n 0, 1, 0, 0, 0, 0)),
  (37, ([], .iconst 0, 1, 0, 0, 0, 0)),
  (38, ([], .putfield 36, 3, 11, 10, 0, 0)),
  (41, ([], .aload_n 0, 1, 0, 0, 0, 0)),
  (42, ([], .iconst 0, 1, 0, 0, 0, 0)),
  (43, ([], .putfield 39, 3, 12, 11, 0, 0)),
  (46, ([], .return_, 1, 0, 0, 0, 0))]
noncomputable def E_X4_begin : Kt := exL SKc SKn SKr CS (lkp T_X4_begin) [F_X5_copyFrom] [] []
noncomputable def F_X4_begin : Fn := fun as h => E_X4_begin 0 (pad 4 as) [] h
set_option maxRecDepth 100000 in
set_option maxHeartbeats 4000000 in
theorem e_X4_begin_0 (a0 : Nat) (a1 : Nat) (x2 : Int32) (x3 : Int32) (h : Hp) : F_X4_begin [.ref a0, .ref a1, .int x2, .int x3] h = bV (F_X5_copyFrom [.ref a0, .ref a1] h) (fun h1 => gd (okc a0 5) (gd (okc a0 5) (gd (okc a1 4) (gd (okc a0 5) (gd (okc a1 4) (gd (okc a0 5) (gd (okc a0 5) (gd (okc a0 5) (gd (okc a0 5) (rtn none (wr (wr (wr (wr (wr (wr (wr h1 a0 3 x3) a0 7 x2) a0 8 (rd (wr (wr h1 a0 3 x3) a0 7 x2) a1 7)) a0 9 (rd (wr (wr (wr h1 a0 3 x3) a0 7 x2) a0 8 (rd (wr (wr h1 a0 3 x3) a0 7 x2) a1 7)) a1 7)) a0 10 0) a0 11 0) a0 12 0))))))))))) (hnk []) :=
  (exL_it SKc SKn SKr CS (lkp T_X4_begin) [F_X5_copyFrom] [] [] [] 27 0 [.ref a0, .ref a1, .int x2, .int x3] [] h).trans rfl

def T_X4_isOn : List (Nat × Ent) := [(0, ([], .aload_n 0, 1, 0, 0, 0, 0)),
  (1, ([], .getfield 39, 3, 12, 10, 0, 0)),
  (4, ([], .ifCond .ne 36, 3, 40, 0, 0, 0)),
  (7, ([], .aload_n 0, 1, 0, 0, 0, 0)),
  (8, ([], .getfield 43, 3, 0, 10, 0, 0)),
  (11, ([], .iload_n 1, 1, 1, 0, 0, 0)),
  (12, ([], .if_icmp .ne 28, 3, 40, 0, 0, 0)),
  (15, ([], .aload_n 0, 1, 0, 0, 0, 0)),
  (16, ([], .getfield 46, 3, 2, 10, 0, 0)),
  (19, ([], .iload_n 3, 1, 3, 0, 0, 0)),
  (20, ([], .if_icmp .ne 20, 3, 40, 0, 0, 0)),
  (23, ([], .iload_n 2, 1, 2, 0, 0, 0)),
  (24, ([], .iconst 2, 1, 0, 0, 0, 2)),
  (25, ([], .if_icmp .eq 11, 3, 36, 0, 0, 0)),
  (28, ([], .aload_n 0, 1, 0, 0, 0, 0)),
  (29, ([], .getfield 49, 3, 1, 10, 0, 0)),
  (32, ([], .iload_n 2, 1, 2, 0, 0, 0)),
  (33, ([], .if_icmp .ne 7, 3, 40, 0, 0, 0)),
  (36, ([], .iconst 1, 1, 0, 0, 0, 1)),
  (37, ([], .goto 4, 3, 41, 0, 0, 0)),
  (40, ([], .iconst 0, 1, 0, 0, 0, 0)),
  (41, ([], .ireturn, 1, 0, 0, 0, 0))]
noncomputable def E_X4_isOn : Kt := exL SKc SKn SKr CS (lkp T_X4_isOn) [] [] []
noncomputable def F_X4_isOn : Fn := fun as h => E_X4_isOn 0 (pad 4 as) [] h
set_option maxRecDepth 100000 in
set_option maxHeartbeats 4000000 in
theorem e_X4_isOn_0 (a0 : Nat) (x1 : Int32) (x2 : Int32) (x3 : Int32) (h : Hp) : F_X4_isOn [.ref a0, .int x1, .int x2, .int x3] h = gd (okc a0 5) (if (rd h a0 12) = 0 then gd (okc a0 5) (if (rd h a0 0) = x1 then gd (okc a0 5) (if (rd h a0 2) = x3 then if x2 = 2 then rtn (some (.int 1)) h else gd (okc a0 5) (if (rd h a0 1) = x2 then rtn (some (.int 1)) h else rtn (some (.int 0)) h) else rtn (some (.int 0)) h) else rtn (some (.int 0)) h) else rtn (some (.int 0)) h) :=
  (exL_it SKc SKn SKr CS (lkp T_X4_isOn) [] [] [] [] 21 0 [.ref a0, .int x1, .int x2, .int x3] [] h).trans rfl

def T_X4_isBetween : List (Nat × Ent) := [(0, ([], .aload_n 0, 1, 0, 0, 0, 0)),
  (1, ([], .getfield 15, 3, 3, 10, 0, 0)),
  (4, ([], .iload_n 1, 1, 1, 0, 0, 0)),
  (5, ([], .if_icmp .lt 15, 3, 20, 0, 0, 0)),
  (8, ([], .aload_n 0, 1, 0, 0, 0, 0)),
  (9, ([], .getfield 15, 3, 3, 10, 0, 0)),
  (12, ([], .iload_n 2, 1, 2, 0, 0, 0)),
  (13, ([], .if_icmp .gt 7, 3, 20, 0, 0, 0)),
  (16, ([], .iconst 1, 1, 0, 0, 0, 1)),
  (17, ([], .goto 4, 3, 21, 0, 0, 0)),
  (20, ([], .iconst 0, 1, 0, 0, 0, 0)),
  (21, ([], .ireturn, 1, 0, 0, 0, 0))]
noncomputable def E_X4_isBetween : Kt := exL SKc SKn SKr CS (lkp T_X4_isBetween) [] [] []
noncomputable def F_X4_isBetween : Fn := fun as h => E_X4_isBetween 0 (pad 3 as) [] h
set_option maxRecDepth 100000 in
set_option maxHeartbeats 4000000 in
theorem e_X4_isBetween_0 (a0 : Nat) (x1 : Int32) (x2 : Int32) (h : Hp) : F_X4_isBetween [.ref a0, .int x1, .int x2] h = gd (okc a0 5) (if (rd h a0 3) < x1 then rtn (some (.int 0)) h else gd (okc a0 5) (if x2 < (rd h a0 3) then rtn (some (.int 0)) h else rtn (some (.int 1)) h)) :=
  (exL_it SKc SKn SKr CS (lkp T_X4_isBetween) [] [] [] [] 11 0 [.ref a0, .int x1, .int x2] [] h).trans rfl

def T_X5_weeks : List (Nat × Ent) := [(0, ([], .aload_n 0, 1, 0, 0, 0, 0)),
  (1, ([], .getfield 7, 3, 5, 14, 0, 0)),
  (4, ([], .aload_n 0, 1, 0, 0, 0, 0)),
  (5, ([], .getfield 13, 3, 4, 14, 0, 0)),
  (8, ([], .isub, 1, 0, 0, 0, 0)),
  (9, ([], .iconst 1, 1, 0, 0, 0, 1)),
  (10, ([], .iadd, 1, 0, 0, 0, 0)),
  (11, ([], .ireturn, 1, 0, 0, 0, 0))]
noncomputable def E_X5_weeks : Kt := exL SKc SKn SKr CS (lkp T_X5_weeks) [] [] []
noncomputable def F_X5_weeks : Fn := fun as h => E_X5_weeks 0 (pad 1 as) [] h
set_option maxRecDepth 100000 in
set_option maxHeartbeats 4000000 in
theorem e_X5_weeks_0 (a0 : Nat) (h : Hp) : F_X5_weeks [.ref a0] h = gd (okc a0 7) (gd (okc a0 7) (rtn (some (.int (((rd h a0 5) - (rd h a0 4)) + 1))) h)) :=
  (exL_it SKc SKn SKr CS (lkp T_X5_weeks) [] [] [] [] 8 0 [.ref a0] [] h).trans rfl

def T_X5_wholeNoise : List (Nat × Ent) := [(0, ([], .aload_n 0, 1, 0, 0, 0, 0)),
  (1, ([], .getfield 16, 3, 6, 14, 0, 0)),
  (4, ([], .aload_n 0, 1, 0, 0, 0, 0)),
  (5, ([], .invokevirtual 19, 3, 0, 5, 0, 0)),
  (8, ([], .imul, 1, 0, 0, 0, 0)),
  (9, ([], .ireturn, 1, 0, 0, 0, 0))]
noncomputable def E_X5_wholeNoise : Kt := exL SKc SKn SKr CS (lkp T_X5_wholeNoise) [F_X5_weeks] [] []
noncomputable def F_X5_wholeNoise : Fn := fun as h => E_X5_wholeNoise 0 (pad 1 as) [] h
set_option maxRecDepth 100000 in
set_option maxHeartbeats 4000000 in
theorem e_X5_wholeNoise_0 (a0 : Nat) (h : Hp) : F_X5_wholeNoise [.ref a0] h = gd (okc a0 7) (bI (F_X5_weeks [.ref a0] h) (fun v2 h1 => rtn (some (.int ((rd h a0 6) * v2))) h1) (hnk [])) :=
  (exL_it SKc SKn SKr CS (lkp T_X5_wholeNoise) [F_X5_weeks] [] [] [] 6 0 [.ref a0] [] h).trans rfl

def T_X5_lastsIn : List (Nat × Ent) := [(0, ([], .iload_n 1, 1, 1, 0, 0, 0)),
  (1, ([], .aload_n 0, 1, 0, 0, 0, 0)),
  (2, ([], .getfield 13, 3, 4, 14, 0, 0)),
  (5, ([], .if_icmp .lt 15, 3, 20, 0, 0, 0)),
  (8, ([], .iload_n 1, 1, 1, 0, 0, 0)),
  (9, ([], .aload_n 0, 1, 0, 0, 0, 0)),
  (10, ([], .getfield 7, 3, 5, 14, 0, 0)),
  (13, ([], .if_icmp .gt 7, 3, 20, 0, 0, 0)),
  (16, ([], .iconst 1, 1, 0, 0, 0, 1)),
  (17, ([], .goto 4, 3, 21, 0, 0, 0)),
  (20, ([], .iconst 0, 1, 0, 0, 0, 0)),
  (21, ([], .ireturn, 1, 0, 0, 0, 0))]
noncomputable def E_X5_lastsIn : Kt := exL SKc SKn SKr CS (lkp T_X5_lastsIn) [] [] []
noncomputable def F_X5_lastsIn : Fn := fun as h => E_X5_lastsIn 0 (pad 2 as) [] h
set_option maxRecDepth 100000 in
set_option maxHeartbeats 4000000 in
theorem e_X5_lastsIn_0 (a0 : Nat) (x1 : Int32) (h : Hp) : F_X5_lastsIn [.ref a0, .int x1] h = gd (okc a0 7) (if x1 < (rd h a0 4) then rtn (some (.int 0)) h else gd (okc a0 7) (if (rd h a0 5) < x1 then rtn (some (.int 0)) h else rtn (some (.int 1)) h)) :=
  (exL_it SKc SKn SKr CS (lkp T_X5_lastsIn) [] [] [] [] 11 0 [.ref a0, .int x1] [] h).trans rfl

def T_X5_isSameAs : List (Nat × Ent) := [(0, ([], .aload_n 0, 1, 0, 0, 0, 0)),
  (1, ([], .getfield 23, 3, 3, 14, 0, 0)),
  (4, ([], .aload_n 1, 1, 1, 0, 0, 0)),
  (5, ([], .getfield 23, 3, 3, 14, 0, 0)),
  (8, ([], .if_icmp .ne 40, 3, 48, 0, 0, 0)),
  (11, ([], .aload_n 0, 1, 0, 0, 0, 0)),
  (12, ([], .getfield 13, 3, 4, 14, 0, 0)),
  (15, ([], .aload_n 1, 1, 1, 0, 0, 0)),
  (16, ([], .getfield 13, 3, 4, 14, 0, 0)),
  (19, ([], .if_icmp .ne 29, 3, 48, 0, 0, 0)),
  (22, ([], .aload_n 0, 1, 0, 0, 0, 0)),
  (23, ([], .getfield 7, 3, 5, 14, 0, 0)),
  (26, ([], .aload_n 1, 1, 1, 0, 0, 0)),
  (27, ([], .getfield 7, 3, 5, 14, 0, 0)),
  (30, ([], .if_icmp .ne 18, 3, 48, 0, 0, 0)),
  (33, ([], .aload_n 0, 1, 0, 0, 0, 0)),
  (34, ([], .getfield 16, 3, 6, 14, 0, 0)),
  (37, ([], .aload_n 1, 1, 1, 0, 0, 0)),
  (38, ([], .getfield 16, 3, 6, 14, 0, 0)),
  (41, ([], .if_icmp .ne 7, 3, 48, 0, 0, 0)),
  (44, ([], .iconst 1, 1, 0, 0, 0, 1)),
  (45, ([], .goto 4, 3, 49, 0, 0, 0)),
  (48, ([], .iconst 0, 1, 0, 0, 0, 0)),
  (49, ([], .ireturn, 1, 0, 0, 0, 0))]
noncomputable def E_X5_isSameAs : Kt := exL SKc SKn SKr CS (lkp T_X5_isSameAs) [] [] []
noncomputable def F_X5_isSameAs : Fn := fun as h => E_X5_isSameAs 0 (pad 2 as) [] h
set_option maxRecDepth 100000 in
set_option maxHeartbeats 4000000 in
theorem e_X5_isSameAs_0 (a0 : Nat) (a1 : Nat) (h : Hp) : F_X5_isSameAs [.ref a0, .ref a1] h = gd (okc a0 7) (gd (okc a1 7) (if (rd h a0 3) = (rd h a1 3) then gd (okc a0 7) (gd (okc a1 7) (if (rd h a0 4) = (rd h a1 4) then gd (okc a0 7) (gd (okc a1 7) (if (rd h a0 5) = (rd h a1 5) then gd (okc a0 7) (gd (okc a1 7) (if (rd h a0 6) = (rd h a1 6) then rtn (some (.int 1)) h else rtn (some (.int 0)) h)) else rtn (some (.int 0)) h)) else rtn (some (.int 0)) h)) else rtn (some (.int 0)) h)) :=
  (exL_it SKc SKn SKr CS (lkp T_X5_isSameAs) [] [] [] [] 23 0 [.ref a0, .ref a1] [] h).trans rfl

def T_X6_airportAt : List (Nat × Ent) := [(0, ([], .iload_n 1, 1, 1, 0, 0, 0)),
  (1, ([], .ifCond .lt 12, 3, 13, 0, 0, 0)),
  (4, ([], .iload_n 1, 1, 1, 0, 0, 0)),
  (5, ([], .aload_n 0, 1, 0, 0, 0, 0)),
  (6, ([], .getfield 11, 3, 0, 1, 0, 0)),
  (9, ([], .arraylength, 1, 0, 0, 0, 0)),
  (10, ([], .if_icmp .lt 14, 3, 24, 0, 0, 0)),
  (13, ([true, true], .new 339, 3, 0, 0, 0, 0)),
  (24, ([], .aload_n 0, 1, 0, 0, 0, 0)),
  (25, ([], .getfield 11, 3, 0, 1, 0, 0)),
  (28, ([], .iload_n 1, 1, 1, 0, 0, 0)),
  (29, ([], .aaload, 1, 0, 0, 0, 0)),
  (30, ([], .areturn, 1, 0, 0, 0, 0))]
noncomputable def E_X6_airportAt : Kt := exL SKc SKn SKr CS (lkp T_X6_airportAt) [] [] []
noncomputable def F_X6_airportAt : Fn := fun as h => E_X6_airportAt 0 (pad 2 as) [] h
noncomputable def f_X6_airportAt_13 (h : Hp) : Res := E_X6_airportAt 13 [.retAddr 0, .retAddr 0] [] h
set_option maxRecDepth 100000 in
set_option maxHeartbeats 4000000 in
theorem e_X6_airportAt_0 (x1 : Int32) (h : Hp) : F_X6_airportAt [.ref 0, .int x1] h = if x1 < 0 then f_X6_airportAt_13 h else if x1 < 4 then gd (inb x1 4) (rtn (some (.ref (SKr 1 x1.toNatClampNeg))) h) else f_X6_airportAt_13 h :=
  (exL_it SKc SKn SKr CS (lkp T_X6_airportAt) [] [] [] [13] 12 0 [.ref 0, .int x1] [] h).trans rfl
set_option maxRecDepth 100000 in
set_option maxHeartbeats 4000000 in
theorem e_X6_airportAt_13 (h : Hp) : f_X6_airportAt_13 h = thr 0 h :=
  (exL_it SKc SKn SKr CS (lkp T_X6_airportAt) [] [] [] [13] 1 13 [.retAddr 0, .retAddr 0] [] h).trans rfl

def T_X6_requireRange : List (Nat × Ent) := [(0, ([], .iload_n 0, 1, 0, 0, 0, 0)),
  (1, ([], .iload_n 1, 1, 1, 0, 0, 0)),
  (2, ([], .if_icmp .lt 8, 3, 10, 0, 0, 0)),
  (5, ([], .iload_n 0, 1, 0, 0, 0, 0)),
  (6, ([], .iload_n 2, 1, 2, 0, 0, 0)),
  (7, ([], .if_icmp .le 14, 3, 21, 0, 0, 0)),
  (10, ([true, true, true], .new 158, 3, 1, 0, 0, 0)),
  (21, ([], .return_, 1, 0, 0, 0, 0))]
noncomputable def E_X6_requireRange : Kt := exL SKc SKn SKr CS (lkp T_X6_requireRange) [] [] []
noncomputable def F_X6_requireRange : Fn := fun as h => E_X6_requireRange 0 (pad 3 as) [] h
noncomputable def f_X6_requireRange_10 (h : Hp) : Res := E_X6_requireRange 10 [.retAddr 0, .retAddr 0, .retAddr 0] [] h
set_option maxRecDepth 100000 in
set_option maxHeartbeats 4000000 in
theorem e_X6_requireRange_0 (x0 : Int32) (x1 : Int32) (x2 : Int32) (h : Hp) : F_X6_requireRange [.int x0, .int x1, .int x2] h = if x0 < x1 then f_X6_requireRange_10 h else if x2 < x0 then f_X6_requireRange_10 h else rtn none h :=
  (exL_it SKc SKn SKr CS (lkp T_X6_requireRange) [] [] [] [10] 7 0 [.int x0, .int x1, .int x2] [] h).trans rfl
set_option maxRecDepth 100000 in
set_option maxHeartbeats 4000000 in
theorem e_X6_requireRange_10 (h : Hp) : f_X6_requireRange_10 h = thr 1 h :=
  (exL_it SKc SKn SKr CS (lkp T_X6_requireRange) [] [] [] [10] 1 10 [.retAddr 0, .retAddr 0, .retAddr 0] [] h).trans rfl

def T_X6_requireKindOrEither : List (Nat × Ent) := [(0, ([], .iload_n 0, 1, 0, 0, 0, 0)),
  (1, ([], .iconst 0, 1, 0, 0, 0, 0)),
  (2, ([], .iconst 2, 1, 0, 0, 0, 2)),
  (3, ([], .invokestatic 64, 3, 0, 12, 0, 0)),
  (6, ([], .return_, 1, 0, 0, 0, 0))]
noncomputable def E_X6_requireKindOrEither : Kt := exL SKc SKn SKr CS (lkp T_X6_requireKindOrEither) [F_X6_requireRange] [] []
noncomputable def F_X6_requireKindOrEither : Fn := fun as h => E_X6_requireKindOrEither 0 (pad 1 as) [] h
set_option maxRecDepth 100000 in
set_option maxHeartbeats 4000000 in
theorem e_X6_requireKindOrEither_0 (x0 : Int32) (h : Hp) : F_X6_requireKindOrEither [.int x0] h = bV (F_X6_requireRange [.int x0, .int 0, .int 2] h) (fun h1 => rtn none h1) (hnk []) :=
  (exL_it SKc SKn SKr CS (lkp T_X6_requireKindOrEither) [F_X6_requireRange] [] [] [] 5 0 [.int x0] [] h).trans rfl

def T_X6_declare : List (Nat × Ent) := [(0, ([], .aload_n 0, 1, 0, 0, 0, 0)),
  (1, ([], .iload_n 1, 1, 1, 0, 0, 0)),
  (2, ([], .invokevirtual 56, 3, 0, 10, 0, 0)),
  (5, ([], .astore 5, 2, 5, 0, 0, 0)),
  (7, ([], .iload_n 2, 1, 2, 0, 0, 0)),
  (8, ([], .invokestatic 60, 3, 1, 4, 0, 0)),
  (11, ([], .iload_n 3, 1, 3, 0, 0, 0)),
  (12, ([], .iconst 1, 1, 0, 0, 0, 1)),
  (13, ([], .bipush 6, 2, 0, 0, 0, 6)),
  (15, ([], .invokestatic 64, 3, 2, 12, 0, 0)),
  (18, ([], .iload 4, 2, 4, 0, 0, 0)),
  (20, ([], .iconst 0, 1, 0, 0, 0, 0)),
  (21, ([], .bipush 20, 2, 0, 0, 0, 20)),
  (23, ([], .invokestatic 64, 3, 2, 12, 0, 0)),
  (26, ([], .aload 5, 2, 5, 0, 0, 0)),
  (28, ([], .getfield 68, 3, 2, 4, 0, 0)),
  (31, ([], .bipush 6, 2, 0, 0, 0, 6)),
  (33, ([], .if_icmp .lt 13, 3, 46, 0, 0, 0)),
  (36, ([], .new 72, 3, 2, 0, 0, 0)),
  (46, ([], .aload 5, 2, 5, 0, 0, 0)),
  (48, ([], .getfield 68, 3, 2, 4, 0, 0)),
  (51, ([], .istore 6, 2, 6, 0, 0, 0)),
  (53, ([], .aload 5, 2, 5, 0, 0, 0)),
  (55, ([], .iload 6, 2, 6, 0, 0, 0)),
  (57, ([], .iconst 1, 1, 0, 0, 0, 1)),
  (58, ([], .iadd, 1, 0, 0, 0, 0)),
  (59, ([], .putfield 68, 3, 2, 4, 0, 0)),
  (62, ([], .aload 5, 2, 5, 0, 0, 0)),
  (64, ([], .iload 6, 2, 6, 0, 0, 0)),
  (66, ([], .invokevirtual 79, 3, 3, 10, 0, 0)),
  (69, ([], .astore 7, 2, 7, 0, 0, 0)),
  (71, ([], .aload 7, 2, 7, 0, 0, 0)),
  (73, ([], .iload_n 2, 1, 2, 0, 0, 0)),
  (74, ([], .putfield 83, 3, 0, 6, 0, 0)),
  (77, ([], .aload 7, 2, 7, 0, 0, 0)),
  (79, ([], .iload_n 3, 1, 3, 0, 0, 0)),
  (80, ([], .putfield 88, 3, 1, 6, 0, 0)),
  (83, ([], .aload 7, 2, 7, 0, 0, 0)),
  (85, ([], .iload 4, 2, 4, 0, 0, 0)),
  (87, ([], .putfield 91, 3, 2, 6, 0, 0)),
  (90, ([], .iload 6, 2, 6, 0, 0, 0)),
  (92, ([], .ireturn, 1, 0, 0, 0, 0))]
noncomputable def E_X6_declare : Kt := exL SKc SKn SKr CS (lkp T_X6_declare) [F_X6_airportAt, F_X6_requireKindOrEither, F_X6_requireRange, F_X0_ruleAt] [] []
noncomputable def F_X6_declare : Fn := fun as h => E_X6_declare 0 (pad 8 as) [] h
set_option maxRecDepth 100000 in
set_option maxHeartbeats 4000000 in
theorem e_X6_declare_0 (x1 : Int32) (x2 : Int32) (x3 : Int32) (x4 : Int32) (h : Hp) : F_X6_declare [.ref 0, .int x1, .int x2, .int x3, .int x4] h = bR (F_X6_airportAt [.ref 0, .int x1] h) (fun v2 h1 => bV (F_X6_requireKindOrEither [.int x2] h1) (fun h3 => bV (F_X6_requireRange [.int x3, .int 1, .int 6] h3) (fun h4 => bV (F_X6_requireRange [.int x4, .int 0, .int 20] h4) (fun h5 => gd (okc v2 2) (if (rd h5 v2 2) < 6 then gd (okc v2 2) (gd (okc v2 2) (bR (F_X0_ruleAt [.ref v2, .int (rd h5 v2 2)] (wr h5 v2 2 ((rd h5 v2 2) + 1))) (fun v7 h6 => gd (okc v7 3) (gd (okc v7 3) (gd (okc v7 3) (rtn (some (.int (rd h5 v2 2))) (wr (wr (wr h6 v7 0 x2) v7 1 x3) v7 2 x4))))) (hnk []))) else thr 2 h5)) (hnk [])) (hnk [])) (hnk [])) (hnk []) :=
  (exL_it SKc SKn SKr CS (lkp T_X6_declare) [F_X6_airportAt, F_X6_requireKindOrEither, F_X6_requireRange, F_X0_ruleAt] [] [] [] 41 0 [.ref 0, .int x1, .int x2, .int x3, .int x4, .retAddr 0, .retAddr 0, .retAddr 0] [] h).trans rfl

def T_X6_revise : List (Nat × Ent) := [(0, ([], .aload_n 0, 1, 0, 0, 0, 0)),
  (1, ([], .iload_n 1, 1, 1, 0, 0, 0)),
  (2, ([], .invokevirtual 56, 3, 0, 10, 0, 0)),
  (5, ([], .iload_n 2, 1, 2, 0, 0, 0)),
  (6, ([], .invokevirtual 79, 3, 1, 10, 0, 0)),
  (9, ([], .astore 4, 2, 4, 0, 0, 0)),
  (11, ([], .iload_n 3, 1, 3, 0, 0, 0)),
  (12, ([], .iconst 0, 1, 0, 0, 0, 0)),
  (13, ([], .bipush 20, 2, 0, 0, 0, 20)),
  (15, ([], .invokestatic 64, 3, 2, 12, 0, 0)),
  (18, ([], .aload 4, 2, 4, 0, 0, 0)),
  (20, ([], .getfield 91, 3, 2, 6, 0, 0)),
  (23, ([], .istore 5, 2, 5, 0, 0, 0)),
  (25, ([], .aload 4, 2, 4, 0, 0, 0)),
  (27, ([], .iload_n 3, 1, 3, 0, 0, 0)),
  (28, ([], .putfield 91, 3, 2, 6, 0, 0)),
  (31, ([], .iload 5, 2, 5, 0, 0, 0)),
  (33, ([], .ireturn, 1, 0, 0, 0, 0))]
noncomputable def E_X6_revise : Kt := exL SKc SKn SKr CS (lkp T_X6_revise) [F_X6_airportAt, F_X0_ruleAt, F_X6_requireRange] [] []
noncomputable def F_X6_revise : Fn := fun as h => E_X6_revise 0 (pad 6 as) [] h
set_option maxRecDepth 100000 in
set_option maxHeartbeats 4000000 in
theorem e_X6_revise_0 (x1 : Int32) (x2 : Int32) (x3 : Int32) (h : Hp) : F_X6_revise [.ref 0, .int x1, .int x2, .int x3] h = bR (F_X6_airportAt [.ref 0, .int x1] h) (fun v2 h1 => bR (F_X0_ruleAt [.ref v2, .int x2] h1) (fun v4 h3 => bV (F_X6_requireRange [.int x3, .int 0, .int 20] h3) (fun h5 => gd (okc v4 3) (gd (okc v4 3) (rtn (some (.int (rd h5 v4 2))) (wr h5 v4 2 x3)))) (hnk [])) (hnk [])) (hnk []) :=
  (exL_it SKc SKn SKr CS (lkp T_X6_revise) [F_X6_airportAt, F_X0_ruleAt, F_X6_requireRange] [] [] [] 18 0 [.ref 0, .int x1, .int x2, .int x3, .retAddr 0, .retAddr 0] [] h).trans rfl

def T_X6_curfew : List (Nat × Ent) := [(0, ([], .aload_n 0, 1, 0, 0, 0, 0)),
  (1, ([], .iload_n 1, 1, 1, 0, 0, 0)),
  (2, ([], .invokevirtual 56, 3, 0, 10, 0, 0)),
  (5, ([], .astore 4, 2, 4, 0, 0, 0)),
  (7, ([], .iload_n 2, 1, 2, 0, 0, 0)),
  (8, ([], .iconst 0, 1, 0, 0, 0, 0)),
  (9, ([], .bipush 72, 2, 0, 0, 0, 72)),
  (11, ([], .invokestatic 64, 3, 1, 12, 0, 0)),
  (14, ([], .iload_n 3, 1, 3, 0, 0, 0)),
  (15, ([], .iload_n 2, 1, 2, 0, 0, 0)),
  (16, ([], .bipush 72, 2, 0, 0, 0, 72)),
  (18, ([], .invokestatic 64, 3, 1, 12, 0, 0)),
  (21, ([], .aload 4, 2, 4, 0, 0, 0)),
  (23, ([], .iload_n 2, 1, 2, 0, 0, 0)),
  (24, ([], .putfield 94, 3, 3, 4, 0, 0)),
  (27, ([], .aload 4, 2, 4, 0, 0, 0)),
  (29, ([], .iload_n 3, 1, 3, 0, 0, 0)),
  (30, ([], .putfield 97, 3, 4, 4, 0, 0)),
  (33, ([], .return_, 1, 0, 0, 0, 0))]
noncomputable def E_X6_curfew : Kt := exL SKc SKn SKr CS (lkp T_X6_curfew) [F_X6_airportAt, F_X6_requireRange] [] []
noncomputable def F_X6_curfew : Fn := fun as h => E_X6_curfew 0 (pad 5 as) [] h
set_option maxRecDepth 100000 in
set_option maxHeartbeats 4000000 in
theorem e_X6_curfew_0 (x1 : Int32) (x2 : Int32) (x3 : Int32) (h : Hp) : F_X6_curfew [.ref 0, .int x1, .int x2, .int x3] h = bR (F_X6_airportAt [.ref 0, .int x1] h) (fun v2 h1 => bV (F_X6_requireRange [.int x2, .int 0, .int 72] h1) (fun h3 => bV (F_X6_requireRange [.int x3, .int x2, .int 72] h3) (fun h4 => gd (okc v2 2) (gd (okc v2 2) (rtn none (wr (wr h4 v2 3 x2) v2 4 x3)))) (hnk [])) (hnk [])) (hnk []) :=
  (exL_it SKc SKn SKr CS (lkp T_X6_curfew) [F_X6_airportAt, F_X6_requireRange] [] [] [] 19 0 [.ref 0, .int x1, .int x2, .int x3, .retAddr 0] [] h).trans rfl

def T_X6_quota : List (Nat × Ent) := [(0, ([], .aload_n 0, 1, 0, 0, 0, 0)),
  (1, ([], .iload_n 1, 1, 1, 0, 0, 0)),
  (2, ([], .invokevirtual 56, 3, 0, 10, 0, 0)),
  (5, ([], .astore_n 3, 1, 3, 0, 0, 0)),
  (6, ([], .iload_n 2, 1, 2, 0, 0, 0)),
  (7, ([], .iconst 0, 1, 0, 0, 0, 0)),
  (8, ([], .sipush 9999, 3, 0, 0, 0, 9999)),
  (11, ([], .invokestatic 64, 3, 1, 12, 0, 0)),
  (14, ([], .aload_n 3, 1, 3, 0, 0, 0)),
  (15, ([], .getfield 100, 3, 5, 4, 0, 0)),
  (18, ([], .istore 4, 2, 4, 0, 0, 0)),
  (20, ([], .aload_n 3, 1, 3, 0, 0, 0)),
  (21, ([], .iload_n 2, 1, 2, 0, 0, 0)),
  (22, ([], .putfield 100, 3, 5, 4, 0, 0)),
  (25, ([], .iload 4, 2, 4, 0, 0, 0)),
  (27, ([], .ireturn, 1, 0, 0, 0, 0))]
noncomputable def E_X6_quota : Kt := exL SKc SKn SKr CS (lkp T_X6_quota) [F_X6_airportAt, F_X6_requireRange] [] []
noncomputable def F_X6_quota : Fn := fun as h => E_X6_quota 0 (pad 5 as) [] h
set_option maxRecDepth 100000 in
set_option maxHeartbeats 4000000 in
theorem e_X6_quota_0 (x1 : Int32) (x2 : Int32) (h : Hp) : F_X6_quota [.ref 0, .int x1, .int x2] h = bR (F_X6_airportAt [.ref 0, .int x1] h) (fun v2 h1 => bV (F_X6_requireRange [.int x2, .int 0, .int 9999] h1) (fun h3 => gd (okc v2 2) (gd (okc v2 2) (rtn (some (.int (rd h3 v2 5))) (wr h3 v2 5 x2)))) (hnk [])) (hnk []) :=
  (exL_it SKc SKn SKr CS (lkp T_X6_quota) [F_X6_airportAt, F_X6_requireRange] [] [] [] 16 0 [.ref 0, .int x1, .int x2, .retAddr 0, .retAddr 0] [] h).trans rfl

def T_X6_groupAt : List (Nat × Ent) := [(0, ([], .iload_n 1, 1, 1, 0, 0, 0)),
  (1, ([], .ifCond .lt 12, 3, 13, 0, 0, 0)),
  (4, ([], .iload_n 1, 1, 1, 0, 0, 0)),
  (5, ([], .aload_n 0, 1, 0, 0, 0, 0)),
  (6, ([], .getfield 15, 3, 1, 1, 0, 0)),
  (9, ([], .arraylength, 1, 0, 0, 0, 0)),
  (10, ([], .if_icmp .lt 14, 3, 24, 0, 0, 0)),
  (13, ([true, true], .new 339, 3, 0, 0, 0, 0)),
  (24, ([], .aload_n 0, 1, 0, 0, 0, 0)),
  (25, ([], .getfield 15, 3, 1, 1, 0, 0)),
  (28, ([], .iload_n 1, 1, 1, 0, 0, 0)),
  (29, ([], .iaload, 1, 0, 0, 0, 0)),
  (30, ([], .ireturn, 1, 0, 0, 0, 0))]
noncomputable def E_X6_groupAt : Kt := exL SKc SKn SKr CS (lkp T_X6_groupAt) [] [] []
noncomputable def F_X6_groupAt : Fn := fun as h => E_X6_groupAt 0 (pad 2 as) [] h
noncomputable def f_X6_groupAt_13 (h : Hp) : Res := E_X6_groupAt 13 [.retAddr 0, .retAddr 0] [] h
set_option maxRecDepth 100000 in
set_option maxHeartbeats 4000000 in
theorem e_X6_groupAt_0 (x1 : Int32) (h : Hp) : F_X6_groupAt [.ref 0, .int x1] h = if x1 < 0 then f_X6_groupAt_13 h else if x1 < 10 then gd (inb x1 10) (rtn (some (.int (rd h 2 x1.toNatClampNeg))) h) else f_X6_groupAt_13 h :=
  (exL_it SKc SKn SKr CS (lkp T_X6_groupAt) [] [] [] [13] 12 0 [.ref 0, .int x1] [] h).trans rfl
set_option maxRecDepth 100000 in
set_option maxHeartbeats 4000000 in
theorem e_X6_groupAt_13 (h : Hp) : f_X6_groupAt_13 h = thr 0 h :=
  (exL_it SKc SKn SKr CS (lkp T_X6_groupAt) [] [] [] [13] 1 13 [.retAddr 0, .retAddr 0] [] h).trans rfl

def T_X6_merge : List (Nat × Ent) := [(0, ([], .aload_n 0, 1, 0, 0, 0, 0)),
  (1, ([], .iload_n 1, 1, 1, 0, 0, 0)),
  (2, ([], .invokevirtual 103, 3, 0, 9, 0, 0)),
  (5, ([], .istore_n 3, 1, 3, 0, 0, 0)),
  (6, ([], .aload_n 0, 1, 0, 0, 0, 0)),
  (7, ([], .iload_n 2, 1, 2, 0, 0, 0)),
  (8, ([], .invokevirtual 103, 3, 0, 9, 0, 0)),
  (11, ([], .istore 4, 2, 4, 0, 0, 0)),
  (13, ([], .iload_n 3, 1, 3, 0, 0, 0)),
  (14, ([], .iload 4, 2, 4, 0, 0, 0)),
  (16, ([], .if_icmp .ne 13, 3, 29, 0, 0, 0)),
  (19, ([], .new 72, 3, 2, 0, 0, 0)),
  (29, ([], .iconst 0, 1, 0, 0, 0, 0)),
  (30, ([], .istore 5, 2, 5, 0, 0, 0)),
  (32, ([], .iconst 0, 1, 0, 0, 0, 0)),
  (33, ([], .istore 6, 2, 6, 0, 0, 0)),
  (35, ([false, true, true, false, false, false, false], .iload 6, 2, 6, 0, 0, 0)),
  (37, ([], .aload_n 0, 1, 0, 0, 0, 0)),
  (38, ([], .getfield 15, 3, 1, 1, 0, 0)),
  (41, ([], .arraylength, 1, 0, 0, 0, 0)),
  (42, ([], .if_icmp .ge 43, 3, 85, 0, 0, 0)),
  (45, ([], .aload_n 0, 1, 0, 0, 0, 0)),
  (46, ([], .getfield 15, 3, 1, 1, 0, 0)),
  (49, ([], .iload 6, 2, 6, 0, 0, 0)),
  (51, ([], .iaload, 1, 0, 0, 0, 0)),
  (52, ([], .iload 4, 2, 4, 0, 0, 0)),
  (54, ([], .if_icmp .ne 11, 3, 65, 0, 0, 0)),
  (57, ([], .aload_n 0, 1, 0, 0, 0, 0)),
  (58, ([], .getfield 15, 3, 1, 1, 0, 0)),
  (61, ([], .iload 6, 2, 6, 0, 0, 0)),
  (63, ([], .iload_n 3, 1, 3, 0, 0, 0)),
  (64, ([], .iastore, 1, 0, 0, 0, 0)),
  (65, ([false, true, true, false, false, false, false], .aload_n 0, 1, 0, 0, 0, 0)),
  (66, ([], .getfield 15, 3, 1, 1, 0, 0)),
  (69, ([], .iload 6, 2, 6, 0, 0, 0)),
  (71, ([], .iaload, 1, 0, 0, 0, 0)),
  (72, ([], .iload_n 3, 1, 3, 0, 0, 0)),
  (73, ([], .if_icmp .ne 6, 3, 79, 0, 0, 0)),
  (76, ([], .iinc 5 1, 3, 5, 0, 0, 1)),
  (79, ([false, true, true, false, false, false, false], .iinc 6 1, 3, 6, 0, 0, 1)),
  (82, ([], .goto (-47), 3, 35, 0, 0, 0)),
  (85, ([], .iload 5, 2, 5, 0, 0, 0)),
  (87, ([], .ireturn, 1, 0, 0, 0, 0))]
noncomputable def E_X6_merge : Kt := exL SKc SKn SKr CS (lkp T_X6_merge) [F_X6_groupAt] [] []
noncomputable def F_X6_merge : Fn := fun as h => E_X6_merge 0 (pad 7 as) [] h
noncomputable def f_X6_merge_35 (x3 : Int32) (x4 : Int32) (x5 : Int32) (x6 : Int32) (h : Hp) : Res := E_X6_merge 35 [.ref 0, .retAddr 0, .retAddr 0, .int x3, .int x4, .int x5, .int x6] [] h
noncomputable def f_X6_merge_65 (x3 : Int32) (x4 : Int32) (x5 : Int32) (x6 : Int32) (h : Hp) : Res := E_X6_merge 65 [.ref 0, .retAddr 0, .retAddr 0, .int x3, .int x4, .int x5, .int x6] [] h
noncomputable def f_X6_merge_79 (x3 : Int32) (x4 : Int32) (x5 : Int32) (x6 : Int32) (h : Hp) : Res := E_X6_merge 79 [.ref 0, .retAddr 0, .retAddr 0, .int x3, .int x4, .int x5, .int x6] [] h
set_option maxRecDepth 100000 in
set_option maxHeartbeats 4000000 in
theorem e_X6_merge_0 (x1 : Int32) (x2 : Int32) (h : Hp) : F_X6_merge [.ref 0, .int x1, .int x2] h = bI (F_X6_groupAt [.ref 0, .int x1] h) (fun v2 h1 => bI (F_X6_groupAt [.ref 0, .int x2] h1) (fun v4 h3 => if v2 = v4 then thr 2 h3 else f_X6_merge_35 v2 v4 0 0 h3) (hnk [])) (hnk []) :=
  (exL_it SKc SKn SKr CS (lkp T_X6_merge) [F_X6_groupAt] [] [] [35, 65, 79] 15 0 [.ref 0, .int x1, .int x2, .retAddr 0, .retAddr 0, .retAddr 0, .retAddr 0] [] h).trans rfl
set_option maxRecDepth 100000 in
set_option maxHeartbeats 4000000 in
theorem e_X6_merge_35 (x3 : Int32) (x4 : Int32) (x5 : Int32) (x6 : Int32) (h : Hp) : f_X6_merge_35 x3 x4 x5 x6 h = if x6 < 10 then gd (inb x6 10) (if (rd h 2 x6.toNatClampNeg) = x4 then gd (inb x6 10) (f_X6_merge_65 x3 x4 x5 x6 (wr h 2 x6.toNatClampNeg x3)) else f_X6_merge_65 x3 x4 x5 x6 h) else rtn (some (.int x5)) h :=
  (exL_it SKc SKn SKr CS (lkp T_X6_merge) [F_X6_groupAt] [] [] [35, 65, 79] 16 35 [.ref 0, .retAddr 0, .retAddr 0, .int x3, .int x4, .int x5, .int x6] [] h).trans rfl
set_option maxRecDepth 100000 in
set_option maxHeartbeats 4000000 in
theorem e_X6_merge_65 (x3 : Int32) (x4 : Int32) (x5 : Int32) (x6 : Int32) (h : Hp) : f_X6_merge_65 x3 x4 x5 x6 h = gd (inb x6 10) (if (rd h 2 x6.toNatClampNeg) = x3 then f_X6_merge_79 x3 x4 (x5 + 1) x6 h else f_X6_merge_79 x3 x4 x5 x6 h) :=
  (exL_it SKc SKn SKr CS (lkp T_X6_merge) [F_X6_groupAt] [] [] [35, 65, 79] 7 65 [.ref 0, .retAddr 0, .retAddr 0, .int x3, .int x4, .int x5, .int x6] [] h).trans rfl
set_option maxRecDepth 100000 in
set_option maxHeartbeats 4000000 in
theorem e_X6_merge_79 (x3 : Int32) (x4 : Int32) (x5 : Int32) (x6 : Int32) (h : Hp) : f_X6_merge_79 x3 x4 x5 x6 h = f_X6_merge_35 x3 x4 x5 (x6 + 1) h :=
  (exL_it SKc SKn SKr CS (lkp T_X6_merge) [F_X6_groupAt] [] [] [35, 65, 79] 2 79 [.ref 0, .retAddr 0, .retAddr 0, .int x3, .int x4, .int x5, .int x6] [] h).trans rfl

def T_X6_rightAt : List (Nat × Ent) := [(0, ([], .iload_n 1, 1, 1, 0, 0, 0)),
  (1, ([], .ifCond .lt 20, 3, 21, 0, 0, 0)),
  (4, ([], .iload_n 1, 1, 1, 0, 0, 0)),
  (5, ([], .aload_n 0, 1, 0, 0, 0, 0)),
  (6, ([], .getfield 265, 3, 12, 0, 0, 0)),
  (9, ([], .if_icmp .ge 12, 3, 21, 0, 0, 0)),
  (12, ([], .iload_n 1, 1, 1, 0, 0, 0)),
  (13, ([], .aload_n 0, 1, 0, 0, 0, 0)),
  (14, ([], .getfield 33, 3, 4, 1, 0, 0)),
  (17, ([], .arraylength, 1, 0, 0, 0, 0)),
  (18, ([], .if_icmp .lt 14, 3, 32, 0, 0, 0)),
  (21, ([true, true], .new 339, 3, 0, 0, 0, 0)),
  (32, ([], .aload_n 0, 1, 0, 0, 0, 0)),
  (33, ([], .getfield 33, 3, 4, 1, 0, 0)),
  (36, ([], .iload_n 1, 1, 1, 0, 0, 0)),
  (37, ([], .aaload, 1, 0, 0, 0, 0)),
  (38, ([], .areturn, 1, 0, 0, 0, 0))]
noncomputable def E_X6_rightAt : Kt := exL SKc SKn SKr CS (lkp T_X6_rightAt) [] [] []
noncomputable def F_X6_rightAt : Fn := fun as h => E_X6_rightAt 0 (pad 2 as) [] h
noncomputable def f_X6_rightAt_21 (h : Hp) : Res := E_X6_rightAt 21 [.retAddr 0, .retAddr 0] [] h
set_option maxRecDepth 100000 in
set_option maxHeartbeats 4000000 in
theorem e_X6_rightAt_0 (x1 : Int32) (h : Hp) : F_X6_rightAt [.ref 0, .int x1] h = if x1 < 0 then f_X6_rightAt_21 h else if x1 < (rd h 0 12) then if x1 < 60 then gd (inb x1 60) (rtn (some (.ref (SKr 5 x1.toNatClampNeg))) h) else f_X6_rightAt_21 h else f_X6_rightAt_21 h :=
  (exL_it SKc SKn SKr CS (lkp T_X6_rightAt) [] [] [] [21] 16 0 [.ref 0, .int x1] [] h).trans rfl
set_option maxRecDepth 100000 in
set_option maxHeartbeats 4000000 in
theorem e_X6_rightAt_21 (h : Hp) : f_X6_rightAt_21 h = thr 0 h :=
  (exL_it SKc SKn SKr CS (lkp T_X6_rightAt) [] [] [] [21] 1 21 [.retAddr 0, .retAddr 0] [] h).trans rfl

def T_X6_requireSlot : List (Nat × Ent) := [(0, ([], .iload_n 0, 1, 0, 0, 0, 0)),
  (1, ([], .iconst 0, 1, 0, 0, 0, 0)),
  (2, ([], .iconst 1, 1, 0, 0, 0, 1)),
  (3, ([], .invokestatic 64, 3, 0, 12, 0, 0)),
  (6, ([], .iload_n 1, 1, 1, 0, 0, 0)),
  (7, ([], .iconst 0, 1, 0, 0, 0, 0)),
  (8, ([], .bipush 6, 2, 0, 0, 0, 6)),
  (10, ([], .invokestatic 64, 3, 0, 12, 0, 0)),
  (13, ([], .iload_n 2, 1, 2, 0, 0, 0)),
  (14, ([], .iconst 0, 1, 0, 0, 0, 0)),
  (15, ([], .bipush 71, 2, 0, 0, 0, 71)),
  (17, ([], .invokestatic 64, 3, 0, 12, 0, 0)),
  (20, ([], .iload_n 3, 1, 3, 0, 0, 0)),
  (21, ([], .iconst 0, 1, 0, 0, 0, 0)),
  (22, ([], .bipush 19, 2, 0, 0, 0, 19)),
  (24, ([], .invokestatic 64, 3, 0, 12, 0, 0)),
  (27, ([], .iload 4, 2, 4, 0, 0, 0)),
  (29, ([], .iload_n 3, 1, 3, 0, 0, 0)),
  (30, ([], .bipush 19, 2, 0, 0, 0, 19)),
  (32, ([], .invokestatic 64, 3, 0, 12, 0, 0)),
  (35, ([], .iload 5, 2, 5, 0, 0, 0)),
  (37, ([], .iconst 0, 1, 0, 0, 0, 0)),
  (38, ([], .bipush 9, 2, 0, 0, 0, 9)),
  (40, ([], .invokestatic 64, 3, 0, 12, 0, 0)),
  (43, ([], .return_, 1, 0, 0, 0, 0))]
noncomputable def E_X6_requireSlot : Kt := exL SKc SKn SKr CS (lkp T_X6_requireSlot) [F_X6_requireRange] [] []
noncomputable def F_X6_requireSlot : Fn := fun as h => E_X6_requireSlot 0 (pad 6 as) [] h
set_option maxRecDepth 100000 in
set_option maxHeartbeats 4000000 in
theorem e_X6_requireSlot_0 (x0 : Int32) (x1 : Int32) (x2 : Int32) (x3 : Int32) (x4 : Int32) (x5 : Int32) (h : Hp) : F_X6_requireSlot [.int x0, .int x1, .int x2, .int x3, .int x4, .int x5] h = bV (F_X6_requireRange [.int x0, .int 0, .int 1] h) (fun h1 => bV (F_X6_requireRange [.int x1, .int 0, .int 6] h1) (fun h2 => bV (F_X6_requireRange [.int x2, .int 0, .int 71] h2) (fun h3 => bV (F_X6_requireRange [.int x3, .int 0, .int 19] h3) (fun h4 => bV (F_X6_requireRange [.int x4, .int x3, .int 19] h4) (fun h5 => bV (F_X6_requireRange [.int x5, .int 0, .int 9] h5) (fun h6 => rtn none h6) (hnk [])) (hnk [])) (hnk [])) (hnk [])) (hnk [])) (hnk []) :=
  (exL_it SKc SKn SKr CS (lkp T_X6_requireSlot) [F_X6_requireRange] [] [] [] 25 0 [.int x0, .int x1, .int x2, .int x3, .int x4, .int x5] [] h).trans rfl

def T_X6_requestAt : List (Nat × Ent) := [(0, ([], .iload_n 1, 1, 1, 0, 0, 0)),
  (1, ([], .ifCond .lt 20, 3, 21, 0, 0, 0)),
  (4, ([], .iload_n 1, 1, 1, 0, 0, 0)),
  (5, ([], .aload_n 0, 1, 0, 0, 0, 0)),
  (6, ([], .getfield 117, 3, 10, 0, 0, 0)),
  (9, ([], .if_icmp .ge 12, 3, 21, 0, 0, 0)),
  (12, ([], .iload_n 1, 1, 1, 0, 0, 0)),
  (13, ([], .aload_n 0, 1, 0, 0, 0, 0)),
  (14, ([], .getfield 21, 3, 2, 1, 0, 0)),
  (17, ([], .arraylength, 1, 0, 0, 0, 0)),
  (18, ([], .if_icmp .lt 14, 3, 32, 0, 0, 0)),
  (21, ([true, true], .new 339, 3, 0, 0, 0, 0)),
  (32, ([], .aload_n 0, 1, 0, 0, 0, 0)),
  (33, ([], .getfield 21, 3, 2, 1, 0, 0)),
  (36, ([], .iload_n 1, 1, 1, 0, 0, 0)),
  (37, ([], .aaload, 1, 0, 0, 0, 0)),
  (38, ([], .areturn, 1, 0, 0, 0, 0))]
noncomputable def E_X6_requestAt : Kt := exL SKc SKn SKr CS (lkp T_X6_requestAt) [] [] []
noncomputable def F_X6_requestAt : Fn := fun as h => E_X6_requestAt 0 (pad 2 as) [] h
noncomputable def f_X6_requestAt_21 (h : Hp) : Res := E_X6_requestAt 21 [.retAddr 0, .retAddr 0] [] h
set_option maxRecDepth 100000 in
set_option maxHeartbeats 4000000 in
theorem e_X6_requestAt_0 (x1 : Int32) (h : Hp) : F_X6_requestAt [.ref 0, .int x1] h = if x1 < 0 then f_X6_requestAt_21 h else if x1 < (rd h 0 10) then if x1 < 60 then gd (inb x1 60) (rtn (some (.ref (SKr 3 x1.toNatClampNeg))) h) else f_X6_requestAt_21 h else f_X6_requestAt_21 h :=
  (exL_it SKc SKn SKr CS (lkp T_X6_requestAt) [] [] [] [21] 16 0 [.ref 0, .int x1] [] h).trans rfl
set_option maxRecDepth 100000 in
set_option maxHeartbeats 4000000 in
theorem e_X6_requestAt_21 (h : Hp) : f_X6_requestAt_21 h = thr 0 h :=
  (exL_it SKc SKn SKr CS (lkp T_X6_requestAt) [] [] [] [21] 1 21 [.retAddr 0, .retAddr 0] [] h).trans rfl

def T_X6_request : List (Nat × Ent) := [(0, ([], .aload_n 0, 1, 0, 0, 0, 0)),
  (1, ([], .iload_n 1, 1, 1, 0, 0, 0)),
  (2, ([], .invokevirtual 103, 3, 0, 9, 0, 0)),
  (5, ([], .pop, 1, 0, 0, 0, 0)),
  (6, ([], .aload_n 0, 1, 0, 0, 0, 0)),
  (7, ([], .iload_n 2, 1, 2, 0, 0, 0)),
  (8, ([], .invokevirtual 56, 3, 1, 10, 0, 0)),
  (11, ([], .pop, 1, 0, 0, 0, 0)),
  (12, ([], .iload 9, 2, 9, 0, 0, 0)),
  (14, ([], .iconst (-1), 1, 0, 0, 0, (-1))),
  (15, ([], .if_icmp .ne 7, 3, 22, 0, 0, 0)),
  (18, ([], .aconst_null, 1, 0, 0, 0, 0)),
  (19, ([], .goto 9, 3, 28, 0, 0, 0)),
  (22, ([], .aload_n 0, 1, 0, 0, 0, 0)),
  (23, ([], .iload 9, 2, 9, 0, 0, 0)),
  (25, ([], .invokevirtual 109, 3, 2, 10, 0, 0)),
  (28, ([], .astore 10, 2, 10, 0, 0, 0)),
  (30, ([], .iload_n 3, 1, 3, 0, 0, 0)),
  (31, ([], .iload 4, 2, 4, 0, 0, 0)),
  (33, ([], .iload 5, 2, 5, 0, 0, 0)),
  (35, ([], .iload 6, 2, 6, 0, 0, 0)),
  (37, ([], .iload 7, 2, 7, 0, 0, 0)),
  (39, ([], .iload 8, 2, 8, 0, 0, 0)),
  (41, ([], .invokestatic 113, 3, 3, 24, 0, 0)),
  (44, ([], .aload_n 0, 1, 0, 0, 0, 0)),
  (45, ([], .getfield 117, 3, 10, 0, 0, 0)),
  (48, ([], .bipush 60, 2, 0, 0, 0, 60)),
  (50, ([], .if_icmp .lt 13, 3, 63, 0, 0, 0)),
  (53, ([], .new 72, 3, 2, 0, 0, 0)),
  (63, ([], .aload 10, 2, 10, 0, 0, 0)),
  (65, ([], .ifnull 26, 3, 91, 0, 0, 0)),
  (68, ([], .aload 10, 2, 10, 0, 0, 0)),
  (70, ([], .iload_n 1, 1, 1, 0, 0, 0)),
  (71, ([], .iload_n 2, 1, 2, 0, 0, 0)),
  (72, ([], .iload_n 3, 1, 3, 0, 0, 0)),
  (73, ([], .iload 4, 2, 4, 0, 0, 0)),
  (75, ([], .invokevirtual 122, 3, 4, 21, 0, 0)),
  (78, ([], .ifCond .ne 13, 3, 91, 0, 0, 0)),
  (81, ([], .new 72, 3, 2, 0, 0, 0)),
  (91, ([], .aload_n 0, 1, 0, 0, 0, 0)),
  (92, ([], .getfield 117, 3, 10, 0, 0, 0)),
  (95, ([], .istore 11, 2, 11, 0, 0, 0)),
  (97, ([], .aload_n 0, 1, 0, 0, 0, 0)),
  (98, ([], .iload 11, 2, 11, 0, 0, 0)),
  (100, ([], .iconst 1, 1, 0, 0, 0, 1)),
  (101, ([], .iadd, 1, 0, 0, 0, 0)),
  (102, ([], .putfield 117, 3, 10, 0, 0, 0)),
  (105, ([], .aload_n 0, 1, 0, 0, 0, 0)),
  (106, ([], .iload 11, 2, 11, 0, 0, 0)),
  (108, ([], .invokevirtual 128, 3, 5, 10, 0, 0)),
  (111, ([], .astore 12, 2, 12, 0, 0, 0)),
  (113, ([], .aload 12, 2, 12, 0, 0, 0)),
  (115, ([], .iload_n 2, 1, 2, 0, 0, 0)),
  (116, ([], .putfield 132, 3, 0, 8, 0, 0)),
  (119, ([], .aload 12, 2, 12, 0, 0, 0)),
  (121, ([], .iload_n 3, 1, 3, 0, 0, 0)),
  (122, ([], .putfield 135, 3, 1, 8, 0, 0)),
  (125, ([], .aload 12, 2, 12, 0, 0, 0)),
  (127, ([], .iload 4, 2, 4, 0, 0, 0)),
  (129, ([], .putfield 136, 3, 2, 8, 0, 0)),
  (132, ([], .aload 12, 2, 12, 0, 0, 0)),
  (134, ([], .iload 5, 2, 5, 0, 0, 0)),
  (136, ([], .putfield 139, 3, 3, 8, 0, 0)),
  (139, ([], .aload 12, 2, 12, 0, 0, 0)),
  (141, ([], .iload 6, 2, 6, 0, 0, 0)),
  (143, ([], .putfield 142, 3, 4, 8, 0, 0)),
  (146, ([], .aload 12, 2, 12, 0, 0, 0)),
  (148, ([], .iload 7, 2, 7, 0, 0, 0)),
  (150, ([], .putfield 145, 3, 5, 8, 0, 0)),
  (153, ([], .aload 12, 2, 12, 0, 0, 0)),
  (155, ([], .iload 8, 2, 8, 0, 0, 0)),
  (157, ([], .putfield 148, 3, 6, 8, 0, 0)),
  (160, ([], .aload 12, 2, 12, 0, 0, 0)),
  (162, ([], .iload_n 1, 1, 1, 0, 0, 0)),
  (163, ([], .iload 9, 2, 9, 0, 0, 0)),
  (165, ([], .invokevirtual 151, 3, 6, 12, 0, 0)),
  (168, ([], .aload 10, 2, 10, 0, 0, 0)),
  (170, ([], .ifnull 10, 3, 180, 0, 0, 0)),
  (173, ([], .aload 10, 2, 10, 0, 0, 0)),
  (175, ([], .iload 11, 2, 11, 0, 0, 0)),
  (177, ([], .putfield 155, 3, 8, 12, 0, 0)),
  (180, ([], .iload 11, 2, 11, 0, 0, 0)),
  (182, ([], .ireturn, 1, 0, 0, 0, 0))]
noncomputable def E_X6_request : Kt := exL SKc SKn SKr CS (lkp T_X6_request) [F_X6_groupAt, F_X6_airportAt, F_X6_rightAt, F_X6_requireSlot, F_X2_mayBeClaimed, F_X6_requestAt, F_X1_ask] [] []
noncomputable def F_X6_request : Fn := fun as h => E_X6_request 0 (pad 13 as) [] h
set_option maxRecDepth 100000 in
set_option maxHeartbeats 4000000 in
theorem e_X6_request_0 (x1 : Int32) (x2 : Int32) (x3 : Int32) (x4 : Int32) (x5 : Int32) (x6 : Int32) (x7 : Int32) (x8 : Int32) (x9 : Int32) (h : Hp) : F_X6_request [.ref 0, .int x1, .int x2, .int x3, .int x4, .int x5, .int x6, .int x7, .int x8, .int x9] h = bI (F_X6_groupAt [.ref 0, .int x1] h) (fun v2 h1 => bR (F_X6_airportAt [.ref 0, .int x2] h1) (fun v4 h3 => if x9 = (-1) then bV (F_X6_requireSlot [.int x3, .int x4, .int x5, .int x6, .int x7, .int x8] h3) (fun h5 => if (rd h5 0 10) < 60 then bR (F_X6_requestAt [.ref 0, .int (rd h5 0 10)] (wr h5 0 10 ((rd h5 0 10) + 1))) (fun v7 h6 => gd (okc v7 4) (gd (okc v7 4) (gd (okc v7 4) (gd (okc v7 4) (gd (okc v7 4) (gd (okc v7 4) (gd (okc v7 4) (bV (F_X1_ask [.ref v7, .int x1, .int x9] (wr (wr (wr (wr (wr (wr (wr h6 v7 0 x2) v7 1 x3) v7 2 x4) v7 3 x5) v7 4 x6) v7 5 x7) v7 6 x8)) (fun h8 => rtn (some (.int (rd h5 0 10))) h8) (hnk []))))))))) (hnk []) else thr 2 h5) (hnk []) else bR (F_X6_rightAt [.ref 0, .int x9] h3) (fun v10 h9 => bV (F_X6_requireSlot [.int x3, .int x4, .int x5, .int x6, .int x7, .int x8] h9) (fun h11 => if (rd h11 0 10) < 60 then bI (F_X2_mayBeClaimed [.ref v10, .int x1, .int x2, .int x3, .int x4] h11) (fun v13 h12 => if v13 = 0 then thr 2 h12 else bR (F_X6_requestAt [.ref 0, .int (rd h12 0 10)] (wr h12 0 10 ((rd h12 0 10) + 1))) (fun v15 h14 => gd (okc v15 4) (gd (okc v15 4) (gd (okc v15 4) (gd (okc v15 4) (gd (okc v15 4) (gd (okc v15 4) (gd (okc v15 4) (bV (F_X1_ask [.ref v15, .int x1, .int x9] (wr (wr (wr (wr (wr (wr (wr h14 v15 0 x2) v15 1 x3) v15 2 x4) v15 3 x5) v15 4 x6) v15 5 x7) v15 6 x8)) (fun h16 => gd (okc v10 6) (rtn (some (.int (rd h12 0 10))) (wr h16 v10 8 (rd h12 0 10)))) (hnk []))))))))) (hnk [])) (hnk []) else thr 2 h11) (hnk [])) (hnk [])) (hnk [])) (hnk []) :=
  (exL_it SKc SKn SKr CS (lkp T_X6_request) [F_X6_groupAt, F_X6_airportAt, F_X6_rightAt, F_X6_requireSlot, F_X2_mayBeClaimed, F_X6_requestAt, F_X1_ask] [] [] [] 79 0 [.ref 0, .int x1, .int x2, .int x3, .int x4, .int x5, .int x6, .int x7, .int x8, .int x9, .retAddr 0, .retAddr 0, .retAddr 0] [] h).trans rfl

def T_X6_link : List (Nat × Ent) := [(0, ([], .aload_n 0, 1, 0, 0, 0, 0)),
  (1, ([], .iload_n 1, 1, 1, 0, 0, 0)),
  (2, ([], .invokevirtual 128, 3, 0, 10, 0, 0)),
  (5, ([], .astore_n 3, 1, 3, 0, 0, 0)),
  (6, ([], .aload_n 0, 1, 0, 0, 0, 0)),
  (7, ([], .iload_n 2, 1, 2, 0, 0, 0)),
  (8, ([], .invokevirtual 128, 3, 0, 10, 0, 0)),
  (11, ([], .astore 4, 2, 4, 0, 0, 0)),
  (13, ([], .iload_n 1, 1, 1, 0, 0, 0)),
  (14, ([], .iload_n 2, 1, 2, 0, 0, 0)),
  (15, ([], .if_icmp .ne 13, 3, 28, 0, 0, 0)),
  (18, ([], .new 158, 3, 1, 0, 0, 0)),
  (28, ([], .aload_n 3, 1, 3, 0, 0, 0)),
  (29, ([], .invokevirtual 163, 3, 1, 5, 0, 0)),
  (32, ([], .ifCond .eq 11, 3, 43, 0, 0, 0)),
  (35, ([], .aload 4, 2, 4, 0, 0, 0)),
  (37, ([], .invokevirtual 163, 3, 1, 5, 0, 0)),
  (40, ([], .ifCond .ne 13, 3, 53, 0, 0, 0)),
  (43, ([true, true, true, true, true], .new 72, 3, 2, 0, 0, 0)),
  (53, ([], .aload_n 3, 1, 3, 0, 0, 0)),
  (54, ([], .iload_n 2, 1, 2, 0, 0, 0)),
  (55, ([], .putfield 169, 3, 13, 8, 0, 0)),
  (58, ([], .aload 4, 2, 4, 0, 0, 0)),
  (60, ([], .iload_n 1, 1, 1, 0, 0, 0)),
  (61, ([], .putfield 169, 3, 13, 8, 0, 0)),
  (64, ([], .return_, 1, 0, 0, 0, 0))]
noncomputable def E_X6_link : Kt := exL SKc SKn SKr CS (lkp T_X6_link) [F_X6_requestAt, F_X1_mayBeLinked] [] []
noncomputable def F_X6_link : Fn := fun as h => E_X6_link 0 (pad 5 as) [] h
noncomputable def f_X6_link_43 (h : Hp) : Res := E_X6_link 43 [.retAddr 0, .retAddr 0, .retAddr 0, .retAddr 0, .retAddr 0] [] h
set_option maxRecDepth 100000 in
set_option maxHeartbeats 4000000 in
theorem e_X6_link_0 (x1 : Int32) (x2 : Int32) (h : Hp) : F_X6_link [.ref 0, .int x1, .int x2] h = bR (F_X6_requestAt [.ref 0, .int x1] h) (fun v2 h1 => bR (F_X6_requestAt [.ref 0, .int x2] h1) (fun v4 h3 => if x1 = x2 then thr 1 h3 else bI (F_X1_mayBeLinked [.ref v2] h3) (fun v6 h5 => if v6 = 0 then f_X6_link_43 h5 else bI (F_X1_mayBeLinked [.ref v4] h5) (fun v8 h7 => if v8 = 0 then f_X6_link_43 h7 else gd (okc v2 4) (gd (okc v4 4) (rtn none (wr (wr h7 v2 13 x2) v4 13 x1)))) (hnk [])) (hnk [])) (hnk [])) (hnk []) :=
  (exL_it SKc SKn SKr CS (lkp T_X6_link) [F_X6_requestAt, F_X1_mayBeLinked] [] [] [43] 24 0 [.ref 0, .int x1, .int x2, .retAddr 0, .retAddr 0] [] h).trans rfl
set_option maxRecDepth 100000 in
set_option maxHeartbeats 4000000 in
theorem e_X6_link_43 (h : Hp) : f_X6_link_43 h = thr 2 h :=
  (exL_it SKc SKn SKr CS (lkp T_X6_link) [F_X6_requestAt, F_X1_mayBeLinked] [] [] [43] 1 43 [.retAddr 0, .retAddr 0, .retAddr 0, .retAddr 0, .retAddr 0] [] h).trans rfl

def T_X6_requestsThatAre : List (Nat × Ent) := [(0, ([], .iconst 0, 1, 0, 0, 0, 0)),
  (1, ([], .istore_n 2, 1, 2, 0, 0, 0)),
  (2, ([], .iconst 0, 1, 0, 0, 0, 0)),
  (3, ([], .istore_n 3, 1, 3, 0, 0, 0)),
  (4, ([false, false, false, false], .iload_n 3, 1, 3, 0, 0, 0)),
  (5, ([], .aload_n 0, 1, 0, 0, 0, 0)),
  (6, ([], .getfield 117, 3, 10, 0, 0, 0)),
  (9, ([], .if_icmp .ge 24, 3, 33, 0, 0, 0)),
  (12, ([], .aload_n 0, 1, 0, 0, 0, 0)),
  (13, ([], .iload_n 3, 1, 3, 0, 0, 0)),
  (14, ([], .invokevirtual 128, 3, 0, 10, 0, 0)),
  (17, ([], .getfield 184, 3, 9, 8, 0, 0)),
  (20, ([], .iload_n 1, 1, 1, 0, 0, 0)),
  (21, ([], .if_icmp .ne 6, 3, 27, 0, 0, 0)),
  (24, ([], .iinc 2 1, 3, 2, 0, 0, 1)),
  (27, ([false, false, false, false], .iinc 3 1, 3, 3, 0, 0, 1)),
  (30, ([], .goto (-26), 3, 4, 0, 0, 0)),
  (33, ([], .iload_n 2, 1, 2, 0, 0, 0)),
  (34, ([], .ireturn, 1, 0, 0, 0, 0))]
noncomputable def E_X6_requestsThatAre : Kt := exL SKc SKn SKr CS (lkp T_X6_requestsThatAre) [F_X6_requestAt] [] []
noncomputable def F_X6_requestsThatAre : Fn := fun as h => E_X6_requestsThatAre 0 (pad 4 as) [] h
noncomputable def f_X6_requestsThatAre_4 (x1 : Int32) (x2 : Int32) (x3 : Int32) (h : Hp) : Res := E_X6_requestsThatAre 4 [.ref 0, .int x1, .int x2, .int x3] [] h
noncomputable def f_X6_requestsThatAre_27 (x1 : Int32) (x2 : Int32) (x3 : Int32) (h : Hp) : Res := E_X6_requestsThatAre 27 [.ref 0, .int x1, .int x2, .int x3] [] h
set_option maxRecDepth 100000 in
set_option maxHeartbeats 4000000 in
theorem e_X6_requestsThatAre_0 (x1 : Int32) (h : Hp) : F_X6_requestsThatAre [.ref 0, .int x1] h = f_X6_requestsThatAre_4 x1 0 0 h :=
  (exL_it SKc SKn SKr CS (lkp T_X6_requestsThatAre) [F_X6_requestAt] [] [] [4, 27] 4 0 [.ref 0, .int x1, .retAddr 0, .retAddr 0] [] h).trans rfl
set_option maxRecDepth 100000 in
set_option maxHeartbeats 4000000 in
theorem e_X6_requestsThatAre_4 (x1 : Int32) (x2 : Int32) (x3 : Int32) (h : Hp) : f_X6_requestsThatAre_4 x1 x2 x3 h = if x3 < (rd h 0 10) then bR (F_X6_requestAt [.ref 0, .int x3] h) (fun v2 h1 => gd (okc v2 4) (if (rd h1 v2 9) = x1 then f_X6_requestsThatAre_27 x1 (x2 + 1) x3 h1 else f_X6_requestsThatAre_27 x1 x2 x3 h1)) (hnk []) else rtn (some (.int x2)) h :=
  (exL_it SKc SKn SKr CS (lkp T_X6_requestsThatAre) [F_X6_requestAt] [] [] [4, 27] 11 4 [.ref 0, .int x1, .int x2, .int x3] [] h).trans rfl
set_option maxRecDepth 100000 in
set_option maxHeartbeats 4000000 in
theorem e_X6_requestsThatAre_27 (x1 : Int32) (x2 : Int32) (x3 : Int32) (h : Hp) : f_X6_requestsThatAre_27 x1 x2 x3 h = f_X6_requestsThatAre_4 x1 x2 (x3 + 1) h :=
  (exL_it SKc SKn SKr CS (lkp T_X6_requestsThatAre) [F_X6_requestAt] [] [] [4, 27] 2 27 [.ref 0, .int x1, .int x2, .int x3] [] h).trans rfl

def T_X6_seriesAt : List (Nat × Ent) := [(0, ([], .iload_n 1, 1, 1, 0, 0, 0)),
  (1, ([], .ifCond .lt 20, 3, 21, 0, 0, 0)),
  (4, ([], .iload_n 1, 1, 1, 0, 0, 0)),
  (5, ([], .aload_n 0, 1, 0, 0, 0, 0)),
  (6, ([], .getfield 268, 3, 11, 0, 0, 0)),
  (9, ([], .if_icmp .ge 12, 3, 21, 0, 0, 0)),
  (12, ([], .iload_n 1, 1, 1, 0, 0, 0)),
  (13, ([], .aload_n 0, 1, 0, 0, 0, 0)),
  (14, ([], .getfield 27, 3, 3, 1, 0, 0)),
  (17, ([], .arraylength, 1, 0, 0, 0, 0)),
  (18, ([], .if_icmp .lt 14, 3, 32, 0, 0, 0)),
  (21, ([true, true], .new 339, 3, 0, 0, 0, 0)),
  (32, ([], .aload_n 0, 1, 0, 0, 0, 0)),
  (33, ([], .getfield 27, 3, 3, 1, 0, 0)),
  (36, ([], .iload_n 1, 1, 1, 0, 0, 0)),
  (37, ([], .aaload, 1, 0, 0, 0, 0)),
  (38, ([], .areturn, 1, 0, 0, 0, 0))]
noncomputable def E_X6_seriesAt : Kt := exL SKc SKn SKr CS (lkp T_X6_seriesAt) [] [] []
noncomputable def F_X6_seriesAt : Fn := fun as h => E_X6_seriesAt 0 (pad 2 as) [] h
noncomputable def f_X6_seriesAt_21 (h : Hp) : Res := E_X6_seriesAt 21 [.retAddr 0, .retAddr 0] [] h
set_option maxRecDepth 100000 in
set_option maxHeartbeats 4000000 in
theorem e_X6_seriesAt_0 (x1 : Int32) (h : Hp) : F_X6_seriesAt [.ref 0, .int x1] h = if x1 < 0 then f_X6_seriesAt_21 h else if x1 < (rd h 0 11) then if x1 < 60 then gd (inb x1 60) (rtn (some (.ref (SKr 4 x1.toNatClampNeg))) h) else f_X6_seriesAt_21 h else f_X6_seriesAt_21 h :=
  (exL_it SKc SKn SKr CS (lkp T_X6_seriesAt) [] [] [] [21] 16 0 [.ref 0, .int x1] [] h).trans rfl
set_option maxRecDepth 100000 in
set_option maxHeartbeats 4000000 in
theorem e_X6_seriesAt_21 (h : Hp) : f_X6_seriesAt_21 h = thr 0 h :=
  (exL_it SKc SKn SKr CS (lkp T_X6_seriesAt) [] [] [] [21] 1 21 [.retAddr 0, .retAddr 0] [] h).trans rfl

def T_X6_isGroupNew : List (Nat × Ent) := [(0, ([], .iconst 0, 1, 0, 0, 0, 0)),
  (1, ([], .istore_n 3, 1, 3, 0, 0, 0)),
  (2, ([], .iconst 0, 1, 0, 0, 0, 0)),
  (3, ([], .istore 4, 2, 4, 0, 0, 0)),
  (5, ([false, false, false, false, false, true], .iload 4, 2, 4, 0, 0, 0)),
  (7, ([], .aload_n 0, 1, 0, 0, 0, 0)),
  (8, ([], .getfield 265, 3, 12, 0, 0, 0)),
  (11, ([], .if_icmp .ge 42, 3, 53, 0, 0, 0)),
  (14, ([], .aload_n 0, 1, 0, 0, 0, 0)),
  (15, ([], .iload 4, 2, 4, 0, 0, 0)),
  (17, ([], .invokevirtual 109, 3, 0, 10, 0, 0)),
  (20, ([], .astore 5, 2, 5, 0, 0, 0)),
  (22, ([], .aload 5, 2, 5, 0, 0, 0)),
  (24, ([], .getfield 319, 3, 0, 12, 0, 0)),
  (27, ([], .iload_n 2, 1, 2, 0, 0, 0)),
  (28, ([], .if_icmp .ne 19, 3, 47, 0, 0, 0)),
  (31, ([], .aload_n 0, 1, 0, 0, 0, 0)),
  (32, ([], .aload 5, 2, 5, 0, 0, 0)),
  (34, ([], .getfield 316, 3, 7, 12, 0, 0)),
  (37, ([], .invokevirtual 103, 3, 1, 9, 0, 0)),
  (40, ([], .iload_n 1, 1, 1, 0, 0, 0)),
  (41, ([], .if_icmp .ne 6, 3, 47, 0, 0, 0)),
  (44, ([], .iinc 3 1, 3, 3, 0, 0, 1)),
  (47, ([false, false, false, false, false, true], .iinc 4 1, 3, 4, 0, 0, 1)),
  (50, ([], .goto (-45), 3, 5, 0, 0, 0)),
  (53, ([], .iconst 0, 1, 0, 0, 0, 0)),
  (54, ([], .istore 4, 2, 4, 0, 0, 0)),
  (56, ([false, false, false, false, false, true], .iload 4, 2, 4, 0, 0, 0)),
  (58, ([], .aload_n 0, 1, 0, 0, 0, 0)),
  (59, ([], .getfield 268, 3, 11, 0, 0, 0)),
  (62, ([], .if_icmp .ge 50, 3, 112, 0, 0, 0)),
  (65, ([], .aload_n 0, 1, 0, 0, 0, 0)),
  (66, ([], .iload 4, 2, 4, 0, 0, 0)),
  (68, ([], .invokevirtual 206, 3, 2, 10, 0, 0)),
  (71, ([], .astore 5, 2, 5, 0, 0, 0)),
  (73, ([], .aload 5, 2, 5, 0, 0, 0)),
  (75, ([], .getfield 210, 3, 12, 10, 0, 0)),
  (78, ([], .ifCond .ne 28, 3, 106, 0, 0, 0)),
  (81, ([], .aload 5, 2, 5, 0, 0, 0)),
  (83, ([], .getfield 218, 3, 0, 10, 0, 0)),
  (86, ([], .iload_n 2, 1, 2, 0, 0, 0)),
  (87, ([], .if_icmp .ne 19, 3, 106, 0, 0, 0)),
  (90, ([], .aload_n 0, 1, 0, 0, 0, 0)),
  (91, ([], .aload 5, 2, 5, 0, 0, 0)),
  (93, ([], .getfield 226, 3, 8, 10, 0, 0)),
  (96, ([], .invokevirtual 103, 3, 1, 9, 0, 0)),
  (99, ([], .iload_n 1, 1, 1, 0, 0, 0)),
  (100, ([], .if_icmp .ne 6, 3, 106, 0, 0, 0)),
  (103, ([], .iinc 3 1, 3, 3, 0, 0, 1)),
  (106, ([false, false, false, false, false, true], .iinc 4 1, 3, 4, 0, 0, 1)),
  (109, ([], .goto (-53), 3, 56, 0, 0, 0)),
  (112, ([], .iload_n 3, 1, 3, 0, 0, 0)),
  (113, ([], .iconst 3, 1, 0, 0, 0, 3)),
  (114, ([], .if_icmp .ge 7, 3, 121, 0, 0, 0)),
  (117, ([], .iconst 1, 1, 0, 0, 0, 1)),
  (118, ([], .goto 4, 3, 122, 0, 0, 0)),
  (121, ([], .iconst 0, 1, 0, 0, 0, 0)),
  (122, ([], .ireturn, 1, 0, 0, 0, 0))]
noncomputable def E_X6_isGroupNew : Kt := exL SKc SKn SKr CS (lkp T_X6_isGroupNew) [F_X6_rightAt, F_X6_groupAt, F_X6_seriesAt] [] []
noncomputable def F_X6_isGroupNew : Fn := fun as h => E_X6_isGroupNew 0 (pad 6 as) [] h
noncomputable def f_X6_isGroupNew_5 (x1 : Int32) (x2 : Int32) (x3 : Int32) (x4 : Int32) (h : Hp) : Res := E_X6_isGroupNew 5 [.ref 0, .int x1, .int x2, .int x3, .int x4, .retAddr 0] [] h
noncomputable def f_X6_isGroupNew_47 (x1 : Int32) (x2 : Int32) (x3 : Int32) (x4 : Int32) (h : Hp) : Res := E_X6_isGroupNew 47 [.ref 0, .int x1, .int x2, .int x3, .int x4, .retAddr 0] [] h
noncomputable def f_X6_isGroupNew_56 (x1 : Int32) (x2 : Int32) (x3 : Int32) (x4 : Int32) (h : Hp) : Res := E_X6_isGroupNew 56 [.ref 0, .int x1, .int x2, .int x3, .int x4, .retAddr 0] [] h
noncomputable def f_X6_isGroupNew_106 (x1 : Int32) (x2 : Int32) (x3 : Int32) (x4 : Int32) (h : Hp) : Res := E_X6_isGroupNew 106 [.ref 0, .int x1, .int x2, .int x3, .int x4, .retAddr 0] [] h
set_option maxRecDepth 100000 in
set_option maxHeartbeats 4000000 in
theorem e_X6_isGroupNew_0 (x1 : Int32) (x2 : Int32) (h : Hp) : F_X6_isGroupNew [.ref 0, .int x1, .int x2] h = f_X6_isGroupNew_5 x1 x2 0 0 h :=
  (exL_it SKc SKn SKr CS (lkp T_X6_isGroupNew) [F_X6_rightAt, F_X6_groupAt, F_X6_seriesAt] [] [] [5, 47, 56, 106] 4 0 [.ref 0, .int x1, .int x2, .retAddr 0, .retAddr 0, .retAddr 0] [] h).trans rfl
set_option maxRecDepth 100000 in
set_option maxHeartbeats 4000000 in
theorem e_X6_isGroupNew_5 (x1 : Int32) (x2 : Int32) (x3 : Int32) (x4 : Int32) (h : Hp) : f_X6_isGroupNew_5 x1 x2 x3 x4 h = if x4 < (rd h 0 12) then bR (F_X6_rightAt [.ref 0, .int x4] h) (fun v2 h1 => gd (okc v2 6) (if (rd h1 v2 0) = x2 then gd (okc v2 6) (bI (F_X6_groupAt [.ref 0, .int (rd h1 v2 7)] h1) (fun v4 h3 => if v4 = x1 then f_X6_isGroupNew_47 x1 x2 (x3 + 1) x4 h3 else f_X6_isGroupNew_47 x1 x2 x3 x4 h3) (hnk [])) else f_X6_isGroupNew_47 x1 x2 x3 x4 h1)) (hnk []) else f_X6_isGroupNew_56 x1 x2 x3 0 h :=
  (exL_it SKc SKn SKr CS (lkp T_X6_isGroupNew) [F_X6_rightAt, F_X6_groupAt, F_X6_seriesAt] [] [] [5, 47, 56, 106] 19 5 [.ref 0, .int x1, .int x2, .int x3, .int x4, .retAddr 0] [] h).trans rfl
set_option maxRecDepth 100000 in
set_option maxHeartbeats 4000000 in
theorem e_X6_isGroupNew_47 (x1 : Int32) (x2 : Int32) (x3 : Int32) (x4 : Int32) (h : Hp) : f_X6_isGroupNew_47 x1 x2 x3 x4 h = f_X6_isGroupNew_5 x1 x2 x3 (x4 + 1) h :=
  (exL_it SKc SKn SKr CS (lkp T_X6_isGroupNew) [F_X6_rightAt, F_X6_groupAt, F_X6_seriesAt] [] [] [5, 47, 56, 106] 2 47 [.ref 0, .int x1, .int x2, .int x3, .int x4, .retAddr 0] [] h).trans rfl
set_option maxRecDepth 100000 in
set_option maxHeartbeats 4000000 in
theorem e_X6_isGroupNew_56 (x1 : Int32) (x2 : Int32) (x3 : Int32) (x4 : Int32) (h : Hp) : f_X6_isGroupNew_56 x1 x2 x3 x4 h = if x4 < (rd h 0 11) then bR (F_X6_seriesAt [.ref 0, .int x4] h) (fun v2 h1 => gd (okc v2 5) (if (rd h1 v2 12) = 0 then gd (okc v2 5) (if (rd h1 v2 0) = x2 then gd (okc v2 5) (bI (F_X6_groupAt [.ref 0, .int (rd h1 v2 8)] h1) (fun v4 h3 => if v4 = x1 then f_X6_isGroupNew_106 x1 x2 (x3 + 1) x4 h3 else f_X6_isGroupNew_106 x1 x2 x3 x4 h3) (hnk [])) else f_X6_isGroupNew_106 x1 x2 x3 x4 h1) else f_X6_isGroupNew_106 x1 x2 x3 x4 h1)) (hnk []) else if x3 < 3 then rtn (some (.int 1)) h else rtn (some (.int 0)) h :=
  (exL_it SKc SKn SKr CS (lkp T_X6_isGroupNew) [F_X6_rightAt, F_X6_groupAt, F_X6_seriesAt] [] [] [5, 47, 56, 106] 22 56 [.ref 0, .int x1, .int x2, .int x3, .int x4, .retAddr 0] [] h).trans rfl
set_option maxRecDepth 100000 in
set_option maxHeartbeats 4000000 in
theorem e_X6_isGroupNew_106 (x1 : Int32) (x2 : Int32) (x3 : Int32) (x4 : Int32) (h : Hp) : f_X6_isGroupNew_106 x1 x2 x3 x4 h = f_X6_isGroupNew_56 x1 x2 x3 (x4 + 1) h :=
  (exL_it SKc SKn SKr CS (lkp T_X6_isGroupNew) [F_X6_rightAt, F_X6_groupAt, F_X6_seriesAt] [] [] [5, 47, 56, 106] 2 106 [.ref 0, .int x1, .int x2, .int x3, .int x4, .retAddr 0] [] h).trans rfl

def T_X6_sortNow : List (Nat × Ent) := [(0, ([], .aload_n 1, 1, 1, 0, 0, 0)),
  (1, ([], .getfield 393, 3, 8, 8, 0, 0)),
  (4, ([], .iconst (-1), 1, 0, 0, 0, (-1))),
  (5, ([], .if_icmp .eq 24, 3, 29, 0, 0, 0)),
  (8, ([], .aload_n 1, 1, 1, 0, 0, 0)),
  (9, ([], .aload_n 0, 1, 0, 0, 0, 0)),
  (10, ([], .aload_n 1, 1, 1, 0, 0, 0)),
  (11, ([], .getfield 393, 3, 8, 8, 0, 0)),
  (14, ([], .invokevirtual 109, 3, 2, 10, 0, 0)),
  (17, ([], .invokevirtual 396, 3, 3, 9, 0, 0)),
  (20, ([], .ifCond .eq 7, 3, 27, 0, 0, 0)),
  (23, ([], .iconst 0, 1, 0, 0, 0, 0)),
  (24, ([], .goto 4, 3, 28, 0, 0, 0)),
  (27, ([], .iconst 1, 1, 0, 0, 0, 1)),
  (28, ([], .ireturn, 1, 0, 0, 0, 0)),
  (29, ([], .aload_n 0, 1, 0, 0, 0, 0)),
  (30, ([], .aload_n 0, 1, 0, 0, 0, 0)),
  (31, ([], .aload_n 1, 1, 1, 0, 0, 0)),
  (32, ([], .getfield 400, 3, 7, 8, 0, 0)),
  (35, ([], .invokevirtual 103, 3, 0, 9, 0, 0)),
  (38, ([], .aload_n 1, 1, 1, 0, 0, 0)),
  (39, ([], .getfield 132, 3, 0, 8, 0, 0)),
  (42, ([], .invokevirtual 328, 3, 1, 13, 0, 0)),
  (45, ([], .ifCond .eq 7, 3, 52, 0, 0, 0)),
  (48, ([], .iconst 2, 1, 0, 0, 0, 2)),
  (49, ([], .goto 4, 3, 53, 0, 0, 0)),
  (52, ([], .iconst 3, 1, 0, 0, 0, 3)),
  (53, ([], .ireturn, 1, 0, 0, 0, 0))]
noncomputable def E_X6_sortNow : Kt := exL SKc SKn SKr CS (lkp T_X6_sortNow) [F_X6_groupAt, F_X6_isGroupNew, F_X6_rightAt, F_X5_isSameAs] [] []
noncomputable def F_X6_sortNow : Fn := fun as h => E_X6_sortNow 0 (pad 2 as) [] h
set_option maxRecDepth 100000 in
set_option maxHeartbeats 4000000 in
theorem e_X6_sortNow_0 (a1 : Nat) (h : Hp) : F_X6_sortNow [.ref 0, .ref a1] h = gd (okc a1 4) (if (rd h a1 8) = (-1) then gd (okc a1 4) (bI (F_X6_groupAt [.ref 0, .int (rd h a1 7)] h) (fun v2 h1 => gd (okc a1 4) (bI (F_X6_isGroupNew [.ref 0, .int v2, .int (rd h1 a1 0)] h1) (fun v4 h3 => if v4 = 0 then rtn (some (.int 3)) h3 else rtn (some (.int 2)) h3) (hnk []))) (hnk [])) else gd (okc a1 4) (bR (F_X6_rightAt [.ref 0, .int (rd h a1 8)] h) (fun v6 h5 => bI (F_X5_isSameAs [.ref a1, .ref v6] h5) (fun v8 h7 => if v8 = 0 then rtn (some (.int 1)) h7 else rtn (some (.int 0)) h7) (hnk [])) (hnk []))) :=
  (exL_it SKc SKn SKr CS (lkp T_X6_sortNow) [F_X6_groupAt, F_X6_isGroupNew, F_X6_rightAt, F_X5_isSameAs] [] [] [] 16 0 [.ref 0, .ref a1] [] h).trans rfl

def T_X6_sortAllAsked : List (Nat × Ent) := [(0, ([], .iconst 0, 1, 0, 0, 0, 0)),
  (1, ([], .istore_n 1, 1, 1, 0, 0, 0)),
  (2, ([false, false, true], .iload_n 1, 1, 1, 0, 0, 0)),
  (3, ([], .aload_n 0, 1, 0, 0, 0, 0)),
  (4, ([], .getfield 117, 3, 10, 0, 0, 0)),
  (7, ([], .if_icmp .ge 31, 3, 38, 0, 0, 0)),
  (10, ([], .aload_n 0, 1, 0, 0, 0, 0)),
  (11, ([], .iload_n 1, 1, 1, 0, 0, 0)),
  (12, ([], .invokevirtual 128, 3, 0, 10, 0, 0)),
  (15, ([], .astore_n 2, 1, 2, 0, 0, 0)),
  (16, ([], .aload_n 2, 1, 2, 0, 0, 0)),
  (17, ([], .getfield 184, 3, 9, 8, 0, 0)),
  (20, ([], .ifCond .ne 12, 3, 32, 0, 0, 0)),
  (23, ([], .aload_n 2, 1, 2, 0, 0, 0)),
  (24, ([], .aload_n 0, 1, 0, 0, 0, 0)),
  (25, ([], .aload_n 2, 1, 2, 0, 0, 0)),
  (26, ([], .invokevirtual 287, 3, 1, 9, 0, 0)),
  (29, ([], .putfield 291, 3, 10, 8, 0, 0)),
  (32, ([false, false, true], .iinc 1 1, 3, 1, 0, 0, 1)),
  (35, ([], .goto (-33), 3, 2, 0, 0, 0)),
  (38, ([], .return_, 1, 0, 0, 0, 0))]
noncomputable def E_X6_sortAllAsked : Kt := exL SKc SKn SKr CS (lkp T_X6_sortAllAsked) [F_X6_requestAt, F_X6_sortNow] [] []
noncomputable def F_X6_sortAllAsked : Fn := fun as h => E_X6_sortAllAsked 0 (pad 3 as) [] h
noncomputable def f_X6_sortAllAsked_2 (x1 : Int32) (h : Hp) : Res := E_X6_sortAllAsked 2 [.ref 0, .int x1, .retAddr 0] [] h
noncomputable def f_X6_sortAllAsked_32 (x1 : Int32) (h : Hp) : Res := E_X6_sortAllAsked 32 [.ref 0, .int x1, .retAddr 0] [] h
set_option maxRecDepth 100000 in
set_option maxHeartbeats 4000000 in
theorem e_X6_sortAllAsked_0 (h : Hp) : F_X6_sortAllAsked [.ref 0] h = f_X6_sortAllAsked_2 0 h :=
  (exL_it SKc SKn SKr CS (lkp T_X6_sortAllAsked) [F_X6_requestAt, F_X6_sortNow] [] [] [2, 32] 2 0 [.ref 0, .retAddr 0, .retAddr 0] [] h).trans rfl
set_option maxRecDepth 100000 in
set_option maxHeartbeats 4000000 in
theorem e_X6_sortAllAsked_2 (x1 : Int32) (h : Hp) : f_X6_sortAllAsked_2 x1 h = if x1 < (rd h 0 10) then bR (F_X6_requestAt [.ref 0, .int x1] h) (fun v2 h1 => gd (okc v2 4) (if (rd h1 v2 9) = 0 then bI (F_X6_sortNow [.ref 0, .ref v2] h1) (fun v4 h3 => gd (okc v2 4) (f_X6_sortAllAsked_32 x1 (wr h3 v2 10 v4))) (hnk []) else f_X6_sortAllAsked_32 x1 h1)) (hnk []) else rtn none h :=
  (exL_it SKc SKn SKr CS (lkp T_X6_sortAllAsked) [F_X6_requestAt, F_X6_sortNow] [] [] [2, 32] 16 2 [.ref 0, .int x1, .retAddr 0] [] h).trans rfl
set_option maxRecDepth 100000 in
set_option maxHeartbeats 4000000 in
theorem e_X6_sortAllAsked_32 (x1 : Int32) (h : Hp) : f_X6_sortAllAsked_32 x1 h = f_X6_sortAllAsked_2 (x1 + 1) h :=
  (exL_it SKc SKn SKr CS (lkp T_X6_sortAllAsked) [F_X6_requestAt, F_X6_sortNow] [] [] [2, 32] 2 32 [.ref 0, .int x1, .retAddr 0] [] h).trans rfl

def T_X6_insertByWeeks : List (Nat × Ent) := [(0, ([], .aload_n 0, 1, 0, 0, 0, 0)),
  (1, ([], .iload_n 1, 1, 1, 0, 0, 0)),
  (2, ([], .invokevirtual 128, 3, 0, 10, 0, 0)),
  (5, ([], .invokevirtual 409, 3, 1, 5, 0, 0)),
  (8, ([], .istore 5, 2, 5, 0, 0, 0)),
  (10, ([], .iload 4, 2, 4, 0, 0, 0)),
  (12, ([], .istore 6, 2, 6, 0, 0, 0)),
  (14, ([false, false, false, false, true, false, false], .iload 6, 2, 6, 0, 0, 0)),
  (16, ([], .iload_n 3, 1, 3, 0, 0, 0)),
  (17, ([], .if_icmp .le 44, 3, 61, 0, 0, 0)),
  (20, ([], .iload 6, 2, 6, 0, 0, 0)),
  (22, ([], .aload_n 2, 1, 2, 0, 0, 0)),
  (23, ([], .arraylength, 1, 0, 0, 0, 0)),
  (24, ([], .if_icmp .ge 37, 3, 61, 0, 0, 0)),
  (27, ([], .aload_n 0, 1, 0, 0, 0, 0)),
  (28, ([], .aload_n 2, 1, 2, 0, 0, 0)),
  (29, ([], .iload 6, 2, 6, 0, 0, 0)),
  (31, ([], .iconst 1, 1, 0, 0, 0, 1)),
  (32, ([], .isub, 1, 0, 0, 0, 0)),
  (33, ([], .iaload, 1, 0, 0, 0, 0)),
  (34, ([], .invokevirtual 128, 3, 0, 10, 0, 0)),
  (37, ([], .invokevirtual 409, 3, 1, 5, 0, 0)),
  (40, ([], .iload 5, 2, 5, 0, 0, 0)),
  (42, ([], .if_icmp .ge 19, 3, 61, 0, 0, 0)),
  (45, ([], .aload_n 2, 1, 2, 0, 0, 0)),
  (46, ([], .iload 6, 2, 6, 0, 0, 0)),
  (48, ([], .aload_n 2, 1, 2, 0, 0, 0)),
  (49, ([], .iload 6, 2, 6, 0, 0, 0)),
  (51, ([], .iconst 1, 1, 0, 0, 0, 1)),
  (52, ([], .isub, 1, 0, 0, 0, 0)),
  (53, ([], .iaload, 1, 0, 0, 0, 0)),
  (54, ([], .iastore, 1, 0, 0, 0, 0)),
  (55, ([], .iinc 6 (-1), 3, 6, 0, 0, (-1))),
  (58, ([], .goto (-44), 3, 14, 0, 0, 0)),
  (61, ([true, false, false, true, true, true, false], .iload 6, 2, 6, 0, 0, 0)),
  (63, ([], .ifCond .lt 15, 3, 78, 0, 0, 0)),
  (66, ([], .iload 6, 2, 6, 0, 0, 0)),
  (68, ([], .aload_n 2, 1, 2, 0, 0, 0)),
  (69, ([], .arraylength, 1, 0, 0, 0, 0)),
  (70, ([], .if_icmp .ge 8, 3, 78, 0, 0, 0)),
  (73, ([], .aload_n 2, 1, 2, 0, 0, 0)),
  (74, ([], .iload 6, 2, 6, 0, 0, 0)),
  (76, ([], .iload_n 1, 1, 1, 0, 0, 0)),
  (77, ([], .iastore, 1, 0, 0, 0, 0)),
  (78, ([], .return_, 1, 0, 0, 0, 0))]
noncomputable def E_X6_insertByWeeks : Kt := exL SKc SKn SKr CS (lkp T_X6_insertByWeeks) [F_X6_requestAt, F_X5_weeks] [] []
noncomputable def F_X6_insertByWeeks : Fn := fun as h => E_X6_insertByWeeks 0 (pad 7 as) [] h
noncomputable def f_X6_insertByWeeks_14 (x1 : Int32) (a2 : Nat) (x3 : Int32) (x5 : Int32) (x6 : Int32) (h : Hp) : Res := E_X6_insertByWeeks 14 [.ref 0, .int x1, .ref a2, .int x3, .retAddr 0, .int x5, .int x6] [] h
noncomputable def f_X6_insertByWeeks_61 (x1 : Int32) (a2 : Nat) (x6 : Int32) (h : Hp) : Res := E_X6_insertByWeeks 61 [.retAddr 0, .int x1, .ref a2, .retAddr 0, .retAddr 0, .retAddr 0, .int x6] [] h
set_option maxRecDepth 100000 in
set_option maxHeartbeats 4000000 in
theorem e_X6_insertByWeeks_0 (x1 : Int32) (a2 : Nat) (x3 : Int32) (x4 : Int32) (h : Hp) : F_X6_insertByWeeks [.ref 0, .int x1, .ref a2, .int x3, .int x4] h = bR (F_X6_requestAt [.ref 0, .int x1] h) (fun v2 h1 => bI (F_X5_weeks [.ref v2] h1) (fun v4 h3 => f_X6_insertByWeeks_14 x1 a2 x3 v4 x4 h3) (hnk [])) (hnk []) :=
  (exL_it SKc SKn SKr CS (lkp T_X6_insertByWeeks) [F_X6_requestAt, F_X5_weeks] [] [] [14, 61] 7 0 [.ref 0, .int x1, .ref a2, .int x3, .int x4, .retAddr 0, .retAddr 0] [] h).trans rfl
set_option maxRecDepth 100000 in
set_option maxHeartbeats 4000000 in
theorem e_X6_insertByWeeks_14 (x1 : Int32) (a2 : Nat) (x3 : Int32) (x5 : Int32) (x6 : Int32) (h : Hp) : f_X6_insertByWeeks_14 x1 a2 x3 x5 x6 h = if x3 < x6 then gd (memb (SKc a2) [10, 11, 12, 13, 14, 15, 16, 17, 18]) (if x6 < (Int32.ofNat (alen SKn h a2)) then gd (memb (SKc a2) [10, 18] && inb (x6 - 1) (alen SKn h a2)) (bR (F_X6_requestAt [.ref 0, .int (rd h a2 ((x6 - 1).toNatClampNeg))] h) (fun v2 h1 => bI (F_X5_weeks [.ref v2] h1) (fun v4 h3 => if v4 < x5 then gd (memb (SKc a2) [10, 18] && inb (x6 - 1) (alen SKn h3 a2)) (gd (Nat.beq (SKc a2) 10 && inb x6 (SKn a2)) (f_X6_insertByWeeks_14 x1 a2 x3 x5 (x6 + (-1)) (wr h3 a2 x6.toNatClampNeg (rd h3 a2 ((x6 - 1).toNatClampNeg))))) else f_X6_insertByWeeks_61 x1 a2 x6 h3) (hnk [])) (hnk [])) else f_X6_insertByWeeks_61 x1 a2 x6 h) else f_X6_insertByWeeks_61 x1 a2 x6 h :=
  (exL_it SKc SKn SKr CS (lkp T_X6_insertByWeeks) [F_X6_requestAt, F_X5_weeks] [] [] [14, 61] 27 14 [.ref 0, .int x1, .ref a2, .int x3, .retAddr 0, .int x5, .int x6] [] h).trans rfl
set_option maxRecDepth 100000 in
set_option maxHeartbeats 4000000 in
theorem e_X6_insertByWeeks_61 (x1 : Int32) (a2 : Nat) (x6 : Int32) (h : Hp) : f_X6_insertByWeeks_61 x1 a2 x6 h = if x6 < 0 then rtn none h else gd (memb (SKc a2) [10, 11, 12, 13, 14, 15, 16, 17, 18]) (if x6 < (Int32.ofNat (alen SKn h a2)) then gd (Nat.beq (SKc a2) 10 && inb x6 (SKn a2)) (rtn none (wr h a2 x6.toNatClampNeg x1)) else rtn none h) :=
  (exL_it SKc SKn SKr CS (lkp T_X6_insertByWeeks) [F_X6_requestAt, F_X5_weeks] [] [] [14, 61] 11 61 [.retAddr 0, .int x1, .ref a2, .retAddr 0, .retAddr 0, .retAddr 0, .int x6] [] h).trans rfl

def T_X6_addAskedOf : List (Nat × Ent) := [(0, ([], .iload_n 3, 1, 3, 0, 0, 0)),
  (1, ([], .istore 4, 2, 4, 0, 0, 0)),
  (3, ([], .iconst 0, 1, 0, 0, 0, 0)),
  (4, ([], .istore 5, 2, 5, 0, 0, 0)),
  (6, ([false, false, false, false, false, false, true], .iload 5, 2, 5, 0, 0, 0)),
  (8, ([], .aload_n 0, 1, 0, 0, 0, 0)),
  (9, ([], .getfield 117, 3, 10, 0, 0, 0)),
  (12, ([], .if_icmp .ge 54, 3, 66, 0, 0, 0)),
  (15, ([], .iload 4, 2, 4, 0, 0, 0)),
  (17, ([], .aload_n 2, 1, 2, 0, 0, 0)),
  (18, ([], .arraylength, 1, 0, 0, 0, 0)),
  (19, ([], .if_icmp .ge 47, 3, 66, 0, 0, 0)),
  (22, ([], .aload_n 0, 1, 0, 0, 0, 0)),
  (23, ([], .iload 5, 2, 5, 0, 0, 0)),
  (25, ([], .invokevirtual 128, 3, 0, 10, 0, 0)),
  (28, ([], .astore 6, 2, 6, 0, 0, 0)),
  (30, ([], .aload 6, 2, 6, 0, 0, 0)),
  (32, ([], .getfield 184, 3, 9, 8, 0, 0)),
  (35, ([], .ifCond .ne 25, 3, 60, 0, 0, 0)),
  (38, ([], .aload 6, 2, 6, 0, 0, 0)),
  (40, ([], .getfield 291, 3, 10, 8, 0, 0)),
  (43, ([], .iload_n 1, 1, 1, 0, 0, 0)),
  (44, ([], .if_icmp .ne 16, 3, 60, 0, 0, 0)),
  (47, ([], .aload_n 0, 1, 0, 0, 0, 0)),
  (48, ([], .iload 5, 2, 5, 0, 0, 0)),
  (50, ([], .aload_n 2, 1, 2, 0, 0, 0)),
  (51, ([], .iload_n 3, 1, 3, 0, 0, 0)),
  (52, ([], .iload 4, 2, 4, 0, 0, 0)),
  (54, ([], .invokevirtual 405, 3, 1, 20, 0, 0)),
  (57, ([], .iinc 4 1, 3, 4, 0, 0, 1)),
  (60, ([false, false, false, false, false, false, true], .iinc 5 1, 3, 5, 0, 0, 1)),
  (63, ([], .goto (-57), 3, 6, 0, 0, 0)),
  (66, ([], .iload 4, 2, 4, 0, 0, 0)),
  (68, ([], .ireturn, 1, 0, 0, 0, 0))]
noncomputable def E_X6_addAskedOf : Kt := exL SKc SKn SKr CS (lkp T_X6_addAskedOf) [F_X6_requestAt, F_X6_insertByWeeks] [] []
noncomputable def F_X6_addAskedOf : Fn := fun as h => E_X6_addAskedOf 0 (pad 7 as) [] h
noncomputable def f_X6_addAskedOf_6 (x1 : Int32) (a2 : Nat) (x3 : Int32) (x4 : Int32) (x5 : Int32) (h : Hp) : Res := E_X6_addAskedOf 6 [.ref 0, .int x1, .ref a2, .int x3, .int x4, .int x5, .retAddr 0] [] h
noncomputable def f_X6_addAskedOf_60 (x1 : Int32) (a2 : Nat) (x3 : Int32) (x4 : Int32) (x5 : Int32) (h : Hp) : Res := E_X6_addAskedOf 60 [.ref 0, .int x1, .ref a2, .int x3, .int x4, .int x5, .retAddr 0] [] h
set_option maxRecDepth 100000 in
set_option maxHeartbeats 4000000 in
theorem e_X6_addAskedOf_0 (x1 : Int32) (a2 : Nat) (x3 : Int32) (h : Hp) : F_X6_addAskedOf [.ref 0, .int x1, .ref a2, .int x3] h = f_X6_addAskedOf_6 x1 a2 x3 x3 0 h :=
  (exL_it SKc SKn SKr CS (lkp T_X6_addAskedOf) [F_X6_requestAt, F_X6_insertByWeeks] [] [] [6, 60] 4 0 [.ref 0, .int x1, .ref a2, .int x3, .retAddr 0, .retAddr 0, .retAddr 0] [] h).trans rfl
set_option maxRecDepth 100000 in
set_option maxHeartbeats 4000000 in
theorem e_X6_addAskedOf_6 (x1 : Int32) (a2 : Nat) (x3 : Int32) (x4 : Int32) (x5 : Int32) (h : Hp) : f_X6_addAskedOf_6 x1 a2 x3 x4 x5 h = if x5 < (rd h 0 10) then gd (memb (SKc a2) [10, 11, 12, 13, 14, 15, 16, 17, 18]) (if x4 < (Int32.ofNat (alen SKn h a2)) then bR (F_X6_requestAt [.ref 0, .int x5] h) (fun v2 h1 => gd (okc v2 4) (if (rd h1 v2 9) = 0 then gd (okc v2 4) (if (rd h1 v2 10) = x1 then bV (F_X6_insertByWeeks [.ref 0, .int x5, .ref a2, .int x3, .int x4] h1) (fun h3 => f_X6_addAskedOf_60 x1 a2 x3 (x4 + 1) x5 h3) (hnk []) else f_X6_addAskedOf_60 x1 a2 x3 x4 x5 h1) else f_X6_addAskedOf_60 x1 a2 x3 x4 x5 h1)) (hnk []) else rtn (some (.int x4)) h) else rtn (some (.int x4)) h :=
  (exL_it SKc SKn SKr CS (lkp T_X6_addAskedOf) [F_X6_requestAt, F_X6_insertByWeeks] [] [] [6, 60] 26 6 [.ref 0, .int x1, .ref a2, .int x3, .int x4, .int x5, .retAddr 0] [] h).trans rfl
set_option maxRecDepth 100000 in
set_option maxHeartbeats 4000000 in
theorem e_X6_addAskedOf_60 (x1 : Int32) (a2 : Nat) (x3 : Int32) (x4 : Int32) (x5 : Int32) (h : Hp) : f_X6_addAskedOf_60 x1 a2 x3 x4 x5 h = f_X6_addAskedOf_6 x1 a2 x3 x4 (x5 + 1) h :=
  (exL_it SKc SKn SKr CS (lkp T_X6_addAskedOf) [F_X6_requestAt, F_X6_insertByWeeks] [] [] [6, 60] 2 60 [.ref 0, .int x1, .ref a2, .int x3, .int x4, .int x5, .retAddr 0] [] h).trans rfl

def T_X6_putAskedInOrder : List (Nat × Ent) := [(0, ([], .aload_n 0, 1, 0, 0, 0, 0)),
  (1, ([], .iconst 0, 1, 0, 0, 0, 0)),
  (2, ([], .aload_n 0, 1, 0, 0, 0, 0)),
  (3, ([], .getfield 40, 3, 6, 1, 0, 0)),
  (6, ([], .iconst 0, 1, 0, 0, 0, 0)),
  (7, ([], .invokevirtual 401, 3, 0, 17, 0, 0)),
  (10, ([], .istore_n 1, 1, 1, 0, 0, 0)),
  (11, ([], .aload_n 0, 1, 0, 0, 0, 0)),
  (12, ([], .iconst 1, 1, 0, 0, 0, 1)),
  (13, ([], .aload_n 0, 1, 0, 0, 0, 0)),
  (14, ([], .getfield 40, 3, 6, 1, 0, 0)),
  (17, ([], .iload_n 1, 1, 1, 0, 0, 0)),
  (18, ([], .invokevirtual 401, 3, 0, 17, 0, 0)),
  (21, ([], .istore_n 1, 1, 1, 0, 0, 0)),
  (22, ([], .aload_n 0, 1, 0, 0, 0, 0)),
  (23, ([], .iconst 2, 1, 0, 0, 0, 2)),
  (24, ([], .aload_n 0, 1, 0, 0, 0, 0)),
  (25, ([], .getfield 43, 3, 7, 1, 0, 0)),
  (28, ([], .iconst 0, 1, 0, 0, 0, 0)),
  (29, ([], .invokevirtual 401, 3, 0, 17, 0, 0)),
  (32, ([], .istore_n 2, 1, 2, 0, 0, 0)),
  (33, ([], .aload_n 0, 1, 0, 0, 0, 0)),
  (34, ([], .iconst 3, 1, 0, 0, 0, 3)),
  (35, ([], .aload_n 0, 1, 0, 0, 0, 0)),
  (36, ([], .getfield 46, 3, 8, 1, 0, 0)),
  (39, ([], .iconst 0, 1, 0, 0, 0, 0)),
  (40, ([], .invokevirtual 401, 3, 0, 17, 0, 0)),
  (43, ([], .istore_n 3, 1, 3, 0, 0, 0)),
  (44, ([], .iconst 0, 1, 0, 0, 0, 0)),
  (45, ([], .istore 4, 2, 4, 0, 0, 0)),
  (47, ([false, false, false, false, false], .iload 4, 2, 4, 0, 0, 0)),
  (49, ([], .bipush 60, 2, 0, 0, 0, 60)),
  (51, ([], .if_icmp .ge 71, 3, 122, 0, 0, 0)),
  (54, ([], .iload 4, 2, 4, 0, 0, 0)),
  (56, ([], .iload_n 2, 1, 2, 0, 0, 0)),
  (57, ([], .if_icmp .ge 28, 3, 85, 0, 0, 0)),
  (60, ([], .iload_n 1, 1, 1, 0, 0, 0)),
  (61, ([], .aload_n 0, 1, 0, 0, 0, 0)),
  (62, ([], .getfield 40, 3, 6, 1, 0, 0)),
  (65, ([], .arraylength, 1, 0, 0, 0, 0)),
  (66, ([], .if_icmp .ge 19, 3, 85, 0, 0, 0)),
  (69, ([], .aload_n 0, 1, 0, 0, 0, 0)),
  (70, ([], .getfield 40, 3, 6, 1, 0, 0)),
  (73, ([], .iload_n 1, 1, 1, 0, 0, 0)),
  (74, ([], .aload_n 0, 1, 0, 0, 0, 0)),
  (75, ([], .getfield 43, 3, 7, 1, 0, 0)),
  (78, ([], .iload 4, 2, 4, 0, 0, 0)),
  (80, ([], .iaload, 1, 0, 0, 0, 0)),
  (81, ([], .iastore, 1, 0, 0, 0, 0)),
  (82, ([], .iinc 1 1, 3, 1, 0, 0, 1)),
  (85, ([false, false, false, false, false], .iload 4, 2, 4, 0, 0, 0)),
  (87, ([], .iload_n 3, 1, 3, 0, 0, 0)),
  (88, ([], .if_icmp .ge 28, 3, 116, 0, 0, 0)),
  (91, ([], .iload_n 1, 1, 1, 0, 0, 0)),
  (92, ([], .aload_n 0, 1, 0, 0, 0, 0)),
  (93, ([], .getfield 40, 3, 6, 1, 0, 0)),
  (96, ([], .arraylength, 1, 0, 0, 0, 0)),
  (97, ([], .if_icmp .ge 19, 3, 116, 0, 0, 0)),
  (100, ([], .aload_n 0, 1, 0, 0, 0, 0)),
  (101, ([], .getfield 40, 3, 6, 1, 0, 0)),
  (104, ([], .iload_n 1, 1, 1, 0, 0, 0)),
  (105, ([], .aload_n 0, 1, 0, 0, 0, 0)),
  (106, ([], .getfield 46, 3, 8, 1, 0, 0)),
  (109, ([], .iload 4, 2, 4, 0, 0, 0)),
  (111, ([], .iaload, 1, 0, 0, 0, 0)),
  (112, ([], .iastore, 1, 0, 0, 0, 0)),
  (113, ([], .iinc 1 1, 3, 1, 0, 0, 1)),
  (116, ([false, false, false, false, false], .iinc 4 1, 3, 4, 0, 0, 1)),
  (119, ([], .goto (-72), 3, 47, 0, 0, 0)),
  (122, ([], .iload_n 1, 1, 1, 0, 0, 0)),
  (123, ([], .ireturn, 1, 0, 0, 0, 0))]
noncomputable def E_X6_putAskedInOrder : Kt := exL SKc SKn SKr CS (lkp T_X6_putAskedInOrder) [F_X6_addAskedOf] [] []
noncomputable def F_X6_putAskedInOrder : Fn := fun as h => E_X6_putAskedInOrder 0 (pad 5 as) [] h
noncomputable def f_X6_putAskedInOrder_47 (x1 : Int32) (x2 : Int32) (x3 : Int32) (x4 : Int32) (h : Hp) : Res := E_X6_putAskedInOrder 47 [.ref 0, .int x1, .int x2, .int x3, .int x4] [] h
noncomputable def f_X6_putAskedInOrder_85 (x1 : Int32) (x2 : Int32) (x3 : Int32) (x4 : Int32) (h : Hp) : Res := E_X6_putAskedInOrder 85 [.ref 0, .int x1, .int x2, .int x3, .int x4] [] h
noncomputable def f_X6_putAskedInOrder_116 (x1 : Int32) (x2 : Int32) (x3 : Int32) (x4 : Int32) (h : Hp) : Res := E_X6_putAskedInOrder 116 [.ref 0, .int x1, .int x2, .int x3, .int x4] [] h
set_option maxRecDepth 100000 in
set_option maxHeartbeats 4000000 in
theorem e_X6_putAskedInOrder_0 (h : Hp) : F_X6_putAskedInOrder [.ref 0] h = bI (F_X6_addAskedOf [.ref 0, .int 0, .ref 7, .int 0] h) (fun v2 h1 => bI (F_X6_addAskedOf [.ref 0, .int 1, .ref 7, .int v2] h1) (fun v4 h3 => bI (F_X6_addAskedOf [.ref 0, .int 2, .ref 8, .int 0] h3) (fun v6 h5 => bI (F_X6_addAskedOf [.ref 0, .int 3, .ref 9, .int 0] h5) (fun v8 h7 => f_X6_putAskedInOrder_47 v4 v6 v8 0 h7) (hnk [])) (hnk [])) (hnk [])) (hnk []) :=
  (exL_it SKc SKn SKr CS (lkp T_X6_putAskedInOrder) [F_X6_addAskedOf] [] [] [47, 85, 116] 30 0 [.ref 0, .retAddr 0, .retAddr 0, .retAddr 0, .retAddr 0] [] h).trans rfl
set_option maxRecDepth 100000 in
set_option maxHeartbeats 4000000 in
theorem e_X6_putAskedInOrder_47 (x1 : Int32) (x2 : Int32) (x3 : Int32) (x4 : Int32) (h : Hp) : f_X6_putAskedInOrder_47 x1 x2 x3 x4 h = if x4 < 60 then if x4 < x2 then if x1 < 60 then gd (inb x4 60) (gd (inb x1 60) (f_X6_putAskedInOrder_85 (x1 + 1) x2 x3 x4 (wr h 7 x1.toNatClampNeg (rd h 8 x4.toNatClampNeg)))) else f_X6_putAskedInOrder_85 x1 x2 x3 x4 h else f_X6_putAskedInOrder_85 x1 x2 x3 x4 h else rtn (some (.int x1)) h :=
  (exL_it SKc SKn SKr CS (lkp T_X6_putAskedInOrder) [F_X6_addAskedOf] [] [] [47, 85, 116] 20 47 [.ref 0, .int x1, .int x2, .int x3, .int x4] [] h).trans rfl
set_option maxRecDepth 100000 in
set_option maxHeartbeats 4000000 in
theorem e_X6_putAskedInOrder_85 (x1 : Int32) (x2 : Int32) (x3 : Int32) (x4 : Int32) (h : Hp) : f_X6_putAskedInOrder_85 x1 x2 x3 x4 h = if x4 < x3 then if x1 < 60 then gd (inb x4 60) (gd (inb x1 60) (f_X6_putAskedInOrder_116 (x1 + 1) x2 x3 x4 (wr h 7 x1.toNatClampNeg (rd h 9 x4.toNatClampNeg)))) else f_X6_putAskedInOrder_116 x1 x2 x3 x4 h else f_X6_putAskedInOrder_116 x1 x2 x3 x4 h :=
  (exL_it SKc SKn SKr CS (lkp T_X6_putAskedInOrder) [F_X6_addAskedOf] [] [] [47, 85, 116] 17 85 [.ref 0, .int x1, .int x2, .int x3, .int x4] [] h).trans rfl
set_option maxRecDepth 100000 in
set_option maxHeartbeats 4000000 in
theorem e_X6_putAskedInOrder_116 (x1 : Int32) (x2 : Int32) (x3 : Int32) (x4 : Int32) (h : Hp) : f_X6_putAskedInOrder_116 x1 x2 x3 x4 h = f_X6_putAskedInOrder_47 x1 x2 x3 (x4 + 1) h :=
  (exL_it SKc SKn SKr CS (lkp T_X6_putAskedInOrder) [F_X6_addAskedOf] [] [] [47, 85, 116] 2 116 [.ref 0, .int x1, .int x2, .int x3, .int x4] [] h).trans rfl

def T_X6_isByNight : List (Nat × Ent) := [(0, ([], .iload_n 0, 1, 0, 0, 0, 0)),
  (1, ([], .bipush 18, 2, 0, 0, 0, 18)),
  (3, ([], .if_icmp .lt 9, 3, 12, 0, 0, 0)),
  (6, ([], .iload_n 0, 1, 0, 0, 0, 0)),
  (7, ([], .bipush 65, 2, 0, 0, 0, 65)),
  (9, ([], .if_icmp .le 7, 3, 16, 0, 0, 0)),
  (12, ([], .iconst 1, 1, 0, 0, 0, 1)),
  (13, ([], .goto 4, 3, 17, 0, 0, 0)),
  (16, ([], .iconst 0, 1, 0, 0, 0, 0)),
  (17, ([], .ireturn, 1, 0, 0, 0, 0))]
noncomputable def E_X6_isByNight : Kt := exL SKc SKn SKr CS (lkp T_X6_isByNight) [] [] []
noncomputable def F_X6_isByNight : Fn := fun as h => E_X6_isByNight 0 (pad 1 as) [] h
set_option maxRecDepth 100000 in
set_option maxHeartbeats 4000000 in
theorem e_X6_isByNight_0 (x0 : Int32) (h : Hp) : F_X6_isByNight [.int x0] h = if x0 < 18 then rtn (some (.int 1)) h else if 65 < x0 then rtn (some (.int 1)) h else rtn (some (.int 0)) h :=
  (exL_it SKc SKn SKr CS (lkp T_X6_isByNight) [] [] [] [] 9 0 [.int x0] [] h).trans rfl

def T_X6_noiseByNight : List (Nat × Ent) := [(0, ([], .iconst 0, 1, 0, 0, 0, 0)),
  (1, ([], .istore_n 2, 1, 2, 0, 0, 0)),
  (2, ([], .iconst 0, 1, 0, 0, 0, 0)),
  (3, ([], .istore_n 3, 1, 3, 0, 0, 0)),
  (4, ([false, false, false, false, true], .iload_n 3, 1, 3, 0, 0, 0)),
  (5, ([], .aload_n 0, 1, 0, 0, 0, 0)),
  (6, ([], .getfield 268, 3, 11, 0, 0, 0)),
  (9, ([], .if_icmp .ge 52, 3, 61, 0, 0, 0)),
  (12, ([], .aload_n 0, 1, 0, 0, 0, 0)),
  (13, ([], .iload_n 3, 1, 3, 0, 0, 0)),
  (14, ([], .invokevirtual 206, 3, 0, 10, 0, 0)),
  (17, ([], .astore 4, 2, 4, 0, 0, 0)),
  (19, ([], .aload 4, 2, 4, 0, 0, 0)),
  (21, ([], .getfield 210, 3, 12, 10, 0, 0)),
  (24, ([], .ifCond .ne 31, 3, 55, 0, 0, 0)),
  (27, ([], .aload 4, 2, 4, 0, 0, 0)),
  (29, ([], .getfield 218, 3, 0, 10, 0, 0)),
  (32, ([], .iload_n 1, 1, 1, 0, 0, 0)),
  (33, ([], .if_icmp .ne 22, 3, 55, 0, 0, 0)),
  (36, ([], .aload 4, 2, 4, 0, 0, 0)),
  (38, ([], .getfield 242, 3, 3, 10, 0, 0)),
  (41, ([], .invokestatic 359, 3, 1, 5, 0, 0)),
  (44, ([], .ifCond .eq 11, 3, 55, 0, 0, 0)),
  (47, ([], .iload_n 2, 1, 2, 0, 0, 0)),
  (48, ([], .aload 4, 2, 4, 0, 0, 0)),
  (50, ([], .invokevirtual 392, 3, 2, 5, 0, 0)),
  (53, ([], .iadd, 1, 0, 0, 0, 0)),
  (54, ([], .istore_n 2, 1, 2, 0, 0, 0)),
  (55, ([false, false, false, false, true], .iinc 3 1, 3, 3, 0, 0, 1)),
  (58, ([], .goto (-54), 3, 4, 0, 0, 0)),
  (61, ([], .iload_n 2, 1, 2, 0, 0, 0)),
  (62, ([], .ireturn, 1, 0, 0, 0, 0))]
noncomputable def E_X6_noiseByNight : Kt := exL SKc SKn SKr CS (lkp T_X6_noiseByNight) [F_X6_seriesAt, F_X6_isByNight, F_X5_wholeNoise] [] []
noncomputable def F_X6_noiseByNight : Fn := fun as h => E_X6_noiseByNight 0 (pad 5 as) [] h
noncomputable def f_X6_noiseByNight_4 (x1 : Int32) (x2 : Int32) (x3 : Int32) (h : Hp) : Res := E_X6_noiseByNight 4 [.ref 0, .int x1, .int x2, .int x3, .retAddr 0] [] h
noncomputable def f_X6_noiseByNight_55 (x1 : Int32) (x2 : Int32) (x3 : Int32) (h : Hp) : Res := E_X6_noiseByNight 55 [.ref 0, .int x1, .int x2, .int x3, .retAddr 0] [] h
set_option maxRecDepth 100000 in
set_option maxHeartbeats 4000000 in
theorem e_X6_noiseByNight_0 (x1 : Int32) (h : Hp) : F_X6_noiseByNight [.ref 0, .int x1] h = f_X6_noiseByNight_4 x1 0 0 h :=
  (exL_it SKc SKn SKr CS (lkp T_X6_noiseByNight) [F_X6_seriesAt, F_X6_isByNight, F_X5_wholeNoise] [] [] [4, 55] 4 0 [.ref 0, .int x1, .retAddr 0, .retAddr 0, .retAddr 0] [] h).trans rfl
set_option maxRecDepth 100000 in
set_option maxHeartbeats 4000000 in
theorem e_X6_noiseByNight_4 (x1 : Int32) (x2 : Int32) (x3 : Int32) (h : Hp) : f_X6_noiseByNight_4 x1 x2 x3 h = if x3 < (rd h 0 11) then bR (F_X6_seriesAt [.ref 0, .int x3] h) (fun v2 h1 => gd (okc v2 5) (if (rd h1 v2 12) = 0 then gd (okc v2 5) (if (rd h1 v2 0) = x1 then gd (okc v2 5) (bI (F_X6_isByNight [.int (rd h1 v2 3)] h1) (fun v4 h3 => if v4 = 0 then f_X6_noiseByNight_55 x1 x2 x3 h3 else bI (F_X5_wholeNoise [.ref v2] h3) (fun v6 h5 => f_X6_noiseByNight_55 x1 (x2 + v6) x3 h5) (hnk [])) (hnk [])) else f_X6_noiseByNight_55 x1 x2 x3 h1) else f_X6_noiseByNight_55 x1 x2 x3 h1)) (hnk []) else rtn (some (.int x2)) h :=
  (exL_it SKc SKn SKr CS (lkp T_X6_noiseByNight) [F_X6_seriesAt, F_X6_isByNight, F_X5_wholeNoise] [] [] [4, 55] 24 4 [.ref 0, .int x1, .int x2, .int x3, .retAddr 0] [] h).trans rfl
set_option maxRecDepth 100000 in
set_option maxHeartbeats 4000000 in
theorem e_X6_noiseByNight_55 (x1 : Int32) (x2 : Int32) (x3 : Int32) (h : Hp) : f_X6_noiseByNight_55 x1 x2 x3 h = f_X6_noiseByNight_4 x1 x2 (x3 + 1) h :=
  (exL_it SKc SKn SKr CS (lkp T_X6_noiseByNight) [F_X6_seriesAt, F_X6_isByNight, F_X5_wholeNoise] [] [] [4, 55] 2 55 [.ref 0, .int x1, .int x2, .int x3, .retAddr 0] [] h).trans rfl

def T_X6_isWindowFull : List (Nat × Ent) := [(0, ([], .aload_n 1, 1, 1, 0, 0, 0)),
  (1, ([], .getfield 91, 3, 2, 6, 0, 0)),
  (4, ([], .iconst 1, 1, 0, 0, 0, 1)),
  (5, ([], .if_icmp .ge 5, 3, 10, 0, 0, 0)),
  (8, ([], .iconst 1, 1, 0, 0, 0, 1)),
  (9, ([], .ireturn, 1, 0, 0, 0, 0)),
  (10, ([], .iconst 0, 1, 0, 0, 0, 0)),
  (11, ([], .istore 4, 2, 4, 0, 0, 0)),
  (13, ([false, false, false, false, false, true, true, true], .iload 4, 2, 4, 0, 0, 0)),
  (15, ([], .aload_n 0, 1, 0, 0, 0, 0)),
  (16, ([], .getfield 49, 3, 9, 1, 0, 0)),
  (19, ([], .arraylength, 1, 0, 0, 0, 0)),
  (20, ([], .if_icmp .ge 17, 3, 37, 0, 0, 0)),
  (23, ([], .aload_n 0, 1, 0, 0, 0, 0)),
  (24, ([], .getfield 49, 3, 9, 1, 0, 0)),
  (27, ([], .iload 4, 2, 4, 0, 0, 0)),
  (29, ([], .iconst 0, 1, 0, 0, 0, 0)),
  (30, ([], .iastore, 1, 0, 0, 0, 0)),
  (31, ([], .iinc 4 1, 3, 4, 0, 0, 1)),
  (34, ([], .goto (-21), 3, 13, 0, 0, 0)),
  (37, ([], .iconst 0, 1, 0, 0, 0, 0)),
  (38, ([], .istore 4, 2, 4, 0, 0, 0)),
  (40, ([false, false, false, false, false, true, true, true], .iload 4, 2, 4, 0, 0, 0)),
  (42, ([], .aload_n 0, 1, 0, 0, 0, 0)),
  (43, ([], .getfield 268, 3, 11, 0, 0, 0)),
  (46, ([], .if_icmp .ge 131, 3, 177, 0, 0, 0)),
  (49, ([], .aload_n 0, 1, 0, 0, 0, 0)),
  (50, ([], .iload 4, 2, 4, 0, 0, 0)),
  (52, ([], .invokevirtual 206, 3, 0, 10, 0, 0)),
  (55, ([], .astore 5, 2, 5, 0, 0, 0)),
  (57, ([], .aload 5, 2, 5, 0, 0, 0)),
  (59, ([], .aload_n 3, 1, 3, 0, 0, 0)),
  (60, ([], .getfield 352, 3, 0, 14, 0, 0)),
  (63, ([], .aload_n 1, 1, 1, 0, 0, 0)),
  (64, ([], .getfield 83, 3, 0, 6, 0, 0)),
  (67, ([], .aload_n 3, 1, 3, 0, 0, 0)),
  (68, ([], .getfield 380, 3, 2, 14, 0, 0)),
  (71, ([], .invokevirtual 381, 3, 1, 17, 0, 0)),
  (74, ([], .ifCond .eq 24, 3, 98, 0, 0, 0)),
  (77, ([], .aload 5, 2, 5, 0, 0, 0)),
  (79, ([], .iload_n 2, 1, 2, 0, 0, 0)),
  (80, ([], .iload_n 2, 1, 2, 0, 0, 0)),
  (81, ([], .aload_n 1, 1, 1, 0, 0, 0)),
  (82, ([], .getfield 88, 3, 1, 6, 0, 0)),
  (85, ([], .iadd, 1, 0, 0, 0, 0)),
  (86, ([], .iconst 1, 1, 0, 0, 0, 1)),
  (87, ([], .isub, 1, 0, 0, 0, 0)),
  (88, ([], .invokevirtual 385, 3, 2, 13, 0, 0)),
  (91, ([], .ifCond .eq 7, 3, 98, 0, 0, 0)),
  (94, ([], .iconst 1, 1, 0, 0, 0, 1)),
  (95, ([], .goto 4, 3, 99, 0, 0, 0)),
  (98, ([false, false, false, false, false, false, true, true], .iconst 0, 1, 0, 0, 0, 0)),
  (99, ([false, false, false, false, false, false, true, true], .istore 6, 2, 6, 0, 0, 0)),
  (101, ([], .iconst 0, 1, 0, 0, 0, 0)),
  (102, ([], .istore 7, 2, 7, 0, 0, 0)),
  (104, ([false, false, false, false, false, false, false, false], .iload 6, 2, 6, 0, 0, 0)),
  (106, ([], .ifCond .eq 65, 3, 171, 0, 0, 0)),
  (109, ([], .iload 7, 2, 7, 0, 0, 0)),
  (111, ([], .aload_n 0, 1, 0, 0, 0, 0)),
  (112, ([], .getfield 49, 3, 9, 1, 0, 0)),
  (115, ([], .arraylength, 1, 0, 0, 0, 0)),
  (116, ([], .if_icmp .ge 55, 3, 171, 0, 0, 0)),
  (119, ([], .aload 5, 2, 5, 0, 0, 0)),
  (121, ([], .iload 7, 2, 7, 0, 0, 0)),
  (123, ([], .invokevirtual 388, 3, 3, 9, 0, 0)),
  (126, ([], .ifCond .eq 39, 3, 165, 0, 0, 0)),
  (129, ([], .aload_n 3, 1, 3, 0, 0, 0)),
  (130, ([], .iload 7, 2, 7, 0, 0, 0)),
  (132, ([], .invokevirtual 391, 3, 3, 9, 0, 0)),
  (135, ([], .ifCond .eq 30, 3, 165, 0, 0, 0)),
  (138, ([], .aload_n 0, 1, 0, 0, 0, 0)),
  (139, ([], .getfield 49, 3, 9, 1, 0, 0)),
  (142, ([], .iload 7, 2, 7, 0, 0, 0)),
  (144, ([], .dup2, 1, 0, 0, 0, 0)),
  (145, ([], .iaload, 1, 0, 0, 0, 0)),
  (146, ([], .iconst 1, 1, 0, 0, 0, 1)),
  (147, ([], .iadd, 1, 0, 0, 0, 0)),
  (148, ([], .iastore, 1, 0, 0, 0, 0)),
  (149, ([], .aload_n 0, 1, 0, 0, 0, 0)),
  (150, ([], .getfield 49, 3, 9, 1, 0, 0)),
  (153, ([], .iload 7, 2, 7, 0, 0, 0)),
  (155, ([], .iaload, 1, 0, 0, 0, 0)),
  (156, ([], .aload_n 1, 1, 1, 0, 0, 0)),
  (157, ([], .getfield 91, 3, 2, 6, 0, 0)),
  (160, ([], .if_icmp .lt 5, 3, 165, 0, 0, 0)),
  (163, ([], .iconst 1, 1, 0, 0, 0, 1)),
  (164, ([], .ireturn, 1, 0, 0, 0, 0)),
  (165, ([false, false, false, false, false, false, false, false], .iinc 7 1, 3, 7, 0, 0, 1)),
  (168, ([], .goto (-64), 3, 104, 0, 0, 0)),
  (171, ([false, false, false, false, false, true, true, true], .iinc 4 1, 3, 4, 0, 0, 1)),
  (174, ([], .goto (-134), 3, 40, 0, 0, 0)),
  (177, ([], .iconst 0, 1, 0, 0, 0, 0)),
  (178, ([], .ireturn, 1, 0, 0, 0, 0))]
noncomputable def E_X6_isWindowFull : Kt := exL SKc SKn SKr CS (lkp T_X6_isWindowFull) [F_X6_seriesAt, F_X4_isOn, F_X4_isBetween, F_X5_lastsIn] [] []
noncomputable def F_X6_isWindowFull : Fn := fun as h => E_X6_isWindowFull 0 (pad 8 as) [] h
noncomputable def f_X6_isWindowFull_13 (a1 : Nat) (x2 : Int32) (a3 : Nat) (x4 : Int32) (h : Hp) : Res := E_X6_isWindowFull 13 [.ref 0, .ref a1, .int x2, .ref a3, .int x4, .retAddr 0, .retAddr 0, .retAddr 0] [] h
noncomputable def f_X6_isWindowFull_40 (a1 : Nat) (x2 : Int32) (a3 : Nat) (x4 : Int32) (h : Hp) : Res := E_X6_isWindowFull 40 [.ref 0, .ref a1, .int x2, .ref a3, .int x4, .retAddr 0, .retAddr 0, .retAddr 0] [] h
noncomputable def f_X6_isWindowFull_98 (a1 : Nat) (x2 : Int32) (a3 : Nat) (x4 : Int32) (a5 : Nat) (h : Hp) : Res := E_X6_isWindowFull 98 [.ref 0, .ref a1, .int x2, .ref a3, .int x4, .ref a5, .retAddr 0, .retAddr 0] [] h
noncomputable def f_X6_isWindowFull_99 (a1 : Nat) (x2 : Int32) (a3 : Nat) (x4 : Int32) (a5 : Nat) (s0 : Int32) (h : Hp) : Res := E_X6_isWindowFull 99 [.ref 0, .ref a1, .int x2, .ref a3, .int x4, .ref a5, .retAddr 0, .retAddr 0] [.int s0] h
noncomputable def f_X6_isWindowFull_104 (a1 : Nat) (x2 : Int32) (a3 : Nat) (x4 : Int32) (a5 : Nat) (x6 : Int32) (x7 : Int32) (h : Hp) : Res := E_X6_isWindowFull 104 [.ref 0, .ref a1, .int x2, .ref a3, .int x4, .ref a5, .int x6, .int x7] [] h
noncomputable def f_X6_isWindowFull_165 (a1 : Nat) (x2 : Int32) (a3 : Nat) (x4 : Int32) (a5 : Nat) (x6 : Int32) (x7 : Int32) (h : Hp) : Res := E_X6_isWindowFull 165 [.ref 0, .ref a1, .int x2, .ref a3, .int x4, .ref a5, .int x6, .int x7] [] h
noncomputable def f_X6_isWindowFull_171 (a1 : Nat) (x2 : Int32) (a3 : Nat) (x4 : Int32) (h : Hp) : Res := E_X6_isWindowFull 171 [.ref 0, .ref a1, .int x2, .ref a3, .int x4, .retAddr 0, .retAddr 0, .retAddr 0] [] h
set_option maxRecDepth 100000 in
set_option maxHeartbeats 4000000 in
theorem e_X6_isWindowFull_0 (a1 : Nat) (x2 : Int32) (a3 : Nat) (h : Hp) : F_X6_isWindowFull [.ref 0, .ref a1, .int x2, .ref a3] h = gd (okc a1 3) (if (rd h a1 2) < 1 then rtn (some (.int 1)) h else f_X6_isWindowFull_13 a1 x2 a3 0 h) :=
  (exL_it SKc SKn SKr CS (lkp T_X6_isWindowFull) [F_X6_seriesAt, F_X4_isOn, F_X4_isBetween, F_X5_lastsIn] [] [] [13, 40, 98, 99, 104, 165, 171] 6 0 [.ref 0, .ref a1, .int x2, .ref a3, .retAddr 0, .retAddr 0, .retAddr 0, .retAddr 0] [] h).trans rfl
set_option maxRecDepth 100000 in
set_option maxHeartbeats 4000000 in
theorem e_X6_isWindowFull_13 (a1 : Nat) (x2 : Int32) (a3 : Nat) (x4 : Int32) (h : Hp) : f_X6_isWindowFull_13 a1 x2 a3 x4 h = if x4 < 20 then gd (inb x4 20) (f_X6_isWindowFull_13 a1 x2 a3 (x4 + 1) (wr h 10 x4.toNatClampNeg 0)) else f_X6_isWindowFull_40 a1 x2 a3 0 h :=
  (exL_it SKc SKn SKr CS (lkp T_X6_isWindowFull) [F_X6_seriesAt, F_X4_isOn, F_X4_isBetween, F_X5_lastsIn] [] [] [13, 40, 98, 99, 104, 165, 171] 12 13 [.ref 0, .ref a1, .int x2, .ref a3, .int x4, .retAddr 0, .retAddr 0, .retAddr 0] [] h).trans rfl
set_option maxRecDepth 100000 in
set_option maxHeartbeats 4000000 in
theorem e_X6_isWindowFull_40 (a1 : Nat) (x2 : Int32) (a3 : Nat) (x4 : Int32) (h : Hp) : f_X6_isWindowFull_40 a1 x2 a3 x4 h = if x4 < (rd h 0 11) then bR (F_X6_seriesAt [.ref 0, .int x4] h) (fun v2 h1 => gd (okc a3 7) (gd (okc a1 3) (gd (okc a3 7) (bI (F_X4_isOn [.ref v2, .int (rd h1 a3 0), .int (rd h1 a1 0), .int (rd h1 a3 2)] h1) (fun v4 h3 => if v4 = 0 then f_X6_isWindowFull_98 a1 x2 a3 x4 v2 h3 else gd (okc a1 3) (bI (F_X4_isBetween [.ref v2, .int x2, .int ((x2 + (rd h3 a1 1)) - 1)] h3) (fun v6 h5 => if v6 = 0 then f_X6_isWindowFull_98 a1 x2 a3 x4 v2 h5 else f_X6_isWindowFull_99 a1 x2 a3 x4 v2 1 h5) (hnk []))) (hnk []))))) (hnk []) else rtn (some (.int 0)) h :=
  (exL_it SKc SKn SKr CS (lkp T_X6_isWindowFull) [F_X6_seriesAt, F_X4_isOn, F_X4_isBetween, F_X5_lastsIn] [] [] [13, 40, 98, 99, 104, 165, 171] 29 40 [.ref 0, .ref a1, .int x2, .ref a3, .int x4, .retAddr 0, .retAddr 0, .retAddr 0] [] h).trans rfl
set_option maxRecDepth 100000 in
set_option maxHeartbeats 4000000 in
theorem e_X6_isWindowFull_98 (a1 : Nat) (x2 : Int32) (a3 : Nat) (x4 : Int32) (a5 : Nat) (h : Hp) : f_X6_isWindowFull_98 a1 x2 a3 x4 a5 h = f_X6_isWindowFull_99 a1 x2 a3 x4 a5 0 h :=
  (exL_it SKc SKn SKr CS (lkp T_X6_isWindowFull) [F_X6_seriesAt, F_X4_isOn, F_X4_isBetween, F_X5_lastsIn] [] [] [13, 40, 98, 99, 104, 165, 171] 1 98 [.ref 0, .ref a1, .int x2, .ref a3, .int x4, .ref a5, .retAddr 0, .retAddr 0] [] h).trans rfl
set_option maxRecDepth 100000 in
set_option maxHeartbeats 4000000 in
theorem e_X6_isWindowFull_99 (a1 : Nat) (x2 : Int32) (a3 : Nat) (x4 : Int32) (a5 : Nat) (s0 : Int32) (h : Hp) : f_X6_isWindowFull_99 a1 x2 a3 x4 a5 s0 h = f_X6_isWindowFull_104 a1 x2 a3 x4 a5 s0 0 h :=
  (exL_it SKc SKn SKr CS (lkp T_X6_isWindowFull) [F_X6_seriesAt, F_X4_isOn, F_X4_isBetween, F_X5_lastsIn] [] [] [13, 40, 98, 99, 104, 165, 171] 3 99 [.ref 0, .ref a1, .int x2, .ref a3, .int x4, .ref a5, .retAddr 0, .retAddr 0] [.int s0] h).trans rfl
set_option maxRecDepth 100000 in
set_option maxHeartbeats 4000000 in
theorem e_X6_isWindowFull_104 (a1 : Nat) (x2 : Int32) (a3 : Nat) (x4 : Int32) (a5 : Nat) (x6 : Int32) (x7 : Int32) (h : Hp) : f_X6_isWindowFull_104 a1 x2 a3 x4 a5 x6 x7 h = if x6 = 0 then f_X6_isWindowFull_171 a1 x2 a3 x4 h else if x7 < 20 then bI (F_X5_lastsIn [.ref a5, .int x7] h) (fun v2 h1 => if v2 = 0 then f_X6_isWindowFull_165 a1 x2 a3 x4 a5 x6 x7 h1 else bI (F_X5_lastsIn [.ref a3, .int x7] h1) (fun v4 h3 => if v4 = 0 then f_X6_isWindowFull_165 a1 x2 a3 x4 a5 x6 x7 h3 else gd (inb x7 20) (gd (inb x7 20) (gd (inb x7 20) (gd (okc a1 3) (if (rd (wr h3 10 x7.toNatClampNeg ((rd h3 10 x7.toNatClampNeg) + 1)) 10 x7.toNatClampNeg) < (rd (wr h3 10 x7.toNatClampNeg ((rd h3 10 x7.toNatClampNeg) + 1)) a1 2) then f_X6_isWindowFull_165 a1 x2 a3 x4 a5 x6 x7 (wr h3 10 x7.toNatClampNeg ((rd h3 10 x7.toNatClampNeg) + 1)) else rtn (some (.int 1)) (wr h3 10 x7.toNatClampNeg ((rd h3 10 x7.toNatClampNeg) + 1))))))) (hnk [])) (hnk []) else f_X6_isWindowFull_171 a1 x2 a3 x4 h :=
  (exL_it SKc SKn SKr CS (lkp T_X6_isWindowFull) [F_X6_seriesAt, F_X4_isOn, F_X4_isBetween, F_X5_lastsIn] [] [] [13, 40, 98, 99, 104, 165, 171] 32 104 [.ref 0, .ref a1, .int x2, .ref a3, .int x4, .ref a5, .int x6, .int x7] [] h).trans rfl
set_option maxRecDepth 100000 in
set_option maxHeartbeats 4000000 in
theorem e_X6_isWindowFull_165 (a1 : Nat) (x2 : Int32) (a3 : Nat) (x4 : Int32) (a5 : Nat) (x6 : Int32) (x7 : Int32) (h : Hp) : f_X6_isWindowFull_165 a1 x2 a3 x4 a5 x6 x7 h = f_X6_isWindowFull_104 a1 x2 a3 x4 a5 x6 (x7 + 1) h :=
  (exL_it SKc SKn SKr CS (lkp T_X6_isWindowFull) [F_X6_seriesAt, F_X4_isOn, F_X4_isBetween, F_X5_lastsIn] [] [] [13, 40, 98, 99, 104, 165, 171] 2 165 [.ref 0, .ref a1, .int x2, .ref a3, .int x4, .ref a5, .int x6, .int x7] [] h).trans rfl
set_option maxRecDepth 100000 in
set_option maxHeartbeats 4000000 in
theorem e_X6_isWindowFull_171 (a1 : Nat) (x2 : Int32) (a3 : Nat) (x4 : Int32) (h : Hp) : f_X6_isWindowFull_171 a1 x2 a3 x4 h = f_X6_isWindowFull_40 a1 x2 a3 (x4 + 1) h :=
  (exL_it SKc SKn SKr CS (lkp T_X6_isWindowFull) [F_X6_seriesAt, F_X4_isOn, F_X4_isBetween, F_X5_lastsIn] [] [] [13, 40, 98, 99, 104, 165, 171] 2 171 [.ref 0, .ref a1, .int x2, .ref a3, .int x4, .retAddr 0, .retAddr 0, .retAddr 0] [] h).trans rfl

def T_X6_wouldBreak : List (Nat × Ent) := [(0, ([], .aload_n 1, 1, 1, 0, 0, 0)),
  (1, ([], .aload_n 2, 1, 2, 0, 0, 0)),
  (2, ([], .getfield 369, 3, 1, 14, 0, 0)),
  (5, ([], .invokevirtual 370, 3, 0, 9, 0, 0)),
  (8, ([], .ifCond .ne 5, 3, 13, 0, 0, 0)),
  (11, ([], .iconst 0, 1, 0, 0, 0, 0)),
  (12, ([], .ireturn, 1, 0, 0, 0, 0)),
  (13, ([], .iload_n 3, 1, 3, 0, 0, 0)),
  (14, ([], .bipush 72, 2, 0, 0, 0, 72)),
  (16, ([], .aload_n 1, 1, 1, 0, 0, 0)),
  (17, ([], .getfield 88, 3, 1, 6, 0, 0)),
  (20, ([], .isub, 1, 0, 0, 0, 0)),
  (21, ([], .invokestatic 373, 3, 1, 9, 0, 0)),
  (24, ([], .istore 4, 2, 4, 0, 0, 0)),
  (26, ([], .iconst 0, 1, 0, 0, 0, 0)),
  (27, ([], .iload_n 3, 1, 3, 0, 0, 0)),
  (28, ([], .aload_n 1, 1, 1, 0, 0, 0)),
  (29, ([], .getfield 88, 3, 1, 6, 0, 0)),
  (32, ([], .isub, 1, 0, 0, 0, 0)),
  (33, ([], .iconst 1, 1, 0, 0, 0, 1)),
  (34, ([], .iadd, 1, 0, 0, 0, 0)),
  (35, ([], .invokestatic 281, 3, 2, 9, 0, 0)),
  (38, ([], .istore 5, 2, 5, 0, 0, 0)),
  (40, ([false, false, false, true, false, false], .iload 5, 2, 5, 0, 0, 0)),
  (42, ([], .iload 4, 2, 4, 0, 0, 0)),
  (44, ([], .if_icmp .gt 22, 3, 66, 0, 0, 0)),
  (47, ([], .aload_n 0, 1, 0, 0, 0, 0)),
  (48, ([], .aload_n 1, 1, 1, 0, 0, 0)),
  (49, ([], .iload 5, 2, 5, 0, 0, 0)),
  (51, ([], .aload_n 2, 1, 2, 0, 0, 0)),
  (52, ([], .invokevirtual 376, 3, 3, 17, 0, 0)),
  (55, ([], .ifCond .eq 5, 3, 60, 0, 0, 0)),
  (58, ([], .iconst 1, 1, 0, 0, 0, 1)),
  (59, ([], .ireturn, 1, 0, 0, 0, 0)),
  (60, ([], .iinc 5 1, 3, 5, 0, 0, 1)),
  (63, ([], .goto (-23), 3, 40, 0, 0, 0)),
  (66, ([], .iconst 0, 1, 0, 0, 0, 0)),
  (67, ([], .ireturn, 1, 0, 0, 0, 0))]
noncomputable def E_X6_wouldBreak : Kt := exL SKc SKn SKr CS (lkp T_X6_wouldBreak) [F_X3_isFor, F_mmin, F_mmax, F_X6_isWindowFull] [] []
noncomputable def F_X6_wouldBreak : Fn := fun as h => E_X6_wouldBreak 0 (pad 6 as) [] h
noncomputable def f_X6_wouldBreak_40 (a1 : Nat) (a2 : Nat) (x4 : Int32) (x5 : Int32) (h : Hp) : Res := E_X6_wouldBreak 40 [.ref 0, .ref a1, .ref a2, .retAddr 0, .int x4, .int x5] [] h
set_option maxRecDepth 100000 in
set_option maxHeartbeats 4000000 in
theorem e_X6_wouldBreak_0 (a1 : Nat) (a2 : Nat) (x3 : Int32) (h : Hp) : F_X6_wouldBreak [.ref 0, .ref a1, .ref a2, .int x3] h = gd (okc a2 7) (bI (F_X3_isFor [.ref a1, .int (rd h a2 1)] h) (fun v2 h1 => if v2 = 0 then rtn (some (.int 0)) h1 else gd (okc a1 3) (gd (okc a1 3) (f_X6_wouldBreak_40 a1 a2 (if (72 - (rd h1 a1 1)) < x3 then (72 - (rd h1 a1 1)) else x3) (if 0 < ((x3 - (rd h1 a1 1)) + 1) then ((x3 - (rd h1 a1 1)) + 1) else 0) h1))) (hnk [])) :=
  (exL_it SKc SKn SKr CS (lkp T_X6_wouldBreak) [F_X3_isFor, F_mmin, F_mmax, F_X6_isWindowFull] [] [] [40] 21 0 [.ref 0, .ref a1, .ref a2, .int x3, .retAddr 0, .retAddr 0] [] h).trans rfl
set_option maxRecDepth 100000 in
set_option maxHeartbeats 4000000 in
theorem e_X6_wouldBreak_40 (a1 : Nat) (a2 : Nat) (x4 : Int32) (x5 : Int32) (h : Hp) : f_X6_wouldBreak_40 a1 a2 x4 x5 h = if x4 < x5 then rtn (some (.int 0)) h else bI (F_X6_isWindowFull [.ref 0, .ref a1, .int x5, .ref a2] h) (fun v2 h1 => if v2 = 0 then f_X6_wouldBreak_40 a1 a2 x4 (x5 + 1) h1 else rtn (some (.int 1)) h1) (hnk []) :=
  (exL_it SKc SKn SKr CS (lkp T_X6_wouldBreak) [F_X3_isFor, F_mmin, F_mmax, F_X6_isWindowFull] [] [] [40] 11 40 [.ref 0, .ref a1, .ref a2, .retAddr 0, .int x4, .int x5] [] h).trans rfl

def T_X6_reasonAgainst : List (Nat × Ent) := [(0, ([], .aload_n 0, 1, 0, 0, 0, 0)),
  (1, ([], .aload_n 1, 1, 1, 0, 0, 0)),
  (2, ([], .getfield 352, 3, 0, 14, 0, 0)),
  (5, ([], .invokevirtual 56, 3, 0, 10, 0, 0)),
  (8, ([], .astore_n 3, 1, 3, 0, 0, 0)),
  (9, ([], .aload_n 3, 1, 3, 0, 0, 0)),
  (10, ([], .iload_n 2, 1, 2, 0, 0, 0)),
  (11, ([], .invokevirtual 355, 3, 1, 9, 0, 0)),
  (14, ([], .ifCond .eq 5, 3, 19, 0, 0, 0)),
  (17, ([], .iconst 1, 1, 0, 0, 0, 1)),
  (18, ([], .ireturn, 1, 0, 0, 0, 0)),
  (19, ([], .iload_n 2, 1, 2, 0, 0, 0)),
  (20, ([], .invokestatic 359, 3, 2, 5, 0, 0)),
  (23, ([], .ifCond .eq 25, 3, 48, 0, 0, 0)),
  (26, ([], .aload_n 0, 1, 0, 0, 0, 0)),
  (27, ([], .aload_n 1, 1, 1, 0, 0, 0)),
  (28, ([], .getfield 352, 3, 0, 14, 0, 0)),
  (31, ([], .invokevirtual 284, 3, 3, 9, 0, 0)),
  (34, ([], .aload_n 1, 1, 1, 0, 0, 0)),
  (35, ([], .invokevirtual 362, 3, 4, 5, 0, 0)),
  (38, ([], .iadd, 1, 0, 0, 0, 0)),
  (39, ([], .aload_n 3, 1, 3, 0, 0, 0)),
  (40, ([], .getfield 100, 3, 5, 4, 0, 0)),
  (43, ([], .if_icmp .le 5, 3, 48, 0, 0, 0)),
  (46, ([], .iconst 2, 1, 0, 0, 0, 2)),
  (47, ([], .ireturn, 1, 0, 0, 0, 0)),
  (48, ([false, false, false, false, true], .iconst 0, 1, 0, 0, 0, 0)),
  (49, ([], .istore 4, 2, 4, 0, 0, 0)),
  (51, ([false, false, false, false, false], .iload 4, 2, 4, 0, 0, 0)),
  (53, ([], .aload_n 3, 1, 3, 0, 0, 0)),
  (54, ([], .getfield 68, 3, 2, 4, 0, 0)),
  (57, ([], .if_icmp .ge 30, 3, 87, 0, 0, 0)),
  (60, ([], .aload_n 0, 1, 0, 0, 0, 0)),
  (61, ([], .aload_n 3, 1, 3, 0, 0, 0)),
  (62, ([], .iload 4, 2, 4, 0, 0, 0)),
  (64, ([], .invokevirtual 79, 3, 5, 10, 0, 0)),
  (67, ([], .aload_n 1, 1, 1, 0, 0, 0)),
  (68, ([], .iload_n 2, 1, 2, 0, 0, 0)),
  (69, ([], .invokevirtual 365, 3, 6, 17, 0, 0)),
  (72, ([], .ifCond .eq 9, 3, 81, 0, 0, 0)),
  (75, ([], .bipush 10, 2, 0, 0, 0, 10)),
  (77, ([], .iload 4, 2, 4, 0, 0, 0)),
  (79, ([], .iadd, 1, 0, 0, 0, 0)),
  (80, ([], .ireturn, 1, 0, 0, 0, 0)),
  (81, ([], .iinc 4 1, 3, 4, 0, 0, 1)),
  (84, ([], .goto (-33), 3, 51, 0, 0, 0)),
  (87, ([], .iconst 0, 1, 0, 0, 0, 0)),
  (88, ([], .ireturn, 1, 0, 0, 0, 0))]
noncomputable def E_X6_reasonAgainst : Kt := exL SKc SKn SKr CS (lkp T_X6_reasonAgainst) [F_X6_airportAt, F_X0_bars, F_X6_isByNight, F_X6_noiseByNight, F_X5_wholeNoise, F_X0_ruleAt, F_X6_wouldBreak] [] []
noncomputable def F_X6_reasonAgainst : Fn := fun as h => E_X6_reasonAgainst 0 (pad 5 as) [] h
noncomputable def f_X6_reasonAgainst_48 (a1 : Nat) (x2 : Int32) (a3 : Nat) (h : Hp) : Res := E_X6_reasonAgainst 48 [.ref 0, .ref a1, .int x2, .ref a3, .retAddr 0] [] h
noncomputable def f_X6_reasonAgainst_51 (a1 : Nat) (x2 : Int32) (a3 : Nat) (x4 : Int32) (h : Hp) : Res := E_X6_reasonAgainst 51 [.ref 0, .ref a1, .int x2, .ref a3, .int x4] [] h
set_option maxRecDepth 100000 in
set_option maxHeartbeats 4000000 in
theorem e_X6_reasonAgainst_0 (a1 : Nat) (x2 : Int32) (h : Hp) : F_X6_reasonAgainst [.ref 0, .ref a1, .int x2] h = gd (okc a1 7) (bR (F_X6_airportAt [.ref 0, .int (rd h a1 0)] h) (fun v2 h1 => bI (F_X0_bars [.ref v2, .int x2] h1) (fun v4 h3 => if v4 = 0 then bI (F_X6_isByNight [.int x2] h3) (fun v6 h5 => if v6 = 0 then f_X6_reasonAgainst_48 a1 x2 v2 h5 else gd (okc a1 7) (bI (F_X6_noiseByNight [.ref 0, .int (rd h5 a1 0)] h5) (fun v8 h7 => bI (F_X5_wholeNoise [.ref a1] h7) (fun v10 h9 => gd (okc v2 2) (if (rd h9 v2 5) < (v8 + v10) then rtn (some (.int 2)) h9 else f_X6_reasonAgainst_48 a1 x2 v2 h9)) (hnk [])) (hnk []))) (hnk []) else rtn (some (.int 1)) h3) (hnk [])) (hnk [])) :=
  (exL_it SKc SKn SKr CS (lkp T_X6_reasonAgainst) [F_X6_airportAt, F_X0_bars, F_X6_isByNight, F_X6_noiseByNight, F_X5_wholeNoise, F_X0_ruleAt, F_X6_wouldBreak] [] [] [48, 51] 24 0 [.ref 0, .ref a1, .int x2, .retAddr 0, .retAddr 0] [] h).trans rfl
set_option maxRecDepth 100000 in
set_option maxHeartbeats 4000000 in
theorem e_X6_reasonAgainst_48 (a1 : Nat) (x2 : Int32) (a3 : Nat) (h : Hp) : f_X6_reasonAgainst_48 a1 x2 a3 h = f_X6_reasonAgainst_51 a1 x2 a3 0 h :=
  (exL_it SKc SKn SKr CS (lkp T_X6_reasonAgainst) [F_X6_airportAt, F_X0_bars, F_X6_isByNight, F_X6_noiseByNight, F_X5_wholeNoise, F_X0_ruleAt, F_X6_wouldBreak] [] [] [48, 51] 2 48 [.ref 0, .ref a1, .int x2, .ref a3, .retAddr 0] [] h).trans rfl
set_option maxRecDepth 100000 in
set_option maxHeartbeats 4000000 in
theorem e_X6_reasonAgainst_51 (a1 : Nat) (x2 : Int32) (a3 : Nat) (x4 : Int32) (h : Hp) : f_X6_reasonAgainst_51 a1 x2 a3 x4 h = gd (okc a3 2) (if x4 < (rd h a3 2) then bR (F_X0_ruleAt [.ref a3, .int x4] h) (fun v2 h1 => bI (F_X6_wouldBreak [.ref 0, .ref v2, .ref a1, .int x2] h1) (fun v4 h3 => if v4 = 0 then f_X6_reasonAgainst_51 a1 x2 a3 (x4 + 1) h3 else rtn (some (.int (10 + x4))) h3) (hnk [])) (hnk []) else rtn (some (.int 0)) h) :=
  (exL_it SKc SKn SKr CS (lkp T_X6_reasonAgainst) [F_X6_airportAt, F_X0_bars, F_X6_isByNight, F_X6_noiseByNight, F_X5_wholeNoise, F_X0_ruleAt, F_X6_wouldBreak] [] [] [48, 51] 16 51 [.ref 0, .ref a1, .int x2, .ref a3, .int x4] [] h).trans rfl

def T_X6_give : List (Nat × Ent) := [(0, ([], .aload_n 0, 1, 0, 0, 0, 0)),
  (1, ([], .iload_n 1, 1, 1, 0, 0, 0)),
  (2, ([], .invokevirtual 128, 3, 0, 10, 0, 0)),
  (5, ([], .astore_n 3, 1, 3, 0, 0, 0)),
  (6, ([], .aload_n 0, 1, 0, 0, 0, 0)),
  (7, ([], .getfield 268, 3, 11, 0, 0, 0)),
  (10, ([], .istore 4, 2, 4, 0, 0, 0)),
  (12, ([], .aload_n 0, 1, 0, 0, 0, 0)),
  (13, ([], .iload 4, 2, 4, 0, 0, 0)),
  (15, ([], .iconst 1, 1, 0, 0, 0, 1)),
  (16, ([], .iadd, 1, 0, 0, 0, 0)),
  (17, ([], .putfield 268, 3, 11, 0, 0, 0)),
  (20, ([], .aload_n 0, 1, 0, 0, 0, 0)),
  (21, ([], .iload 4, 2, 4, 0, 0, 0)),
  (23, ([], .invokevirtual 206, 3, 1, 10, 0, 0)),
  (26, ([], .aload_n 3, 1, 3, 0, 0, 0)),
  (27, ([], .iload_n 1, 1, 1, 0, 0, 0)),
  (28, ([], .iload_n 2, 1, 2, 0, 0, 0)),
  (29, ([], .invokevirtual 424, 3, 2, 16, 0, 0)),
  (32, ([], .aload_n 3, 1, 3, 0, 0, 0)),
  (33, ([], .iconst 1, 1, 0, 0, 0, 1)),
  (34, ([], .putfield 184, 3, 9, 8, 0, 0)),
  (37, ([], .aload_n 3, 1, 3, 0, 0, 0)),
  (38, ([], .iload 4, 2, 4, 0, 0, 0)),
  (40, ([], .putfield 294, 3, 11, 8, 0, 0)),
  (43, ([], .aload_n 3, 1, 3, 0, 0, 0)),
  (44, ([], .iconst (-1), 1, 0, 0, 0, (-1))),
  (45, ([], .putfield 196, 3, 12, 8, 0, 0)),
  (48, ([], .return_, 1, 0, 0, 0, 0))]
noncomputable def E_X6_give : Kt := exL SKc SKn SKr CS (lkp T_X6_give) [F_X6_requestAt, F_X6_seriesAt, F_X4_begin] [] []
noncomputable def F_X6_give : Fn := fun as h => E_X6_give 0 (pad 5 as) [] h
set_option maxRecDepth 100000 in
set_option maxHeartbeats 4000000 in
theorem e_X6_give_0 (x1 : Int32) (x2 : Int32) (h : Hp) : F_X6_give [.ref 0, .int x1, .int x2] h = bR (F_X6_requestAt [.ref 0, .int x1] h) (fun v2 h1 => bR (F_X6_seriesAt [.ref 0, .int (rd h1 0 11)] (wr h1 0 11 ((rd h1 0 11) + 1))) (fun v4 h3 => bV (F_X4_begin [.ref v4, .ref v2, .int x1, .int x2] h3) (fun h5 => gd (okc v2 4) (gd (okc v2 4) (gd (okc v2 4) (rtn none (wr (wr (wr h5 v2 9 1) v2 11 (rd h1 0 11)) v2 12 (-1)))))) (hnk [])) (hnk [])) (hnk []) :=
  (exL_it SKc SKn SKr CS (lkp T_X6_give) [F_X6_requestAt, F_X6_seriesAt, F_X4_begin] [] [] [] 29 0 [.ref 0, .int x1, .int x2, .retAddr 0, .retAddr 0] [] h).trans rfl

def T_X6_giveIfItFits : List (Nat × Ent) := [(0, ([], .aload_n 0, 1, 0, 0, 0, 0)),
  (1, ([], .iload_n 1, 1, 1, 0, 0, 0)),
  (2, ([], .invokevirtual 128, 3, 0, 10, 0, 0)),
  (5, ([], .astore_n 2, 1, 2, 0, 0, 0)),
  (6, ([], .aload_n 0, 1, 0, 0, 0, 0)),
  (7, ([], .aload_n 2, 1, 2, 0, 0, 0)),
  (8, ([], .aload_n 2, 1, 2, 0, 0, 0)),
  (9, ([], .getfield 139, 3, 3, 8, 0, 0)),
  (12, ([], .invokevirtual 199, 3, 1, 13, 0, 0)),
  (15, ([], .ifCond .eq 5, 3, 20, 0, 0, 0)),
  (18, ([], .iconst 0, 1, 0, 0, 0, 0)),
  (19, ([], .ireturn, 1, 0, 0, 0, 0)),
  (20, ([], .aload_n 0, 1, 0, 0, 0, 0)),
  (21, ([], .iload_n 1, 1, 1, 0, 0, 0)),
  (22, ([], .aload_n 2, 1, 2, 0, 0, 0)),
  (23, ([], .getfield 139, 3, 3, 8, 0, 0)),
  (26, ([], .invokevirtual 203, 3, 2, 12, 0, 0)),
  (29, ([], .iconst 1, 1, 0, 0, 0, 1)),
  (30, ([], .ireturn, 1, 0, 0, 0, 0))]
noncomputable def E_X6_giveIfItFits : Kt := exL SKc SKn SKr CS (lkp T_X6_giveIfItFits) [F_X6_requestAt, F_X6_reasonAgainst, F_X6_give] [] []
noncomputable def F_X6_giveIfItFits : Fn := fun as h => E_X6_giveIfItFits 0 (pad 3 as) [] h
set_option maxRecDepth 100000 in
set_option maxHeartbeats 4000000 in
theorem e_X6_giveIfItFits_0 (x1 : Int32) (h : Hp) : F_X6_giveIfItFits [.ref 0, .int x1] h = bR (F_X6_requestAt [.ref 0, .int x1] h) (fun v2 h1 => gd (okc v2 4) (bI (F_X6_reasonAgainst [.ref 0, .ref v2, .int (rd h1 v2 3)] h1) (fun v4 h3 => if v4 = 0 then gd (okc v2 4) (bV (F_X6_give [.ref 0, .int x1, .int (rd h3 v2 3)] h3) (fun h5 => rtn (some (.int 1)) h5) (hnk [])) else rtn (some (.int 0)) h3) (hnk []))) (hnk []) :=
  (exL_it SKc SKn SKr CS (lkp T_X6_giveIfItFits) [F_X6_requestAt, F_X6_reasonAgainst, F_X6_give] [] [] [] 17 0 [.ref 0, .int x1, .retAddr 0] [] h).trans rfl

def T_X6_timeToOffer : List (Nat × Ent) := [(0, ([], .iconst 1, 1, 0, 0, 0, 1)),
  (1, ([], .istore_n 2, 1, 2, 0, 0, 0)),
  (2, ([false, false, false, true, true], .iload_n 2, 1, 2, 0, 0, 0)),
  (3, ([], .iconst 3, 1, 0, 0, 0, 3)),
  (4, ([], .if_icmp .gt 59, 3, 63, 0, 0, 0)),
  (7, ([], .aload_n 1, 1, 1, 0, 0, 0)),
  (8, ([], .getfield 139, 3, 3, 8, 0, 0)),
  (11, ([], .iload_n 2, 1, 2, 0, 0, 0)),
  (12, ([], .isub, 1, 0, 0, 0, 0)),
  (13, ([], .istore_n 3, 1, 3, 0, 0, 0)),
  (14, ([], .iload_n 3, 1, 3, 0, 0, 0)),
  (15, ([], .ifCond .lt 14, 3, 29, 0, 0, 0)),
  (18, ([], .aload_n 0, 1, 0, 0, 0, 0)),
  (19, ([], .aload_n 1, 1, 1, 0, 0, 0)),
  (20, ([], .iload_n 3, 1, 3, 0, 0, 0)),
  (21, ([], .invokevirtual 199, 3, 0, 13, 0, 0)),
  (24, ([], .ifCond .ne 5, 3, 29, 0, 0, 0)),
  (27, ([], .iload_n 3, 1, 3, 0, 0, 0)),
  (28, ([], .ireturn, 1, 0, 0, 0, 0)),
  (29, ([false, false, false, true, true], .aload_n 1, 1, 1, 0, 0, 0)),
  (30, ([], .getfield 139, 3, 3, 8, 0, 0)),
  (33, ([], .iload_n 2, 1, 2, 0, 0, 0)),
  (34, ([], .iadd, 1, 0, 0, 0, 0)),
  (35, ([], .istore 4, 2, 4, 0, 0, 0)),
  (37, ([], .iload 4, 2, 4, 0, 0, 0)),
  (39, ([], .bipush 72, 2, 0, 0, 0, 72)),
  (41, ([], .if_icmp .ge 16, 3, 57, 0, 0, 0)),
  (44, ([], .aload_n 0, 1, 0, 0, 0, 0)),
  (45, ([], .aload_n 1, 1, 1, 0, 0, 0)),
  (46, ([], .iload 4, 2, 4, 0, 0, 0)),
  (48, ([], .invokevirtual 199, 3, 0, 13, 0, 0)),
  (51, ([], .ifCond .ne 6, 3, 57, 0, 0, 0)),
  (54, ([], .iload 4, 2, 4, 0, 0, 0)),
  (56, ([], .ireturn, 1, 0, 0, 0, 0)),
  (57, ([false, false, false, true, true], .iinc 2 1, 3, 2, 0, 0, 1)),
  (60, ([], .goto (-58), 3, 2, 0, 0, 0)),
  (63, ([], .iconst (-1), 1, 0, 0, 0, (-1))),
  (64, ([], .ireturn, 1, 0, 0, 0, 0))]
noncomputable def E_X6_timeToOffer : Kt := exL SKc SKn SKr CS (lkp T_X6_timeToOffer) [F_X6_reasonAgainst] [] []
noncomputable def F_X6_timeToOffer : Fn := fun as h => E_X6_timeToOffer 0 (pad 5 as) [] h
noncomputable def f_X6_timeToOffer_2 (a1 : Nat) (x2 : Int32) (h : Hp) : Res := E_X6_timeToOffer 2 [.ref 0, .ref a1, .int x2, .retAddr 0, .retAddr 0] [] h
noncomputable def f_X6_timeToOffer_29 (a1 : Nat) (x2 : Int32) (h : Hp) : Res := E_X6_timeToOffer 29 [.ref 0, .ref a1, .int x2, .retAddr 0, .retAddr 0] [] h
noncomputable def f_X6_timeToOffer_57 (a1 : Nat) (x2 : Int32) (h : Hp) : Res := E_X6_timeToOffer 57 [.ref 0, .ref a1, .int x2, .retAddr 0, .retAddr 0] [] h
set_option maxRecDepth 100000 in
set_option maxHeartbeats 4000000 in
theorem e_X6_timeToOffer_0 (a1 : Nat) (h : Hp) : F_X6_timeToOffer [.ref 0, .ref a1] h = f_X6_timeToOffer_2 a1 1 h :=
  (exL_it SKc SKn SKr CS (lkp T_X6_timeToOffer) [F_X6_reasonAgainst] [] [] [2, 29, 57] 2 0 [.ref 0, .ref a1, .retAddr 0, .retAddr 0, .retAddr 0] [] h).trans rfl
set_option maxRecDepth 100000 in
set_option maxHeartbeats 4000000 in
theorem e_X6_timeToOffer_2 (a1 : Nat) (x2 : Int32) (h : Hp) : f_X6_timeToOffer_2 a1 x2 h = if 3 < x2 then rtn (some (.int (-1))) h else gd (okc a1 4) (if ((rd h a1 3) - x2) < 0 then f_X6_timeToOffer_29 a1 x2 h else bI (F_X6_reasonAgainst [.ref 0, .ref a1, .int ((rd h a1 3) - x2)] h) (fun v2 h1 => if v2 = 0 then rtn (some (.int ((rd h a1 3) - x2))) h1 else f_X6_timeToOffer_29 a1 x2 h1) (hnk [])) :=
  (exL_it SKc SKn SKr CS (lkp T_X6_timeToOffer) [F_X6_reasonAgainst] [] [] [2, 29, 57] 17 2 [.ref 0, .ref a1, .int x2, .retAddr 0, .retAddr 0] [] h).trans rfl
set_option maxRecDepth 100000 in
set_option maxHeartbeats 4000000 in
theorem e_X6_timeToOffer_29 (a1 : Nat) (x2 : Int32) (h : Hp) : f_X6_timeToOffer_29 a1 x2 h = gd (okc a1 4) (if ((rd h a1 3) + x2) < 72 then bI (F_X6_reasonAgainst [.ref 0, .ref a1, .int ((rd h a1 3) + x2)] h) (fun v2 h1 => if v2 = 0 then rtn (some (.int ((rd h a1 3) + x2))) h1 else f_X6_timeToOffer_57 a1 x2 h1) (hnk []) else f_X6_timeToOffer_57 a1 x2 h) :=
  (exL_it SKc SKn SKr CS (lkp T_X6_timeToOffer) [F_X6_reasonAgainst] [] [] [2, 29, 57] 15 29 [.ref 0, .ref a1, .int x2, .retAddr 0, .retAddr 0] [] h).trans rfl
set_option maxRecDepth 100000 in
set_option maxHeartbeats 4000000 in
theorem e_X6_timeToOffer_57 (a1 : Nat) (x2 : Int32) (h : Hp) : f_X6_timeToOffer_57 a1 x2 h = f_X6_timeToOffer_2 a1 (x2 + 1) h :=
  (exL_it SKc SKn SKr CS (lkp T_X6_timeToOffer) [F_X6_reasonAgainst] [] [] [2, 29, 57] 2 57 [.ref 0, .ref a1, .int x2, .retAddr 0, .retAddr 0] [] h).trans rfl

def T_X6_putInQueue : List (Nat × Ent) := [(0, ([], .aload_n 0, 1, 0, 0, 0, 0)),
  (1, ([], .getfield 271, 3, 13, 0, 0, 0)),
  (4, ([], .aload_n 0, 1, 0, 0, 0, 0)),
  (5, ([], .getfield 37, 3, 5, 1, 0, 0)),
  (8, ([], .arraylength, 1, 0, 0, 0, 0)),
  (9, ([], .if_icmp .ge 23, 3, 32, 0, 0, 0)),
  (12, ([], .aload_n 0, 1, 0, 0, 0, 0)),
  (13, ([], .getfield 37, 3, 5, 1, 0, 0)),
  (16, ([], .aload_n 0, 1, 0, 0, 0, 0)),
  (17, ([], .getfield 271, 3, 13, 0, 0, 0)),
  (20, ([], .iload_n 1, 1, 1, 0, 0, 0)),
  (21, ([], .iastore, 1, 0, 0, 0, 0)),
  (22, ([], .aload_n 0, 1, 0, 0, 0, 0)),
  (23, ([], .dup, 1, 0, 0, 0, 0)),
  (24, ([], .getfield 271, 3, 13, 0, 0, 0)),
  (27, ([], .iconst 1, 1, 0, 0, 0, 1)),
  (28, ([], .iadd, 1, 0, 0, 0, 0)),
  (29, ([], .putfield 271, 3, 13, 0, 0, 0)),
  (32, ([], .return_, 1, 0, 0, 0, 0))]
noncomputable def E_X6_putInQueue : Kt := exL SKc SKn SKr CS (lkp T_X6_putInQueue) [] [] []
noncomputable def F_X6_putInQueue : Fn := fun as h => E_X6_putInQueue 0 (pad 2 as) [] h
set_option maxRecDepth 100000 in
set_option maxHeartbeats 4000000 in
theorem e_X6_putInQueue_0 (x1 : Int32) (h : Hp) : F_X6_putInQueue [.ref 0, .int x1] h = if (rd h 0 13) < 60 then gd (inb (rd h 0 13) 60) (rtn none (wr (wr h 6 ((rd h 0 13).toNatClampNeg) x1) 0 13 ((rd h 0 13) + 1))) else rtn none h :=
  (exL_it SKc SKn SKr CS (lkp T_X6_putInQueue) [] [] [] [] 19 0 [.ref 0, .int x1] [] h).trans rfl

def T_X6_decideAlone : List (Nat × Ent) := [(0, ([], .aload_n 0, 1, 0, 0, 0, 0)),
  (1, ([], .iload_n 1, 1, 1, 0, 0, 0)),
  (2, ([], .invokevirtual 412, 3, 0, 9, 0, 0)),
  (5, ([], .ifCond .eq 5, 3, 10, 0, 0, 0)),
  (8, ([], .iconst 1, 1, 0, 0, 0, 1)),
  (9, ([], .ireturn, 1, 0, 0, 0, 0)),
  (10, ([], .aload_n 0, 1, 0, 0, 0, 0)),
  (11, ([], .iload_n 1, 1, 1, 0, 0, 0)),
  (12, ([], .invokevirtual 128, 3, 1, 10, 0, 0)),
  (15, ([], .astore_n 2, 1, 2, 0, 0, 0)),
  (16, ([], .aload_n 2, 1, 2, 0, 0, 0)),
  (17, ([], .aload_n 0, 1, 0, 0, 0, 0)),
  (18, ([], .aload_n 2, 1, 2, 0, 0, 0)),
  (19, ([], .invokevirtual 415, 3, 2, 9, 0, 0)),
  (22, ([], .putfield 196, 3, 12, 8, 0, 0)),
  (25, ([], .aload_n 2, 1, 2, 0, 0, 0)),
  (26, ([], .aload_n 2, 1, 2, 0, 0, 0)),
  (27, ([], .getfield 196, 3, 12, 8, 0, 0)),
  (30, ([], .iconst (-1), 1, 0, 0, 0, (-1))),
  (31, ([], .if_icmp .ne 7, 3, 38, 0, 0, 0)),
  (34, ([], .iconst 3, 1, 0, 0, 0, 3)),
  (35, ([], .goto 4, 3, 39, 0, 0, 0)),
  (38, ([], .iconst 2, 1, 0, 0, 0, 2)),
  (39, ([false, false, true], .putfield 184, 3, 9, 8, 0, 0)),
  (42, ([], .aload_n 0, 1, 0, 0, 0, 0)),
  (43, ([], .iload_n 1, 1, 1, 0, 0, 0)),
  (44, ([], .invokevirtual 418, 3, 3, 8, 0, 0)),
  (47, ([], .iconst 0, 1, 0, 0, 0, 0)),
  (48, ([], .ireturn, 1, 0, 0, 0, 0))]
noncomputable def E_X6_decideAlone : Kt := exL SKc SKn SKr CS (lkp T_X6_decideAlone) [F_X6_giveIfItFits, F_X6_requestAt, F_X6_timeToOffer, F_X6_putInQueue] [] []
noncomputable def F_X6_decideAlone : Fn := fun as h => E_X6_decideAlone 0 (pad 3 as) [] h
noncomputable def f_X6_decideAlone_39 (x1 : Int32) (s0 : Int32) (t1 : Nat) (h : Hp) : Res := E_X6_decideAlone 39 [.ref 0, .int x1, .retAddr 0] [.int s0, .ref t1] h
set_option maxRecDepth 100000 in
set_option maxHeartbeats 4000000 in
theorem e_X6_decideAlone_0 (x1 : Int32) (h : Hp) : F_X6_decideAlone [.ref 0, .int x1] h = bI (F_X6_giveIfItFits [.ref 0, .int x1] h) (fun v2 h1 => if v2 = 0 then bR (F_X6_requestAt [.ref 0, .int x1] h1) (fun v4 h3 => bI (F_X6_timeToOffer [.ref 0, .ref v4] h3) (fun v6 h5 => gd (okc v4 4) (gd (okc v4 4) (if (rd (wr h5 v4 12 v6) v4 12) = (-1) then f_X6_decideAlone_39 x1 3 v4 (wr h5 v4 12 v6) else f_X6_decideAlone_39 x1 2 v4 (wr h5 v4 12 v6)))) (hnk [])) (hnk []) else rtn (some (.int 1)) h1) (hnk []) :=
  (exL_it SKc SKn SKr CS (lkp T_X6_decideAlone) [F_X6_giveIfItFits, F_X6_requestAt, F_X6_timeToOffer, F_X6_putInQueue] [] [] [39] 20 0 [.ref 0, .int x1, .retAddr 0] [] h).trans rfl
set_option maxRecDepth 100000 in
set_option maxHeartbeats 4000000 in
theorem e_X6_decideAlone_39 (x1 : Int32) (s0 : Int32) (t1 : Nat) (h : Hp) : f_X6_decideAlone_39 x1 s0 t1 h = gd (okc t1 4) (bV (F_X6_putInQueue [.ref 0, .int x1] (wr h t1 9 s0)) (fun h1 => rtn (some (.int 0)) h1) (hnk [])) :=
  (exL_it SKc SKn SKr CS (lkp T_X6_decideAlone) [F_X6_giveIfItFits, F_X6_requestAt, F_X6_timeToOffer, F_X6_putInQueue] [] [] [39] 6 39 [.ref 0, .int x1, .retAddr 0] [.int s0, .ref t1] h).trans rfl

def T_X6_takeLatestSeriesBack : List (Nat × Ent) := [(0, ([], .aload_n 0, 1, 0, 0, 0, 0)),
  (1, ([], .getfield 268, 3, 11, 0, 0, 0)),
  (4, ([], .iconst 1, 1, 0, 0, 0, 1)),
  (5, ([], .isub, 1, 0, 0, 0, 0)),
  (6, ([], .istore_n 1, 1, 1, 0, 0, 0)),
  (7, ([], .aload_n 0, 1, 0, 0, 0, 0)),
  (8, ([], .aload_n 0, 1, 0, 0, 0, 0)),
  (9, ([], .iload_n 1, 1, 1, 0, 0, 0)),
  (10, ([], .invokevirtual 206, 3, 0, 10, 0, 0)),
  (13, ([], .getfield 303, 3, 7, 10, 0, 0)),
  (16, ([], .invokevirtual 128, 3, 1, 10, 0, 0)),
  (19, ([], .iconst (-1), 1, 0, 0, 0, (-1))),
  (20, ([], .putfield 294, 3, 11, 8, 0, 0)),
  (23, ([], .aload_n 0, 1, 0, 0, 0, 0)),
  (24, ([], .iload_n 1, 1, 1, 0, 0, 0)),
  (25, ([], .putfield 268, 3, 11, 0, 0, 0)),
  (28, ([], .return_, 1, 0, 0, 0, 0))]
noncomputable def E_X6_takeLatestSeriesBack : Kt := exL SKc SKn SKr CS (lkp T_X6_takeLatestSeriesBack) [F_X6_seriesAt, F_X6_requestAt] [] []
noncomputable def F_X6_takeLatestSeriesBack : Fn := fun as h => E_X6_takeLatestSeriesBack 0 (pad 2 as) [] h
set_option maxRecDepth 100000 in
set_option maxHeartbeats 4000000 in
theorem e_X6_takeLatestSeriesBack_0 (h : Hp) : F_X6_takeLatestSeriesBack [.ref 0] h = bR (F_X6_seriesAt [.ref 0, .int ((rd h 0 11) - 1)] h) (fun v2 h1 => gd (okc v2 5) (bR (F_X6_requestAt [.ref 0, .int (rd h1 v2 7)] h1) (fun v4 h3 => gd (okc v4 4) (rtn none (wr (wr h3 v4 11 (-1)) 0 11 ((rd h 0 11) - 1)))) (hnk []))) (hnk []) :=
  (exL_it SKc SKn SKr CS (lkp T_X6_takeLatestSeriesBack) [F_X6_seriesAt, F_X6_requestAt] [] [] [] 17 0 [.ref 0, .retAddr 0] [] h).trans rfl

def T_X6_decidePair : List (Nat × Ent) := [(0, ([], .aload_n 0, 1, 0, 0, 0, 0)),
  (1, ([], .iload_n 1, 1, 1, 0, 0, 0)),
  (2, ([], .invokevirtual 412, 3, 0, 9, 0, 0)),
  (5, ([], .ifCond .eq 17, 3, 22, 0, 0, 0)),
  (8, ([], .aload_n 0, 1, 0, 0, 0, 0)),
  (9, ([], .iload_n 2, 1, 2, 0, 0, 0)),
  (10, ([], .invokevirtual 412, 3, 0, 9, 0, 0)),
  (13, ([], .ifCond .eq 5, 3, 18, 0, 0, 0)),
  (16, ([], .iconst 2, 1, 0, 0, 0, 2)),
  (17, ([], .ireturn, 1, 0, 0, 0, 0)),
  (18, ([], .aload_n 0, 1, 0, 0, 0, 0)),
  (19, ([], .invokevirtual 421, 3, 1, 4, 0, 0)),
  (22, ([false, false, false], .aload_n 0, 1, 0, 0, 0, 0)),
  (23, ([], .iload_n 1, 1, 1, 0, 0, 0)),
  (24, ([], .invokevirtual 128, 3, 2, 10, 0, 0)),
  (27, ([], .iconst 3, 1, 0, 0, 0, 3)),
  (28, ([], .putfield 184, 3, 9, 8, 0, 0)),
  (31, ([], .aload_n 0, 1, 0, 0, 0, 0)),
  (32, ([], .iload_n 2, 1, 2, 0, 0, 0)),
  (33, ([], .invokevirtual 128, 3, 2, 10, 0, 0)),
  (36, ([], .iconst 3, 1, 0, 0, 0, 3)),
  (37, ([], .putfield 184, 3, 9, 8, 0, 0)),
  (40, ([], .aload_n 0, 1, 0, 0, 0, 0)),
  (41, ([], .iload_n 1, 1, 1, 0, 0, 0)),
  (42, ([], .invokevirtual 418, 3, 3, 8, 0, 0)),
  (45, ([], .aload_n 0, 1, 0, 0, 0, 0)),
  (46, ([], .iload_n 2, 1, 2, 0, 0, 0)),
  (47, ([], .invokevirtual 418, 3, 3, 8, 0, 0)),
  (50, ([], .iconst 0, 1, 0, 0, 0, 0)),
  (51, ([], .ireturn, 1, 0, 0, 0, 0))]
noncomputable def E_X6_decidePair : Kt := exL SKc SKn SKr CS (lkp T_X6_decidePair) [F_X6_giveIfItFits, F_X6_takeLatestSeriesBack, F_X6_requestAt, F_X6_putInQueue] [] []
noncomputable def F_X6_decidePair : Fn := fun as h => E_X6_decidePair 0 (pad 3 as) [] h
noncomputable def f_X6_decidePair_22 (x1 : Int32) (x2 : Int32) (h : Hp) : Res := E_X6_decidePair 22 [.ref 0, .int x1, .int x2] [] h
set_option maxRecDepth 100000 in
set_option maxHeartbeats 4000000 in
theorem e_X6_decidePair_0 (x1 : Int32) (x2 : Int32) (h : Hp) : F_X6_decidePair [.ref 0, .int x1, .int x2] h = bI (F_X6_giveIfItFits [.ref 0, .int x1] h) (fun v2 h1 => if v2 = 0 then f_X6_decidePair_22 x1 x2 h1 else bI (F_X6_giveIfItFits [.ref 0, .int x2] h1) (fun v4 h3 => if v4 = 0 then bV (F_X6_takeLatestSeriesBack [.ref 0] h3) (fun h5 => f_X6_decidePair_22 x1 x2 h5) (hnk []) else rtn (some (.int 2)) h3) (hnk [])) (hnk []) :=
  (exL_it SKc SKn SKr CS (lkp T_X6_decidePair) [F_X6_giveIfItFits, F_X6_takeLatestSeriesBack, F_X6_requestAt, F_X6_putInQueue] [] [] [22] 10 0 [.ref 0, .int x1, .int x2] [] h).trans rfl
set_option maxRecDepth 100000 in
set_option maxHeartbeats 4000000 in
theorem e_X6_decidePair_22 (x1 : Int32) (x2 : Int32) (h : Hp) : f_X6_decidePair_22 x1 x2 h = bR (F_X6_requestAt [.ref 0, .int x1] h) (fun v2 h1 => gd (okc v2 4) (bR (F_X6_requestAt [.ref 0, .int x2] (wr h1 v2 9 3)) (fun v4 h3 => gd (okc v4 4) (bV (F_X6_putInQueue [.ref 0, .int x1] (wr h3 v4 9 3)) (fun h5 => bV (F_X6_putInQueue [.ref 0, .int x2] h5) (fun h6 => rtn (some (.int 0)) h6) (hnk [])) (hnk []))) (hnk []))) (hnk []) :=
  (exL_it SKc SKn SKr CS (lkp T_X6_decidePair) [F_X6_giveIfItFits, F_X6_takeLatestSeriesBack, F_X6_requestAt, F_X6_putInQueue] [] [] [22] 18 22 [.ref 0, .int x1, .int x2] [] h).trans rfl

def T_X6_confer : List (Nat × Ent) := [(0, ([], .aload_n 0, 1, 0, 0, 0, 0)),
  (1, ([], .iconst 0, 1, 0, 0, 0, 0)),
  (2, ([], .invokevirtual 172, 3, 0, 9, 0, 0)),
  (5, ([], .ifCond .ne 13, 3, 18, 0, 0, 0)),
  (8, ([], .new 72, 3, 2, 0, 0, 0)),
  (18, ([], .aload_n 0, 1, 0, 0, 0, 0)),
  (19, ([], .invokevirtual 177, 3, 1, 4, 0, 0)),
  (22, ([], .aload_n 0, 1, 0, 0, 0, 0)),
  (23, ([], .invokevirtual 180, 3, 2, 5, 0, 0)),
  (26, ([], .istore_n 1, 1, 1, 0, 0, 0)),
  (27, ([], .iconst 0, 1, 0, 0, 0, 0)),
  (28, ([], .istore_n 2, 1, 2, 0, 0, 0)),
  (29, ([], .iconst 0, 1, 0, 0, 0, 0)),
  (30, ([], .istore_n 3, 1, 3, 0, 0, 0)),
  (31, ([false, false, false, false, true], .iload_n 3, 1, 3, 0, 0, 0)),
  (32, ([], .iload_n 1, 1, 1, 0, 0, 0)),
  (33, ([], .if_icmp .ge 78, 3, 111, 0, 0, 0)),
  (36, ([], .iload_n 3, 1, 3, 0, 0, 0)),
  (37, ([], .aload_n 0, 1, 0, 0, 0, 0)),
  (38, ([], .getfield 40, 3, 6, 1, 0, 0)),
  (41, ([], .arraylength, 1, 0, 0, 0, 0)),
  (42, ([], .if_icmp .ge 69, 3, 111, 0, 0, 0)),
  (45, ([], .aload_n 0, 1, 0, 0, 0, 0)),
  (46, ([], .aload_n 0, 1, 0, 0, 0, 0)),
  (47, ([], .getfield 40, 3, 6, 1, 0, 0)),
  (50, ([], .iload_n 3, 1, 3, 0, 0, 0)),
  (51, ([], .iaload, 1, 0, 0, 0, 0)),
  (52, ([], .invokevirtual 128, 3, 3, 10, 0, 0)),
  (55, ([], .astore 4, 2, 4, 0, 0, 0)),
  (57, ([], .aload 4, 2, 4, 0, 0, 0)),
  (59, ([], .getfield 184, 3, 9, 8, 0, 0)),
  (62, ([], .ifCond .ne 43, 3, 105, 0, 0, 0)),
  (65, ([], .iload_n 2, 1, 2, 0, 0, 0)),
  (66, ([], .aload 4, 2, 4, 0, 0, 0)),
  (68, ([], .getfield 169, 3, 13, 8, 0, 0)),
  (71, ([], .iconst (-1), 1, 0, 0, 0, (-1))),
  (72, ([], .if_icmp .ne 16, 3, 88, 0, 0, 0)),
  (75, ([], .aload_n 0, 1, 0, 0, 0, 0)),
  (76, ([], .aload_n 0, 1, 0, 0, 0, 0)),
  (77, ([], .getfield 40, 3, 6, 1, 0, 0)),
  (80, ([], .iload_n 3, 1, 3, 0, 0, 0)),
  (81, ([], .iaload, 1, 0, 0, 0, 0)),
  (82, ([], .invokevirtual 187, 3, 4, 9, 0, 0)),
  (85, ([], .goto 18, 3, 103, 0, 0, 0)),
  (88, ([], .aload_n 0, 1, 0, 0, 0, 0)),
  (89, ([], .aload_n 0, 1, 0, 0, 0, 0)),
  (90, ([], .getfield 40, 3, 6, 1, 0, 0)),
  (93, ([], .iload_n 3, 1, 3, 0, 0, 0)),
  (94, ([], .iaload, 1, 0, 0, 0, 0)),
  (95, ([], .aload 4, 2, 4, 0, 0, 0)),
  (97, ([], .getfield 169, 3, 13, 8, 0, 0)),
  (100, ([], .invokevirtual 190, 3, 5, 13, 0, 0)),
  (103, ([false, false, true, false, true], .iadd, 1, 0, 0, 0, 0)),
  (104, ([], .istore_n 2, 1, 2, 0, 0, 0)),
  (105, ([false, false, false, false, true], .iinc 3 1, 3, 3, 0, 0, 1)),
  (108, ([], .goto (-77), 3, 31, 0, 0, 0)),
  (111, ([], .iload_n 2, 1, 2, 0, 0, 0)),
  (112, ([], .ireturn, 1, 0, 0, 0, 0))]
noncomputable def E_X6_confer : Kt := exL SKc SKn SKr CS (lkp T_X6_confer) [F_X6_requestsThatAre, F_X6_sortAllAsked, F_X6_putAskedInOrder, F_X6_requestAt, F_X6_decideAlone, F_X6_decidePair] [] []
noncomputable def F_X6_confer : Fn := fun as h => E_X6_confer 0 (pad 5 as) [] h
noncomputable def f_X6_confer_31 (x1 : Int32) (x2 : Int32) (x3 : Int32) (h : Hp) : Res := E_X6_confer 31 [.ref 0, .int x1, .int x2, .int x3, .retAddr 0] [] h
noncomputable def f_X6_confer_103 (x1 : Int32) (x3 : Int32) (s0 : Int32) (s1 : Int32) (h : Hp) : Res := E_X6_confer 103 [.ref 0, .int x1, .retAddr 0, .int x3, .retAddr 0] [.int s0, .int s1] h
noncomputable def f_X6_confer_105 (x1 : Int32) (x2 : Int32) (x3 : Int32) (h : Hp) : Res := E_X6_confer 105 [.ref 0, .int x1, .int x2, .int x3, .retAddr 0] [] h
set_option maxRecDepth 100000 in
set_option maxHeartbeats 4000000 in
theorem e_X6_confer_0 (h : Hp) : F_X6_confer [.ref 0] h = bI (F_X6_requestsThatAre [.ref 0, .int 0] h) (fun v2 h1 => if v2 = 0 then thr 2 h1 else bV (F_X6_sortAllAsked [.ref 0] h1) (fun h3 => bI (F_X6_putAskedInOrder [.ref 0] h3) (fun v5 h4 => f_X6_confer_31 v5 0 0 h4) (hnk [])) (hnk [])) (hnk []) :=
  (exL_it SKc SKn SKr CS (lkp T_X6_confer) [F_X6_requestsThatAre, F_X6_sortAllAsked, F_X6_putAskedInOrder, F_X6_requestAt, F_X6_decideAlone, F_X6_decidePair] [] [] [31, 103, 105] 13 0 [.ref 0, .retAddr 0, .retAddr 0, .retAddr 0, .retAddr 0] [] h).trans rfl
set_option maxRecDepth 100000 in
set_option maxHeartbeats 4000000 in
theorem e_X6_confer_31 (x1 : Int32) (x2 : Int32) (x3 : Int32) (h : Hp) : f_X6_confer_31 x1 x2 x3 h = if x3 < x1 then if x3 < 60 then gd (inb x3 60) (bR (F_X6_requestAt [.ref 0, .int (rd h 7 x3.toNatClampNeg)] h) (fun v2 h1 => gd (okc v2 4) (if (rd h1 v2 9) = 0 then gd (okc v2 4) (if (rd h1 v2 13) = (-1) then gd (inb x3 60) (bI (F_X6_decideAlone [.ref 0, .int (rd h1 7 x3.toNatClampNeg)] h1) (fun v4 h3 => f_X6_confer_103 x1 x3 v4 x2 h3) (hnk [])) else gd (inb x3 60) (gd (okc v2 4) (bI (F_X6_decidePair [.ref 0, .int (rd h1 7 x3.toNatClampNeg), .int (rd h1 v2 13)] h1) (fun v6 h5 => f_X6_confer_103 x1 x3 v6 x2 h5) (hnk [])))) else f_X6_confer_105 x1 x2 x3 h1)) (hnk [])) else rtn (some (.int x2)) h else rtn (some (.int x2)) h :=
  (exL_it SKc SKn SKr CS (lkp T_X6_confer) [F_X6_requestsThatAre, F_X6_sortAllAsked, F_X6_putAskedInOrder, F_X6_requestAt, F_X6_decideAlone, F_X6_decidePair] [] [] [31, 103, 105] 31 31 [.ref 0, .int x1, .int x2, .int x3, .retAddr 0] [] h).trans rfl
set_option maxRecDepth 100000 in
set_option maxHeartbeats 4000000 in
theorem e_X6_confer_103 (x1 : Int32) (x3 : Int32) (s0 : Int32) (s1 : Int32) (h : Hp) : f_X6_confer_103 x1 x3 s0 s1 h = f_X6_confer_105 x1 (s1 + s0) x3 h :=
  (exL_it SKc SKn SKr CS (lkp T_X6_confer) [F_X6_requestsThatAre, F_X6_sortAllAsked, F_X6_putAskedInOrder, F_X6_requestAt, F_X6_decideAlone, F_X6_decidePair] [] [] [31, 103, 105] 2 103 [.ref 0, .int x1, .retAddr 0, .int x3, .retAddr 0] [.int s0, .int s1] h).trans rfl
set_option maxRecDepth 100000 in
set_option maxHeartbeats 4000000 in
theorem e_X6_confer_105 (x1 : Int32) (x2 : Int32) (x3 : Int32) (h : Hp) : f_X6_confer_105 x1 x2 x3 h = f_X6_confer_31 x1 x2 (x3 + 1) h :=
  (exL_it SKc SKn SKr CS (lkp T_X6_confer) [F_X6_requestsThatAre, F_X6_sortAllAsked, F_X6_putAskedInOrder, F_X6_requestAt, F_X6_decideAlone, F_X6_decidePair] [] [] [31, 103, 105] 2 105 [.ref 0, .int x1, .int x2, .int x3, .retAddr 0] [] h).trans rfl

def T_X6_accept : List (Nat × Ent) := [(0, ([], .aload_n 0, 1, 0, 0, 0, 0)),
  (1, ([], .iload_n 1, 1, 1, 0, 0, 0)),
  (2, ([], .invokevirtual 128, 3, 0, 10, 0, 0)),
  (5, ([], .astore_n 2, 1, 2, 0, 0, 0)),
  (6, ([], .aload_n 2, 1, 2, 0, 0, 0)),
  (7, ([], .getfield 184, 3, 9, 8, 0, 0)),
  (10, ([], .iconst 2, 1, 0, 0, 0, 2)),
  (11, ([], .if_icmp .eq 13, 3, 24, 0, 0, 0)),
  (14, ([], .new 72, 3, 2, 0, 0, 0)),
  (24, ([], .aload_n 2, 1, 2, 0, 0, 0)),
  (25, ([], .getfield 196, 3, 12, 8, 0, 0)),
  (28, ([], .istore_n 3, 1, 3, 0, 0, 0)),
  (29, ([], .aload_n 0, 1, 0, 0, 0, 0)),
  (30, ([], .aload_n 2, 1, 2, 0, 0, 0)),
  (31, ([], .iload_n 3, 1, 3, 0, 0, 0)),
  (32, ([], .invokevirtual 199, 3, 1, 13, 0, 0)),
  (35, ([], .ifCond .ne 11, 3, 46, 0, 0, 0)),
  (38, ([], .aload_n 0, 1, 0, 0, 0, 0)),
  (39, ([], .iload_n 1, 1, 1, 0, 0, 0)),
  (40, ([], .iload_n 3, 1, 3, 0, 0, 0)),
  (41, ([], .invokevirtual 203, 3, 2, 12, 0, 0)),
  (44, ([], .iconst 1, 1, 0, 0, 0, 1)),
  (45, ([], .ireturn, 1, 0, 0, 0, 0)),
  (46, ([], .aload_n 2, 1, 2, 0, 0, 0)),
  (47, ([], .iconst 3, 1, 0, 0, 0, 3)),
  (48, ([], .putfield 184, 3, 9, 8, 0, 0)),
  (51, ([], .aload_n 2, 1, 2, 0, 0, 0)),
  (52, ([], .iconst (-1), 1, 0, 0, 0, (-1))),
  (53, ([], .putfield 196, 3, 12, 8, 0, 0)),
  (56, ([], .iconst 0, 1, 0, 0, 0, 0)),
  (57, ([], .ireturn, 1, 0, 0, 0, 0))]
noncomputable def E_X6_accept : Kt := exL SKc SKn SKr CS (lkp T_X6_accept) [F_X6_requestAt, F_X6_reasonAgainst, F_X6_give] [] []
noncomputable def F_X6_accept : Fn := fun as h => E_X6_accept 0 (pad 4 as) [] h
set_option maxRecDepth 100000 in
set_option maxHeartbeats 4000000 in
theorem e_X6_accept_0 (x1 : Int32) (h : Hp) : F_X6_accept [.ref 0, .int x1] h = bR (F_X6_requestAt [.ref 0, .int x1] h) (fun v2 h1 => gd (okc v2 4) (if (rd h1 v2 9) = 2 then gd (okc v2 4) (bI (F_X6_reasonAgainst [.ref 0, .ref v2, .int (rd h1 v2 12)] h1) (fun v4 h3 => if v4 = 0 then bV (F_X6_give [.ref 0, .int x1, .int (rd h1 v2 12)] h3) (fun h5 => rtn (some (.int 1)) h5) (hnk []) else gd (okc v2 4) (gd (okc v2 4) (rtn (some (.int 0)) (wr (wr h3 v2 9 3) v2 12 (-1))))) (hnk [])) else thr 2 h1)) (hnk []) :=
  (exL_it SKc SKn SKr CS (lkp T_X6_accept) [F_X6_requestAt, F_X6_reasonAgainst, F_X6_give] [] [] [] 24 0 [.ref 0, .int x1, .retAddr 0, .retAddr 0] [] h).trans rfl

def T_X6_serveQueueAt : List (Nat × Ent) := [(0, ([], .iconst 0, 1, 0, 0, 0, 0)),
  (1, ([], .istore_n 2, 1, 2, 0, 0, 0)),
  (2, ([], .iconst 0, 1, 0, 0, 0, 0)),
  (3, ([], .istore_n 3, 1, 3, 0, 0, 0)),
  (4, ([false, false, false, false, true], .iload_n 3, 1, 3, 0, 0, 0)),
  (5, ([], .aload_n 0, 1, 0, 0, 0, 0)),
  (6, ([], .getfield 271, 3, 13, 0, 0, 0)),
  (9, ([], .if_icmp .ge 72, 3, 81, 0, 0, 0)),
  (12, ([], .iload_n 3, 1, 3, 0, 0, 0)),
  (13, ([], .aload_n 0, 1, 0, 0, 0, 0)),
  (14, ([], .getfield 37, 3, 5, 1, 0, 0)),
  (17, ([], .arraylength, 1, 0, 0, 0, 0)),
  (18, ([], .if_icmp .ge 63, 3, 81, 0, 0, 0)),
  (21, ([], .aload_n 0, 1, 0, 0, 0, 0)),
  (22, ([], .aload_n 0, 1, 0, 0, 0, 0)),
  (23, ([], .getfield 37, 3, 5, 1, 0, 0)),
  (26, ([], .iload_n 3, 1, 3, 0, 0, 0)),
  (27, ([], .iaload, 1, 0, 0, 0, 0)),
  (28, ([], .invokevirtual 128, 3, 0, 10, 0, 0)),
  (31, ([], .astore 4, 2, 4, 0, 0, 0)),
  (33, ([], .aload 4, 2, 4, 0, 0, 0)),
  (35, ([], .invokevirtual 298, 3, 1, 5, 0, 0)),
  (38, ([], .ifCond .eq 37, 3, 75, 0, 0, 0)),
  (41, ([], .aload 4, 2, 4, 0, 0, 0)),
  (43, ([], .getfield 132, 3, 0, 8, 0, 0)),
  (46, ([], .iload_n 1, 1, 1, 0, 0, 0)),
  (47, ([], .if_icmp .ne 28, 3, 75, 0, 0, 0)),
  (50, ([], .aload 4, 2, 4, 0, 0, 0)),
  (52, ([], .getfield 169, 3, 13, 8, 0, 0)),
  (55, ([], .iconst (-1), 1, 0, 0, 0, (-1))),
  (56, ([], .if_icmp .ne 19, 3, 75, 0, 0, 0)),
  (59, ([], .aload_n 0, 1, 0, 0, 0, 0)),
  (60, ([], .aload_n 0, 1, 0, 0, 0, 0)),
  (61, ([], .getfield 37, 3, 5, 1, 0, 0)),
  (64, ([], .iload_n 3, 1, 3, 0, 0, 0)),
  (65, ([], .iaload, 1, 0, 0, 0, 0)),
  (66, ([], .invokevirtual 412, 3, 2, 9, 0, 0)),
  (69, ([], .ifCond .eq 6, 3, 75, 0, 0, 0)),
  (72, ([], .iinc 2 1, 3, 2, 0, 0, 1)),
  (75, ([false, false, false, false, true], .iinc 3 1, 3, 3, 0, 0, 1)),
  (78, ([], .goto (-74), 3, 4, 0, 0, 0)),
  (81, ([], .iload_n 2, 1, 2, 0, 0, 0)),
  (82, ([], .ireturn, 1, 0, 0, 0, 0))]
noncomputable def E_X6_serveQueueAt : Kt := exL SKc SKn SKr CS (lkp T_X6_serveQueueAt) [F_X6_requestAt, F_X1_isInQueue, F_X6_giveIfItFits] [] []
noncomputable def F_X6_serveQueueAt : Fn := fun as h => E_X6_serveQueueAt 0 (pad 5 as) [] h
noncomputable def f_X6_serveQueueAt_4 (x1 : Int32) (x2 : Int32) (x3 : Int32) (h : Hp) : Res := E_X6_serveQueueAt 4 [.ref 0, .int x1, .int x2, .int x3, .retAddr 0] [] h
noncomputable def f_X6_serveQueueAt_75 (x1 : Int32) (x2 : Int32) (x3 : Int32) (h : Hp) : Res := E_X6_serveQueueAt 75 [.ref 0, .int x1, .int x2, .int x3, .retAddr 0] [] h
set_option maxRecDepth 100000 in
set_option maxHeartbeats 4000000 in
theorem e_X6_serveQueueAt_0 (x1 : Int32) (h : Hp) : F_X6_serveQueueAt [.ref 0, .int x1] h = f_X6_serveQueueAt_4 x1 0 0 h :=
  (exL_it SKc SKn SKr CS (lkp T_X6_serveQueueAt) [F_X6_requestAt, F_X1_isInQueue, F_X6_giveIfItFits] [] [] [4, 75] 4 0 [.ref 0, .int x1, .retAddr 0, .retAddr 0, .retAddr 0] [] h).trans rfl
set_option maxRecDepth 100000 in
set_option maxHeartbeats 4000000 in
theorem e_X6_serveQueueAt_4 (x1 : Int32) (x2 : Int32) (x3 : Int32) (h : Hp) : f_X6_serveQueueAt_4 x1 x2 x3 h = if x3 < (rd h 0 13) then if x3 < 60 then gd (inb x3 60) (bR (F_X6_requestAt [.ref 0, .int (rd h 6 x3.toNatClampNeg)] h) (fun v2 h1 => bI (F_X1_isInQueue [.ref v2] h1) (fun v4 h3 => if v4 = 0 then f_X6_serveQueueAt_75 x1 x2 x3 h3 else gd (okc v2 4) (if (rd h3 v2 0) = x1 then gd (okc v2 4) (if (rd h3 v2 13) = (-1) then gd (inb x3 60) (bI (F_X6_giveIfItFits [.ref 0, .int (rd h3 6 x3.toNatClampNeg)] h3) (fun v6 h5 => if v6 = 0 then f_X6_serveQueueAt_75 x1 x2 x3 h5 else f_X6_serveQueueAt_75 x1 (x2 + 1) x3 h5) (hnk [])) else f_X6_serveQueueAt_75 x1 x2 x3 h3) else f_X6_serveQueueAt_75 x1 x2 x3 h3)) (hnk [])) (hnk [])) else rtn (some (.int x2)) h else rtn (some (.int x2)) h :=
  (exL_it SKc SKn SKr CS (lkp T_X6_serveQueueAt) [F_X6_requestAt, F_X1_isInQueue, F_X6_giveIfItFits] [] [] [4, 75] 35 4 [.ref 0, .int x1, .int x2, .int x3, .retAddr 0] [] h).trans rfl
set_option maxRecDepth 100000 in
set_option maxHeartbeats 4000000 in
theorem e_X6_serveQueueAt_75 (x1 : Int32) (x2 : Int32) (x3 : Int32) (h : Hp) : f_X6_serveQueueAt_75 x1 x2 x3 h = f_X6_serveQueueAt_4 x1 x2 (x3 + 1) h :=
  (exL_it SKc SKn SKr CS (lkp T_X6_serveQueueAt) [F_X6_requestAt, F_X1_isInQueue, F_X6_giveIfItFits] [] [] [4, 75] 2 75 [.ref 0, .int x1, .int x2, .int x3, .retAddr 0] [] h).trans rfl

def T_X6_giveBack : List (Nat × Ent) := [(0, ([], .aload_n 0, 1, 0, 0, 0, 0)),
  (1, ([], .iload_n 1, 1, 1, 0, 0, 0)),
  (2, ([], .invokevirtual 206, 3, 0, 10, 0, 0)),
  (5, ([], .astore_n 3, 1, 3, 0, 0, 0)),
  (6, ([], .iload_n 2, 1, 2, 0, 0, 0)),
  (7, ([], .iconst 0, 1, 0, 0, 0, 0)),
  (8, ([], .bipush 19, 2, 0, 0, 0, 19)),
  (10, ([], .invokestatic 64, 3, 1, 12, 0, 0)),
  (13, ([], .aload_n 3, 1, 3, 0, 0, 0)),
  (14, ([], .getfield 210, 3, 12, 10, 0, 0)),
  (17, ([], .ifCond .ne 11, 3, 28, 0, 0, 0)),
  (20, ([], .aload_n 3, 1, 3, 0, 0, 0)),
  (21, ([], .getfield 214, 3, 5, 10, 0, 0)),
  (24, ([], .iload_n 2, 1, 2, 0, 0, 0)),
  (25, ([], .if_icmp .ge 13, 3, 38, 0, 0, 0)),
  (28, ([true, true, true, true], .new 72, 3, 2, 0, 0, 0)),
  (38, ([], .iload_n 2, 1, 2, 0, 0, 0)),
  (39, ([], .aload_n 3, 1, 3, 0, 0, 0)),
  (40, ([], .getfield 217, 3, 4, 10, 0, 0)),
  (43, ([], .if_icmp .gt 11, 3, 54, 0, 0, 0)),
  (46, ([], .aload_n 3, 1, 3, 0, 0, 0)),
  (47, ([], .iconst 1, 1, 0, 0, 0, 1)),
  (48, ([], .putfield 210, 3, 12, 11, 0, 0)),
  (51, ([], .goto 10, 3, 61, 0, 0, 0)),
  (54, ([], .aload_n 3, 1, 3, 0, 0, 0)),
  (55, ([], .iload_n 2, 1, 2, 0, 0, 0)),
  (56, ([], .iconst 1, 1, 0, 0, 0, 1)),
  (57, ([], .isub, 1, 0, 0, 0, 0)),
  (58, ([], .putfield 214, 3, 5, 10, 0, 0)),
  (61, ([false, true, true, false], .aload_n 0, 1, 0, 0, 0, 0)),
  (62, ([], .aload_n 3, 1, 3, 0, 0, 0)),
  (63, ([], .getfield 218, 3, 0, 10, 0, 0)),
  (66, ([], .invokevirtual 219, 3, 2, 9, 0, 0)),
  (69, ([], .ireturn, 1, 0, 0, 0, 0))]
noncomputable def E_X6_giveBack : Kt := exL SKc SKn SKr CS (lkp T_X6_giveBack) [F_X6_seriesAt, F_X6_requireRange, F_X6_serveQueueAt] [] []
noncomputable def F_X6_giveBack : Fn := fun as h => E_X6_giveBack 0 (pad 4 as) [] h
noncomputable def f_X6_giveBack_28 (h : Hp) : Res := E_X6_giveBack 28 [.retAddr 0, .retAddr 0, .retAddr 0, .retAddr 0] [] h
noncomputable def f_X6_giveBack_61 (a3 : Nat) (h : Hp) : Res := E_X6_giveBack 61 [.ref 0, .retAddr 0, .retAddr 0, .ref a3] [] h
set_option maxRecDepth 100000 in
set_option maxHeartbeats 4000000 in
theorem e_X6_giveBack_0 (x1 : Int32) (x2 : Int32) (h : Hp) : F_X6_giveBack [.ref 0, .int x1, .int x2] h = bR (F_X6_seriesAt [.ref 0, .int x1] h) (fun v2 h1 => bV (F_X6_requireRange [.int x2, .int 0, .int 19] h1) (fun h3 => gd (okc v2 5) (if (rd h3 v2 12) = 0 then gd (okc v2 5) (if (rd h3 v2 5) < x2 then f_X6_giveBack_28 h3 else gd (okc v2 5) (if (rd h3 v2 4) < x2 then gd (okc v2 5) (f_X6_giveBack_61 v2 (wr h3 v2 5 (x2 - 1))) else gd (okc v2 5) (f_X6_giveBack_61 v2 (wr h3 v2 12 1)))) else f_X6_giveBack_28 h3)) (hnk [])) (hnk []) :=
  (exL_it SKc SKn SKr CS (lkp T_X6_giveBack) [F_X6_seriesAt, F_X6_requireRange, F_X6_serveQueueAt] [] [] [28, 61] 24 0 [.ref 0, .int x1, .int x2, .retAddr 0] [] h).trans rfl
set_option maxRecDepth 100000 in
set_option maxHeartbeats 4000000 in
theorem e_X6_giveBack_28 (h : Hp) : f_X6_giveBack_28 h = thr 2 h :=
  (exL_it SKc SKn SKr CS (lkp T_X6_giveBack) [F_X6_seriesAt, F_X6_requireRange, F_X6_serveQueueAt] [] [] [28, 61] 1 28 [.retAddr 0, .retAddr 0, .retAddr 0, .retAddr 0] [] h).trans rfl
set_option maxRecDepth 100000 in
set_option maxHeartbeats 4000000 in
theorem e_X6_giveBack_61 (a3 : Nat) (h : Hp) : f_X6_giveBack_61 a3 h = gd (okc a3 5) (bI (F_X6_serveQueueAt [.ref 0, .int (rd h a3 0)] h) (fun v2 h1 => rtn (some (.int v2)) h1) (hnk [])) :=
  (exL_it SKc SKn SKr CS (lkp T_X6_giveBack) [F_X6_seriesAt, F_X6_requireRange, F_X6_serveQueueAt] [] [] [28, 61] 5 61 [.ref 0, .retAddr 0, .retAddr 0, .ref a3] [] h).trans rfl

def T_X6_swap : List (Nat × Ent) := [(0, ([], .aload_n 0, 1, 0, 0, 0, 0)),
  (1, ([], .iload_n 1, 1, 1, 0, 0, 0)),
  (2, ([], .invokevirtual 206, 3, 0, 10, 0, 0)),
  (5, ([], .astore_n 3, 1, 3, 0, 0, 0)),
  (6, ([], .aload_n 0, 1, 0, 0, 0, 0)),
  (7, ([], .iload_n 2, 1, 2, 0, 0, 0)),
  (8, ([], .invokevirtual 206, 3, 0, 10, 0, 0)),
  (11, ([], .astore 4, 2, 4, 0, 0, 0)),
  (13, ([], .iload_n 1, 1, 1, 0, 0, 0)),
  (14, ([], .iload_n 2, 1, 2, 0, 0, 0)),
  (15, ([], .if_icmp .ne 13, 3, 28, 0, 0, 0)),
  (18, ([], .new 158, 3, 1, 0, 0, 0)),
  (28, ([], .aload_n 3, 1, 3, 0, 0, 0)),
  (29, ([], .getfield 210, 3, 12, 10, 0, 0)),
  (32, ([], .ifCond .ne 23, 3, 55, 0, 0, 0)),
  (35, ([], .aload 4, 2, 4, 0, 0, 0)),
  (37, ([], .getfield 210, 3, 12, 10, 0, 0)),
  (40, ([], .ifCond .ne 15, 3, 55, 0, 0, 0)),
  (43, ([], .aload_n 3, 1, 3, 0, 0, 0)),
  (44, ([], .getfield 218, 3, 0, 10, 0, 0)),
  (47, ([], .aload 4, 2, 4, 0, 0, 0)),
  (49, ([], .getfield 218, 3, 0, 10, 0, 0)),
  (52, ([], .if_icmp .eq 13, 3, 65, 0, 0, 0)),
  (55, ([true, true, true, true, true, true, true], .new 72, 3, 2, 0, 0, 0)),
  (65, ([], .aload_n 3, 1, 3, 0, 0, 0)),
  (66, ([], .getfield 226, 3, 8, 10, 0, 0)),
  (69, ([], .istore 5, 2, 5, 0, 0, 0)),
  (71, ([], .aload_n 3, 1, 3, 0, 0, 0)),
  (72, ([], .getfield 229, 3, 9, 10, 0, 0)),
  (75, ([], .istore 6, 2, 6, 0, 0, 0)),
  (77, ([], .aload_n 3, 1, 3, 0, 0, 0)),
  (78, ([], .aload 4, 2, 4, 0, 0, 0)),
  (80, ([], .getfield 226, 3, 8, 10, 0, 0)),
  (83, ([], .putfield 226, 3, 8, 10, 0, 0)),
  (86, ([], .aload_n 3, 1, 3, 0, 0, 0)),
  (87, ([], .aload 4, 2, 4, 0, 0, 0)),
  (89, ([], .getfield 229, 3, 9, 10, 0, 0)),
  (92, ([], .putfield 229, 3, 9, 10, 0, 0)),
  (95, ([], .aload 4, 2, 4, 0, 0, 0)),
  (97, ([], .iload 5, 2, 5, 0, 0, 0)),
  (99, ([], .putfield 226, 3, 8, 10, 0, 0)),
  (102, ([], .aload 4, 2, 4, 0, 0, 0)),
  (104, ([], .iload 6, 2, 6, 0, 0, 0)),
  (106, ([], .putfield 229, 3, 9, 10, 0, 0)),
  (109, ([], .return_, 1, 0, 0, 0, 0))]
noncomputable def E_X6_swap : Kt := exL SKc SKn SKr CS (lkp T_X6_swap) [F_X6_seriesAt] [] []
noncomputable def F_X6_swap : Fn := fun as h => E_X6_swap 0 (pad 7 as) [] h
noncomputable def f_X6_swap_55 (h : Hp) : Res := E_X6_swap 55 [.retAddr 0, .retAddr 0, .retAddr 0, .retAddr 0, .retAddr 0, .retAddr 0, .retAddr 0] [] h
set_option maxRecDepth 100000 in
set_option maxHeartbeats 4000000 in
theorem e_X6_swap_0 (x1 : Int32) (x2 : Int32) (h : Hp) : F_X6_swap [.ref 0, .int x1, .int x2] h = bR (F_X6_seriesAt [.ref 0, .int x1] h) (fun v2 h1 => bR (F_X6_seriesAt [.ref 0, .int x2] h1) (fun v4 h3 => if x1 = x2 then thr 1 h3 else gd (okc v2 5) (if (rd h3 v2 12) = 0 then gd (okc v4 5) (if (rd h3 v4 12) = 0 then gd (okc v2 5) (gd (okc v4 5) (if (rd h3 v2 0) = (rd h3 v4 0) then gd (okc v2 5) (gd (okc v2 5) (gd (okc v4 5) (gd (okc v2 5) (gd (okc v4 5) (gd (okc v2 5) (gd (okc v4 5) (gd (okc v4 5) (rtn none (wr (wr (wr (wr h3 v2 8 (rd h3 v4 8)) v2 9 (rd (wr h3 v2 8 (rd h3 v4 8)) v4 9)) v4 8 (rd h3 v2 8)) v4 9 (rd h3 v2 9)))))))))) else f_X6_swap_55 h3)) else f_X6_swap_55 h3) else f_X6_swap_55 h3)) (hnk [])) (hnk []) :=
  (exL_it SKc SKn SKr CS (lkp T_X6_swap) [F_X6_seriesAt] [] [] [55] 43 0 [.ref 0, .int x1, .int x2, .retAddr 0, .retAddr 0, .retAddr 0, .retAddr 0] [] h).trans rfl
set_option maxRecDepth 100000 in
set_option maxHeartbeats 4000000 in
theorem e_X6_swap_55 (h : Hp) : f_X6_swap_55 h = thr 2 h :=
  (exL_it SKc SKn SKr CS (lkp T_X6_swap) [F_X6_seriesAt] [] [] [55] 1 55 [.retAddr 0, .retAddr 0, .retAddr 0, .retAddr 0, .retAddr 0, .retAddr 0, .retAddr 0] [] h).trans rfl

def T_X6_lease : List (Nat × Ent) := [(0, ([], .aload_n 0, 1, 0, 0, 0, 0)),
  (1, ([], .iload_n 1, 1, 1, 0, 0, 0)),
  (2, ([], .invokevirtual 206, 3, 0, 10, 0, 0)),
  (5, ([], .astore_n 3, 1, 3, 0, 0, 0)),
  (6, ([], .aload_n 0, 1, 0, 0, 0, 0)),
  (7, ([], .iload_n 2, 1, 2, 0, 0, 0)),
  (8, ([], .invokevirtual 103, 3, 1, 9, 0, 0)),
  (11, ([], .pop, 1, 0, 0, 0, 0)),
  (12, ([], .aload_n 3, 1, 3, 0, 0, 0)),
  (13, ([], .getfield 210, 3, 12, 10, 0, 0)),
  (16, ([], .ifCond .eq 13, 3, 29, 0, 0, 0)),
  (19, ([], .new 72, 3, 2, 0, 0, 0)),
  (29, ([], .aload_n 3, 1, 3, 0, 0, 0)),
  (30, ([], .getfield 229, 3, 9, 10, 0, 0)),
  (33, ([], .istore 4, 2, 4, 0, 0, 0)),
  (35, ([], .aload_n 3, 1, 3, 0, 0, 0)),
  (36, ([], .iload_n 2, 1, 2, 0, 0, 0)),
  (37, ([], .putfield 229, 3, 9, 10, 0, 0)),
  (40, ([], .iload 4, 2, 4, 0, 0, 0)),
  (42, ([], .ireturn, 1, 0, 0, 0, 0))]
noncomputable def E_X6_lease : Kt := exL SKc SKn SKr CS (lkp T_X6_lease) [F_X6_seriesAt, F_X6_groupAt] [] []
noncomputable def F_X6_lease : Fn := fun as h => E_X6_lease 0 (pad 5 as) [] h
set_option maxRecDepth 100000 in
set_option maxHeartbeats 4000000 in
theorem e_X6_lease_0 (x1 : Int32) (x2 : Int32) (h : Hp) : F_X6_lease [.ref 0, .int x1, .int x2] h = bR (F_X6_seriesAt [.ref 0, .int x1] h) (fun v2 h1 => bI (F_X6_groupAt [.ref 0, .int x2] h1) (fun v4 h3 => gd (okc v2 5) (if (rd h3 v2 12) = 0 then gd (okc v2 5) (gd (okc v2 5) (rtn (some (.int (rd h3 v2 9))) (wr h3 v2 9 x2))) else thr 2 h3)) (hnk [])) (hnk []) :=
  (exL_it SKc SKn SKr CS (lkp T_X6_lease) [F_X6_seriesAt, F_X6_groupAt] [] [] [] 19 0 [.ref 0, .int x1, .int x2, .retAddr 0, .retAddr 0] [] h).trans rfl

def T_X6_weeksFromTo : List (Nat × Ent) := [(0, ([], .iconst 1, 1, 0, 0, 0, 1)),
  (1, ([], .iload_n 1, 1, 1, 0, 0, 0)),
  (2, ([], .iload_n 0, 1, 0, 0, 0, 0)),
  (3, ([], .isub, 1, 0, 0, 0, 0)),
  (4, ([], .iconst 1, 1, 0, 0, 0, 1)),
  (5, ([], .iadd, 1, 0, 0, 0, 0)),
  (6, ([], .ishl, 1, 0, 0, 0, 0)),
  (7, ([], .iconst 1, 1, 0, 0, 0, 1)),
  (8, ([], .isub, 1, 0, 0, 0, 0)),
  (9, ([], .iload_n 0, 1, 0, 0, 0, 0)),
  (10, ([], .ishl, 1, 0, 0, 0, 0)),
  (11, ([], .ireturn, 1, 0, 0, 0, 0))]
noncomputable def E_X6_weeksFromTo : Kt := exL SKc SKn SKr CS (lkp T_X6_weeksFromTo) [] [] []
noncomputable def F_X6_weeksFromTo : Fn := fun as h => E_X6_weeksFromTo 0 (pad 2 as) [] h
set_option maxRecDepth 100000 in
set_option maxHeartbeats 4000000 in
theorem e_X6_weeksFromTo_0 (x0 : Int32) (x1 : Int32) (h : Hp) : F_X6_weeksFromTo [.int x0, .int x1] h = rtn (some (.int (((1 <<< (((x1 - x0) + 1) &&& 31)) - 1) <<< (x0 &&& 31)))) h :=
  (exL_it SKc SKn SKr CS (lkp T_X6_weeksFromTo) [] [] [] [] 12 0 [.int x0, .int x1] [] h).trans rfl

def T_X6_fly : List (Nat × Ent) := [(0, ([], .aload_n 0, 1, 0, 0, 0, 0)),
  (1, ([], .iload_n 1, 1, 1, 0, 0, 0)),
  (2, ([], .invokevirtual 206, 3, 0, 10, 0, 0)),
  (5, ([], .astore 4, 2, 4, 0, 0, 0)),
  (7, ([], .iload_n 2, 1, 2, 0, 0, 0)),
  (8, ([], .aload 4, 2, 4, 0, 0, 0)),
  (10, ([], .getfield 217, 3, 4, 10, 0, 0)),
  (13, ([], .aload 4, 2, 4, 0, 0, 0)),
  (15, ([], .getfield 214, 3, 5, 10, 0, 0)),
  (18, ([], .invokestatic 64, 3, 1, 12, 0, 0)),
  (21, ([], .iload_n 3, 1, 3, 0, 0, 0)),
  (22, ([], .iconst 0, 1, 0, 0, 0, 0)),
  (23, ([], .bipush 71, 2, 0, 0, 0, 71)),
  (25, ([], .invokestatic 64, 3, 1, 12, 0, 0)),
  (28, ([], .iload_n 2, 1, 2, 0, 0, 0)),
  (29, ([], .iload_n 2, 1, 2, 0, 0, 0)),
  (30, ([], .invokestatic 234, 3, 2, 9, 0, 0)),
  (33, ([], .istore 5, 2, 5, 0, 0, 0)),
  (35, ([], .aload 4, 2, 4, 0, 0, 0)),
  (37, ([], .getfield 210, 3, 12, 10, 0, 0)),
  (40, ([], .ifCond .ne 14, 3, 54, 0, 0, 0)),
  (43, ([], .aload 4, 2, 4, 0, 0, 0)),
  (45, ([], .getfield 237, 3, 10, 10, 0, 0)),
  (48, ([], .iload 5, 2, 5, 0, 0, 0)),
  (50, ([], .iand, 1, 0, 0, 0, 0)),
  (51, ([], .ifCond .eq 13, 3, 64, 0, 0, 0)),
  (54, ([true, true, true, true, true, true], .new 72, 3, 2, 0, 0, 0)),
  (64, ([], .aload 4, 2, 4, 0, 0, 0)),
  (66, ([], .dup, 1, 0, 0, 0, 0)),
  (67, ([], .getfield 237, 3, 10, 10, 0, 0)),
  (70, ([], .iload 5, 2, 5, 0, 0, 0)),
  (72, ([], .ior, 1, 0, 0, 0, 0)),
  (73, ([], .putfield 237, 3, 10, 10, 0, 0)),
  (76, ([], .iload_n 3, 1, 3, 0, 0, 0)),
  (77, ([], .aload 4, 2, 4, 0, 0, 0)),
  (79, ([], .getfield 242, 3, 3, 10, 0, 0)),
  (82, ([], .isub, 1, 0, 0, 0, 0)),
  (83, ([], .invokestatic 243, 3, 3, 5, 0, 0)),
  (86, ([], .iconst 2, 1, 0, 0, 0, 2)),
  (87, ([], .if_icmp .le 14, 3, 101, 0, 0, 0)),
  (90, ([], .aload 4, 2, 4, 0, 0, 0)),
  (92, ([], .dup, 1, 0, 0, 0, 0)),
  (93, ([], .getfield 248, 3, 11, 10, 0, 0)),
  (96, ([], .iconst 1, 1, 0, 0, 0, 1)),
  (97, ([], .iadd, 1, 0, 0, 0, 0)),
  (98, ([], .putfield 248, 3, 11, 10, 0, 0)),
  (101, ([true, true, true, true, false, true], .aload 4, 2, 4, 0, 0, 0)),
  (103, ([], .getfield 248, 3, 11, 10, 0, 0)),
  (106, ([], .iconst 3, 1, 0, 0, 0, 3)),
  (107, ([], .if_icmp .lt 9, 3, 116, 0, 0, 0)),
  (110, ([], .aload 4, 2, 4, 0, 0, 0)),
  (112, ([], .iconst 1, 1, 0, 0, 0, 1)),
  (113, ([], .putfield 210, 3, 12, 11, 0, 0)),
  (116, ([], .aload 4, 2, 4, 0, 0, 0)),
  (118, ([], .getfield 248, 3, 11, 10, 0, 0)),
  (121, ([], .ireturn, 1, 0, 0, 0, 0))]
noncomputable def E_X6_fly : Kt := exL SKc SKn SKr CS (lkp T_X6_fly) [F_X6_seriesAt, F_X6_requireRange, F_X6_weeksFromTo, F_mabs] [] []
noncomputable def F_X6_fly : Fn := fun as h => E_X6_fly 0 (pad 6 as) [] h
noncomputable def f_X6_fly_54 (h : Hp) : Res := E_X6_fly 54 [.retAddr 0, .retAddr 0, .retAddr 0, .retAddr 0, .retAddr 0, .retAddr 0] [] h
noncomputable def f_X6_fly_101 (a4 : Nat) (h : Hp) : Res := E_X6_fly 101 [.retAddr 0, .retAddr 0, .retAddr 0, .retAddr 0, .ref a4, .retAddr 0] [] h
set_option maxRecDepth 100000 in
set_option maxHeartbeats 4000000 in
theorem e_X6_fly_0 (x1 : Int32) (x2 : Int32) (x3 : Int32) (h : Hp) : F_X6_fly [.ref 0, .int x1, .int x2, .int x3] h = bR (F_X6_seriesAt [.ref 0, .int x1] h) (fun v2 h1 => gd (okc v2 5) (gd (okc v2 5) (bV (F_X6_requireRange [.int x2, .int (rd h1 v2 4), .int (rd h1 v2 5)] h1) (fun h3 => bV (F_X6_requireRange [.int x3, .int 0, .int 71] h3) (fun h4 => bI (F_X6_weeksFromTo [.int x2, .int x2] h4) (fun v6 h5 => gd (okc v2 5) (if (rd h5 v2 12) = 0 then gd (okc v2 5) (if ((rd h5 v2 10) &&& v6) = 0 then gd (okc v2 5) (gd (okc v2 5) (gd (okc v2 5) (if 2 < (if 0 ≤ (x3 - (rd (wr h5 v2 10 ((rd h5 v2 10) ||| v6)) v2 3)) then (x3 - (rd (wr h5 v2 10 ((rd h5 v2 10) ||| v6)) v2 3)) else 0 - (x3 - (rd (wr h5 v2 10 ((rd h5 v2 10) ||| v6)) v2 3))) then gd (okc v2 5) (gd (okc v2 5) (f_X6_fly_101 v2 (wr (wr h5 v2 10 ((rd h5 v2 10) ||| v6)) v2 11 ((rd (wr h5 v2 10 ((rd h5 v2 10) ||| v6)) v2 11) + 1)))) else f_X6_fly_101 v2 (wr h5 v2 10 ((rd h5 v2 10) ||| v6))))) else f_X6_fly_54 h5) else f_X6_fly_54 h5)) (hnk [])) (hnk [])) (hnk [])))) (hnk []) :=
  (exL_it SKc SKn SKr CS (lkp T_X6_fly) [F_X6_seriesAt, F_X6_requireRange, F_X6_weeksFromTo, F_mabs] [] [] [54, 101] 45 0 [.ref 0, .int x1, .int x2, .int x3, .retAddr 0, .retAddr 0] [] h).trans rfl
set_option maxRecDepth 100000 in
set_option maxHeartbeats 4000000 in
theorem e_X6_fly_54 (h : Hp) : f_X6_fly_54 h = thr 2 h :=
  (exL_it SKc SKn SKr CS (lkp T_X6_fly) [F_X6_seriesAt, F_X6_requireRange, F_X6_weeksFromTo, F_mabs] [] [] [54, 101] 1 54 [.retAddr 0, .retAddr 0, .retAddr 0, .retAddr 0, .retAddr 0, .retAddr 0] [] h).trans rfl
set_option maxRecDepth 100000 in
set_option maxHeartbeats 4000000 in
theorem e_X6_fly_101 (a4 : Nat) (h : Hp) : f_X6_fly_101 a4 h = gd (okc a4 5) (if (rd h a4 11) < 3 then gd (okc a4 5) (rtn (some (.int (rd h a4 11))) h) else gd (okc a4 5) (gd (okc a4 5) (rtn (some (.int (rd (wr h a4 12 1) a4 11))) (wr h a4 12 1)))) :=
  (exL_it SKc SKn SKr CS (lkp T_X6_fly) [F_X6_seriesAt, F_X6_requireRange, F_X6_weeksFromTo, F_mabs] [] [] [54, 101] 10 101 [.retAddr 0, .retAddr 0, .retAddr 0, .retAddr 0, .ref a4, .retAddr 0] [] h).trans rfl

def T_X6_close : List (Nat × Ent) := [(0, ([], .aload_n 0, 1, 0, 0, 0, 0)),
  (1, ([], .iload_n 1, 1, 1, 0, 0, 0)),
  (2, ([], .invokevirtual 56, 3, 0, 10, 0, 0)),
  (5, ([], .astore 4, 2, 4, 0, 0, 0)),
  (7, ([], .iload_n 2, 1, 2, 0, 0, 0)),
  (8, ([], .iconst 0, 1, 0, 0, 0, 0)),
  (9, ([], .bipush 6, 2, 0, 0, 0, 6)),
  (11, ([], .invokestatic 64, 3, 1, 12, 0, 0)),
  (14, ([], .iload_n 3, 1, 3, 0, 0, 0)),
  (15, ([], .iconst 0, 1, 0, 0, 0, 0)),
  (16, ([], .bipush 19, 2, 0, 0, 0, 19)),
  (18, ([], .invokestatic 64, 3, 1, 12, 0, 0)),
  (21, ([], .iload_n 3, 1, 3, 0, 0, 0)),
  (22, ([], .iload_n 3, 1, 3, 0, 0, 0)),
  (23, ([], .invokestatic 234, 3, 2, 9, 0, 0)),
  (26, ([], .istore 5, 2, 5, 0, 0, 0)),
  (28, ([], .aload 4, 2, 4, 0, 0, 0)),
  (30, ([], .iload_n 2, 1, 2, 0, 0, 0)),
  (31, ([], .invokevirtual 251, 3, 3, 9, 0, 0)),
  (34, ([], .iload 5, 2, 5, 0, 0, 0)),
  (36, ([], .iand, 1, 0, 0, 0, 0)),
  (37, ([], .ifCond .ne 7, 3, 44, 0, 0, 0)),
  (40, ([], .iconst 1, 1, 0, 0, 0, 1)),
  (41, ([], .goto 4, 3, 45, 0, 0, 0)),
  (44, ([], .iconst 0, 1, 0, 0, 0, 0)),
  (45, ([true, true, false, true, false, false, true], .istore 6, 2, 6, 0, 0, 0)),
  (47, ([], .aload 4, 2, 4, 0, 0, 0)),
  (49, ([], .iload_n 2, 1, 2, 0, 0, 0)),
  (50, ([], .iload 5, 2, 5, 0, 0, 0)),
  (52, ([], .invokevirtual 254, 3, 4, 12, 0, 0)),
  (55, ([], .iload 6, 2, 6, 0, 0, 0)),
  (57, ([], .ireturn, 1, 0, 0, 0, 0))]
noncomputable def E_X6_close : Kt := exL SKc SKn SKr CS (lkp T_X6_close) [F_X6_airportAt, F_X6_requireRange, F_X6_weeksFromTo, F_X0_closedWeeksOn, F_X0_closeWeeksOn] [] []
noncomputable def F_X6_close : Fn := fun as h => E_X6_close 0 (pad 7 as) [] h
noncomputable def f_X6_close_45 (x2 : Int32) (a4 : Nat) (x5 : Int32) (s0 : Int32) (h : Hp) : Res := E_X6_close 45 [.retAddr 0, .retAddr 0, .int x2, .retAddr 0, .ref a4, .int x5, .retAddr 0] [.int s0] h
set_option maxRecDepth 100000 in
set_option maxHeartbeats 4000000 in
theorem e_X6_close_0 (x1 : Int32) (x2 : Int32) (x3 : Int32) (h : Hp) : F_X6_close [.ref 0, .int x1, .int x2, .int x3] h = bR (F_X6_airportAt [.ref 0, .int x1] h) (fun v2 h1 => bV (F_X6_requireRange [.int x2, .int 0, .int 6] h1) (fun h3 => bV (F_X6_requireRange [.int x3, .int 0, .int 19] h3) (fun h4 => bI (F_X6_weeksFromTo [.int x3, .int x3] h4) (fun v6 h5 => bI (F_X0_closedWeeksOn [.ref v2, .int x2] h5) (fun v8 h7 => if (v8 &&& v6) = 0 then f_X6_close_45 x2 v2 v6 1 h7 else f_X6_close_45 x2 v2 v6 0 h7) (hnk [])) (hnk [])) (hnk [])) (hnk [])) (hnk []) :=
  (exL_it SKc SKn SKr CS (lkp T_X6_close) [F_X6_airportAt, F_X6_requireRange, F_X6_weeksFromTo, F_X0_closedWeeksOn, F_X0_closeWeeksOn] [] [] [45] 24 0 [.ref 0, .int x1, .int x2, .int x3, .retAddr 0, .retAddr 0, .retAddr 0] [] h).trans rfl
set_option maxRecDepth 100000 in
set_option maxHeartbeats 4000000 in
theorem e_X6_close_45 (x2 : Int32) (a4 : Nat) (x5 : Int32) (s0 : Int32) (h : Hp) : f_X6_close_45 x2 a4 x5 s0 h = bV (F_X0_closeWeeksOn [.ref a4, .int x2, .int x5] h) (fun h1 => rtn (some (.int s0)) h1) (hnk []) :=
  (exL_it SKc SKn SKr CS (lkp T_X6_close) [F_X6_airportAt, F_X6_requireRange, F_X6_weeksFromTo, F_X0_closedWeeksOn, F_X0_closeWeeksOn] [] [] [45] 7 45 [.retAddr 0, .retAddr 0, .int x2, .retAddr 0, .ref a4, .int x5, .retAddr 0] [.int s0] h).trans rfl

def T_J6_bitCount_0f7a4 : List (Nat × Ent) := [(0, ([], .iload_n 0, 1, 0, 0, 0, 0)),
  (1, ([], .iload_n 0, 1, 0, 0, 0, 0)),
  (2, ([], .iconst 1, 1, 0, 0, 0, 1)),
  (3, ([], .iushr, 1, 0, 0, 0, 0)),
  (4, ([], .ldc_w 265, 3, 0, 0, 0, 1431655765)),
  (7, ([], .iand, 1, 0, 0, 0, 0)),
  (8, ([], .isub, 1, 0, 0, 0, 0)),
  (9, ([], .istore_n 0, 1, 0, 0, 0, 0)),
  (10, ([], .iload_n 0, 1, 0, 0, 0, 0)),
  (11, ([], .ldc_w 266, 3, 0, 0, 0, 858993459)),
  (14, ([], .iand, 1, 0, 0, 0, 0)),
  (15, ([], .iload_n 0, 1, 0, 0, 0, 0)),
  (16, ([], .iconst 2, 1, 0, 0, 0, 2)),
  (17, ([], .iushr, 1, 0, 0, 0, 0)),
  (18, ([], .ldc_w 266, 3, 0, 0, 0, 858993459)),
  (21, ([], .iand, 1, 0, 0, 0, 0)),
  (22, ([], .iadd, 1, 0, 0, 0, 0)),
  (23, ([], .istore_n 0, 1, 0, 0, 0, 0)),
  (24, ([], .iload_n 0, 1, 0, 0, 0, 0)),
  (25, ([], .iload_n 0, 1, 0, 0, 0, 0)),
  (26, ([], .iconst 4, 1, 0, 0, 0, 4)),
  (27, ([], .iushr, 1, 0, 0, 0, 0)),
  (28, ([], .iadd, 1, 0, 0, 0, 0)),
  (29, ([], .ldc_w 267, 3, 0, 0, 0, 252645135)),
  (32, ([], .iand, 1, 0, 0, 0, 0)),
  (33, ([], .istore_n 0, 1, 0, 0, 0, 0)),
  (34, ([], .iload_n 0, 1, 0, 0, 0, 0)),
  (35, ([], .iload_n 0, 1, 0, 0, 0, 0)),
  (36, ([], .bipush 8, 2, 0, 0, 0, 8)),
  (38, ([], .iushr, 1, 0, 0, 0, 0)),
  (39, ([], .iadd, 1, 0, 0, 0, 0)),
  (40, ([], .istore_n 0, 1, 0, 0, 0, 0)),
  (41, ([], .iload_n 0, 1, 0, 0, 0, 0)),
  (42, ([], .iload_n 0, 1, 0, 0, 0, 0)),
  (43, ([], .bipush 16, 2, 0, 0, 0, 16)),
  (45, ([], .iushr, 1, 0, 0, 0, 0)),
  (46, ([], .iadd, 1, 0, 0, 0, 0)),
  (47, ([], .istore_n 0, 1, 0, 0, 0, 0)),
  (48, ([], .iload_n 0, 1, 0, 0, 0, 0)),
  (49, ([], .bipush 63, 2, 0, 0, 0, 63)),
  (51, ([], .iand, 1, 0, 0, 0, 0)),
  (52, ([], .ireturn, 1, 0, 0, 0, 0))]
noncomputable def E_J6_bitCount_0f7a4 : Kt := exL SKc SKn SKr CS (lkp T_J6_bitCount_0f7a4) [] [] []
noncomputable def F_J6_bitCount_0f7a4 : Fn := fun as h => E_J6_bitCount_0f7a4 0 (pad 1 as) [] h
set_option maxRecDepth 100000 in
set_option maxHeartbeats 4000000 in
theorem e_J6_bitCount_0f7a4_0 (x0 : Int32) (h : Hp) : F_J6_bitCount_0f7a4 [.int x0] h = rtn (some (.int ((((((((x0 - (((x0.toUInt32 >>> (Int32.toUInt32 1 &&& Int32.toUInt32 31)).toInt32) &&& 1431655765)) &&& 858993459) + ((((x0 - (((x0.toUInt32 >>> (Int32.toUInt32 1 &&& Int32.toUInt32 31)).toInt32) &&& 1431655765)).toUInt32 >>> (Int32.toUInt32 2 &&& Int32.toUInt32 31)).toInt32) &&& 858993459)) + (((((x0 - (((x0.toUInt32 >>> (Int32.toUInt32 1 &&& Int32.toUInt32 31)).toInt32) &&& 1431655765)) &&& 858993459) + ((((x0 - (((x0.toUInt32 >>> (Int32.toUInt32 1 &&& Int32.toUInt32 31)).toInt32) &&& 1431655765)).toUInt32 >>> (Int32.toUInt32 2 &&& Int32.toUInt32 31)).toInt32) &&& 858993459)).toUInt32 >>> (Int32.toUInt32 4 &&& Int32.toUInt32 31)).toInt32)) &&& 252645135) + (((((((x0 - (((x0.toUInt32 >>> (Int32.toUInt32 1 &&& Int32.toUInt32 31)).toInt32) &&& 1431655765)) &&& 858993459) + ((((x0 - (((x0.toUInt32 >>> (Int32.toUInt32 1 &&& Int32.toUInt32 31)).toInt32) &&& 1431655765)).toUInt32 >>> (Int32.toUInt32 2 &&& Int32.toUInt32 31)).toInt32) &&& 858993459)) + (((((x0 - (((x0.toUInt32 >>> (Int32.toUInt32 1 &&& Int32.toUInt32 31)).toInt32) &&& 1431655765)) &&& 858993459) + ((((x0 - (((x0.toUInt32 >>> (Int32.toUInt32 1 &&& Int32.toUInt32 31)).toInt32) &&& 1431655765)).toUInt32 >>> (Int32.toUInt32 2 &&& Int32.toUInt32 31)).toInt32) &&& 858993459)).toUInt32 >>> (Int32.toUInt32 4 &&& Int32.toUInt32 31)).toInt32)) &&& 252645135).toUInt32 >>> (Int32.toUInt32 8 &&& Int32.toUInt32 31)).toInt32)) + ((((((((x0 - (((x0.toUInt32 >>> (Int32.toUInt32 1 &&& Int32.toUInt32 31)).toInt32) &&& 1431655765)) &&& 858993459) + ((((x0 - (((x0.toUInt32 >>> (Int32.toUInt32 1 &&& Int32.toUInt32 31)).toInt32) &&& 1431655765)).toUInt32 >>> (Int32.toUInt32 2 &&& Int32.toUInt32 31)).toInt32) &&& 858993459)) + (((((x0 - (((x0.toUInt32 >>> (Int32.toUInt32 1 &&& Int32.toUInt32 31)).toInt32) &&& 1431655765)) &&& 858993459) + ((((x0 - (((x0.toUInt32 >>> (Int32.toUInt32 1 &&& Int32.toUInt32 31)).toInt32) &&& 1431655765)).toUInt32 >>> (Int32.toUInt32 2 &&& Int32.toUInt32 31)).toInt32) &&& 858993459)).toUInt32 >>> (Int32.toUInt32 4 &&& Int32.toUInt32 31)).toInt32)) &&& 252645135) + (((((((x0 - (((x0.toUInt32 >>> (Int32.toUInt32 1 &&& Int32.toUInt32 31)).toInt32) &&& 1431655765)) &&& 858993459) + ((((x0 - (((x0.toUInt32 >>> (Int32.toUInt32 1 &&& Int32.toUInt32 31)).toInt32) &&& 1431655765)).toUInt32 >>> (Int32.toUInt32 2 &&& Int32.toUInt32 31)).toInt32) &&& 858993459)) + (((((x0 - (((x0.toUInt32 >>> (Int32.toUInt32 1 &&& Int32.toUInt32 31)).toInt32) &&& 1431655765)) &&& 858993459) + ((((x0 - (((x0.toUInt32 >>> (Int32.toUInt32 1 &&& Int32.toUInt32 31)).toInt32) &&& 1431655765)).toUInt32 >>> (Int32.toUInt32 2 &&& Int32.toUInt32 31)).toInt32) &&& 858993459)).toUInt32 >>> (Int32.toUInt32 4 &&& Int32.toUInt32 31)).toInt32)) &&& 252645135).toUInt32 >>> (Int32.toUInt32 8 &&& Int32.toUInt32 31)).toInt32)).toUInt32 >>> (Int32.toUInt32 16 &&& Int32.toUInt32 31)).toInt32)) &&& 63))) h :=
  (exL_it SKc SKn SKr CS (lkp T_J6_bitCount_0f7a4) [] [] [] [] 42 0 [.int x0] [] h).trans rfl

def T_X6_weeksUsed : List (Nat × Ent) := [(0, ([], .aload_n 0, 1, 0, 0, 0, 0)),
  (1, ([], .aload_n 1, 1, 1, 0, 0, 0)),
  (2, ([], .getfield 218, 3, 0, 10, 0, 0)),
  (5, ([], .invokevirtual 56, 3, 0, 10, 0, 0)),
  (8, ([], .aload_n 1, 1, 1, 0, 0, 0)),
  (9, ([], .getfield 302, 3, 2, 10, 0, 0)),
  (12, ([], .invokevirtual 251, 3, 1, 9, 0, 0)),
  (15, ([], .istore_n 2, 1, 2, 0, 0, 0)),
  (16, ([], .iload_n 2, 1, 2, 0, 0, 0)),
  (17, ([], .aload_n 1, 1, 1, 0, 0, 0)),
  (18, ([], .getfield 237, 3, 10, 10, 0, 0)),
  (21, ([], .ior, 1, 0, 0, 0, 0)),
  (22, ([], .aload_n 1, 1, 1, 0, 0, 0)),
  (23, ([], .getfield 217, 3, 4, 10, 0, 0)),
  (26, ([], .aload_n 1, 1, 1, 0, 0, 0)),
  (27, ([], .getfield 214, 3, 5, 10, 0, 0)),
  (30, ([], .invokestatic 234, 3, 2, 9, 0, 0)),
  (33, ([], .iand, 1, 0, 0, 0, 0)),
  (34, ([], .invokestatic 428, 3, 3, 5, 0, 0)),
  (37, ([], .ireturn, 1, 0, 0, 0, 0))]
noncomputable def E_X6_weeksUsed : Kt := exL SKc SKn SKr CS (lkp T_X6_weeksUsed) [F_X6_airportAt, F_X0_closedWeeksOn, F_X6_weeksFromTo, F_J6_bitCount_0f7a4] [] []
noncomputable def F_X6_weeksUsed : Fn := fun as h => E_X6_weeksUsed 0 (pad 3 as) [] h
set_option maxRecDepth 100000 in
set_option maxHeartbeats 4000000 in
theorem e_X6_weeksUsed_0 (a1 : Nat) (h : Hp) : F_X6_weeksUsed [.ref 0, .ref a1] h = gd (okc a1 5) (bR (F_X6_airportAt [.ref 0, .int (rd h a1 0)] h) (fun v2 h1 => gd (okc a1 5) (bI (F_X0_closedWeeksOn [.ref v2, .int (rd h1 a1 2)] h1) (fun v4 h3 => gd (okc a1 5) (gd (okc a1 5) (gd (okc a1 5) (bI (F_X6_weeksFromTo [.int (rd h3 a1 4), .int (rd h3 a1 5)] h3) (fun v6 h5 => bI (F_J6_bitCount_0f7a4 [.int ((v4 ||| (rd h3 a1 10)) &&& v6)] h5) (fun v8 h7 => rtn (some (.int v8)) h7) (hnk [])) (hnk []))))) (hnk []))) (hnk [])) :=
  (exL_it SKc SKn SKr CS (lkp T_X6_weeksUsed) [F_X6_airportAt, F_X0_closedWeeksOn, F_X6_weeksFromTo, F_J6_bitCount_0f7a4] [] [] [] 20 0 [.ref 0, .ref a1, .retAddr 0] [] h).trans rfl

def T_X6_earnsRight : List (Nat × Ent) := [(0, ([], .aload_n 1, 1, 1, 0, 0, 0)),
  (1, ([], .invokevirtual 433, 3, 0, 5, 0, 0)),
  (4, ([], .istore_n 2, 1, 2, 0, 0, 0)),
  (5, ([], .aload_n 1, 1, 1, 0, 0, 0)),
  (6, ([], .getfield 210, 3, 12, 10, 0, 0)),
  (9, ([], .ifCond .ne 27, 3, 36, 0, 0, 0)),
  (12, ([], .iload_n 2, 1, 2, 0, 0, 0)),
  (13, ([], .iconst 5, 1, 0, 0, 0, 5)),
  (14, ([], .if_icmp .lt 22, 3, 36, 0, 0, 0)),
  (17, ([], .aload_n 0, 1, 0, 0, 0, 0)),
  (18, ([], .aload_n 1, 1, 1, 0, 0, 0)),
  (19, ([], .invokevirtual 306, 3, 1, 9, 0, 0)),
  (22, ([], .bipush 100, 2, 0, 0, 0, 100)),
  (24, ([], .imul, 1, 0, 0, 0, 0)),
  (25, ([], .iload_n 2, 1, 2, 0, 0, 0)),
  (26, ([], .bipush 80, 2, 0, 0, 0, 80)),
  (28, ([], .imul, 1, 0, 0, 0, 0)),
  (29, ([], .if_icmp .lt 7, 3, 36, 0, 0, 0)),
  (32, ([], .iconst 1, 1, 0, 0, 0, 1)),
  (33, ([], .goto 4, 3, 37, 0, 0, 0)),
  (36, ([], .iconst 0, 1, 0, 0, 0, 0)),
  (37, ([], .ireturn, 1, 0, 0, 0, 0))]
noncomputable def E_X6_earnsRight : Kt := exL SKc SKn SKr CS (lkp T_X6_earnsRight) [F_X5_weeks, F_X6_weeksUsed] [] []
noncomputable def F_X6_earnsRight : Fn := fun as h => E_X6_earnsRight 0 (pad 3 as) [] h
set_option maxRecDepth 100000 in
set_option maxHeartbeats 4000000 in
theorem e_X6_earnsRight_0 (a1 : Nat) (h : Hp) : F_X6_earnsRight [.ref 0, .ref a1] h = bI (F_X5_weeks [.ref a1] h) (fun v2 h1 => gd (okc a1 5) (if (rd h1 a1 12) = 0 then if v2 < 5 then rtn (some (.int 0)) h1 else bI (F_X6_weeksUsed [.ref 0, .ref a1] h1) (fun v4 h3 => if (v4 * 100) < (v2 * 80) then rtn (some (.int 0)) h3 else rtn (some (.int 1)) h3) (hnk []) else rtn (some (.int 0)) h1)) (hnk []) :=
  (exL_it SKc SKn SKr CS (lkp T_X6_earnsRight) [F_X5_weeks, F_X6_weeksUsed] [] [] [] 21 0 [.ref 0, .ref a1, .retAddr 0] [] h).trans rfl

def T_X6_turnSeriesIntoRights : List (Nat × Ent) := [(0, ([], .iconst 0, 1, 0, 0, 0, 0)),
  (1, ([], .istore_n 1, 1, 1, 0, 0, 0)),
  (2, ([], .iconst 0, 1, 0, 0, 0, 0)),
  (3, ([], .istore_n 2, 1, 2, 0, 0, 0)),
  (4, ([false, false, false, true], .iload_n 2, 1, 2, 0, 0, 0)),
  (5, ([], .aload_n 0, 1, 0, 0, 0, 0)),
  (6, ([], .getfield 268, 3, 11, 0, 0, 0)),
  (9, ([], .if_icmp .ge 45, 3, 54, 0, 0, 0)),
  (12, ([], .iload_n 1, 1, 1, 0, 0, 0)),
  (13, ([], .aload_n 0, 1, 0, 0, 0, 0)),
  (14, ([], .getfield 33, 3, 4, 1, 0, 0)),
  (17, ([], .arraylength, 1, 0, 0, 0, 0)),
  (18, ([], .if_icmp .ge 36, 3, 54, 0, 0, 0)),
  (21, ([], .aload_n 0, 1, 0, 0, 0, 0)),
  (22, ([], .iload_n 2, 1, 2, 0, 0, 0)),
  (23, ([], .invokevirtual 206, 3, 0, 10, 0, 0)),
  (26, ([], .astore_n 3, 1, 3, 0, 0, 0)),
  (27, ([], .aload_n 0, 1, 0, 0, 0, 0)),
  (28, ([], .aload_n 3, 1, 3, 0, 0, 0)),
  (29, ([], .invokevirtual 312, 3, 1, 9, 0, 0)),
  (32, ([], .ifCond .eq 16, 3, 48, 0, 0, 0)),
  (35, ([], .aload_n 0, 1, 0, 0, 0, 0)),
  (36, ([], .getfield 33, 3, 4, 1, 0, 0)),
  (39, ([], .iload_n 1, 1, 1, 0, 0, 0)),
  (40, ([], .aaload, 1, 0, 0, 0, 0)),
  (41, ([], .aload_n 3, 1, 3, 0, 0, 0)),
  (42, ([], .invokevirtual 434, 3, 2, 8, 0, 0)),
  (45, ([], .iinc 1 1, 3, 1, 0, 0, 1)),
  (48, ([false, false, false, true], .iinc 2 1, 3, 2, 0, 0, 1)),
  (51, ([], .goto (-47), 3, 4, 0, 0, 0)),
  (54, ([], .iload_n 1, 1, 1, 0, 0, 0)),
  (55, ([], .ireturn, 1, 0, 0, 0, 0))]
noncomputable def E_X6_turnSeriesIntoRights : Kt := exL SKc SKn SKr CS (lkp T_X6_turnSeriesIntoRights) [F_X6_seriesAt, F_X6_earnsRight, F_X2_begin] [] []
noncomputable def F_X6_turnSeriesIntoRights : Fn := fun as h => E_X6_turnSeriesIntoRights 0 (pad 4 as) [] h
noncomputable def f_X6_turnSeriesIntoRights_4 (x1 : Int32) (x2 : Int32) (h : Hp) : Res := E_X6_turnSeriesIntoRights 4 [.ref 0, .int x1, .int x2, .retAddr 0] [] h
noncomputable def f_X6_turnSeriesIntoRights_48 (x1 : Int32) (x2 : Int32) (h : Hp) : Res := E_X6_turnSeriesIntoRights 48 [.ref 0, .int x1, .int x2, .retAddr 0] [] h
set_option maxRecDepth 100000 in
set_option maxHeartbeats 4000000 in
theorem e_X6_turnSeriesIntoRights_0 (h : Hp) : F_X6_turnSeriesIntoRights [.ref 0] h = f_X6_turnSeriesIntoRights_4 0 0 h :=
  (exL_it SKc SKn SKr CS (lkp T_X6_turnSeriesIntoRights) [F_X6_seriesAt, F_X6_earnsRight, F_X2_begin] [] [] [4, 48] 4 0 [.ref 0, .retAddr 0, .retAddr 0, .retAddr 0] [] h).trans rfl
set_option maxRecDepth 100000 in
set_option maxHeartbeats 4000000 in
theorem e_X6_turnSeriesIntoRights_4 (x1 : Int32) (x2 : Int32) (h : Hp) : f_X6_turnSeriesIntoRights_4 x1 x2 h = if x2 < (rd h 0 11) then if x1 < 60 then bR (F_X6_seriesAt [.ref 0, .int x2] h) (fun v2 h1 => bI (F_X6_earnsRight [.ref 0, .ref v2] h1) (fun v4 h3 => if v4 = 0 then f_X6_turnSeriesIntoRights_48 x1 x2 h3 else gd (inb x1 60) (bV (F_X2_begin [.ref (SKr 5 x1.toNatClampNeg), .ref v2] h3) (fun h5 => f_X6_turnSeriesIntoRights_48 (x1 + 1) x2 h5) (hnk []))) (hnk [])) (hnk []) else rtn (some (.int x1)) h else rtn (some (.int x1)) h :=
  (exL_it SKc SKn SKr CS (lkp T_X6_turnSeriesIntoRights) [F_X6_seriesAt, F_X6_earnsRight, F_X2_begin] [] [] [4, 48] 24 4 [.ref 0, .int x1, .int x2, .retAddr 0] [] h).trans rfl
set_option maxRecDepth 100000 in
set_option maxHeartbeats 4000000 in
theorem e_X6_turnSeriesIntoRights_48 (x1 : Int32) (x2 : Int32) (h : Hp) : f_X6_turnSeriesIntoRights_48 x1 x2 h = f_X6_turnSeriesIntoRights_4 x1 (x2 + 1) h :=
  (exL_it SKc SKn SKr CS (lkp T_X6_turnSeriesIntoRights) [F_X6_seriesAt, F_X6_earnsRight, F_X2_begin] [] [] [4, 48] 2 48 [.ref 0, .int x1, .int x2, .retAddr 0] [] h).trans rfl

def T_X6_end : List (Nat × Ent) := [(0, ([], .aload_n 0, 1, 0, 0, 0, 0)),
  (1, ([], .getfield 257, 3, 14, 0, 0, 0)),
  (4, ([], .bipush 20, 2, 0, 0, 0, 20)),
  (6, ([], .if_icmp .lt 14, 3, 20, 0, 0, 0)),
  (9, ([], .new 72, 3, 2, 0, 0, 0)),
  (20, ([], .aload_n 0, 1, 0, 0, 0, 0)),
  (21, ([], .aload_n 0, 1, 0, 0, 0, 0)),
  (22, ([], .invokevirtual 262, 3, 0, 5, 0, 0)),
  (25, ([], .putfield 265, 3, 12, 0, 0, 0)),
  (28, ([], .aload_n 0, 1, 0, 0, 0, 0)),
  (29, ([], .iconst 0, 1, 0, 0, 0, 0)),
  (30, ([], .putfield 117, 3, 10, 0, 0, 0)),
  (33, ([], .aload_n 0, 1, 0, 0, 0, 0)),
  (34, ([], .iconst 0, 1, 0, 0, 0, 0)),
  (35, ([], .putfield 268, 3, 11, 0, 0, 0)),
  (38, ([], .aload_n 0, 1, 0, 0, 0, 0)),
  (39, ([], .iconst 0, 1, 0, 0, 0, 0)),
  (40, ([], .putfield 271, 3, 13, 0, 0, 0)),
  (43, ([], .iconst 0, 1, 0, 0, 0, 0)),
  (44, ([], .istore_n 1, 1, 1, 0, 0, 0)),
  (45, ([false, false], .iload_n 1, 1, 1, 0, 0, 0)),
  (46, ([], .aload_n 0, 1, 0, 0, 0, 0)),
  (47, ([], .getfield 11, 3, 0, 1, 0, 0)),
  (50, ([], .arraylength, 1, 0, 0, 0, 0)),
  (51, ([], .if_icmp .ge 17, 3, 68, 0, 0, 0)),
  (54, ([], .aload_n 0, 1, 0, 0, 0, 0)),
  (55, ([], .iload_n 1, 1, 1, 0, 0, 0)),
  (56, ([], .invokevirtual 56, 3, 1, 10, 0, 0)),
  (59, ([], .invokevirtual 274, 3, 2, 4, 0, 0)),
  (62, ([], .iinc 1 1, 3, 1, 0, 0, 1)),
  (65, ([], .goto (-20), 3, 45, 0, 0, 0)),
  (68, ([], .aload_n 0, 1, 0, 0, 0, 0)),
  (69, ([], .dup, 1, 0, 0, 0, 0)),
  (70, ([], .getfield 257, 3, 14, 0, 0, 0)),
  (73, ([], .iconst 1, 1, 0, 0, 0, 1)),
  (74, ([], .iadd, 1, 0, 0, 0, 0)),
  (75, ([], .putfield 257, 3, 14, 0, 0, 0)),
  (78, ([], .aload_n 0, 1, 0, 0, 0, 0)),
  (79, ([], .getfield 265, 3, 12, 0, 0, 0)),
  (82, ([], .ireturn, 1, 0, 0, 0, 0))]
noncomputable def E_X6_end : Kt := exL SKc SKn SKr CS (lkp T_X6_end) [F_X6_turnSeriesIntoRights, F_X6_airportAt, F_X0_openAllDays] [] []
noncomputable def F_X6_end : Fn := fun as h => E_X6_end 0 (pad 2 as) [] h
noncomputable def f_X6_end_45 (x1 : Int32) (h : Hp) : Res := E_X6_end 45 [.ref 0, .int x1] [] h
set_option maxRecDepth 100000 in
set_option maxHeartbeats 4000000 in
theorem e_X6_end_0 (h : Hp) : F_X6_end [.ref 0] h = if (rd h 0 14) < 20 then bI (F_X6_turnSeriesIntoRights [.ref 0] h) (fun v2 h1 => f_X6_end_45 0 (wr (wr (wr (wr h1 0 12 v2) 0 10 0) 0 11 0) 0 13 0)) (hnk []) else thr 2 h :=
  (exL_it SKc SKn SKr CS (lkp T_X6_end) [F_X6_turnSeriesIntoRights, F_X6_airportAt, F_X0_openAllDays] [] [] [45] 19 0 [.ref 0, .retAddr 0] [] h).trans rfl
set_option maxRecDepth 100000 in
set_option maxHeartbeats 4000000 in
theorem e_X6_end_45 (x1 : Int32) (h : Hp) : f_X6_end_45 x1 h = if x1 < 4 then bR (F_X6_airportAt [.ref 0, .int x1] h) (fun v2 h1 => bV (F_X0_openAllDays [.ref v2] h1) (fun h3 => f_X6_end_45 (x1 + 1) h3) (hnk [])) (hnk []) else rtn (some (.int (rd h 0 12))) (wr h 0 14 ((rd h 0 14) + 1)) :=
  (exL_it SKc SKn SKr CS (lkp T_X6_end) [F_X6_turnSeriesIntoRights, F_X6_airportAt, F_X0_openAllDays] [] [] [45] 14 45 [.ref 0, .int x1] [] h).trans rfl

def T_X6_season : List (Nat × Ent) := [(0, ([], .aload_n 0, 1, 0, 0, 0, 0)),
  (1, ([], .getfield 257, 3, 14, 0, 0, 0)),
  (4, ([], .ireturn, 1, 0, 0, 0, 0))]
noncomputable def E_X6_season : Kt := exL SKc SKn SKr CS (lkp T_X6_season) [] [] []
noncomputable def F_X6_season : Fn := fun as h => E_X6_season 0 (pad 1 as) [] h
set_option maxRecDepth 100000 in
set_option maxHeartbeats 4000000 in
theorem e_X6_season_0 (h : Hp) : F_X6_season [.ref 0] h = rtn (some (.int (rd h 0 14))) h :=
  (exL_it SKc SKn SKr CS (lkp T_X6_season) [] [] [] [] 3 0 [.ref 0] [] h).trans rfl

def T_X6_slotsBetween : List (Nat × Ent) := [(0, ([], .iconst 0, 1, 0, 0, 0, 0)),
  (1, ([], .istore 7, 2, 7, 0, 0, 0)),
  (3, ([], .iconst 0, 1, 0, 0, 0, 0)),
  (4, ([], .istore 8, 2, 8, 0, 0, 0)),
  (6, ([false, false, false, false, false, false, false, false, false, true], .iload 8, 2, 8, 0, 0, 0)),
  (8, ([], .aload_n 0, 1, 0, 0, 0, 0)),
  (9, ([], .getfield 268, 3, 11, 0, 0, 0)),
  (12, ([], .if_icmp .ge 53, 3, 65, 0, 0, 0)),
  (15, ([], .aload_n 0, 1, 0, 0, 0, 0)),
  (16, ([], .iload 8, 2, 8, 0, 0, 0)),
  (18, ([], .invokevirtual 206, 3, 0, 10, 0, 0)),
  (21, ([], .astore 9, 2, 9, 0, 0, 0)),
  (23, ([], .aload 9, 2, 9, 0, 0, 0)),
  (25, ([], .iload_n 1, 1, 1, 0, 0, 0)),
  (26, ([], .iload_n 2, 1, 2, 0, 0, 0)),
  (27, ([], .iload_n 3, 1, 3, 0, 0, 0)),
  (28, ([], .invokevirtual 381, 3, 1, 17, 0, 0)),
  (31, ([], .ifCond .eq 28, 3, 59, 0, 0, 0)),
  (34, ([], .aload 9, 2, 9, 0, 0, 0)),
  (36, ([], .iload 4, 2, 4, 0, 0, 0)),
  (38, ([], .invokevirtual 388, 3, 2, 9, 0, 0)),
  (41, ([], .ifCond .eq 18, 3, 59, 0, 0, 0)),
  (44, ([], .aload 9, 2, 9, 0, 0, 0)),
  (46, ([], .iload 5, 2, 5, 0, 0, 0)),
  (48, ([], .iload 6, 2, 6, 0, 0, 0)),
  (50, ([], .invokevirtual 385, 3, 3, 13, 0, 0)),
  (53, ([], .ifCond .eq 6, 3, 59, 0, 0, 0)),
  (56, ([], .iinc 7 1, 3, 7, 0, 0, 1)),
  (59, ([false, false, false, false, false, false, false, false, false, true], .iinc 8 1, 3, 8, 0, 0, 1)),
  (62, ([], .goto (-56), 3, 6, 0, 0, 0)),
  (65, ([], .iload 7, 2, 7, 0, 0, 0)),
  (67, ([], .ireturn, 1, 0, 0, 0, 0))]
noncomputable def E_X6_slotsBetween : Kt := exL SKc SKn SKr CS (lkp T_X6_slotsBetween) [F_X6_seriesAt, F_X4_isOn, F_X5_lastsIn, F_X4_isBetween] [] []
noncomputable def F_X6_slotsBetween : Fn := fun as h => E_X6_slotsBetween 0 (pad 10 as) [] h
noncomputable def f_X6_slotsBetween_6 (x1 : Int32) (x2 : Int32) (x3 : Int32) (x4 : Int32) (x5 : Int32) (x6 : Int32) (x7 : Int32) (x8 : Int32) (h : Hp) : Res := E_X6_slotsBetween 6 [.ref 0, .int x1, .int x2, .int x3, .int x4, .int x5, .int x6, .int x7, .int x8, .retAddr 0] [] h
noncomputable def f_X6_slotsBetween_59 (x1 : Int32) (x2 : Int32) (x3 : Int32) (x4 : Int32) (x5 : Int32) (x6 : Int32) (x7 : Int32) (x8 : Int32) (h : Hp) : Res := E_X6_slotsBetween 59 [.ref 0, .int x1, .int x2, .int x3, .int x4, .int x5, .int x6, .int x7, .int x8, .retAddr 0] [] h
set_option maxRecDepth 100000 in
set_option maxHeartbeats 4000000 in
theorem e_X6_slotsBetween_0 (x1 : Int32) (x2 : Int32) (x3 : Int32) (x4 : Int32) (x5 : Int32) (x6 : Int32) (h : Hp) : F_X6_slotsBetween [.ref 0, .int x1, .int x2, .int x3, .int x4, .int x5, .int x6] h = f_X6_slotsBetween_6 x1 x2 x3 x4 x5 x6 0 0 h :=
  (exL_it SKc SKn SKr CS (lkp T_X6_slotsBetween) [F_X6_seriesAt, F_X4_isOn, F_X5_lastsIn, F_X4_isBetween] [] [] [6, 59] 4 0 [.ref 0, .int x1, .int x2, .int x3, .int x4, .int x5, .int x6, .retAddr 0, .retAddr 0, .retAddr 0] [] h).trans rfl
set_option maxRecDepth 100000 in
set_option maxHeartbeats 4000000 in
theorem e_X6_slotsBetween_6 (x1 : Int32) (x2 : Int32) (x3 : Int32) (x4 : Int32) (x5 : Int32) (x6 : Int32) (x7 : Int32) (x8 : Int32) (h : Hp) : f_X6_slotsBetween_6 x1 x2 x3 x4 x5 x6 x7 x8 h = if x8 < (rd h 0 11) then bR (F_X6_seriesAt [.ref 0, .int x8] h) (fun v2 h1 => bI (F_X4_isOn [.ref v2, .int x1, .int x2, .int x3] h1) (fun v4 h3 => if v4 = 0 then f_X6_slotsBetween_59 x1 x2 x3 x4 x5 x6 x7 x8 h3 else bI (F_X5_lastsIn [.ref v2, .int x4] h3) (fun v6 h5 => if v6 = 0 then f_X6_slotsBetween_59 x1 x2 x3 x4 x5 x6 x7 x8 h5 else bI (F_X4_isBetween [.ref v2, .int x5, .int x6] h5) (fun v8 h7 => if v8 = 0 then f_X6_slotsBetween_59 x1 x2 x3 x4 x5 x6 x7 x8 h7 else f_X6_slotsBetween_59 x1 x2 x3 x4 x5 x6 (x7 + 1) x8 h7) (hnk [])) (hnk [])) (hnk [])) (hnk []) else rtn (some (.int x7)) h :=
  (exL_it SKc SKn SKr CS (lkp T_X6_slotsBetween) [F_X6_seriesAt, F_X4_isOn, F_X5_lastsIn, F_X4_isBetween] [] [] [6, 59] 24 6 [.ref 0, .int x1, .int x2, .int x3, .int x4, .int x5, .int x6, .int x7, .int x8, .retAddr 0] [] h).trans rfl
set_option maxRecDepth 100000 in
set_option maxHeartbeats 4000000 in
theorem e_X6_slotsBetween_59 (x1 : Int32) (x2 : Int32) (x3 : Int32) (x4 : Int32) (x5 : Int32) (x6 : Int32) (x7 : Int32) (x8 : Int32) (h : Hp) : f_X6_slotsBetween_59 x1 x2 x3 x4 x5 x6 x7 x8 h = f_X6_slotsBetween_6 x1 x2 x3 x4 x5 x6 x7 (x8 + 1) h :=
  (exL_it SKc SKn SKr CS (lkp T_X6_slotsBetween) [F_X6_seriesAt, F_X4_isOn, F_X5_lastsIn, F_X4_isBetween] [] [] [6, 59] 2 59 [.ref 0, .int x1, .int x2, .int x3, .int x4, .int x5, .int x6, .int x7, .int x8, .retAddr 0] [] h).trans rfl

def T_X6_load : List (Nat × Ent) := [(0, ([], .aload_n 0, 1, 0, 0, 0, 0)),
  (1, ([], .iload_n 1, 1, 1, 0, 0, 0)),
  (2, ([], .invokevirtual 56, 3, 0, 10, 0, 0)),
  (5, ([], .pop, 1, 0, 0, 0, 0)),
  (6, ([], .iload_n 2, 1, 2, 0, 0, 0)),
  (7, ([], .invokestatic 60, 3, 1, 4, 0, 0)),
  (10, ([], .iload_n 3, 1, 3, 0, 0, 0)),
  (11, ([], .iconst 0, 1, 0, 0, 0, 0)),
  (12, ([], .bipush 6, 2, 0, 0, 0, 6)),
  (14, ([], .invokestatic 64, 3, 2, 12, 0, 0)),
  (17, ([], .iload 4, 2, 4, 0, 0, 0)),
  (19, ([], .iconst 0, 1, 0, 0, 0, 0)),
  (20, ([], .bipush 19, 2, 0, 0, 0, 19)),
  (22, ([], .invokestatic 64, 3, 2, 12, 0, 0)),
  (25, ([], .iload 5, 2, 5, 0, 0, 0)),
  (27, ([], .iconst 0, 1, 0, 0, 0, 0)),
  (28, ([], .bipush 71, 2, 0, 0, 0, 71)),
  (30, ([], .invokestatic 64, 3, 2, 12, 0, 0)),
  (33, ([], .iload 6, 2, 6, 0, 0, 0)),
  (35, ([], .iload 5, 2, 5, 0, 0, 0)),
  (37, ([], .bipush 71, 2, 0, 0, 0, 71)),
  (39, ([], .invokestatic 64, 3, 2, 12, 0, 0)),
  (42, ([], .aload_n 0, 1, 0, 0, 0, 0)),
  (43, ([], .iload_n 1, 1, 1, 0, 0, 0)),
  (44, ([], .iload_n 2, 1, 2, 0, 0, 0)),
  (45, ([], .iload_n 3, 1, 3, 0, 0, 0)),
  (46, ([], .iload 4, 2, 4, 0, 0, 0)),
  (48, ([], .iload 5, 2, 5, 0, 0, 0)),
  (50, ([], .iload 6, 2, 6, 0, 0, 0)),
  (52, ([], .invokevirtual 277, 3, 3, 29, 0, 0)),
  (55, ([], .ireturn, 1, 0, 0, 0, 0))]
noncomputable def E_X6_load : Kt := exL SKc SKn SKr CS (lkp T_X6_load) [F_X6_airportAt, F_X6_requireKindOrEither, F_X6_requireRange, F_X6_slotsBetween] [] []
noncomputable def F_X6_load : Fn := fun as h => E_X6_load 0 (pad 7 as) [] h
set_option maxRecDepth 100000 in
set_option maxHeartbeats 4000000 in
theorem e_X6_load_0 (x1 : Int32) (x2 : Int32) (x3 : Int32) (x4 : Int32) (x5 : Int32) (x6 : Int32) (h : Hp) : F_X6_load [.ref 0, .int x1, .int x2, .int x3, .int x4, .int x5, .int x6] h = bR (F_X6_airportAt [.ref 0, .int x1] h) (fun v2 h1 => bV (F_X6_requireKindOrEither [.int x2] h1) (fun h3 => bV (F_X6_requireRange [.int x3, .int 0, .int 6] h3) (fun h4 => bV (F_X6_requireRange [.int x4, .int 0, .int 19] h4) (fun h5 => bV (F_X6_requireRange [.int x5, .int 0, .int 71] h5) (fun h6 => bV (F_X6_requireRange [.int x6, .int x5, .int 71] h6) (fun h7 => bI (F_X6_slotsBetween [.ref 0, .int x1, .int x2, .int x3, .int x4, .int x5, .int x6] h7) (fun v9 h8 => rtn (some (.int v9)) h8) (hnk [])) (hnk [])) (hnk [])) (hnk [])) (hnk [])) (hnk [])) (hnk []) :=
  (exL_it SKc SKn SKr CS (lkp T_X6_load) [F_X6_airportAt, F_X6_requireKindOrEither, F_X6_requireRange, F_X6_slotsBetween] [] [] [] 31 0 [.ref 0, .int x1, .int x2, .int x3, .int x4, .int x5, .int x6] [] h).trans rfl

def T_X6_worst : List (Nat × Ent) := [(0, ([], .aload_n 0, 1, 0, 0, 0, 0)),
  (1, ([], .iload_n 1, 1, 1, 0, 0, 0)),
  (2, ([], .invokevirtual 56, 3, 0, 10, 0, 0)),
  (5, ([], .iload_n 2, 1, 2, 0, 0, 0)),
  (6, ([], .invokevirtual 79, 3, 1, 10, 0, 0)),
  (9, ([], .astore 5, 2, 5, 0, 0, 0)),
  (11, ([], .iload_n 3, 1, 3, 0, 0, 0)),
  (12, ([], .iconst 0, 1, 0, 0, 0, 0)),
  (13, ([], .bipush 6, 2, 0, 0, 0, 6)),
  (15, ([], .invokestatic 64, 3, 2, 12, 0, 0)),
  (18, ([], .iload 4, 2, 4, 0, 0, 0)),
  (20, ([], .iconst 0, 1, 0, 0, 0, 0)),
  (21, ([], .bipush 19, 2, 0, 0, 0, 19)),
  (23, ([], .invokestatic 64, 3, 2, 12, 0, 0)),
  (26, ([], .iconst 0, 1, 0, 0, 0, 0)),
  (27, ([], .istore 6, 2, 6, 0, 0, 0)),
  (29, ([], .iconst 0, 1, 0, 0, 0, 0)),
  (30, ([], .istore 7, 2, 7, 0, 0, 0)),
  (32, ([false, false, true, false, false, false, false, false, true], .iload 7, 2, 7, 0, 0, 0)),
  (34, ([], .bipush 72, 2, 0, 0, 0, 72)),
  (36, ([], .aload 5, 2, 5, 0, 0, 0)),
  (38, ([], .getfield 88, 3, 1, 6, 0, 0)),
  (41, ([], .isub, 1, 0, 0, 0, 0)),
  (42, ([], .if_icmp .gt 45, 3, 87, 0, 0, 0)),
  (45, ([], .iload 7, 2, 7, 0, 0, 0)),
  (47, ([], .aload 5, 2, 5, 0, 0, 0)),
  (49, ([], .getfield 88, 3, 1, 6, 0, 0)),
  (52, ([], .iadd, 1, 0, 0, 0, 0)),
  (53, ([], .iconst 1, 1, 0, 0, 0, 1)),
  (54, ([], .isub, 1, 0, 0, 0, 0)),
  (55, ([], .istore 8, 2, 8, 0, 0, 0)),
  (57, ([], .iload 6, 2, 6, 0, 0, 0)),
  (59, ([], .aload_n 0, 1, 0, 0, 0, 0)),
  (60, ([], .iload_n 1, 1, 1, 0, 0, 0)),
  (61, ([], .aload 5, 2, 5, 0, 0, 0)),
  (63, ([], .getfield 83, 3, 0, 6, 0, 0)),
  (66, ([], .iload_n 3, 1, 3, 0, 0, 0)),
  (67, ([], .iload 4, 2, 4, 0, 0, 0)),
  (69, ([], .iload 7, 2, 7, 0, 0, 0)),
  (71, ([], .iload 8, 2, 8, 0, 0, 0)),
  (73, ([], .invokevirtual 277, 3, 3, 29, 0, 0)),
  (76, ([], .invokestatic 281, 3, 4, 9, 0, 0)),
  (79, ([], .istore 6, 2, 6, 0, 0, 0)),
  (81, ([], .iinc 7 1, 3, 7, 0, 0, 1)),
  (84, ([], .goto (-52), 3, 32, 0, 0, 0)),
  (87, ([], .iload 6, 2, 6, 0, 0, 0)),
  (89, ([], .ireturn, 1, 0, 0, 0, 0))]
noncomputable def E_X6_worst : Kt := exL SKc SKn SKr CS (lkp T_X6_worst) [F_X6_airportAt, F_X0_ruleAt, F_X6_requireRange, F_X6_slotsBetween, F_mmax] [] []
noncomputable def F_X6_worst : Fn := fun as h => E_X6_worst 0 (pad 9 as) [] h
noncomputable def f_X6_worst_32 (x1 : Int32) (x3 : Int32) (x4 : Int32) (a5 : Nat) (x6 : Int32) (x7 : Int32) (h : Hp) : Res := E_X6_worst 32 [.ref 0, .int x1, .retAddr 0, .int x3, .int x4, .ref a5, .int x6, .int x7, .retAddr 0] [] h
set_option maxRecDepth 100000 in
set_option maxHeartbeats 4000000 in
theorem e_X6_worst_0 (x1 : Int32) (x2 : Int32) (x3 : Int32) (x4 : Int32) (h : Hp) : F_X6_worst [.ref 0, .int x1, .int x2, .int x3, .int x4] h = bR (F_X6_airportAt [.ref 0, .int x1] h) (fun v2 h1 => bR (F_X0_ruleAt [.ref v2, .int x2] h1) (fun v4 h3 => bV (F_X6_requireRange [.int x3, .int 0, .int 6] h3) (fun h5 => bV (F_X6_requireRange [.int x4, .int 0, .int 19] h5) (fun h6 => f_X6_worst_32 x1 x3 x4 v4 0 0 h6) (hnk [])) (hnk [])) (hnk [])) (hnk []) :=
  (exL_it SKc SKn SKr CS (lkp T_X6_worst) [F_X6_airportAt, F_X0_ruleAt, F_X6_requireRange, F_X6_slotsBetween, F_mmax] [] [] [32] 18 0 [.ref 0, .int x1, .int x2, .int x3, .int x4, .retAddr 0, .retAddr 0, .retAddr 0, .retAddr 0] [] h).trans rfl
set_option maxRecDepth 100000 in
set_option maxHeartbeats 4000000 in
theorem e_X6_worst_32 (x1 : Int32) (x3 : Int32) (x4 : Int32) (a5 : Nat) (x6 : Int32) (x7 : Int32) (h : Hp) : f_X6_worst_32 x1 x3 x4 a5 x6 x7 h = gd (okc a5 3) (if (72 - (rd h a5 1)) < x7 then rtn (some (.int x6)) h else gd (okc a5 3) (gd (okc a5 3) (bI (F_X6_slotsBetween [.ref 0, .int x1, .int (rd h a5 0), .int x3, .int x4, .int x7, .int ((x7 + (rd h a5 1)) - 1)] h) (fun v2 h1 => f_X6_worst_32 x1 x3 x4 a5 (if x6 < v2 then v2 else x6) (x7 + 1) h1) (hnk [])))) :=
  (exL_it SKc SKn SKr CS (lkp T_X6_worst) [F_X6_airportAt, F_X0_ruleAt, F_X6_requireRange, F_X6_slotsBetween, F_mmax] [] [] [32] 27 32 [.ref 0, .int x1, .retAddr 0, .int x3, .int x4, .ref a5, .int x6, .int x7, .retAddr 0] [] h).trans rfl

def T_X6_noise : List (Nat × Ent) := [(0, ([], .aload_n 0, 1, 0, 0, 0, 0)),
  (1, ([], .iload_n 1, 1, 1, 0, 0, 0)),
  (2, ([], .invokevirtual 56, 3, 0, 10, 0, 0)),
  (5, ([], .pop, 1, 0, 0, 0, 0)),
  (6, ([], .aload_n 0, 1, 0, 0, 0, 0)),
  (7, ([], .iload_n 1, 1, 1, 0, 0, 0)),
  (8, ([], .invokevirtual 284, 3, 1, 9, 0, 0)),
  (11, ([], .ireturn, 1, 0, 0, 0, 0))]
noncomputable def E_X6_noise : Kt := exL SKc SKn SKr CS (lkp T_X6_noise) [F_X6_airportAt, F_X6_noiseByNight] [] []
noncomputable def F_X6_noise : Fn := fun as h => E_X6_noise 0 (pad 2 as) [] h
set_option maxRecDepth 100000 in
set_option maxHeartbeats 4000000 in
theorem e_X6_noise_0 (x1 : Int32) (h : Hp) : F_X6_noise [.ref 0, .int x1] h = bR (F_X6_airportAt [.ref 0, .int x1] h) (fun v2 h1 => bI (F_X6_noiseByNight [.ref 0, .int x1] h1) (fun v4 h3 => rtn (some (.int v4)) h3) (hnk [])) (hnk []) :=
  (exL_it SKc SKn SKr CS (lkp T_X6_noise) [F_X6_airportAt, F_X6_noiseByNight] [] [] [] 8 0 [.ref 0, .int x1] [] h).trans rfl

def T_X6_requestOf : List (Nat × Ent) := [(0, ([], .aload_n 0, 1, 0, 0, 0, 0)),
  (1, ([], .iload_n 1, 1, 1, 0, 0, 0)),
  (2, ([], .invokevirtual 128, 3, 0, 10, 0, 0)),
  (5, ([], .astore_n 3, 1, 3, 0, 0, 0)),
  (6, ([], .iload_n 2, 1, 2, 0, 0, 0)),
  (7, ([], .tableswitch 99 0 5 #[37, 42, 62, 67, 72, 77], 37, 106, 0, 0, 0)),
  (44, ([], .aload_n 3, 1, 3, 0, 0, 0)),
  (45, ([], .getfield 184, 3, 9, 8, 0, 0)),
  (48, ([], .ireturn, 1, 0, 0, 0, 0)),
  (49, ([], .aload_n 3, 1, 3, 0, 0, 0)),
  (50, ([], .getfield 184, 3, 9, 8, 0, 0)),
  (53, ([], .ifCond .ne 11, 3, 64, 0, 0, 0)),
  (56, ([], .aload_n 0, 1, 0, 0, 0, 0)),
  (57, ([], .aload_n 3, 1, 3, 0, 0, 0)),
  (58, ([], .invokevirtual 287, 3, 2, 9, 0, 0)),
  (61, ([], .goto 7, 3, 68, 0, 0, 0)),
  (64, ([], .aload_n 3, 1, 3, 0, 0, 0)),
  (65, ([], .getfield 291, 3, 10, 8, 0, 0)),
  (68, ([], .ireturn, 1, 0, 0, 0, 0)),
  (69, ([], .aload_n 3, 1, 3, 0, 0, 0)),
  (70, ([], .getfield 294, 3, 11, 8, 0, 0)),
  (73, ([], .ireturn, 1, 0, 0, 0, 0)),
  (74, ([], .aload_n 3, 1, 3, 0, 0, 0)),
  (75, ([], .getfield 196, 3, 12, 8, 0, 0)),
  (78, ([], .ireturn, 1, 0, 0, 0, 0)),
  (79, ([], .aload_n 3, 1, 3, 0, 0, 0)),
  (80, ([], .getfield 169, 3, 13, 8, 0, 0)),
  (83, ([], .ireturn, 1, 0, 0, 0, 0)),
  (84, ([], .aload_n 3, 1, 3, 0, 0, 0)),
  (85, ([], .getfield 184, 3, 9, 8, 0, 0)),
  (88, ([], .iconst 1, 1, 0, 0, 0, 1)),
  (89, ([], .if_icmp .ne 7, 3, 96, 0, 0, 0)),
  (92, ([], .iconst 0, 1, 0, 0, 0, 0)),
  (93, ([], .goto 12, 3, 105, 0, 0, 0)),
  (96, ([], .aload_n 0, 1, 0, 0, 0, 0)),
  (97, ([], .aload_n 3, 1, 3, 0, 0, 0)),
  (98, ([], .aload_n 3, 1, 3, 0, 0, 0)),
  (99, ([], .getfield 139, 3, 3, 8, 0, 0)),
  (102, ([], .invokevirtual 199, 3, 1, 13, 0, 0)),
  (105, ([], .ireturn, 1, 0, 0, 0, 0)),
  (106, ([], .new 158, 3, 1, 0, 0, 0))]
noncomputable def E_X6_requestOf : Kt := exL SKc SKn SKr CS (lkp T_X6_requestOf) [F_X6_requestAt, F_X6_reasonAgainst, F_X6_sortNow] [] [[44, 49, 69, 74, 79, 84]]
noncomputable def F_X6_requestOf : Fn := fun as h => E_X6_requestOf 0 (pad 4 as) [] h
set_option maxRecDepth 100000 in
set_option maxHeartbeats 4000000 in
theorem e_X6_requestOf_0 (x1 : Int32) (x2 : Int32) (h : Hp) : F_X6_requestOf [.ref 0, .int x1, .int x2] h = bR (F_X6_requestAt [.ref 0, .int x1] h) (fun v2 h1 => if x2 = Int32.ofNat 0 then gd (okc v2 4) (rtn (some (.int (rd h1 v2 9))) h1) else if x2 = Int32.ofNat 1 then gd (okc v2 4) (if (rd h1 v2 9) = 0 then bI (F_X6_sortNow [.ref 0, .ref v2] h1) (fun v6 h5 => rtn (some (.int v6)) h5) (hnk []) else gd (okc v2 4) (rtn (some (.int (rd h1 v2 10))) h1)) else if x2 = Int32.ofNat 2 then gd (okc v2 4) (rtn (some (.int (rd h1 v2 11))) h1) else if x2 = Int32.ofNat 3 then gd (okc v2 4) (rtn (some (.int (rd h1 v2 12))) h1) else if x2 = Int32.ofNat 4 then gd (okc v2 4) (rtn (some (.int (rd h1 v2 13))) h1) else if x2 = Int32.ofNat 5 then gd (okc v2 4) (if (rd h1 v2 9) = 1 then rtn (some (.int 0)) h1 else gd (okc v2 4) (bI (F_X6_reasonAgainst [.ref 0, .ref v2, .int (rd h1 v2 3)] h1) (fun v4 h3 => rtn (some (.int v4)) h3) (hnk []))) else thr 1 h1) (hnk []) :=
  (exL_it SKc SKn SKr CS (lkp T_X6_requestOf) [F_X6_requestAt, F_X6_reasonAgainst, F_X6_sortNow] [] [[44, 49, 69, 74, 79, 84]] [] 16 0 [.ref 0, .int x1, .int x2, .retAddr 0] [] h).trans rfl

def T_X6_ahead : List (Nat × Ent) := [(0, ([], .aload_n 0, 1, 0, 0, 0, 0)),
  (1, ([], .iload_n 1, 1, 1, 0, 0, 0)),
  (2, ([], .invokevirtual 128, 3, 0, 10, 0, 0)),
  (5, ([], .astore_n 2, 1, 2, 0, 0, 0)),
  (6, ([], .aload_n 2, 1, 2, 0, 0, 0)),
  (7, ([], .invokevirtual 298, 3, 1, 5, 0, 0)),
  (10, ([], .ifCond .ne 5, 3, 15, 0, 0, 0)),
  (13, ([], .iconst (-1), 1, 0, 0, 0, (-1))),
  (14, ([], .ireturn, 1, 0, 0, 0, 0)),
  (15, ([], .iconst 0, 1, 0, 0, 0, 0)),
  (16, ([], .istore_n 3, 1, 3, 0, 0, 0)),
  (17, ([], .iconst 0, 1, 0, 0, 0, 0)),
  (18, ([], .istore 4, 2, 4, 0, 0, 0)),
  (20, ([false, false, false, false, false, true], .iload 4, 2, 4, 0, 0, 0)),
  (22, ([], .aload_n 0, 1, 0, 0, 0, 0)),
  (23, ([], .getfield 271, 3, 13, 0, 0, 0)),
  (26, ([], .if_icmp .ge 66, 3, 92, 0, 0, 0)),
  (29, ([], .iload 4, 2, 4, 0, 0, 0)),
  (31, ([], .aload_n 0, 1, 0, 0, 0, 0)),
  (32, ([], .getfield 37, 3, 5, 1, 0, 0)),
  (35, ([], .arraylength, 1, 0, 0, 0, 0)),
  (36, ([], .if_icmp .ge 56, 3, 92, 0, 0, 0)),
  (39, ([], .aload_n 0, 1, 0, 0, 0, 0)),
  (40, ([], .getfield 37, 3, 5, 1, 0, 0)),
  (43, ([], .iload 4, 2, 4, 0, 0, 0)),
  (45, ([], .iaload, 1, 0, 0, 0, 0)),
  (46, ([], .iload_n 1, 1, 1, 0, 0, 0)),
  (47, ([], .if_icmp .eq 45, 3, 92, 0, 0, 0)),
  (50, ([], .aload_n 0, 1, 0, 0, 0, 0)),
  (51, ([], .aload_n 0, 1, 0, 0, 0, 0)),
  (52, ([], .getfield 37, 3, 5, 1, 0, 0)),
  (55, ([], .iload 4, 2, 4, 0, 0, 0)),
  (57, ([], .iaload, 1, 0, 0, 0, 0)),
  (58, ([], .invokevirtual 128, 3, 0, 10, 0, 0)),
  (61, ([], .astore 5, 2, 5, 0, 0, 0)),
  (63, ([], .aload 5, 2, 5, 0, 0, 0)),
  (65, ([], .invokevirtual 298, 3, 1, 5, 0, 0)),
  (68, ([], .ifCond .eq 18, 3, 86, 0, 0, 0)),
  (71, ([], .aload 5, 2, 5, 0, 0, 0)),
  (73, ([], .getfield 132, 3, 0, 8, 0, 0)),
  (76, ([], .aload_n 2, 1, 2, 0, 0, 0)),
  (77, ([], .getfield 132, 3, 0, 8, 0, 0)),
  (80, ([], .if_icmp .ne 6, 3, 86, 0, 0, 0)),
  (83, ([], .iinc 3 1, 3, 3, 0, 0, 1)),
  (86, ([false, false, false, false, false, true], .iinc 4 1, 3, 4, 0, 0, 1)),
  (89, ([], .goto (-69), 3, 20, 0, 0, 0)),
  (92, ([], .iload_n 3, 1, 3, 0, 0, 0)),
  (93, ([], .ireturn, 1, 0, 0, 0, 0))]
noncomputable def E_X6_ahead : Kt := exL SKc SKn SKr CS (lkp T_X6_ahead) [F_X6_requestAt, F_X1_isInQueue] [] []
noncomputable def F_X6_ahead : Fn := fun as h => E_X6_ahead 0 (pad 6 as) [] h
noncomputable def f_X6_ahead_20 (x1 : Int32) (a2 : Nat) (x3 : Int32) (x4 : Int32) (h : Hp) : Res := E_X6_ahead 20 [.ref 0, .int x1, .ref a2, .int x3, .int x4, .retAddr 0] [] h
noncomputable def f_X6_ahead_86 (x1 : Int32) (a2 : Nat) (x3 : Int32) (x4 : Int32) (h : Hp) : Res := E_X6_ahead 86 [.ref 0, .int x1, .ref a2, .int x3, .int x4, .retAddr 0] [] h
set_option maxRecDepth 100000 in
set_option maxHeartbeats 4000000 in
theorem e_X6_ahead_0 (x1 : Int32) (h : Hp) : F_X6_ahead [.ref 0, .int x1] h = bR (F_X6_requestAt [.ref 0, .int x1] h) (fun v2 h1 => bI (F_X1_isInQueue [.ref v2] h1) (fun v4 h3 => if v4 = 0 then rtn (some (.int (-1))) h3 else f_X6_ahead_20 x1 v2 0 0 h3) (hnk [])) (hnk []) :=
  (exL_it SKc SKn SKr CS (lkp T_X6_ahead) [F_X6_requestAt, F_X1_isInQueue] [] [] [20, 86] 11 0 [.ref 0, .int x1, .retAddr 0, .retAddr 0, .retAddr 0, .retAddr 0] [] h).trans rfl
set_option maxRecDepth 100000 in
set_option maxHeartbeats 4000000 in
theorem e_X6_ahead_20 (x1 : Int32) (a2 : Nat) (x3 : Int32) (x4 : Int32) (h : Hp) : f_X6_ahead_20 x1 a2 x3 x4 h = if x4 < (rd h 0 13) then if x4 < 60 then gd (inb x4 60) (if (rd h 6 x4.toNatClampNeg) = x1 then rtn (some (.int x3)) h else gd (inb x4 60) (bR (F_X6_requestAt [.ref 0, .int (rd h 6 x4.toNatClampNeg)] h) (fun v2 h1 => bI (F_X1_isInQueue [.ref v2] h1) (fun v4 h3 => if v4 = 0 then f_X6_ahead_86 x1 a2 x3 x4 h3 else gd (okc v2 4) (gd (okc a2 4) (if (rd h3 v2 0) = (rd h3 a2 0) then f_X6_ahead_86 x1 a2 (x3 + 1) x4 h3 else f_X6_ahead_86 x1 a2 x3 x4 h3))) (hnk [])) (hnk []))) else rtn (some (.int x3)) h else rtn (some (.int x3)) h :=
  (exL_it SKc SKn SKr CS (lkp T_X6_ahead) [F_X6_requestAt, F_X1_isInQueue] [] [] [20, 86] 31 20 [.ref 0, .int x1, .ref a2, .int x3, .int x4, .retAddr 0] [] h).trans rfl
set_option maxRecDepth 100000 in
set_option maxHeartbeats 4000000 in
theorem e_X6_ahead_86 (x1 : Int32) (a2 : Nat) (x3 : Int32) (x4 : Int32) (h : Hp) : f_X6_ahead_86 x1 a2 x3 x4 h = f_X6_ahead_20 x1 a2 x3 (x4 + 1) h :=
  (exL_it SKc SKn SKr CS (lkp T_X6_ahead) [F_X6_requestAt, F_X1_isInQueue] [] [] [20, 86] 2 86 [.ref 0, .int x1, .ref a2, .int x3, .int x4, .retAddr 0] [] h).trans rfl

def T_X6_seriesOf : List (Nat × Ent) := [(0, ([], .aload_n 0, 1, 0, 0, 0, 0)),
  (1, ([], .iload_n 1, 1, 1, 0, 0, 0)),
  (2, ([], .invokevirtual 206, 3, 0, 10, 0, 0)),
  (5, ([], .astore_n 3, 1, 3, 0, 0, 0)),
  (6, ([], .iload_n 2, 1, 2, 0, 0, 0)),
  (7, ([], .tableswitch 130 0 11 #[61, 66, 71, 76, 81, 86, 91, 96, 101, 106, 112, 117], 61, 137, 0, 0, 0)),
  (68, ([], .aload_n 3, 1, 3, 0, 0, 0)),
  (69, ([], .getfield 226, 3, 8, 10, 0, 0)),
  (72, ([], .ireturn, 1, 0, 0, 0, 0)),
  (73, ([], .aload_n 3, 1, 3, 0, 0, 0)),
  (74, ([], .getfield 229, 3, 9, 10, 0, 0)),
  (77, ([], .ireturn, 1, 0, 0, 0, 0)),
  (78, ([], .aload_n 3, 1, 3, 0, 0, 0)),
  (79, ([], .getfield 218, 3, 0, 10, 0, 0)),
  (82, ([], .ireturn, 1, 0, 0, 0, 0)),
  (83, ([], .aload_n 3, 1, 3, 0, 0, 0)),
  (84, ([], .getfield 301, 3, 1, 10, 0, 0)),
  (87, ([], .ireturn, 1, 0, 0, 0, 0)),
  (88, ([], .aload_n 3, 1, 3, 0, 0, 0)),
  (89, ([], .getfield 302, 3, 2, 10, 0, 0)),
  (92, ([], .ireturn, 1, 0, 0, 0, 0)),
  (93, ([], .aload_n 3, 1, 3, 0, 0, 0)),
  (94, ([], .getfield 242, 3, 3, 10, 0, 0)),
  (97, ([], .ireturn, 1, 0, 0, 0, 0)),
  (98, ([], .aload_n 3, 1, 3, 0, 0, 0)),
  (99, ([], .getfield 217, 3, 4, 10, 0, 0)),
  (102, ([], .ireturn, 1, 0, 0, 0, 0)),
  (103, ([], .aload_n 3, 1, 3, 0, 0, 0)),
  (104, ([], .getfield 214, 3, 5, 10, 0, 0)),
  (107, ([], .ireturn, 1, 0, 0, 0, 0)),
  (108, ([], .aload_n 3, 1, 3, 0, 0, 0)),
  (109, ([], .getfield 303, 3, 7, 10, 0, 0)),
  (112, ([], .ireturn, 1, 0, 0, 0, 0)),
  (113, ([], .aload_n 0, 1, 0, 0, 0, 0)),
  (114, ([], .aload_n 3, 1, 3, 0, 0, 0)),
  (115, ([], .invokevirtual 306, 3, 1, 9, 0, 0)),
  (118, ([], .ireturn, 1, 0, 0, 0, 0)),
  (119, ([], .aload_n 3, 1, 3, 0, 0, 0)),
  (120, ([], .getfield 248, 3, 11, 10, 0, 0)),
  (123, ([], .ireturn, 1, 0, 0, 0, 0)),
  (124, ([], .aload_n 3, 1, 3, 0, 0, 0)),
  (125, ([], .getfield 210, 3, 12, 10, 0, 0)),
  (128, ([], .ifCond .eq 7, 3, 135, 0, 0, 0)),
  (131, ([], .iconst 1, 1, 0, 0, 0, 1)),
  (132, ([], .goto 4, 3, 136, 0, 0, 0)),
  (135, ([], .iconst 0, 1, 0, 0, 0, 0)),
  (136, ([], .ireturn, 1, 0, 0, 0, 0)),
  (137, ([], .new 158, 3, 1, 0, 0, 0))]
noncomputable def E_X6_seriesOf : Kt := exL SKc SKn SKr CS (lkp T_X6_seriesOf) [F_X6_seriesAt, F_X6_weeksUsed] [] [[68, 73, 78, 83, 88, 93, 98, 103, 108, 113, 119, 124]]
noncomputable def F_X6_seriesOf : Fn := fun as h => E_X6_seriesOf 0 (pad 4 as) [] h
set_option maxRecDepth 100000 in
set_option maxHeartbeats 4000000 in
theorem e_X6_seriesOf_0 (x1 : Int32) (x2 : Int32) (h : Hp) : F_X6_seriesOf [.ref 0, .int x1, .int x2] h = bR (F_X6_seriesAt [.ref 0, .int x1] h) (fun v2 h1 => if x2 = Int32.ofNat 0 then gd (okc v2 5) (rtn (some (.int (rd h1 v2 8))) h1) else if x2 = Int32.ofNat 1 then gd (okc v2 5) (rtn (some (.int (rd h1 v2 9))) h1) else if x2 = Int32.ofNat 2 then gd (okc v2 5) (rtn (some (.int (rd h1 v2 0))) h1) else if x2 = Int32.ofNat 3 then gd (okc v2 5) (rtn (some (.int (rd h1 v2 1))) h1) else if x2 = Int32.ofNat 4 then gd (okc v2 5) (rtn (some (.int (rd h1 v2 2))) h1) else if x2 = Int32.ofNat 5 then gd (okc v2 5) (rtn (some (.int (rd h1 v2 3))) h1) else if x2 = Int32.ofNat 6 then gd (okc v2 5) (rtn (some (.int (rd h1 v2 4))) h1) else if x2 = Int32.ofNat 7 then gd (okc v2 5) (rtn (some (.int (rd h1 v2 5))) h1) else if x2 = Int32.ofNat 8 then gd (okc v2 5) (rtn (some (.int (rd h1 v2 7))) h1) else if x2 = Int32.ofNat 9 then bI (F_X6_weeksUsed [.ref 0, .ref v2] h1) (fun v4 h3 => rtn (some (.int v4)) h3) (hnk []) else if x2 = Int32.ofNat 10 then gd (okc v2 5) (rtn (some (.int (rd h1 v2 11))) h1) else if x2 = Int32.ofNat 11 then gd (okc v2 5) (if (rd h1 v2 12) = 0 then rtn (some (.int 0)) h1 else rtn (some (.int 1)) h1) else thr 1 h1) (hnk []) :=
  (exL_it SKc SKn SKr CS (lkp T_X6_seriesOf) [F_X6_seriesAt, F_X6_weeksUsed] [] [[68, 73, 78, 83, 88, 93, 98, 103, 108, 113, 119, 124]] [] 12 0 [.ref 0, .int x1, .int x2, .retAddr 0] [] h).trans rfl

def T_X6_earns : List (Nat × Ent) := [(0, ([], .aload_n 0, 1, 0, 0, 0, 0)),
  (1, ([], .aload_n 0, 1, 0, 0, 0, 0)),
  (2, ([], .iload_n 1, 1, 1, 0, 0, 0)),
  (3, ([], .invokevirtual 206, 3, 0, 10, 0, 0)),
  (6, ([], .invokevirtual 312, 3, 1, 9, 0, 0)),
  (9, ([], .ireturn, 1, 0, 0, 0, 0))]
noncomputable def E_X6_earns : Kt := exL SKc SKn SKr CS (lkp T_X6_earns) [F_X6_seriesAt, F_X6_earnsRight] [] []
noncomputable def F_X6_earns : Fn := fun as h => E_X6_earns 0 (pad 2 as) [] h
set_option maxRecDepth 100000 in
set_option maxHeartbeats 4000000 in
theorem e_X6_earns_0 (x1 : Int32) (h : Hp) : F_X6_earns [.ref 0, .int x1] h = bR (F_X6_seriesAt [.ref 0, .int x1] h) (fun v2 h1 => bI (F_X6_earnsRight [.ref 0, .ref v2] h1) (fun v4 h3 => rtn (some (.int v4)) h3) (hnk [])) (hnk []) :=
  (exL_it SKc SKn SKr CS (lkp T_X6_earns) [F_X6_seriesAt, F_X6_earnsRight] [] [] [] 6 0 [.ref 0, .int x1] [] h).trans rfl

def T_X6_rights : List (Nat × Ent) := [(0, ([], .aload_n 0, 1, 0, 0, 0, 0)),
  (1, ([], .getfield 265, 3, 12, 0, 0, 0)),
  (4, ([], .ireturn, 1, 0, 0, 0, 0))]
noncomputable def E_X6_rights : Kt := exL SKc SKn SKr CS (lkp T_X6_rights) [] [] []
noncomputable def F_X6_rights : Fn := fun as h => E_X6_rights 0 (pad 1 as) [] h
set_option maxRecDepth 100000 in
set_option maxHeartbeats 4000000 in
theorem e_X6_rights_0 (h : Hp) : F_X6_rights [.ref 0] h = rtn (some (.int (rd h 0 12))) h :=
  (exL_it SKc SKn SKr CS (lkp T_X6_rights) [] [] [] [] 3 0 [.ref 0] [] h).trans rfl

def T_X6_rightOf : List (Nat × Ent) := [(0, ([], .aload_n 0, 1, 0, 0, 0, 0)),
  (1, ([], .iload_n 1, 1, 1, 0, 0, 0)),
  (2, ([], .invokevirtual 109, 3, 0, 10, 0, 0)),
  (5, ([], .astore_n 3, 1, 3, 0, 0, 0)),
  (6, ([], .iload_n 2, 1, 2, 0, 0, 0)),
  (7, ([], .tableswitch 94 0 8 #[49, 54, 59, 64, 69, 74, 79, 84, 89], 49, 101, 0, 0, 0)),
  (56, ([], .aload_n 3, 1, 3, 0, 0, 0)),
  (57, ([], .getfield 316, 3, 7, 12, 0, 0)),
  (60, ([], .ireturn, 1, 0, 0, 0, 0)),
  (61, ([], .aload_n 3, 1, 3, 0, 0, 0)),
  (62, ([], .getfield 319, 3, 0, 12, 0, 0)),
  (65, ([], .ireturn, 1, 0, 0, 0, 0)),
  (66, ([], .aload_n 3, 1, 3, 0, 0, 0)),
  (67, ([], .getfield 320, 3, 1, 12, 0, 0)),
  (70, ([], .ireturn, 1, 0, 0, 0, 0)),
  (71, ([], .aload_n 3, 1, 3, 0, 0, 0)),
  (72, ([], .getfield 321, 3, 2, 12, 0, 0)),
  (75, ([], .ireturn, 1, 0, 0, 0, 0)),
  (76, ([], .aload_n 3, 1, 3, 0, 0, 0)),
  (77, ([], .getfield 322, 3, 3, 12, 0, 0)),
  (80, ([], .ireturn, 1, 0, 0, 0, 0)),
  (81, ([], .aload_n 3, 1, 3, 0, 0, 0)),
  (82, ([], .getfield 323, 3, 4, 12, 0, 0)),
  (85, ([], .ireturn, 1, 0, 0, 0, 0)),
  (86, ([], .aload_n 3, 1, 3, 0, 0, 0)),
  (87, ([], .getfield 324, 3, 5, 12, 0, 0)),
  (90, ([], .ireturn, 1, 0, 0, 0, 0)),
  (91, ([], .aload_n 3, 1, 3, 0, 0, 0)),
  (92, ([], .getfield 325, 3, 6, 12, 0, 0)),
  (95, ([], .ireturn, 1, 0, 0, 0, 0)),
  (96, ([], .aload_n 3, 1, 3, 0, 0, 0)),
  (97, ([], .getfield 155, 3, 8, 12, 0, 0)),
  (100, ([], .ireturn, 1, 0, 0, 0, 0)),
  (101, ([], .new 158, 3, 1, 0, 0, 0))]
noncomputable def E_X6_rightOf : Kt := exL SKc SKn SKr CS (lkp T_X6_rightOf) [F_X6_rightAt] [] [[56, 61, 66, 71, 76, 81, 86, 91, 96]]
noncomputable def F_X6_rightOf : Fn := fun as h => E_X6_rightOf 0 (pad 4 as) [] h
set_option maxRecDepth 100000 in
set_option maxHeartbeats 4000000 in
theorem e_X6_rightOf_0 (x1 : Int32) (x2 : Int32) (h : Hp) : F_X6_rightOf [.ref 0, .int x1, .int x2] h = bR (F_X6_rightAt [.ref 0, .int x1] h) (fun v2 h1 => if x2 = Int32.ofNat 0 then gd (okc v2 6) (rtn (some (.int (rd h1 v2 7))) h1) else if x2 = Int32.ofNat 1 then gd (okc v2 6) (rtn (some (.int (rd h1 v2 0))) h1) else if x2 = Int32.ofNat 2 then gd (okc v2 6) (rtn (some (.int (rd h1 v2 1))) h1) else if x2 = Int32.ofNat 3 then gd (okc v2 6) (rtn (some (.int (rd h1 v2 2))) h1) else if x2 = Int32.ofNat 4 then gd (okc v2 6) (rtn (some (.int (rd h1 v2 3))) h1) else if x2 = Int32.ofNat 5 then gd (okc v2 6) (rtn (some (.int (rd h1 v2 4))) h1) else if x2 = Int32.ofNat 6 then gd (okc v2 6) (rtn (some (.int (rd h1 v2 5))) h1) else if x2 = Int32.ofNat 7 then gd (okc v2 6) (rtn (some (.int (rd h1 v2 6))) h1) else if x2 = Int32.ofNat 8 then gd (okc v2 6) (rtn (some (.int (rd h1 v2 8))) h1) else thr 1 h1) (hnk []) :=
  (exL_it SKc SKn SKr CS (lkp T_X6_rightOf) [F_X6_rightAt] [] [[56, 61, 66, 71, 76, 81, 86, 91, 96]] [] 9 0 [.ref 0, .int x1, .int x2, .retAddr 0] [] h).trans rfl

def T_X6_isNew : List (Nat × Ent) := [(0, ([], .aload_n 0, 1, 0, 0, 0, 0)),
  (1, ([], .iload_n 1, 1, 1, 0, 0, 0)),
  (2, ([], .invokevirtual 103, 3, 0, 9, 0, 0)),
  (5, ([], .istore_n 3, 1, 3, 0, 0, 0)),
  (6, ([], .aload_n 0, 1, 0, 0, 0, 0)),
  (7, ([], .iload_n 2, 1, 2, 0, 0, 0)),
  (8, ([], .invokevirtual 56, 3, 1, 10, 0, 0)),
  (11, ([], .pop, 1, 0, 0, 0, 0)),
  (12, ([], .aload_n 0, 1, 0, 0, 0, 0)),
  (13, ([], .iload_n 3, 1, 3, 0, 0, 0)),
  (14, ([], .iload_n 2, 1, 2, 0, 0, 0)),
  (15, ([], .invokevirtual 328, 3, 2, 13, 0, 0)),
  (18, ([], .ireturn, 1, 0, 0, 0, 0))]
noncomputable def E_X6_isNew : Kt := exL SKc SKn SKr CS (lkp T_X6_isNew) [F_X6_groupAt, F_X6_airportAt, F_X6_isGroupNew] [] []
noncomputable def F_X6_isNew : Fn := fun as h => E_X6_isNew 0 (pad 4 as) [] h
set_option maxRecDepth 100000 in
set_option maxHeartbeats 4000000 in
theorem e_X6_isNew_0 (x1 : Int32) (x2 : Int32) (h : Hp) : F_X6_isNew [.ref 0, .int x1, .int x2] h = bI (F_X6_groupAt [.ref 0, .int x1] h) (fun v2 h1 => bR (F_X6_airportAt [.ref 0, .int x2] h1) (fun v4 h3 => bI (F_X6_isGroupNew [.ref 0, .int v2, .int x2] h3) (fun v6 h5 => rtn (some (.int v6)) h5) (hnk [])) (hnk [])) (hnk []) :=
  (exL_it SKc SKn SKr CS (lkp T_X6_isNew) [F_X6_groupAt, F_X6_airportAt, F_X6_isGroupNew] [] [] [] 13 0 [.ref 0, .int x1, .int x2, .retAddr 0] [] h).trans rfl

def T_X6_seriesThatAreGone : List (Nat × Ent) := [(0, ([], .iconst 0, 1, 0, 0, 0, 0)),
  (1, ([], .istore_n 1, 1, 1, 0, 0, 0)),
  (2, ([], .iconst 0, 1, 0, 0, 0, 0)),
  (3, ([], .istore_n 2, 1, 2, 0, 0, 0)),
  (4, ([false, false, false], .iload_n 2, 1, 2, 0, 0, 0)),
  (5, ([], .aload_n 0, 1, 0, 0, 0, 0)),
  (6, ([], .getfield 268, 3, 11, 0, 0, 0)),
  (9, ([], .if_icmp .ge 23, 3, 32, 0, 0, 0)),
  (12, ([], .aload_n 0, 1, 0, 0, 0, 0)),
  (13, ([], .iload_n 2, 1, 2, 0, 0, 0)),
  (14, ([], .invokevirtual 206, 3, 0, 10, 0, 0)),
  (17, ([], .getfield 210, 3, 12, 10, 0, 0)),
  (20, ([], .ifCond .eq 6, 3, 26, 0, 0, 0)),
  (23, ([], .iinc 1 1, 3, 1, 0, 0, 1)),
  (26, ([false, false, false], .iinc 2 1, 3, 2, 0, 0, 1)),
  (29, ([], .goto (-25), 3, 4, 0, 0, 0)),
  (32, ([], .iload_n 1, 1, 1, 0, 0, 0)),
  (33, ([], .ireturn, 1, 0, 0, 0, 0))]
noncomputable def E_X6_seriesThatAreGone : Kt := exL SKc SKn SKr CS (lkp T_X6_seriesThatAreGone) [F_X6_seriesAt] [] []
noncomputable def F_X6_seriesThatAreGone : Fn := fun as h => E_X6_seriesThatAreGone 0 (pad 3 as) [] h
noncomputable def f_X6_seriesThatAreGone_4 (x1 : Int32) (x2 : Int32) (h : Hp) : Res := E_X6_seriesThatAreGone 4 [.ref 0, .int x1, .int x2] [] h
noncomputable def f_X6_seriesThatAreGone_26 (x1 : Int32) (x2 : Int32) (h : Hp) : Res := E_X6_seriesThatAreGone 26 [.ref 0, .int x1, .int x2] [] h
set_option maxRecDepth 100000 in
set_option maxHeartbeats 4000000 in
theorem e_X6_seriesThatAreGone_0 (h : Hp) : F_X6_seriesThatAreGone [.ref 0] h = f_X6_seriesThatAreGone_4 0 0 h :=
  (exL_it SKc SKn SKr CS (lkp T_X6_seriesThatAreGone) [F_X6_seriesAt] [] [] [4, 26] 4 0 [.ref 0, .retAddr 0, .retAddr 0] [] h).trans rfl
set_option maxRecDepth 100000 in
set_option maxHeartbeats 4000000 in
theorem e_X6_seriesThatAreGone_4 (x1 : Int32) (x2 : Int32) (h : Hp) : f_X6_seriesThatAreGone_4 x1 x2 h = if x2 < (rd h 0 11) then bR (F_X6_seriesAt [.ref 0, .int x2] h) (fun v2 h1 => gd (okc v2 5) (if (rd h1 v2 12) = 0 then f_X6_seriesThatAreGone_26 x1 x2 h1 else f_X6_seriesThatAreGone_26 (x1 + 1) x2 h1)) (hnk []) else rtn (some (.int x1)) h :=
  (exL_it SKc SKn SKr CS (lkp T_X6_seriesThatAreGone) [F_X6_seriesAt] [] [] [4, 26] 10 4 [.ref 0, .int x1, .int x2] [] h).trans rfl
set_option maxRecDepth 100000 in
set_option maxHeartbeats 4000000 in
theorem e_X6_seriesThatAreGone_26 (x1 : Int32) (x2 : Int32) (h : Hp) : f_X6_seriesThatAreGone_26 x1 x2 h = f_X6_seriesThatAreGone_4 x1 (x2 + 1) h :=
  (exL_it SKc SKn SKr CS (lkp T_X6_seriesThatAreGone) [F_X6_seriesAt] [] [] [4, 26] 2 26 [.ref 0, .int x1, .int x2] [] h).trans rfl

def T_X6_count : List (Nat × Ent) := [(0, ([], .iload_n 1, 1, 1, 0, 0, 0)),
  (1, ([], .tableswitch 72 0 5 #[39, 44, 50, 56, 62, 67], 39, 73, 0, 0, 0)),
  (40, ([], .aload_n 0, 1, 0, 0, 0, 0)),
  (41, ([], .getfield 117, 3, 10, 0, 0, 0)),
  (44, ([], .ireturn, 1, 0, 0, 0, 0)),
  (45, ([], .aload_n 0, 1, 0, 0, 0, 0)),
  (46, ([], .iconst 1, 1, 0, 0, 0, 1)),
  (47, ([], .invokevirtual 172, 3, 1, 9, 0, 0)),
  (50, ([], .ireturn, 1, 0, 0, 0, 0)),
  (51, ([], .aload_n 0, 1, 0, 0, 0, 0)),
  (52, ([], .iconst 2, 1, 0, 0, 0, 2)),
  (53, ([], .invokevirtual 172, 3, 1, 9, 0, 0)),
  (56, ([], .ireturn, 1, 0, 0, 0, 0)),
  (57, ([], .aload_n 0, 1, 0, 0, 0, 0)),
  (58, ([], .iconst 3, 1, 0, 0, 0, 3)),
  (59, ([], .invokevirtual 172, 3, 1, 9, 0, 0)),
  (62, ([], .ireturn, 1, 0, 0, 0, 0)),
  (63, ([], .aload_n 0, 1, 0, 0, 0, 0)),
  (64, ([], .getfield 268, 3, 11, 0, 0, 0)),
  (67, ([], .ireturn, 1, 0, 0, 0, 0)),
  (68, ([], .aload_n 0, 1, 0, 0, 0, 0)),
  (69, ([], .invokevirtual 332, 3, 0, 5, 0, 0)),
  (72, ([], .ireturn, 1, 0, 0, 0, 0)),
  (73, ([], .new 158, 3, 1, 0, 0, 0))]
noncomputable def E_X6_count : Kt := exL SKc SKn SKr CS (lkp T_X6_count) [F_X6_seriesThatAreGone, F_X6_requestsThatAre] [] [[40, 45, 51, 57, 63, 68]]
noncomputable def F_X6_count : Fn := fun as h => E_X6_count 0 (pad 2 as) [] h
set_option maxRecDepth 100000 in
set_option maxHeartbeats 4000000 in
theorem e_X6_count_0 (x1 : Int32) (h : Hp) : F_X6_count [.ref 0, .int x1] h = if x1 = Int32.ofNat 0 then rtn (some (.int (rd h 0 10))) h else if x1 = Int32.ofNat 1 then bI (F_X6_requestsThatAre [.ref 0, .int 1] h) (fun v8 h7 => rtn (some (.int v8)) h7) (hnk []) else if x1 = Int32.ofNat 2 then bI (F_X6_requestsThatAre [.ref 0, .int 2] h) (fun v6 h5 => rtn (some (.int v6)) h5) (hnk []) else if x1 = Int32.ofNat 3 then bI (F_X6_requestsThatAre [.ref 0, .int 3] h) (fun v4 h3 => rtn (some (.int v4)) h3) (hnk []) else if x1 = Int32.ofNat 4 then rtn (some (.int (rd h 0 11))) h else if x1 = Int32.ofNat 5 then bI (F_X6_seriesThatAreGone [.ref 0] h) (fun v2 h1 => rtn (some (.int v2)) h1) (hnk []) else thr 1 h :=
  (exL_it SKc SKn SKr CS (lkp T_X6_count) [F_X6_seriesThatAreGone, F_X6_requestsThatAre] [] [[40, 45, 51, 57, 63, 68]] [] 6 0 [.ref 0, .int x1] [] h).trans rfl
end
section
def T_X7_thrown : List (Nat × Ent) := [(0, ([], .aload_n 0, 1, 0, 0, 0, 0)),
  (1, ([], .getfield 152, 3, 0, 2, 0, 0)),
  (4, ([], .ireturn, 1, 0, 0, 0, 0))]
noncomputable def E_X7_thrown : Kt := exL SKc SKn SKr CS (lkp T_X7_thrown) [] [] []
noncomputable def F_X7_thrown : Fn := fun as h => E_X7_thrown 0 (pad 1 as) [] h
set_option maxRecDepth 100000 in
set_option maxHeartbeats 4000000 in
theorem e_X7_thrown_0 (h : Hp) : F_X7_thrown [.ref 227] h = rtn (some (.int (rd h 227 0))) h :=
  (exL_it SKc SKn SKr CS (lkp T_X7_thrown) [] [] [] [] 3 0 [.ref 227] [] h).trans rfl

def T_X7_holds : List (Nat × Ent) := [(0, ([], .aload_n 0, 1, 0, 0, 0, 0)),
  (1, ([], .iload_n 1, 1, 1, 0, 0, 0)),
  (2, ([], .putfield 152, 3, 0, 2, 0, 0)),
  (5, ([], .iload_n 1, 1, 1, 0, 0, 0)),
  (6, ([], .ifCond .ne 7, 3, 13, 0, 0, 0)),
  (9, ([], .iconst 1, 1, 0, 0, 0, 1)),
  (10, ([], .goto 4, 3, 14, 0, 0, 0)),
  (13, ([], .iconst 0, 1, 0, 0, 0, 0)),
  (14, ([], .ireturn, 1, 0, 0, 0, 0))]
noncomputable def E_X7_holds : Kt := exL SKc SKn SKr CS (lkp T_X7_holds) [] [] []
noncomputable def F_X7_holds : Fn := fun as h => E_X7_holds 0 (pad 2 as) [] h
set_option maxRecDepth 100000 in
set_option maxHeartbeats 4000000 in
theorem e_X7_holds_0 (x1 : Int32) (h : Hp) : F_X7_holds [.ref 227, .int x1] h = if x1 = 0 then rtn (some (.int 1)) (wr h 227 0 x1) else rtn (some (.int 0)) (wr h 227 0 x1) :=
  (exL_it SKc SKn SKr CS (lkp T_X7_holds) [] [] [] [] 8 0 [.ref 227, .int x1] [] h).trans rfl

def T_X7_isIn : List (Nat × Ent) := [(0, ([], .iload_n 0, 1, 0, 0, 0, 0)),
  (1, ([], .iload_n 1, 1, 1, 0, 0, 0)),
  (2, ([], .if_icmp .lt 12, 3, 14, 0, 0, 0)),
  (5, ([], .iload_n 0, 1, 0, 0, 0, 0)),
  (6, ([], .iload_n 2, 1, 2, 0, 0, 0)),
  (7, ([], .if_icmp .gt 7, 3, 14, 0, 0, 0)),
  (10, ([], .iconst 1, 1, 0, 0, 0, 1)),
  (11, ([], .goto 4, 3, 15, 0, 0, 0)),
  (14, ([], .iconst 0, 1, 0, 0, 0, 0)),
  (15, ([], .ireturn, 1, 0, 0, 0, 0))]
noncomputable def E_X7_isIn : Kt := exL SKc SKn SKr CS (lkp T_X7_isIn) [] [] []
noncomputable def F_X7_isIn : Fn := fun as h => E_X7_isIn 0 (pad 3 as) [] h
set_option maxRecDepth 100000 in
set_option maxHeartbeats 4000000 in
theorem e_X7_isIn_0 (x0 : Int32) (x1 : Int32) (x2 : Int32) (h : Hp) : F_X7_isIn [.int x0, .int x1, .int x2] h = if x0 < x1 then rtn (some (.int 0)) h else if x2 < x0 then rtn (some (.int 0)) h else rtn (some (.int 1)) h :=
  (exL_it SKc SKn SKr CS (lkp T_X7_isIn) [] [] [] [] 9 0 [.int x0, .int x1, .int x2] [] h).trans rfl

def T_X7_isAirport : List (Nat × Ent) := [(0, ([], .iload_n 0, 1, 0, 0, 0, 0)),
  (1, ([], .iconst 0, 1, 0, 0, 0, 0)),
  (2, ([], .iconst 3, 1, 0, 0, 0, 3)),
  (3, ([], .invokestatic 156, 3, 0, 13, 0, 0)),
  (6, ([], .ireturn, 1, 0, 0, 0, 0))]
noncomputable def E_X7_isAirport : Kt := exL SKc SKn SKr CS (lkp T_X7_isAirport) [F_X7_isIn] [] []
noncomputable def F_X7_isAirport : Fn := fun as h => E_X7_isAirport 0 (pad 1 as) [] h
set_option maxRecDepth 100000 in
set_option maxHeartbeats 4000000 in
theorem e_X7_isAirport_0 (x0 : Int32) (h : Hp) : F_X7_isAirport [.int x0] h = bI (F_X7_isIn [.int x0, .int 0, .int 3] h) (fun v2 h1 => rtn (some (.int v2)) h1) (hnk []) :=
  (exL_it SKc SKn SKr CS (lkp T_X7_isAirport) [F_X7_isIn] [] [] [] 5 0 [.int x0] [] h).trans rfl

def T_X7_isCarrier : List (Nat × Ent) := [(0, ([], .iload_n 0, 1, 0, 0, 0, 0)),
  (1, ([], .iconst 0, 1, 0, 0, 0, 0)),
  (2, ([], .bipush 9, 2, 0, 0, 0, 9)),
  (4, ([], .invokestatic 156, 3, 0, 13, 0, 0)),
  (7, ([], .ireturn, 1, 0, 0, 0, 0))]
noncomputable def E_X7_isCarrier : Kt := exL SKc SKn SKr CS (lkp T_X7_isCarrier) [F_X7_isIn] [] []
noncomputable def F_X7_isCarrier : Fn := fun as h => E_X7_isCarrier 0 (pad 1 as) [] h
set_option maxRecDepth 100000 in
set_option maxHeartbeats 4000000 in
theorem e_X7_isCarrier_0 (x0 : Int32) (h : Hp) : F_X7_isCarrier [.int x0] h = bI (F_X7_isIn [.int x0, .int 0, .int 9] h) (fun v2 h1 => rtn (some (.int v2)) h1) (hnk []) :=
  (exL_it SKc SKn SKr CS (lkp T_X7_isCarrier) [F_X7_isIn] [] [] [] 5 0 [.int x0] [] h).trans rfl

def T_X7_isRule : List (Nat × Ent) := [(0, ([], .iload_n 1, 1, 1, 0, 0, 0)),
  (1, ([], .invokestatic 160, 3, 0, 5, 0, 0)),
  (4, ([], .ifCond .eq 23, 3, 27, 0, 0, 0)),
  (7, ([], .iload_n 2, 1, 2, 0, 0, 0)),
  (8, ([], .iconst 0, 1, 0, 0, 0, 0)),
  (9, ([], .aload_n 0, 1, 0, 0, 0, 0)),
  (10, ([], .getfield 7, 3, 2, 3, 0, 0)),
  (13, ([], .iload_n 1, 1, 1, 0, 0, 0)),
  (14, ([], .iaload, 1, 0, 0, 0, 0)),
  (15, ([], .iconst 1, 1, 0, 0, 0, 1)),
  (16, ([], .isub, 1, 0, 0, 0, 0)),
  (17, ([], .invokestatic 156, 3, 1, 13, 0, 0)),
  (20, ([], .ifCond .eq 7, 3, 27, 0, 0, 0)),
  (23, ([], .iconst 1, 1, 0, 0, 0, 1)),
  (24, ([], .goto 4, 3, 28, 0, 0, 0)),
  (27, ([], .iconst 0, 1, 0, 0, 0, 0)),
  (28, ([], .ireturn, 1, 0, 0, 0, 0))]
noncomputable def E_X7_isRule : Kt := exL SKc SKn SKr CS (lkp T_X7_isRule) [F_X7_isAirport, F_X7_isIn] [] []
noncomputable def F_X7_isRule : Fn := fun as h => E_X7_isRule 0 (pad 3 as) [] h
set_option maxRecDepth 100000 in
set_option maxHeartbeats 4000000 in
theorem e_X7_isRule_0 (x1 : Int32) (x2 : Int32) (h : Hp) : F_X7_isRule [.ref 227, .int x1, .int x2] h = bI (F_X7_isAirport [.int x1] h) (fun v2 h1 => if v2 = 0 then rtn (some (.int 0)) h1 else gd (inb x1 4) (bI (F_X7_isIn [.int x2, .int 0, .int ((rd h1 228 x1.toNatClampNeg) - 1)] h1) (fun v4 h3 => if v4 = 0 then rtn (some (.int 0)) h3 else rtn (some (.int 1)) h3) (hnk []))) (hnk []) :=
  (exL_it SKc SKn SKr CS (lkp T_X7_isRule) [F_X7_isAirport, F_X7_isIn] [] [] [] 16 0 [.ref 227, .int x1, .int x2] [] h).trans rfl

def T_X7_isRequest : List (Nat × Ent) := [(0, ([], .iload_n 1, 1, 1, 0, 0, 0)),
  (1, ([], .iconst 0, 1, 0, 0, 0, 0)),
  (2, ([], .aload_n 0, 1, 0, 0, 0, 0)),
  (3, ([], .getfield 164, 3, 20, 2, 0, 0)),
  (6, ([], .iconst 1, 1, 0, 0, 0, 1)),
  (7, ([], .isub, 1, 0, 0, 0, 0)),
  (8, ([], .invokestatic 156, 3, 0, 13, 0, 0)),
  (11, ([], .ireturn, 1, 0, 0, 0, 0))]
noncomputable def E_X7_isRequest : Kt := exL SKc SKn SKr CS (lkp T_X7_isRequest) [F_X7_isIn] [] []
noncomputable def F_X7_isRequest : Fn := fun as h => E_X7_isRequest 0 (pad 2 as) [] h
set_option maxRecDepth 100000 in
set_option maxHeartbeats 4000000 in
theorem e_X7_isRequest_0 (x1 : Int32) (h : Hp) : F_X7_isRequest [.ref 227, .int x1] h = bI (F_X7_isIn [.int x1, .int 0, .int ((rd h 227 20) - 1)] h) (fun v2 h1 => rtn (some (.int v2)) h1) (hnk []) :=
  (exL_it SKc SKn SKr CS (lkp T_X7_isRequest) [F_X7_isIn] [] [] [] 8 0 [.ref 227, .int x1] [] h).trans rfl

def T_X7_isSeries : List (Nat × Ent) := [(0, ([], .iload_n 1, 1, 1, 0, 0, 0)),
  (1, ([], .iconst 0, 1, 0, 0, 0, 0)),
  (2, ([], .aload_n 0, 1, 0, 0, 0, 0)),
  (3, ([], .getfield 167, 3, 37, 2, 0, 0)),
  (6, ([], .iconst 1, 1, 0, 0, 0, 1)),
  (7, ([], .isub, 1, 0, 0, 0, 0)),
  (8, ([], .invokestatic 156, 3, 0, 13, 0, 0)),
  (11, ([], .ireturn, 1, 0, 0, 0, 0))]
noncomputable def E_X7_isSeries : Kt := exL SKc SKn SKr CS (lkp T_X7_isSeries) [F_X7_isIn] [] []
noncomputable def F_X7_isSeries : Fn := fun as h => E_X7_isSeries 0 (pad 2 as) [] h
set_option maxRecDepth 100000 in
set_option maxHeartbeats 4000000 in
theorem e_X7_isSeries_0 (x1 : Int32) (h : Hp) : F_X7_isSeries [.ref 227, .int x1] h = bI (F_X7_isIn [.int x1, .int 0, .int ((rd h 227 37) - 1)] h) (fun v2 h1 => rtn (some (.int v2)) h1) (hnk []) :=
  (exL_it SKc SKn SKr CS (lkp T_X7_isSeries) [F_X7_isIn] [] [] [] 8 0 [.ref 227, .int x1] [] h).trans rfl

def T_X7_isDay : List (Nat × Ent) := [(0, ([], .iload_n 0, 1, 0, 0, 0, 0)),
  (1, ([], .iconst 0, 1, 0, 0, 0, 0)),
  (2, ([], .bipush 6, 2, 0, 0, 0, 6)),
  (4, ([], .invokestatic 156, 3, 0, 13, 0, 0)),
  (7, ([], .ifCond .eq 17, 3, 24, 0, 0, 0)),
  (10, ([], .iload_n 1, 1, 1, 0, 0, 0)),
  (11, ([], .iconst 0, 1, 0, 0, 0, 0)),
  (12, ([], .bipush 19, 2, 0, 0, 0, 19)),
  (14, ([], .invokestatic 156, 3, 0, 13, 0, 0)),
  (17, ([], .ifCond .eq 7, 3, 24, 0, 0, 0)),
  (20, ([], .iconst 1, 1, 0, 0, 0, 1)),
  (21, ([], .goto 4, 3, 25, 0, 0, 0)),
  (24, ([], .iconst 0, 1, 0, 0, 0, 0)),
  (25, ([], .ireturn, 1, 0, 0, 0, 0))]
noncomputable def E_X7_isDay : Kt := exL SKc SKn SKr CS (lkp T_X7_isDay) [F_X7_isIn] [] []
noncomputable def F_X7_isDay : Fn := fun as h => E_X7_isDay 0 (pad 2 as) [] h
set_option maxRecDepth 100000 in
set_option maxHeartbeats 4000000 in
theorem e_X7_isDay_0 (x0 : Int32) (x1 : Int32) (h : Hp) : F_X7_isDay [.int x0, .int x1] h = bI (F_X7_isIn [.int x0, .int 0, .int 6] h) (fun v2 h1 => if v2 = 0 then rtn (some (.int 0)) h1 else bI (F_X7_isIn [.int x1, .int 0, .int 19] h1) (fun v4 h3 => if v4 = 0 then rtn (some (.int 0)) h3 else rtn (some (.int 1)) h3) (hnk [])) (hnk []) :=
  (exL_it SKc SKn SKr CS (lkp T_X7_isDay) [F_X7_isIn] [] [] [] 13 0 [.int x0, .int x1] [] h).trans rfl

def T_X7_declare : List (Nat × Ent) := [(0, ([], .iload_n 1, 1, 1, 0, 0, 0)),
  (1, ([], .invokestatic 160, 3, 0, 5, 0, 0)),
  (4, ([], .istore 5, 2, 5, 0, 0, 0)),
  (6, ([], .iload_n 2, 1, 2, 0, 0, 0)),
  (7, ([], .iconst 0, 1, 0, 0, 0, 0)),
  (8, ([], .iconst 2, 1, 0, 0, 0, 2)),
  (9, ([], .invokestatic 156, 3, 1, 13, 0, 0)),
  (12, ([], .ifCond .eq 28, 3, 40, 0, 0, 0)),
  (15, ([], .iload_n 3, 1, 3, 0, 0, 0)),
  (16, ([], .iconst 1, 1, 0, 0, 0, 1)),
  (17, ([], .bipush 6, 2, 0, 0, 0, 6)),
  (19, ([], .invokestatic 156, 3, 1, 13, 0, 0)),
  (22, ([], .ifCond .eq 18, 3, 40, 0, 0, 0)),
  (25, ([], .iload 4, 2, 4, 0, 0, 0)),
  (27, ([], .iconst 0, 1, 0, 0, 0, 0)),
  (28, ([], .bipush 20, 2, 0, 0, 0, 20)),
  (30, ([], .invokestatic 156, 3, 1, 13, 0, 0)),
  (33, ([], .ifCond .eq 7, 3, 40, 0, 0, 0)),
  (36, ([], .iconst 1, 1, 0, 0, 0, 1)),
  (37, ([], .goto 4, 3, 41, 0, 0, 0)),
  (40, ([false, false, false, false, false, false, true, true], .iconst 0, 1, 0, 0, 0, 0)),
  (41, ([false, false, false, false, false, false, true, true], .istore 6, 2, 6, 0, 0, 0)),
  (43, ([], .aload_n 0, 1, 0, 0, 0, 0)),
  (44, ([], .iload 5, 2, 5, 0, 0, 0)),
  (46, ([], .ifCond .ne 7, 3, 53, 0, 0, 0)),
  (49, ([], .iconst 1, 1, 0, 0, 0, 1)),
  (50, ([], .goto 28, 3, 78, 0, 0, 0)),
  (53, ([], .iload 6, 2, 6, 0, 0, 0)),
  (55, ([], .ifCond .ne 7, 3, 62, 0, 0, 0)),
  (58, ([], .iconst 2, 1, 0, 0, 0, 2)),
  (59, ([], .goto 19, 3, 78, 0, 0, 0)),
  (62, ([], .aload_n 0, 1, 0, 0, 0, 0)),
  (63, ([], .getfield 7, 3, 2, 3, 0, 0)),
  (66, ([], .iload_n 1, 1, 1, 0, 0, 0)),
  (67, ([], .iaload, 1, 0, 0, 0, 0)),
  (68, ([], .bipush 6, 2, 0, 0, 0, 6)),
  (70, ([], .if_icmp .ne 7, 3, 77, 0, 0, 0)),
  (73, ([], .iconst 3, 1, 0, 0, 0, 3)),
  (74, ([], .goto 4, 3, 78, 0, 0, 0)),
  (77, ([], .iconst 0, 1, 0, 0, 0, 0)),
  (78, ([false, false, false, false, false, true, true, true], .invokevirtual 170, 3, 2, 9, 0, 0)),
  (81, ([], .ifCond .ne 5, 3, 86, 0, 0, 0)),
  (84, ([], .iconst 0, 1, 0, 0, 0, 0)),
  (85, ([], .ireturn, 1, 0, 0, 0, 0)),
  (86, ([], .bipush 6, 2, 0, 0, 0, 6)),
  (88, ([], .iload_n 1, 1, 1, 0, 0, 0)),
  (89, ([], .imul, 1, 0, 0, 0, 0)),
  (90, ([], .aload_n 0, 1, 0, 0, 0, 0)),
  (91, ([], .getfield 7, 3, 2, 3, 0, 0)),
  (94, ([], .iload_n 1, 1, 1, 0, 0, 0)),
  (95, ([], .iaload, 1, 0, 0, 0, 0)),
  (96, ([], .iadd, 1, 0, 0, 0, 0)),
  (97, ([], .istore 7, 2, 7, 0, 0, 0)),
  (99, ([], .aload_n 0, 1, 0, 0, 0, 0)),
  (100, ([], .getfield 13, 3, 3, 3, 0, 0)),
  (103, ([], .iload 7, 2, 7, 0, 0, 0)),
  (105, ([], .iload_n 2, 1, 2, 0, 0, 0)),
  (106, ([], .iastore, 1, 0, 0, 0, 0)),
  (107, ([], .aload_n 0, 1, 0, 0, 0, 0)),
  (108, ([], .getfield 16, 3, 4, 3, 0, 0)),
  (111, ([], .iload 7, 2, 7, 0, 0, 0)),
  (113, ([], .iload_n 3, 1, 3, 0, 0, 0)),
  (114, ([], .iastore, 1, 0, 0, 0, 0)),
  (115, ([], .aload_n 0, 1, 0, 0, 0, 0)),
  (116, ([], .getfield 19, 3, 5, 3, 0, 0)),
  (119, ([], .iload 7, 2, 7, 0, 0, 0)),
  (121, ([], .iload 4, 2, 4, 0, 0, 0)),
  (123, ([], .iastore, 1, 0, 0, 0, 0)),
  (124, ([], .aload_n 0, 1, 0, 0, 0, 0)),
  (125, ([], .getfield 7, 3, 2, 3, 0, 0)),
  (128, ([], .iload_n 1, 1, 1, 0, 0, 0)),
  (129, ([], .dup2, 1, 0, 0, 0, 0)),
  (130, ([], .iaload, 1, 0, 0, 0, 0)),
  (131, ([], .iconst 1, 1, 0, 0, 0, 1)),
  (132, ([], .iadd, 1, 0, 0, 0, 0)),
  (133, ([], .iastore, 1, 0, 0, 0, 0)),
  (134, ([], .aload_n 0, 1, 0, 0, 0, 0)),
  (135, ([], .getfield 7, 3, 2, 3, 0, 0)),
  (138, ([], .iload_n 1, 1, 1, 0, 0, 0)),
  (139, ([], .iaload, 1, 0, 0, 0, 0)),
  (140, ([], .iconst 1, 1, 0, 0, 0, 1)),
  (141, ([], .isub, 1, 0, 0, 0, 0)),
  (142, ([], .ireturn, 1, 0, 0, 0, 0))]
noncomputable def E_X7_declare : Kt := exL SKc SKn SKr CS (lkp T_X7_declare) [F_X7_isAirport, F_X7_isIn, F_X7_holds] [] []
noncomputable def F_X7_declare : Fn := fun as h => E_X7_declare 0 (pad 8 as) [] h
noncomputable def f_X7_declare_40 (x1 : Int32) (x2 : Int32) (x3 : Int32) (x4 : Int32) (x5 : Int32) (h : Hp) : Res := E_X7_declare 40 [.ref 227, .int x1, .int x2, .int x3, .int x4, .int x5, .retAddr 0, .retAddr 0] [] h
noncomputable def f_X7_declare_41 (x1 : Int32) (x2 : Int32) (x3 : Int32) (x4 : Int32) (x5 : Int32) (s0 : Int32) (h : Hp) : Res := E_X7_declare 41 [.ref 227, .int x1, .int x2, .int x3, .int x4, .int x5, .retAddr 0, .retAddr 0] [.int s0] h
noncomputable def f_X7_declare_78 (x1 : Int32) (x2 : Int32) (x3 : Int32) (x4 : Int32) (s0 : Int32) (h : Hp) : Res := E_X7_declare 78 [.ref 227, .int x1, .int x2, .int x3, .int x4, .retAddr 0, .retAddr 0, .retAddr 0] [.int s0, .ref 227] h
set_option maxRecDepth 100000 in
set_option maxHeartbeats 4000000 in
theorem e_X7_declare_0 (x1 : Int32) (x2 : Int32) (x3 : Int32) (x4 : Int32) (h : Hp) : F_X7_declare [.ref 227, .int x1, .int x2, .int x3, .int x4] h = bI (F_X7_isAirport [.int x1] h) (fun v2 h1 => bI (F_X7_isIn [.int x2, .int 0, .int 2] h1) (fun v4 h3 => if v4 = 0 then f_X7_declare_40 x1 x2 x3 x4 v2 h3 else bI (F_X7_isIn [.int x3, .int 1, .int 6] h3) (fun v6 h5 => if v6 = 0 then f_X7_declare_40 x1 x2 x3 x4 v2 h5 else bI (F_X7_isIn [.int x4, .int 0, .int 20] h5) (fun v8 h7 => if v8 = 0 then f_X7_declare_40 x1 x2 x3 x4 v2 h7 else f_X7_declare_41 x1 x2 x3 x4 v2 1 h7) (hnk [])) (hnk [])) (hnk [])) (hnk []) :=
  (exL_it SKc SKn SKr CS (lkp T_X7_declare) [F_X7_isAirport, F_X7_isIn, F_X7_holds] [] [] [40, 41, 78] 20 0 [.ref 227, .int x1, .int x2, .int x3, .int x4, .retAddr 0, .retAddr 0, .retAddr 0] [] h).trans rfl
set_option maxRecDepth 100000 in
set_option maxHeartbeats 4000000 in
theorem e_X7_declare_40 (x1 : Int32) (x2 : Int32) (x3 : Int32) (x4 : Int32) (x5 : Int32) (h : Hp) : f_X7_declare_40 x1 x2 x3 x4 x5 h = f_X7_declare_41 x1 x2 x3 x4 x5 0 h :=
  (exL_it SKc SKn SKr CS (lkp T_X7_declare) [F_X7_isAirport, F_X7_isIn, F_X7_holds] [] [] [40, 41, 78] 1 40 [.ref 227, .int x1, .int x2, .int x3, .int x4, .int x5, .retAddr 0, .retAddr 0] [] h).trans rfl
set_option maxRecDepth 100000 in
set_option maxHeartbeats 4000000 in
theorem e_X7_declare_41 (x1 : Int32) (x2 : Int32) (x3 : Int32) (x4 : Int32) (x5 : Int32) (s0 : Int32) (h : Hp) : f_X7_declare_41 x1 x2 x3 x4 x5 s0 h = if x5 = 0 then f_X7_declare_78 x1 x2 x3 x4 1 h else if s0 = 0 then f_X7_declare_78 x1 x2 x3 x4 2 h else gd (inb x1 4) (if (rd h 228 x1.toNatClampNeg) = 6 then f_X7_declare_78 x1 x2 x3 x4 3 h else f_X7_declare_78 x1 x2 x3 x4 0 h) :=
  (exL_it SKc SKn SKr CS (lkp T_X7_declare) [F_X7_isAirport, F_X7_isIn, F_X7_holds] [] [] [40, 41, 78] 14 41 [.ref 227, .int x1, .int x2, .int x3, .int x4, .int x5, .retAddr 0, .retAddr 0] [.int s0] h).trans rfl
set_option maxRecDepth 100000 in
set_option maxHeartbeats 4000000 in
theorem e_X7_declare_78 (x1 : Int32) (x2 : Int32) (x3 : Int32) (x4 : Int32) (s0 : Int32) (h : Hp) : f_X7_declare_78 x1 x2 x3 x4 s0 h = bI (F_X7_holds [.ref 227, .int s0] h) (fun v2 h1 => if v2 = 0 then rtn (some (.int 0)) h1 else gd (inb x1 4) (gd (inb ((6 * x1) + (rd h1 228 x1.toNatClampNeg)) 24) (gd (inb ((6 * x1) + (rd h1 228 x1.toNatClampNeg)) 24) (gd (inb ((6 * x1) + (rd h1 228 x1.toNatClampNeg)) 24) (gd (inb x1 4) (gd (inb x1 4) (gd (inb x1 4) (rtn (some (.int ((rd (wr (wr (wr (wr h1 229 (((6 * x1) + (rd h1 228 x1.toNatClampNeg)).toNatClampNeg) x2) 230 (((6 * x1) + (rd h1 228 x1.toNatClampNeg)).toNatClampNeg) x3) 231 (((6 * x1) + (rd h1 228 x1.toNatClampNeg)).toNatClampNeg) x4) 228 x1.toNatClampNeg ((rd h1 228 x1.toNatClampNeg) + 1)) 228 x1.toNatClampNeg) - 1))) (wr (wr (wr (wr h1 229 (((6 * x1) + (rd h1 228 x1.toNatClampNeg)).toNatClampNeg) x2) 230 (((6 * x1) + (rd h1 228 x1.toNatClampNeg)).toNatClampNeg) x3) 231 (((6 * x1) + (rd h1 228 x1.toNatClampNeg)).toNatClampNeg) x4) 228 x1.toNatClampNeg ((rd h1 228 x1.toNatClampNeg) + 1)))))))))) (hnk []) :=
  (exL_it SKc SKn SKr CS (lkp T_X7_declare) [F_X7_isAirport, F_X7_isIn, F_X7_holds] [] [] [40, 41, 78] 41 78 [.ref 227, .int x1, .int x2, .int x3, .int x4, .retAddr 0, .retAddr 0, .retAddr 0] [.int s0, .ref 227] h).trans rfl

def T_X7_revise : List (Nat × Ent) := [(0, ([], .aload_n 0, 1, 0, 0, 0, 0)),
  (1, ([], .aload_n 0, 1, 0, 0, 0, 0)),
  (2, ([], .iload_n 1, 1, 1, 0, 0, 0)),
  (3, ([], .iload_n 2, 1, 2, 0, 0, 0)),
  (4, ([], .invokevirtual 173, 3, 0, 13, 0, 0)),
  (7, ([], .ifCond .ne 7, 3, 14, 0, 0, 0)),
  (10, ([], .iconst 1, 1, 0, 0, 0, 1)),
  (11, ([], .goto 18, 3, 29, 0, 0, 0)),
  (14, ([], .iload_n 3, 1, 3, 0, 0, 0)),
  (15, ([], .iconst 0, 1, 0, 0, 0, 0)),
  (16, ([], .bipush 20, 2, 0, 0, 0, 20)),
  (18, ([], .invokestatic 156, 3, 1, 13, 0, 0)),
  (21, ([], .ifCond .eq 7, 3, 28, 0, 0, 0)),
  (24, ([], .iconst 0, 1, 0, 0, 0, 0)),
  (25, ([], .goto 4, 3, 29, 0, 0, 0)),
  (28, ([], .iconst 2, 1, 0, 0, 0, 2)),
  (29, ([false, false, false, false, true], .invokevirtual 170, 3, 2, 9, 0, 0)),
  (32, ([], .ifCond .ne 5, 3, 37, 0, 0, 0)),
  (35, ([], .iconst 0, 1, 0, 0, 0, 0)),
  (36, ([], .ireturn, 1, 0, 0, 0, 0)),
  (37, ([], .aload_n 0, 1, 0, 0, 0, 0)),
  (38, ([], .getfield 19, 3, 5, 3, 0, 0)),
  (41, ([], .bipush 6, 2, 0, 0, 0, 6)),
  (43, ([], .iload_n 1, 1, 1, 0, 0, 0)),
  (44, ([], .imul, 1, 0, 0, 0, 0)),
  (45, ([], .iload_n 2, 1, 2, 0, 0, 0)),
  (46, ([], .iadd, 1, 0, 0, 0, 0)),
  (47, ([], .iaload, 1, 0, 0, 0, 0)),
  (48, ([], .istore 4, 2, 4, 0, 0, 0)),
  (50, ([], .aload_n 0, 1, 0, 0, 0, 0)),
  (51, ([], .getfield 19, 3, 5, 3, 0, 0)),
  (54, ([], .bipush 6, 2, 0, 0, 0, 6)),
  (56, ([], .iload_n 1, 1, 1, 0, 0, 0)),
  (57, ([], .imul, 1, 0, 0, 0, 0)),
  (58, ([], .iload_n 2, 1, 2, 0, 0, 0)),
  (59, ([], .iadd, 1, 0, 0, 0, 0)),
  (60, ([], .iload_n 3, 1, 3, 0, 0, 0)),
  (61, ([], .iastore, 1, 0, 0, 0, 0)),
  (62, ([], .iload 4, 2, 4, 0, 0, 0)),
  (64, ([], .ireturn, 1, 0, 0, 0, 0))]
noncomputable def E_X7_revise : Kt := exL SKc SKn SKr CS (lkp T_X7_revise) [F_X7_isRule, F_X7_isIn, F_X7_holds] [] []
noncomputable def F_X7_revise : Fn := fun as h => E_X7_revise 0 (pad 5 as) [] h
noncomputable def f_X7_revise_29 (x1 : Int32) (x2 : Int32) (x3 : Int32) (s0 : Int32) (h : Hp) : Res := E_X7_revise 29 [.ref 227, .int x1, .int x2, .int x3, .retAddr 0] [.int s0, .ref 227] h
set_option maxRecDepth 100000 in
set_option maxHeartbeats 4000000 in
theorem e_X7_revise_0 (x1 : Int32) (x2 : Int32) (x3 : Int32) (h : Hp) : F_X7_revise [.ref 227, .int x1, .int x2, .int x3] h = bI (F_X7_isRule [.ref 227, .int x1, .int x2] h) (fun v2 h1 => if v2 = 0 then f_X7_revise_29 x1 x2 x3 1 h1 else bI (F_X7_isIn [.int x3, .int 0, .int 20] h1) (fun v4 h3 => if v4 = 0 then f_X7_revise_29 x1 x2 x3 2 h3 else f_X7_revise_29 x1 x2 x3 0 h3) (hnk [])) (hnk []) :=
  (exL_it SKc SKn SKr CS (lkp T_X7_revise) [F_X7_isRule, F_X7_isIn, F_X7_holds] [] [] [29] 13 0 [.ref 227, .int x1, .int x2, .int x3, .retAddr 0] [] h).trans rfl
set_option maxRecDepth 100000 in
set_option maxHeartbeats 4000000 in
theorem e_X7_revise_29 (x1 : Int32) (x2 : Int32) (x3 : Int32) (s0 : Int32) (h : Hp) : f_X7_revise_29 x1 x2 x3 s0 h = bI (F_X7_holds [.ref 227, .int s0] h) (fun v2 h1 => if v2 = 0 then rtn (some (.int 0)) h1 else gd (inb ((6 * x1) + x2) 24) (gd (inb ((6 * x1) + x2) 24) (rtn (some (.int (rd h1 231 (((6 * x1) + x2).toNatClampNeg)))) (wr h1 231 (((6 * x1) + x2).toNatClampNeg) x3)))) (hnk []) :=
  (exL_it SKc SKn SKr CS (lkp T_X7_revise) [F_X7_isRule, F_X7_isIn, F_X7_holds] [] [] [29] 22 29 [.ref 227, .int x1, .int x2, .int x3, .retAddr 0] [.int s0, .ref 227] h).trans rfl

def T_X7_curfew : List (Nat × Ent) := [(0, ([], .aload_n 0, 1, 0, 0, 0, 0)),
  (1, ([], .iload_n 1, 1, 1, 0, 0, 0)),
  (2, ([], .invokestatic 160, 3, 0, 5, 0, 0)),
  (5, ([], .ifCond .ne 7, 3, 12, 0, 0, 0)),
  (8, ([], .iconst 1, 1, 0, 0, 0, 1)),
  (9, ([], .goto 28, 3, 37, 0, 0, 0)),
  (12, ([], .iload_n 2, 1, 2, 0, 0, 0)),
  (13, ([], .iconst 0, 1, 0, 0, 0, 0)),
  (14, ([], .bipush 72, 2, 0, 0, 0, 72)),
  (16, ([], .invokestatic 156, 3, 1, 13, 0, 0)),
  (19, ([], .ifCond .eq 17, 3, 36, 0, 0, 0)),
  (22, ([], .iload_n 3, 1, 3, 0, 0, 0)),
  (23, ([], .iload_n 2, 1, 2, 0, 0, 0)),
  (24, ([], .bipush 72, 2, 0, 0, 0, 72)),
  (26, ([], .invokestatic 156, 3, 1, 13, 0, 0)),
  (29, ([], .ifCond .eq 7, 3, 36, 0, 0, 0)),
  (32, ([], .iconst 0, 1, 0, 0, 0, 0)),
  (33, ([], .goto 4, 3, 37, 0, 0, 0)),
  (36, ([false, false, false, false], .iconst 2, 1, 0, 0, 0, 2)),
  (37, ([false, false, false, false], .invokevirtual 170, 3, 2, 9, 0, 0)),
  (40, ([], .ifCond .eq 17, 3, 57, 0, 0, 0)),
  (43, ([], .aload_n 0, 1, 0, 0, 0, 0)),
  (44, ([], .getfield 22, 3, 6, 3, 0, 0)),
  (47, ([], .iload_n 1, 1, 1, 0, 0, 0)),
  (48, ([], .iload_n 2, 1, 2, 0, 0, 0)),
  (49, ([], .iastore, 1, 0, 0, 0, 0)),
  (50, ([], .aload_n 0, 1, 0, 0, 0, 0)),
  (51, ([], .getfield 25, 3, 7, 3, 0, 0)),
  (54, ([], .iload_n 1, 1, 1, 0, 0, 0)),
  (55, ([], .iload_n 3, 1, 3, 0, 0, 0)),
  (56, ([], .iastore, 1, 0, 0, 0, 0)),
  (57, ([], .return_, 1, 0, 0, 0, 0))]
noncomputable def E_X7_curfew : Kt := exL SKc SKn SKr CS (lkp T_X7_curfew) [F_X7_isAirport, F_X7_isIn, F_X7_holds] [] []
noncomputable def F_X7_curfew : Fn := fun as h => E_X7_curfew 0 (pad 4 as) [] h
noncomputable def f_X7_curfew_36 (x1 : Int32) (x2 : Int32) (x3 : Int32) (h : Hp) : Res := E_X7_curfew 36 [.ref 227, .int x1, .int x2, .int x3] [.ref 227] h
noncomputable def f_X7_curfew_37 (x1 : Int32) (x2 : Int32) (x3 : Int32) (s0 : Int32) (h : Hp) : Res := E_X7_curfew 37 [.ref 227, .int x1, .int x2, .int x3] [.int s0, .ref 227] h
set_option maxRecDepth 100000 in
set_option maxHeartbeats 4000000 in
theorem e_X7_curfew_0 (x1 : Int32) (x2 : Int32) (x3 : Int32) (h : Hp) : F_X7_curfew [.ref 227, .int x1, .int x2, .int x3] h = bI (F_X7_isAirport [.int x1] h) (fun v2 h1 => if v2 = 0 then f_X7_curfew_37 x1 x2 x3 1 h1 else bI (F_X7_isIn [.int x2, .int 0, .int 72] h1) (fun v4 h3 => if v4 = 0 then f_X7_curfew_36 x1 x2 x3 h3 else bI (F_X7_isIn [.int x3, .int x2, .int 72] h3) (fun v6 h5 => if v6 = 0 then f_X7_curfew_36 x1 x2 x3 h5 else f_X7_curfew_37 x1 x2 x3 0 h5) (hnk [])) (hnk [])) (hnk []) :=
  (exL_it SKc SKn SKr CS (lkp T_X7_curfew) [F_X7_isAirport, F_X7_isIn, F_X7_holds] [] [] [36, 37] 16 0 [.ref 227, .int x1, .int x2, .int x3] [] h).trans rfl
set_option maxRecDepth 100000 in
set_option maxHeartbeats 4000000 in
theorem e_X7_curfew_36 (x1 : Int32) (x2 : Int32) (x3 : Int32) (h : Hp) : f_X7_curfew_36 x1 x2 x3 h = f_X7_curfew_37 x1 x2 x3 2 h :=
  (exL_it SKc SKn SKr CS (lkp T_X7_curfew) [F_X7_isAirport, F_X7_isIn, F_X7_holds] [] [] [36, 37] 1 36 [.ref 227, .int x1, .int x2, .int x3] [.ref 227] h).trans rfl
set_option maxRecDepth 100000 in
set_option maxHeartbeats 4000000 in
theorem e_X7_curfew_37 (x1 : Int32) (x2 : Int32) (x3 : Int32) (s0 : Int32) (h : Hp) : f_X7_curfew_37 x1 x2 x3 s0 h = bI (F_X7_holds [.ref 227, .int s0] h) (fun v2 h1 => if v2 = 0 then rtn none h1 else gd (inb x1 4) (gd (inb x1 4) (rtn none (wr (wr h1 232 x1.toNatClampNeg x2) 233 x1.toNatClampNeg x3)))) (hnk []) :=
  (exL_it SKc SKn SKr CS (lkp T_X7_curfew) [F_X7_isAirport, F_X7_isIn, F_X7_holds] [] [] [36, 37] 13 37 [.ref 227, .int x1, .int x2, .int x3] [.int s0, .ref 227] h).trans rfl

def T_X7_quota : List (Nat × Ent) := [(0, ([], .aload_n 0, 1, 0, 0, 0, 0)),
  (1, ([], .iload_n 1, 1, 1, 0, 0, 0)),
  (2, ([], .invokestatic 160, 3, 0, 5, 0, 0)),
  (5, ([], .ifCond .ne 7, 3, 12, 0, 0, 0)),
  (8, ([], .iconst 1, 1, 0, 0, 0, 1)),
  (9, ([], .goto 19, 3, 28, 0, 0, 0)),
  (12, ([], .iload_n 2, 1, 2, 0, 0, 0)),
  (13, ([], .iconst 0, 1, 0, 0, 0, 0)),
  (14, ([], .sipush 9999, 3, 0, 0, 0, 9999)),
  (17, ([], .invokestatic 156, 3, 1, 13, 0, 0)),
  (20, ([], .ifCond .eq 7, 3, 27, 0, 0, 0)),
  (23, ([], .iconst 0, 1, 0, 0, 0, 0)),
  (24, ([], .goto 4, 3, 28, 0, 0, 0)),
  (27, ([], .iconst 2, 1, 0, 0, 0, 2)),
  (28, ([false, false, false, true], .invokevirtual 170, 3, 2, 9, 0, 0)),
  (31, ([], .ifCond .ne 5, 3, 36, 0, 0, 0)),
  (34, ([], .iconst 0, 1, 0, 0, 0, 0)),
  (35, ([], .ireturn, 1, 0, 0, 0, 0)),
  (36, ([], .aload_n 0, 1, 0, 0, 0, 0)),
  (37, ([], .getfield 28, 3, 8, 3, 0, 0)),
  (40, ([], .iload_n 1, 1, 1, 0, 0, 0)),
  (41, ([], .iaload, 1, 0, 0, 0, 0)),
  (42, ([], .istore_n 3, 1, 3, 0, 0, 0)),
  (43, ([], .aload_n 0, 1, 0, 0, 0, 0)),
  (44, ([], .getfield 28, 3, 8, 3, 0, 0)),
  (47, ([], .iload_n 1, 1, 1, 0, 0, 0)),
  (48, ([], .iload_n 2, 1, 2, 0, 0, 0)),
  (49, ([], .iastore, 1, 0, 0, 0, 0)),
  (50, ([], .iload_n 3, 1, 3, 0, 0, 0)),
  (51, ([], .ireturn, 1, 0, 0, 0, 0))]
noncomputable def E_X7_quota : Kt := exL SKc SKn SKr CS (lkp T_X7_quota) [F_X7_isAirport, F_X7_isIn, F_X7_holds] [] []
noncomputable def F_X7_quota : Fn := fun as h => E_X7_quota 0 (pad 4 as) [] h
noncomputable def f_X7_quota_28 (x1 : Int32) (x2 : Int32) (s0 : Int32) (h : Hp) : Res := E_X7_quota 28 [.ref 227, .int x1, .int x2, .retAddr 0] [.int s0, .ref 227] h
set_option maxRecDepth 100000 in
set_option maxHeartbeats 4000000 in
theorem e_X7_quota_0 (x1 : Int32) (x2 : Int32) (h : Hp) : F_X7_quota [.ref 227, .int x1, .int x2] h = bI (F_X7_isAirport [.int x1] h) (fun v2 h1 => if v2 = 0 then f_X7_quota_28 x1 x2 1 h1 else bI (F_X7_isIn [.int x2, .int 0, .int 9999] h1) (fun v4 h3 => if v4 = 0 then f_X7_quota_28 x1 x2 2 h3 else f_X7_quota_28 x1 x2 0 h3) (hnk [])) (hnk []) :=
  (exL_it SKc SKn SKr CS (lkp T_X7_quota) [F_X7_isAirport, F_X7_isIn, F_X7_holds] [] [] [28] 11 0 [.ref 227, .int x1, .int x2, .retAddr 0] [] h).trans rfl
set_option maxRecDepth 100000 in
set_option maxHeartbeats 4000000 in
theorem e_X7_quota_28 (x1 : Int32) (x2 : Int32) (s0 : Int32) (h : Hp) : f_X7_quota_28 x1 x2 s0 h = bI (F_X7_holds [.ref 227, .int s0] h) (fun v2 h1 => if v2 = 0 then rtn (some (.int 0)) h1 else gd (inb x1 4) (gd (inb x1 4) (rtn (some (.int (rd h1 234 x1.toNatClampNeg))) (wr h1 234 x1.toNatClampNeg x2)))) (hnk []) :=
  (exL_it SKc SKn SKr CS (lkp T_X7_quota) [F_X7_isAirport, F_X7_isIn, F_X7_holds] [] [] [28] 14 28 [.ref 227, .int x1, .int x2, .retAddr 0] [.int s0, .ref 227] h).trans rfl

def T_X7_merge : List (Nat × Ent) := [(0, ([], .iload_n 1, 1, 1, 0, 0, 0)),
  (1, ([], .invokestatic 177, 3, 0, 5, 0, 0)),
  (4, ([], .ifCond .eq 14, 3, 18, 0, 0, 0)),
  (7, ([], .iload_n 2, 1, 2, 0, 0, 0)),
  (8, ([], .invokestatic 177, 3, 0, 5, 0, 0)),
  (11, ([], .ifCond .eq 7, 3, 18, 0, 0, 0)),
  (14, ([], .iconst 1, 1, 0, 0, 0, 1)),
  (15, ([], .goto 4, 3, 19, 0, 0, 0)),
  (18, ([false, false, false, true, true, true, true], .iconst 0, 1, 0, 0, 0, 0)),
  (19, ([false, false, false, true, true, true, true], .istore_n 3, 1, 3, 0, 0, 0)),
  (20, ([], .aload_n 0, 1, 0, 0, 0, 0)),
  (21, ([], .iload_n 3, 1, 3, 0, 0, 0)),
  (22, ([], .ifCond .ne 7, 3, 29, 0, 0, 0)),
  (25, ([], .iconst 1, 1, 0, 0, 0, 1)),
  (26, ([], .goto 23, 3, 49, 0, 0, 0)),
  (29, ([], .aload_n 0, 1, 0, 0, 0, 0)),
  (30, ([], .getfield 31, 3, 9, 3, 0, 0)),
  (33, ([], .iload_n 1, 1, 1, 0, 0, 0)),
  (34, ([], .iaload, 1, 0, 0, 0, 0)),
  (35, ([], .aload_n 0, 1, 0, 0, 0, 0)),
  (36, ([], .getfield 31, 3, 9, 3, 0, 0)),
  (39, ([], .iload_n 2, 1, 2, 0, 0, 0)),
  (40, ([], .iaload, 1, 0, 0, 0, 0)),
  (41, ([], .if_icmp .ne 7, 3, 48, 0, 0, 0)),
  (44, ([], .iconst 2, 1, 0, 0, 0, 2)),
  (45, ([], .goto 4, 3, 49, 0, 0, 0)),
  (48, ([], .iconst 0, 1, 0, 0, 0, 0)),
  (49, ([false, false, false, true, true, true, true], .invokevirtual 170, 3, 1, 9, 0, 0)),
  (52, ([], .ifCond .ne 5, 3, 57, 0, 0, 0)),
  (55, ([], .iconst 0, 1, 0, 0, 0, 0)),
  (56, ([], .ireturn, 1, 0, 0, 0, 0)),
  (57, ([], .aload_n 0, 1, 0, 0, 0, 0)),
  (58, ([], .getfield 31, 3, 9, 3, 0, 0)),
  (61, ([], .iload_n 2, 1, 2, 0, 0, 0)),
  (62, ([], .iaload, 1, 0, 0, 0, 0)),
  (63, ([], .istore 4, 2, 4, 0, 0, 0)),
  (65, ([], .iconst 0, 1, 0, 0, 0, 0)),
  (66, ([], .istore 5, 2, 5, 0, 0, 0)),
  (68, ([], .iconst 0, 1, 0, 0, 0, 0)),
  (69, ([], .istore 6, 2, 6, 0, 0, 0)),
  (71, ([false, false, true, true, false, false, false], .iload 6, 2, 6, 0, 0, 0)),
  (73, ([], .bipush 10, 2, 0, 0, 0, 10)),
  (75, ([], .if_icmp .ge 70, 3, 145, 0, 0, 0)),
  (78, ([], .aload_n 0, 1, 0, 0, 0, 0)),
  (79, ([], .getfield 31, 3, 9, 3, 0, 0)),
  (82, ([], .iload 6, 2, 6, 0, 0, 0)),
  (84, ([], .aload_n 0, 1, 0, 0, 0, 0)),
  (85, ([], .getfield 31, 3, 9, 3, 0, 0)),
  (88, ([], .iload 6, 2, 6, 0, 0, 0)),
  (90, ([], .iaload, 1, 0, 0, 0, 0)),
  (91, ([], .iload 4, 2, 4, 0, 0, 0)),
  (93, ([], .if_icmp .ne 12, 3, 105, 0, 0, 0)),
  (96, ([], .aload_n 0, 1, 0, 0, 0, 0)),
  (97, ([], .getfield 31, 3, 9, 3, 0, 0)),
  (100, ([], .iload_n 1, 1, 1, 0, 0, 0)),
  (101, ([], .iaload, 1, 0, 0, 0, 0)),
  (102, ([], .goto 10, 3, 112, 0, 0, 0)),
  (105, ([], .aload_n 0, 1, 0, 0, 0, 0)),
  (106, ([], .getfield 31, 3, 9, 3, 0, 0)),
  (109, ([], .iload 6, 2, 6, 0, 0, 0)),
  (111, ([], .iaload, 1, 0, 0, 0, 0)),
  (112, ([false, false, true, true, false, false, false], .iastore, 1, 0, 0, 0, 0)),
  (113, ([], .iload 5, 2, 5, 0, 0, 0)),
  (115, ([], .aload_n 0, 1, 0, 0, 0, 0)),
  (116, ([], .getfield 31, 3, 9, 3, 0, 0)),
  (119, ([], .iload 6, 2, 6, 0, 0, 0)),
  (121, ([], .iaload, 1, 0, 0, 0, 0)),
  (122, ([], .aload_n 0, 1, 0, 0, 0, 0)),
  (123, ([], .getfield 31, 3, 9, 3, 0, 0)),
  (126, ([], .iload_n 1, 1, 1, 0, 0, 0)),
  (127, ([], .iaload, 1, 0, 0, 0, 0)),
  (128, ([], .if_icmp .ne 7, 3, 135, 0, 0, 0)),
  (131, ([], .iconst 1, 1, 0, 0, 0, 1)),
  (132, ([], .goto 4, 3, 136, 0, 0, 0)),
  (135, ([], .iconst 0, 1, 0, 0, 0, 0)),
  (136, ([false, false, true, true, false, true, false], .iadd, 1, 0, 0, 0, 0)),
  (137, ([], .istore 5, 2, 5, 0, 0, 0)),
  (139, ([], .iinc 6 1, 3, 6, 0, 0, 1)),
  (142, ([], .goto (-71), 3, 71, 0, 0, 0)),
  (145, ([], .iload 5, 2, 5, 0, 0, 0)),
  (147, ([], .ireturn, 1, 0, 0, 0, 0))]
noncomputable def E_X7_merge : Kt := exL SKc SKn SKr CS (lkp T_X7_merge) [F_X7_isCarrier, F_X7_holds] [] []
noncomputable def F_X7_merge : Fn := fun as h => E_X7_merge 0 (pad 7 as) [] h
noncomputable def f_X7_merge_18 (x1 : Int32) (x2 : Int32) (h : Hp) : Res := E_X7_merge 18 [.ref 227, .int x1, .int x2, .retAddr 0, .retAddr 0, .retAddr 0, .retAddr 0] [] h
noncomputable def f_X7_merge_19 (x1 : Int32) (x2 : Int32) (s0 : Int32) (h : Hp) : Res := E_X7_merge 19 [.ref 227, .int x1, .int x2, .retAddr 0, .retAddr 0, .retAddr 0, .retAddr 0] [.int s0] h
noncomputable def f_X7_merge_49 (x1 : Int32) (x2 : Int32) (s0 : Int32) (h : Hp) : Res := E_X7_merge 49 [.ref 227, .int x1, .int x2, .retAddr 0, .retAddr 0, .retAddr 0, .retAddr 0] [.int s0, .ref 227] h
noncomputable def f_X7_merge_71 (x1 : Int32) (x4 : Int32) (x5 : Int32) (x6 : Int32) (h : Hp) : Res := E_X7_merge 71 [.ref 227, .int x1, .retAddr 0, .retAddr 0, .int x4, .int x5, .int x6] [] h
noncomputable def f_X7_merge_112 (x1 : Int32) (x4 : Int32) (x5 : Int32) (x6 : Int32) (s0 : Int32) (s1 : Int32) (h : Hp) : Res := E_X7_merge 112 [.ref 227, .int x1, .retAddr 0, .retAddr 0, .int x4, .int x5, .int x6] [.int s0, .int s1, .ref 235] h
noncomputable def f_X7_merge_136 (x1 : Int32) (x4 : Int32) (x6 : Int32) (s0 : Int32) (s1 : Int32) (h : Hp) : Res := E_X7_merge 136 [.ref 227, .int x1, .retAddr 0, .retAddr 0, .int x4, .retAddr 0, .int x6] [.int s0, .int s1] h
set_option maxRecDepth 100000 in
set_option maxHeartbeats 4000000 in
theorem e_X7_merge_0 (x1 : Int32) (x2 : Int32) (h : Hp) : F_X7_merge [.ref 227, .int x1, .int x2] h = bI (F_X7_isCarrier [.int x1] h) (fun v2 h1 => if v2 = 0 then f_X7_merge_18 x1 x2 h1 else bI (F_X7_isCarrier [.int x2] h1) (fun v4 h3 => if v4 = 0 then f_X7_merge_18 x1 x2 h3 else f_X7_merge_19 x1 x2 1 h3) (hnk [])) (hnk []) :=
  (exL_it SKc SKn SKr CS (lkp T_X7_merge) [F_X7_isCarrier, F_X7_holds] [] [] [18, 19, 49, 71, 112, 136] 8 0 [.ref 227, .int x1, .int x2, .retAddr 0, .retAddr 0, .retAddr 0, .retAddr 0] [] h).trans rfl
set_option maxRecDepth 100000 in
set_option maxHeartbeats 4000000 in
theorem e_X7_merge_18 (x1 : Int32) (x2 : Int32) (h : Hp) : f_X7_merge_18 x1 x2 h = f_X7_merge_19 x1 x2 0 h :=
  (exL_it SKc SKn SKr CS (lkp T_X7_merge) [F_X7_isCarrier, F_X7_holds] [] [] [18, 19, 49, 71, 112, 136] 1 18 [.ref 227, .int x1, .int x2, .retAddr 0, .retAddr 0, .retAddr 0, .retAddr 0] [] h).trans rfl
set_option maxRecDepth 100000 in
set_option maxHeartbeats 4000000 in
theorem e_X7_merge_19 (x1 : Int32) (x2 : Int32) (s0 : Int32) (h : Hp) : f_X7_merge_19 x1 x2 s0 h = if s0 = 0 then f_X7_merge_49 x1 x2 1 h else gd (inb x1 10) (gd (inb x2 10) (if (rd h 235 x1.toNatClampNeg) = (rd h 235 x2.toNatClampNeg) then f_X7_merge_49 x1 x2 2 h else f_X7_merge_49 x1 x2 0 h)) :=
  (exL_it SKc SKn SKr CS (lkp T_X7_merge) [F_X7_isCarrier, F_X7_holds] [] [] [18, 19, 49, 71, 112, 136] 15 19 [.ref 227, .int x1, .int x2, .retAddr 0, .retAddr 0, .retAddr 0, .retAddr 0] [.int s0] h).trans rfl
set_option maxRecDepth 100000 in
set_option maxHeartbeats 4000000 in
theorem e_X7_merge_49 (x1 : Int32) (x2 : Int32) (s0 : Int32) (h : Hp) : f_X7_merge_49 x1 x2 s0 h = bI (F_X7_holds [.ref 227, .int s0] h) (fun v2 h1 => if v2 = 0 then rtn (some (.int 0)) h1 else gd (inb x2 10) (f_X7_merge_71 x1 (rd h1 235 x2.toNatClampNeg) 0 0 h1)) (hnk []) :=
  (exL_it SKc SKn SKr CS (lkp T_X7_merge) [F_X7_isCarrier, F_X7_holds] [] [] [18, 19, 49, 71, 112, 136] 11 49 [.ref 227, .int x1, .int x2, .retAddr 0, .retAddr 0, .retAddr 0, .retAddr 0] [.int s0, .ref 227] h).trans rfl
set_option maxRecDepth 100000 in
set_option maxHeartbeats 4000000 in
theorem e_X7_merge_71 (x1 : Int32) (x4 : Int32) (x5 : Int32) (x6 : Int32) (h : Hp) : f_X7_merge_71 x1 x4 x5 x6 h = if x6 < 10 then gd (inb x6 10) (if (rd h 235 x6.toNatClampNeg) = x4 then gd (inb x1 10) (f_X7_merge_112 x1 x4 x5 x6 (rd h 235 x1.toNatClampNeg) x6 h) else gd (inb x6 10) (f_X7_merge_112 x1 x4 x5 x6 (rd h 235 x6.toNatClampNeg) x6 h)) else rtn (some (.int x5)) h :=
  (exL_it SKc SKn SKr CS (lkp T_X7_merge) [F_X7_isCarrier, F_X7_holds] [] [] [18, 19, 49, 71, 112, 136] 17 71 [.ref 227, .int x1, .retAddr 0, .retAddr 0, .int x4, .int x5, .int x6] [] h).trans rfl
set_option maxRecDepth 100000 in
set_option maxHeartbeats 4000000 in
theorem e_X7_merge_112 (x1 : Int32) (x4 : Int32) (x5 : Int32) (x6 : Int32) (s0 : Int32) (s1 : Int32) (h : Hp) : f_X7_merge_112 x1 x4 x5 x6 s0 s1 h = gd (inb s1 10) (gd (inb x6 10) (gd (inb x1 10) (if (rd (wr h 235 s1.toNatClampNeg s0) 235 x6.toNatClampNeg) = (rd (wr h 235 s1.toNatClampNeg s0) 235 x1.toNatClampNeg) then f_X7_merge_136 x1 x4 x6 1 x5 (wr h 235 s1.toNatClampNeg s0) else f_X7_merge_136 x1 x4 x6 0 x5 (wr h 235 s1.toNatClampNeg s0)))) :=
  (exL_it SKc SKn SKr CS (lkp T_X7_merge) [F_X7_isCarrier, F_X7_holds] [] [] [18, 19, 49, 71, 112, 136] 13 112 [.ref 227, .int x1, .retAddr 0, .retAddr 0, .int x4, .int x5, .int x6] [.int s0, .int s1, .ref 235] h).trans rfl
set_option maxRecDepth 100000 in
set_option maxHeartbeats 4000000 in
theorem e_X7_merge_136 (x1 : Int32) (x4 : Int32) (x6 : Int32) (s0 : Int32) (s1 : Int32) (h : Hp) : f_X7_merge_136 x1 x4 x6 s0 s1 h = f_X7_merge_71 x1 x4 (s1 + s0) (x6 + 1) h :=
  (exL_it SKc SKn SKr CS (lkp T_X7_merge) [F_X7_isCarrier, F_X7_holds] [] [] [18, 19, 49, 71, 112, 136] 4 136 [.ref 227, .int x1, .retAddr 0, .retAddr 0, .int x4, .retAddr 0, .int x6] [.int s0, .int s1] h).trans rfl

def T_X7_isNight : List (Nat × Ent) := [(0, ([], .iload_n 0, 1, 0, 0, 0, 0)),
  (1, ([], .bipush 18, 2, 0, 0, 0, 18)),
  (3, ([], .if_icmp .lt 9, 3, 12, 0, 0, 0)),
  (6, ([], .iload_n 0, 1, 0, 0, 0, 0)),
  (7, ([], .bipush 65, 2, 0, 0, 0, 65)),
  (9, ([], .if_icmp .le 7, 3, 16, 0, 0, 0)),
  (12, ([], .iconst 1, 1, 0, 0, 0, 1)),
  (13, ([], .goto 4, 3, 17, 0, 0, 0)),
  (16, ([], .iconst 0, 1, 0, 0, 0, 0)),
  (17, ([], .ireturn, 1, 0, 0, 0, 0))]
noncomputable def E_X7_isNight : Kt := exL SKc SKn SKr CS (lkp T_X7_isNight) [] [] []
noncomputable def F_X7_isNight : Fn := fun as h => E_X7_isNight 0 (pad 1 as) [] h
set_option maxRecDepth 100000 in
set_option maxHeartbeats 4000000 in
theorem e_X7_isNight_0 (x0 : Int32) (h : Hp) : F_X7_isNight [.int x0] h = if x0 < 18 then rtn (some (.int 1)) h else if 65 < x0 then rtn (some (.int 1)) h else rtn (some (.int 0)) h :=
  (exL_it SKc SKn SKr CS (lkp T_X7_isNight) [] [] [] [] 9 0 [.int x0] [] h).trans rfl

def T_X7_isThere : List (Nat × Ent) := [(0, ([], .aload_n 0, 1, 0, 0, 0, 0)),
  (1, ([], .getfield 142, 3, 50, 3, 0, 0)),
  (4, ([], .iload_n 1, 1, 1, 0, 0, 0)),
  (5, ([], .baload, 1, 0, 0, 0, 0)),
  (6, ([], .ifCond .ne 47, 3, 53, 0, 0, 0)),
  (9, ([], .aload_n 0, 1, 0, 0, 0, 0)),
  (10, ([], .getfield 112, 3, 40, 3, 0, 0)),
  (13, ([], .iload_n 1, 1, 1, 0, 0, 0)),
  (14, ([], .iaload, 1, 0, 0, 0, 0)),
  (15, ([], .iload_n 2, 1, 2, 0, 0, 0)),
  (16, ([], .if_icmp .ne 37, 3, 53, 0, 0, 0)),
  (19, ([], .aload_n 0, 1, 0, 0, 0, 0)),
  (20, ([], .getfield 118, 3, 42, 3, 0, 0)),
  (23, ([], .iload_n 1, 1, 1, 0, 0, 0)),
  (24, ([], .iaload, 1, 0, 0, 0, 0)),
  (25, ([], .iload_n 3, 1, 3, 0, 0, 0)),
  (26, ([], .if_icmp .ne 27, 3, 53, 0, 0, 0)),
  (29, ([], .iload 4, 2, 4, 0, 0, 0)),
  (31, ([], .aload_n 0, 1, 0, 0, 0, 0)),
  (32, ([], .getfield 124, 3, 44, 3, 0, 0)),
  (35, ([], .iload_n 1, 1, 1, 0, 0, 0)),
  (36, ([], .iaload, 1, 0, 0, 0, 0)),
  (37, ([], .aload_n 0, 1, 0, 0, 0, 0)),
  (38, ([], .getfield 127, 3, 45, 3, 0, 0)),
  (41, ([], .iload_n 1, 1, 1, 0, 0, 0)),
  (42, ([], .iaload, 1, 0, 0, 0, 0)),
  (43, ([], .invokestatic 156, 3, 0, 13, 0, 0)),
  (46, ([], .ifCond .eq 7, 3, 53, 0, 0, 0)),
  (49, ([], .iconst 1, 1, 0, 0, 0, 1)),
  (50, ([], .goto 4, 3, 54, 0, 0, 0)),
  (53, ([], .iconst 0, 1, 0, 0, 0, 0)),
  (54, ([], .ireturn, 1, 0, 0, 0, 0))]
noncomputable def E_X7_isThere : Kt := exL SKc SKn SKr CS (lkp T_X7_isThere) [F_X7_isIn] [] []
noncomputable def F_X7_isThere : Fn := fun as h => E_X7_isThere 0 (pad 5 as) [] h
set_option maxRecDepth 100000 in
set_option maxHeartbeats 4000000 in
theorem e_X7_isThere_0 (x1 : Int32) (x2 : Int32) (x3 : Int32) (x4 : Int32) (h : Hp) : F_X7_isThere [.ref 227, .int x1, .int x2, .int x3, .int x4] h = gd (inb x1 60) (if (rd h 272 x1.toNatClampNeg) = 0 then gd (inb x1 60) (if (rd h 262 x1.toNatClampNeg) = x2 then gd (inb x1 60) (if (rd h 264 x1.toNatClampNeg) = x3 then gd (inb x1 60) (gd (inb x1 60) (bI (F_X7_isIn [.int x4, .int (rd h 266 x1.toNatClampNeg), .int (rd h 267 x1.toNatClampNeg)] h) (fun v2 h1 => if v2 = 0 then rtn (some (.int 0)) h1 else rtn (some (.int 1)) h1) (hnk []))) else rtn (some (.int 0)) h) else rtn (some (.int 0)) h) else rtn (some (.int 0)) h) :=
  (exL_it SKc SKn SKr CS (lkp T_X7_isThere) [F_X7_isIn] [] [] [] 31 0 [.ref 227, .int x1, .int x2, .int x3, .int x4] [] h).trans rfl

def T_X7_loadOf : List (Nat × Ent) := [(0, ([], .iconst 0, 1, 0, 0, 0, 0)),
  (1, ([], .istore 7, 2, 7, 0, 0, 0)),
  (3, ([], .iconst 0, 1, 0, 0, 0, 0)),
  (4, ([], .istore 8, 2, 8, 0, 0, 0)),
  (6, ([false, false, false, false, false, false, false, false, false, true], .iload 8, 2, 8, 0, 0, 0)),
  (8, ([], .aload_n 0, 1, 0, 0, 0, 0)),
  (9, ([], .getfield 167, 3, 37, 2, 0, 0)),
  (12, ([], .if_icmp .ge 77, 3, 89, 0, 0, 0)),
  (15, ([], .aload_n 0, 1, 0, 0, 0, 0)),
  (16, ([], .iload 8, 2, 8, 0, 0, 0)),
  (18, ([], .iload_n 1, 1, 1, 0, 0, 0)),
  (19, ([], .iload_n 3, 1, 3, 0, 0, 0)),
  (20, ([], .iload 4, 2, 4, 0, 0, 0)),
  (22, ([], .invokevirtual 180, 3, 0, 21, 0, 0)),
  (25, ([], .ifCond .eq 40, 3, 65, 0, 0, 0)),
  (28, ([], .aload_n 0, 1, 0, 0, 0, 0)),
  (29, ([], .getfield 121, 3, 43, 3, 0, 0)),
  (32, ([], .iload 8, 2, 8, 0, 0, 0)),
  (34, ([], .iaload, 1, 0, 0, 0, 0)),
  (35, ([], .iload 5, 2, 5, 0, 0, 0)),
  (37, ([], .iload 6, 2, 6, 0, 0, 0)),
  (39, ([], .invokestatic 156, 3, 1, 13, 0, 0)),
  (42, ([], .ifCond .eq 23, 3, 65, 0, 0, 0)),
  (45, ([], .iload_n 2, 1, 2, 0, 0, 0)),
  (46, ([], .iconst 2, 1, 0, 0, 0, 2)),
  (47, ([], .if_icmp .eq 14, 3, 61, 0, 0, 0)),
  (50, ([], .aload_n 0, 1, 0, 0, 0, 0)),
  (51, ([], .getfield 115, 3, 41, 3, 0, 0)),
  (54, ([], .iload 8, 2, 8, 0, 0, 0)),
  (56, ([], .iaload, 1, 0, 0, 0, 0)),
  (57, ([], .iload_n 2, 1, 2, 0, 0, 0)),
  (58, ([], .if_icmp .ne 7, 3, 65, 0, 0, 0)),
  (61, ([false, false, false, false, false, false, false, false, false, true], .iconst 1, 1, 0, 0, 0, 1)),
  (62, ([], .goto 4, 3, 66, 0, 0, 0)),
  (65, ([false, false, false, false, false, false, false, false, false, true], .iconst 0, 1, 0, 0, 0, 0)),
  (66, ([false, false, false, false, false, false, false, false, false, true], .istore 9, 2, 9, 0, 0, 0)),
  (68, ([], .iload 7, 2, 7, 0, 0, 0)),
  (70, ([], .iload 9, 2, 9, 0, 0, 0)),
  (72, ([], .ifCond .eq 7, 3, 79, 0, 0, 0)),
  (75, ([], .iconst 1, 1, 0, 0, 0, 1)),
  (76, ([], .goto 4, 3, 80, 0, 0, 0)),
  (79, ([], .iconst 0, 1, 0, 0, 0, 0)),
  (80, ([false, false, false, false, false, false, false, true, false, true], .iadd, 1, 0, 0, 0, 0)),
  (81, ([], .istore 7, 2, 7, 0, 0, 0)),
  (83, ([], .iinc 8 1, 3, 8, 0, 0, 1)),
  (86, ([], .goto (-80), 3, 6, 0, 0, 0)),
  (89, ([], .iload 7, 2, 7, 0, 0, 0)),
  (91, ([], .ireturn, 1, 0, 0, 0, 0))]
noncomputable def E_X7_loadOf : Kt := exL SKc SKn SKr CS (lkp T_X7_loadOf) [F_X7_isThere, F_X7_isIn] [] []
noncomputable def F_X7_loadOf : Fn := fun as h => E_X7_loadOf 0 (pad 10 as) [] h
noncomputable def f_X7_loadOf_6 (x1 : Int32) (x2 : Int32) (x3 : Int32) (x4 : Int32) (x5 : Int32) (x6 : Int32) (x7 : Int32) (x8 : Int32) (h : Hp) : Res := E_X7_loadOf 6 [.ref 227, .int x1, .int x2, .int x3, .int x4, .int x5, .int x6, .int x7, .int x8, .retAddr 0] [] h
noncomputable def f_X7_loadOf_61 (x1 : Int32) (x2 : Int32) (x3 : Int32) (x4 : Int32) (x5 : Int32) (x6 : Int32) (x7 : Int32) (x8 : Int32) (h : Hp) : Res := E_X7_loadOf 61 [.ref 227, .int x1, .int x2, .int x3, .int x4, .int x5, .int x6, .int x7, .int x8, .retAddr 0] [] h
noncomputable def f_X7_loadOf_65 (x1 : Int32) (x2 : Int32) (x3 : Int32) (x4 : Int32) (x5 : Int32) (x6 : Int32) (x7 : Int32) (x8 : Int32) (h : Hp) : Res := E_X7_loadOf 65 [.ref 227, .int x1, .int x2, .int x3, .int x4, .int x5, .int x6, .int x7, .int x8, .retAddr 0] [] h
noncomputable def f_X7_loadOf_66 (x1 : Int32) (x2 : Int32) (x3 : Int32) (x4 : Int32) (x5 : Int32) (x6 : Int32) (x7 : Int32) (x8 : Int32) (s0 : Int32) (h : Hp) : Res := E_X7_loadOf 66 [.ref 227, .int x1, .int x2, .int x3, .int x4, .int x5, .int x6, .int x7, .int x8, .retAddr 0] [.int s0] h
noncomputable def f_X7_loadOf_80 (x1 : Int32) (x2 : Int32) (x3 : Int32) (x4 : Int32) (x5 : Int32) (x6 : Int32) (x8 : Int32) (s0 : Int32) (s1 : Int32) (h : Hp) : Res := E_X7_loadOf 80 [.ref 227, .int x1, .int x2, .int x3, .int x4, .int x5, .int x6, .retAddr 0, .int x8, .retAddr 0] [.int s0, .int s1] h
set_option maxRecDepth 100000 in
set_option maxHeartbeats 4000000 in
theorem e_X7_loadOf_0 (x1 : Int32) (x2 : Int32) (x3 : Int32) (x4 : Int32) (x5 : Int32) (x6 : Int32) (h : Hp) : F_X7_loadOf [.ref 227, .int x1, .int x2, .int x3, .int x4, .int x5, .int x6] h = f_X7_loadOf_6 x1 x2 x3 x4 x5 x6 0 0 h :=
  (exL_it SKc SKn SKr CS (lkp T_X7_loadOf) [F_X7_isThere, F_X7_isIn] [] [] [6, 61, 65, 66, 80] 4 0 [.ref 227, .int x1, .int x2, .int x3, .int x4, .int x5, .int x6, .retAddr 0, .retAddr 0, .retAddr 0] [] h).trans rfl
set_option maxRecDepth 100000 in
set_option maxHeartbeats 4000000 in
theorem e_X7_loadOf_6 (x1 : Int32) (x2 : Int32) (x3 : Int32) (x4 : Int32) (x5 : Int32) (x6 : Int32) (x7 : Int32) (x8 : Int32) (h : Hp) : f_X7_loadOf_6 x1 x2 x3 x4 x5 x6 x7 x8 h = if x8 < (rd h 227 37) then bI (F_X7_isThere [.ref 227, .int x8, .int x1, .int x3, .int x4] h) (fun v2 h1 => if v2 = 0 then f_X7_loadOf_65 x1 x2 x3 x4 x5 x6 x7 x8 h1 else gd (inb x8 60) (bI (F_X7_isIn [.int (rd h1 265 x8.toNatClampNeg), .int x5, .int x6] h1) (fun v4 h3 => if v4 = 0 then f_X7_loadOf_65 x1 x2 x3 x4 x5 x6 x7 x8 h3 else if x2 = 2 then f_X7_loadOf_61 x1 x2 x3 x4 x5 x6 x7 x8 h3 else gd (inb x8 60) (if (rd h3 263 x8.toNatClampNeg) = x2 then f_X7_loadOf_61 x1 x2 x3 x4 x5 x6 x7 x8 h3 else f_X7_loadOf_65 x1 x2 x3 x4 x5 x6 x7 x8 h3)) (hnk []))) (hnk []) else rtn (some (.int x7)) h :=
  (exL_it SKc SKn SKr CS (lkp T_X7_loadOf) [F_X7_isThere, F_X7_isIn] [] [] [6, 61, 65, 66, 80] 28 6 [.ref 227, .int x1, .int x2, .int x3, .int x4, .int x5, .int x6, .int x7, .int x8, .retAddr 0] [] h).trans rfl
set_option maxRecDepth 100000 in
set_option maxHeartbeats 4000000 in
theorem e_X7_loadOf_61 (x1 : Int32) (x2 : Int32) (x3 : Int32) (x4 : Int32) (x5 : Int32) (x6 : Int32) (x7 : Int32) (x8 : Int32) (h : Hp) : f_X7_loadOf_61 x1 x2 x3 x4 x5 x6 x7 x8 h = f_X7_loadOf_66 x1 x2 x3 x4 x5 x6 x7 x8 1 h :=
  (exL_it SKc SKn SKr CS (lkp T_X7_loadOf) [F_X7_isThere, F_X7_isIn] [] [] [6, 61, 65, 66, 80] 2 61 [.ref 227, .int x1, .int x2, .int x3, .int x4, .int x5, .int x6, .int x7, .int x8, .retAddr 0] [] h).trans rfl
set_option maxRecDepth 100000 in
set_option maxHeartbeats 4000000 in
theorem e_X7_loadOf_65 (x1 : Int32) (x2 : Int32) (x3 : Int32) (x4 : Int32) (x5 : Int32) (x6 : Int32) (x7 : Int32) (x8 : Int32) (h : Hp) : f_X7_loadOf_65 x1 x2 x3 x4 x5 x6 x7 x8 h = f_X7_loadOf_66 x1 x2 x3 x4 x5 x6 x7 x8 0 h :=
  (exL_it SKc SKn SKr CS (lkp T_X7_loadOf) [F_X7_isThere, F_X7_isIn] [] [] [6, 61, 65, 66, 80] 1 65 [.ref 227, .int x1, .int x2, .int x3, .int x4, .int x5, .int x6, .int x7, .int x8, .retAddr 0] [] h).trans rfl
set_option maxRecDepth 100000 in
set_option maxHeartbeats 4000000 in
theorem e_X7_loadOf_66 (x1 : Int32) (x2 : Int32) (x3 : Int32) (x4 : Int32) (x5 : Int32) (x6 : Int32) (x7 : Int32) (x8 : Int32) (s0 : Int32) (h : Hp) : f_X7_loadOf_66 x1 x2 x3 x4 x5 x6 x7 x8 s0 h = if s0 = 0 then f_X7_loadOf_80 x1 x2 x3 x4 x5 x6 x8 0 x7 h else f_X7_loadOf_80 x1 x2 x3 x4 x5 x6 x8 1 x7 h :=
  (exL_it SKc SKn SKr CS (lkp T_X7_loadOf) [F_X7_isThere, F_X7_isIn] [] [] [6, 61, 65, 66, 80] 6 66 [.ref 227, .int x1, .int x2, .int x3, .int x4, .int x5, .int x6, .int x7, .int x8, .retAddr 0] [.int s0] h).trans rfl
set_option maxRecDepth 100000 in
set_option maxHeartbeats 4000000 in
theorem e_X7_loadOf_80 (x1 : Int32) (x2 : Int32) (x3 : Int32) (x4 : Int32) (x5 : Int32) (x6 : Int32) (x8 : Int32) (s0 : Int32) (s1 : Int32) (h : Hp) : f_X7_loadOf_80 x1 x2 x3 x4 x5 x6 x8 s0 s1 h = f_X7_loadOf_6 x1 x2 x3 x4 x5 x6 (s1 + s0) (x8 + 1) h :=
  (exL_it SKc SKn SKr CS (lkp T_X7_loadOf) [F_X7_isThere, F_X7_isIn] [] [] [6, 61, 65, 66, 80] 4 80 [.ref 227, .int x1, .int x2, .int x3, .int x4, .int x5, .int x6, .retAddr 0, .int x8, .retAddr 0] [.int s0, .int s1] h).trans rfl

def T_X7_noiseOf : List (Nat × Ent) := [(0, ([], .iconst 0, 1, 0, 0, 0, 0)),
  (1, ([], .istore_n 2, 1, 2, 0, 0, 0)),
  (2, ([], .iconst 0, 1, 0, 0, 0, 0)),
  (3, ([], .istore_n 3, 1, 3, 0, 0, 0)),
  (4, ([false, false, false, false, true], .iload_n 3, 1, 3, 0, 0, 0)),
  (5, ([], .aload_n 0, 1, 0, 0, 0, 0)),
  (6, ([], .getfield 167, 3, 37, 2, 0, 0)),
  (9, ([], .if_icmp .ge 81, 3, 90, 0, 0, 0)),
  (12, ([], .aload_n 0, 1, 0, 0, 0, 0)),
  (13, ([], .getfield 142, 3, 50, 3, 0, 0)),
  (16, ([], .iload_n 3, 1, 3, 0, 0, 0)),
  (17, ([], .baload, 1, 0, 0, 0, 0)),
  (18, ([], .ifCond .ne 29, 3, 47, 0, 0, 0)),
  (21, ([], .aload_n 0, 1, 0, 0, 0, 0)),
  (22, ([], .getfield 112, 3, 40, 3, 0, 0)),
  (25, ([], .iload_n 3, 1, 3, 0, 0, 0)),
  (26, ([], .iaload, 1, 0, 0, 0, 0)),
  (27, ([], .iload_n 1, 1, 1, 0, 0, 0)),
  (28, ([], .if_icmp .ne 19, 3, 47, 0, 0, 0)),
  (31, ([], .aload_n 0, 1, 0, 0, 0, 0)),
  (32, ([], .getfield 121, 3, 43, 3, 0, 0)),
  (35, ([], .iload_n 3, 1, 3, 0, 0, 0)),
  (36, ([], .iaload, 1, 0, 0, 0, 0)),
  (37, ([], .invokestatic 184, 3, 0, 5, 0, 0)),
  (40, ([], .ifCond .eq 7, 3, 47, 0, 0, 0)),
  (43, ([], .iconst 1, 1, 0, 0, 0, 1)),
  (44, ([], .goto 4, 3, 48, 0, 0, 0)),
  (47, ([false, false, false, false, true], .iconst 0, 1, 0, 0, 0, 0)),
  (48, ([false, false, false, false, true], .istore 4, 2, 4, 0, 0, 0)),
  (50, ([], .iload_n 2, 1, 2, 0, 0, 0)),
  (51, ([], .iload 4, 2, 4, 0, 0, 0)),
  (53, ([], .ifCond .eq 28, 3, 81, 0, 0, 0)),
  (56, ([], .aload_n 0, 1, 0, 0, 0, 0)),
  (57, ([], .getfield 130, 3, 46, 3, 0, 0)),
  (60, ([], .iload_n 3, 1, 3, 0, 0, 0)),
  (61, ([], .iaload, 1, 0, 0, 0, 0)),
  (62, ([], .aload_n 0, 1, 0, 0, 0, 0)),
  (63, ([], .getfield 127, 3, 45, 3, 0, 0)),
  (66, ([], .iload_n 3, 1, 3, 0, 0, 0)),
  (67, ([], .iaload, 1, 0, 0, 0, 0)),
  (68, ([], .aload_n 0, 1, 0, 0, 0, 0)),
  (69, ([], .getfield 124, 3, 44, 3, 0, 0)),
  (72, ([], .iload_n 3, 1, 3, 0, 0, 0)),
  (73, ([], .iaload, 1, 0, 0, 0, 0)),
  (74, ([], .isub, 1, 0, 0, 0, 0)),
  (75, ([], .iconst 1, 1, 0, 0, 0, 1)),
  (76, ([], .iadd, 1, 0, 0, 0, 0)),
  (77, ([], .imul, 1, 0, 0, 0, 0)),
  (78, ([], .goto 4, 3, 82, 0, 0, 0)),
  (81, ([], .iconst 0, 1, 0, 0, 0, 0)),
  (82, ([false, false, true, false, true], .iadd, 1, 0, 0, 0, 0)),
  (83, ([], .istore_n 2, 1, 2, 0, 0, 0)),
  (84, ([], .iinc 3 1, 3, 3, 0, 0, 1)),
  (87, ([], .goto (-83), 3, 4, 0, 0, 0)),
  (90, ([], .iload_n 2, 1, 2, 0, 0, 0)),
  (91, ([], .ireturn, 1, 0, 0, 0, 0))]
noncomputable def E_X7_noiseOf : Kt := exL SKc SKn SKr CS (lkp T_X7_noiseOf) [F_X7_isNight] [] []
noncomputable def F_X7_noiseOf : Fn := fun as h => E_X7_noiseOf 0 (pad 5 as) [] h
noncomputable def f_X7_noiseOf_4 (x1 : Int32) (x2 : Int32) (x3 : Int32) (h : Hp) : Res := E_X7_noiseOf 4 [.ref 227, .int x1, .int x2, .int x3, .retAddr 0] [] h
noncomputable def f_X7_noiseOf_47 (x1 : Int32) (x2 : Int32) (x3 : Int32) (h : Hp) : Res := E_X7_noiseOf 47 [.ref 227, .int x1, .int x2, .int x3, .retAddr 0] [] h
noncomputable def f_X7_noiseOf_48 (x1 : Int32) (x2 : Int32) (x3 : Int32) (s0 : Int32) (h : Hp) : Res := E_X7_noiseOf 48 [.ref 227, .int x1, .int x2, .int x3, .retAddr 0] [.int s0] h
noncomputable def f_X7_noiseOf_82 (x1 : Int32) (x3 : Int32) (s0 : Int32) (s1 : Int32) (h : Hp) : Res := E_X7_noiseOf 82 [.ref 227, .int x1, .retAddr 0, .int x3, .retAddr 0] [.int s0, .int s1] h
set_option maxRecDepth 100000 in
set_option maxHeartbeats 4000000 in
theorem e_X7_noiseOf_0 (x1 : Int32) (h : Hp) : F_X7_noiseOf [.ref 227, .int x1] h = f_X7_noiseOf_4 x1 0 0 h :=
  (exL_it SKc SKn SKr CS (lkp T_X7_noiseOf) [F_X7_isNight] [] [] [4, 47, 48, 82] 4 0 [.ref 227, .int x1, .retAddr 0, .retAddr 0, .retAddr 0] [] h).trans rfl
set_option maxRecDepth 100000 in
set_option maxHeartbeats 4000000 in
theorem e_X7_noiseOf_4 (x1 : Int32) (x2 : Int32) (x3 : Int32) (h : Hp) : f_X7_noiseOf_4 x1 x2 x3 h = if x3 < (rd h 227 37) then gd (inb x3 60) (if (rd h 272 x3.toNatClampNeg) = 0 then gd (inb x3 60) (if (rd h 262 x3.toNatClampNeg) = x1 then gd (inb x3 60) (bI (F_X7_isNight [.int (rd h 265 x3.toNatClampNeg)] h) (fun v2 h1 => if v2 = 0 then f_X7_noiseOf_47 x1 x2 x3 h1 else f_X7_noiseOf_48 x1 x2 x3 1 h1) (hnk [])) else f_X7_noiseOf_47 x1 x2 x3 h) else f_X7_noiseOf_47 x1 x2 x3 h) else rtn (some (.int x2)) h :=
  (exL_it SKc SKn SKr CS (lkp T_X7_noiseOf) [F_X7_isNight] [] [] [4, 47, 48, 82] 23 4 [.ref 227, .int x1, .int x2, .int x3, .retAddr 0] [] h).trans rfl
set_option maxRecDepth 100000 in
set_option maxHeartbeats 4000000 in
theorem e_X7_noiseOf_47 (x1 : Int32) (x2 : Int32) (x3 : Int32) (h : Hp) : f_X7_noiseOf_47 x1 x2 x3 h = f_X7_noiseOf_48 x1 x2 x3 0 h :=
  (exL_it SKc SKn SKr CS (lkp T_X7_noiseOf) [F_X7_isNight] [] [] [4, 47, 48, 82] 1 47 [.ref 227, .int x1, .int x2, .int x3, .retAddr 0] [] h).trans rfl
set_option maxRecDepth 100000 in
set_option maxHeartbeats 4000000 in
theorem e_X7_noiseOf_48 (x1 : Int32) (x2 : Int32) (x3 : Int32) (s0 : Int32) (h : Hp) : f_X7_noiseOf_48 x1 x2 x3 s0 h = if s0 = 0 then f_X7_noiseOf_82 x1 x3 0 x2 h else gd (inb x3 60) (gd (inb x3 60) (gd (inb x3 60) (f_X7_noiseOf_82 x1 x3 ((rd h 268 x3.toNatClampNeg) * (((rd h 267 x3.toNatClampNeg) - (rd h 266 x3.toNatClampNeg)) + 1)) x2 h))) :=
  (exL_it SKc SKn SKr CS (lkp T_X7_noiseOf) [F_X7_isNight] [] [] [4, 47, 48, 82] 21 48 [.ref 227, .int x1, .int x2, .int x3, .retAddr 0] [.int s0] h).trans rfl
set_option maxRecDepth 100000 in
set_option maxHeartbeats 4000000 in
theorem e_X7_noiseOf_82 (x1 : Int32) (x3 : Int32) (s0 : Int32) (s1 : Int32) (h : Hp) : f_X7_noiseOf_82 x1 x3 s0 s1 h = f_X7_noiseOf_4 x1 (s1 + s0) (x3 + 1) h :=
  (exL_it SKc SKn SKr CS (lkp T_X7_noiseOf) [F_X7_isNight] [] [] [4, 47, 48, 82] 4 82 [.ref 227, .int x1, .retAddr 0, .int x3, .retAddr 0] [.int s0, .int s1] h).trans rfl

def T_X7_breaks : List (Nat × Ent) := [(0, ([], .aload_n 0, 1, 0, 0, 0, 0)),
  (1, ([], .getfield 13, 3, 3, 3, 0, 0)),
  (4, ([], .iload_n 1, 1, 1, 0, 0, 0)),
  (5, ([], .iaload, 1, 0, 0, 0, 0)),
  (6, ([], .iconst 2, 1, 0, 0, 0, 2)),
  (7, ([], .if_icmp .eq 18, 3, 25, 0, 0, 0)),
  (10, ([], .aload_n 0, 1, 0, 0, 0, 0)),
  (11, ([], .getfield 13, 3, 3, 3, 0, 0)),
  (14, ([], .iload_n 1, 1, 1, 0, 0, 0)),
  (15, ([], .iaload, 1, 0, 0, 0, 0)),
  (16, ([], .aload_n 0, 1, 0, 0, 0, 0)),
  (17, ([], .getfield 67, 3, 23, 3, 0, 0)),
  (20, ([], .iload_n 2, 1, 2, 0, 0, 0)),
  (21, ([], .iaload, 1, 0, 0, 0, 0)),
  (22, ([], .if_icmp .ne 7, 3, 29, 0, 0, 0)),
  (25, ([false, false, false, false, true, true, true, true, true, true], .iconst 1, 1, 0, 0, 0, 1)),
  (26, ([], .goto 4, 3, 30, 0, 0, 0)),
  (29, ([], .iconst 0, 1, 0, 0, 0, 0)),
  (30, ([false, false, false, false, true, true, true, true, true, true], .istore 4, 2, 4, 0, 0, 0)),
  (32, ([], .iconst 0, 1, 0, 0, 0, 0)),
  (33, ([], .istore 5, 2, 5, 0, 0, 0)),
  (35, ([], .aload_n 0, 1, 0, 0, 0, 0)),
  (36, ([], .getfield 16, 3, 4, 3, 0, 0)),
  (39, ([], .iload_n 1, 1, 1, 0, 0, 0)),
  (40, ([], .iaload, 1, 0, 0, 0, 0)),
  (41, ([], .istore 6, 2, 6, 0, 0, 0)),
  (43, ([], .aload_n 0, 1, 0, 0, 0, 0)),
  (44, ([], .getfield 76, 3, 26, 3, 0, 0)),
  (47, ([], .iload_n 2, 1, 2, 0, 0, 0)),
  (48, ([], .iaload, 1, 0, 0, 0, 0)),
  (49, ([], .istore 7, 2, 7, 0, 0, 0)),
  (51, ([false, false, false, false, false, false, false, false, true, true], .iload 7, 2, 7, 0, 0, 0)),
  (53, ([], .aload_n 0, 1, 0, 0, 0, 0)),
  (54, ([], .getfield 79, 3, 27, 3, 0, 0)),
  (57, ([], .iload_n 2, 1, 2, 0, 0, 0)),
  (58, ([], .iaload, 1, 0, 0, 0, 0)),
  (59, ([], .if_icmp .gt 115, 3, 174, 0, 0, 0)),
  (62, ([], .iload 4, 2, 4, 0, 0, 0)),
  (64, ([], .ifCond .eq 110, 3, 174, 0, 0, 0)),
  (67, ([], .iload_n 3, 1, 3, 0, 0, 0)),
  (68, ([], .iload 6, 2, 6, 0, 0, 0)),
  (70, ([], .isub, 1, 0, 0, 0, 0)),
  (71, ([], .iconst 1, 1, 0, 0, 0, 1)),
  (72, ([], .iadd, 1, 0, 0, 0, 0)),
  (73, ([], .istore 8, 2, 8, 0, 0, 0)),
  (75, ([false, false, false, false, false, false, false, false, false, true], .iload 8, 2, 8, 0, 0, 0)),
  (77, ([], .iload_n 3, 1, 3, 0, 0, 0)),
  (78, ([], .if_icmp .gt 90, 3, 168, 0, 0, 0)),
  (81, ([], .iload 5, 2, 5, 0, 0, 0)),
  (83, ([], .ifCond .ne 85, 3, 168, 0, 0, 0)),
  (86, ([], .iload 8, 2, 8, 0, 0, 0)),
  (88, ([], .ifCond .lt 17, 3, 105, 0, 0, 0)),
  (91, ([], .iload 8, 2, 8, 0, 0, 0)),
  (93, ([], .iload 6, 2, 6, 0, 0, 0)),
  (95, ([], .iadd, 1, 0, 0, 0, 0)),
  (96, ([], .bipush 72, 2, 0, 0, 0, 72)),
  (98, ([], .if_icmp .gt 7, 3, 105, 0, 0, 0)),
  (101, ([], .iconst 1, 1, 0, 0, 0, 1)),
  (102, ([], .goto 4, 3, 106, 0, 0, 0)),
  (105, ([false, false, false, false, false, true, false, false, false, true], .iconst 0, 1, 0, 0, 0, 0)),
  (106, ([false, false, false, false, false, true, false, false, false, true], .istore 9, 2, 9, 0, 0, 0)),
  (108, ([], .iload 9, 2, 9, 0, 0, 0)),
  (110, ([], .ifCond .eq 49, 3, 159, 0, 0, 0)),
  (113, ([], .aload_n 0, 1, 0, 0, 0, 0)),
  (114, ([], .aload_n 0, 1, 0, 0, 0, 0)),
  (115, ([], .getfield 64, 3, 22, 3, 0, 0)),
  (118, ([], .iload_n 2, 1, 2, 0, 0, 0)),
  (119, ([], .iaload, 1, 0, 0, 0, 0)),
  (120, ([], .aload_n 0, 1, 0, 0, 0, 0)),
  (121, ([], .getfield 13, 3, 3, 3, 0, 0)),
  (124, ([], .iload_n 1, 1, 1, 0, 0, 0)),
  (125, ([], .iaload, 1, 0, 0, 0, 0)),
  (126, ([], .aload_n 0, 1, 0, 0, 0, 0)),
  (127, ([], .getfield 70, 3, 24, 3, 0, 0)),
  (130, ([], .iload_n 2, 1, 2, 0, 0, 0)),
  (131, ([], .iaload, 1, 0, 0, 0, 0)),
  (132, ([], .iload 7, 2, 7, 0, 0, 0)),
  (134, ([], .iload 8, 2, 8, 0, 0, 0)),
  (136, ([], .iload 8, 2, 8, 0, 0, 0)),
  (138, ([], .iload 6, 2, 6, 0, 0, 0)),
  (140, ([], .iadd, 1, 0, 0, 0, 0)),
  (141, ([], .iconst 1, 1, 0, 0, 0, 1)),
  (142, ([], .isub, 1, 0, 0, 0, 0)),
  (143, ([], .invokevirtual 187, 3, 0, 29, 0, 0)),
  (146, ([], .aload_n 0, 1, 0, 0, 0, 0)),
  (147, ([], .getfield 19, 3, 5, 3, 0, 0)),
  (150, ([], .iload_n 1, 1, 1, 0, 0, 0)),
  (151, ([], .iaload, 1, 0, 0, 0, 0)),
  (152, ([], .if_icmp .lt 7, 3, 159, 0, 0, 0)),
  (155, ([], .iconst 1, 1, 0, 0, 0, 1)),
  (156, ([], .goto 4, 3, 160, 0, 0, 0)),
  (159, ([false, false, false, false, false, true, false, false, false, true], .iconst 0, 1, 0, 0, 0, 0)),
  (160, ([false, false, false, false, false, true, false, false, false, true], .istore 5, 2, 5, 0, 0, 0)),
  (162, ([], .iinc 8 1, 3, 8, 0, 0, 1)),
  (165, ([], .goto (-90), 3, 75, 0, 0, 0)),
  (168, ([false, false, false, false, false, false, false, false, true, true], .iinc 7 1, 3, 7, 0, 0, 1)),
  (171, ([], .goto (-120), 3, 51, 0, 0, 0)),
  (174, ([], .iload 5, 2, 5, 0, 0, 0)),
  (176, ([], .ireturn, 1, 0, 0, 0, 0))]
noncomputable def E_X7_breaks : Kt := exL SKc SKn SKr CS (lkp T_X7_breaks) [F_X7_loadOf] [] []
noncomputable def F_X7_breaks : Fn := fun as h => E_X7_breaks 0 (pad 10 as) [] h
noncomputable def f_X7_breaks_25 (x1 : Int32) (x2 : Int32) (x3 : Int32) (h : Hp) : Res := E_X7_breaks 25 [.ref 227, .int x1, .int x2, .int x3, .retAddr 0, .retAddr 0, .retAddr 0, .retAddr 0, .retAddr 0, .retAddr 0] [] h
noncomputable def f_X7_breaks_30 (x1 : Int32) (x2 : Int32) (x3 : Int32) (s0 : Int32) (h : Hp) : Res := E_X7_breaks 30 [.ref 227, .int x1, .int x2, .int x3, .retAddr 0, .retAddr 0, .retAddr 0, .retAddr 0, .retAddr 0, .retAddr 0] [.int s0] h
noncomputable def f_X7_breaks_51 (x1 : Int32) (x2 : Int32) (x3 : Int32) (x4 : Int32) (x5 : Int32) (x6 : Int32) (x7 : Int32) (h : Hp) : Res := E_X7_breaks 51 [.ref 227, .int x1, .int x2, .int x3, .int x4, .int x5, .int x6, .int x7, .retAddr 0, .retAddr 0] [] h
noncomputable def f_X7_breaks_75 (x1 : Int32) (x2 : Int32) (x3 : Int32) (x4 : Int32) (x5 : Int32) (x6 : Int32) (x7 : Int32) (x8 : Int32) (h : Hp) : Res := E_X7_breaks 75 [.ref 227, .int x1, .int x2, .int x3, .int x4, .int x5, .int x6, .int x7, .int x8, .retAddr 0] [] h
noncomputable def f_X7_breaks_105 (x1 : Int32) (x2 : Int32) (x3 : Int32) (x4 : Int32) (x6 : Int32) (x7 : Int32) (x8 : Int32) (h : Hp) : Res := E_X7_breaks 105 [.ref 227, .int x1, .int x2, .int x3, .int x4, .retAddr 0, .int x6, .int x7, .int x8, .retAddr 0] [] h
noncomputable def f_X7_breaks_106 (x1 : Int32) (x2 : Int32) (x3 : Int32) (x4 : Int32) (x6 : Int32) (x7 : Int32) (x8 : Int32) (s0 : Int32) (h : Hp) : Res := E_X7_breaks 106 [.ref 227, .int x1, .int x2, .int x3, .int x4, .retAddr 0, .int x6, .int x7, .int x8, .retAddr 0] [.int s0] h
noncomputable def f_X7_breaks_159 (x1 : Int32) (x2 : Int32) (x3 : Int32) (x4 : Int32) (x6 : Int32) (x7 : Int32) (x8 : Int32) (h : Hp) : Res := E_X7_breaks 159 [.ref 227, .int x1, .int x2, .int x3, .int x4, .retAddr 0, .int x6, .int x7, .int x8, .retAddr 0] [] h
noncomputable def f_X7_breaks_160 (x1 : Int32) (x2 : Int32) (x3 : Int32) (x4 : Int32) (x6 : Int32) (x7 : Int32) (x8 : Int32) (s0 : Int32) (h : Hp) : Res := E_X7_breaks 160 [.ref 227, .int x1, .int x2, .int x3, .int x4, .retAddr 0, .int x6, .int x7, .int x8, .retAddr 0] [.int s0] h
noncomputable def f_X7_breaks_168 (x1 : Int32) (x2 : Int32) (x3 : Int32) (x4 : Int32) (x5 : Int32) (x6 : Int32) (x7 : Int32) (h : Hp) : Res := E_X7_breaks 168 [.ref 227, .int x1, .int x2, .int x3, .int x4, .int x5, .int x6, .int x7, .retAddr 0, .retAddr 0] [] h
set_option maxRecDepth 100000 in
set_option maxHeartbeats 4000000 in
theorem e_X7_breaks_0 (x1 : Int32) (x2 : Int32) (x3 : Int32) (h : Hp) : F_X7_breaks [.ref 227, .int x1, .int x2, .int x3] h = gd (inb x1 24) (if (rd h 229 x1.toNatClampNeg) = 2 then f_X7_breaks_25 x1 x2 x3 h else gd (inb x1 24) (gd (inb x2 60) (if (rd h 229 x1.toNatClampNeg) = (rd h 247 x2.toNatClampNeg) then f_X7_breaks_25 x1 x2 x3 h else f_X7_breaks_30 x1 x2 x3 0 h))) :=
  (exL_it SKc SKn SKr CS (lkp T_X7_breaks) [F_X7_loadOf] [] [] [25, 30, 51, 75, 105, 106, 159, 160, 168] 16 0 [.ref 227, .int x1, .int x2, .int x3, .retAddr 0, .retAddr 0, .retAddr 0, .retAddr 0, .retAddr 0, .retAddr 0] [] h).trans rfl
set_option maxRecDepth 100000 in
set_option maxHeartbeats 4000000 in
theorem e_X7_breaks_25 (x1 : Int32) (x2 : Int32) (x3 : Int32) (h : Hp) : f_X7_breaks_25 x1 x2 x3 h = f_X7_breaks_30 x1 x2 x3 1 h :=
  (exL_it SKc SKn SKr CS (lkp T_X7_breaks) [F_X7_loadOf] [] [] [25, 30, 51, 75, 105, 106, 159, 160, 168] 2 25 [.ref 227, .int x1, .int x2, .int x3, .retAddr 0, .retAddr 0, .retAddr 0, .retAddr 0, .retAddr 0, .retAddr 0] [] h).trans rfl
set_option maxRecDepth 100000 in
set_option maxHeartbeats 4000000 in
theorem e_X7_breaks_30 (x1 : Int32) (x2 : Int32) (x3 : Int32) (s0 : Int32) (h : Hp) : f_X7_breaks_30 x1 x2 x3 s0 h = gd (inb x1 24) (gd (inb x2 60) (f_X7_breaks_51 x1 x2 x3 s0 0 (rd h 230 x1.toNatClampNeg) (rd h 250 x2.toNatClampNeg) h)) :=
  (exL_it SKc SKn SKr CS (lkp T_X7_breaks) [F_X7_loadOf] [] [] [25, 30, 51, 75, 105, 106, 159, 160, 168] 13 30 [.ref 227, .int x1, .int x2, .int x3, .retAddr 0, .retAddr 0, .retAddr 0, .retAddr 0, .retAddr 0, .retAddr 0] [.int s0] h).trans rfl
set_option maxRecDepth 100000 in
set_option maxHeartbeats 4000000 in
theorem e_X7_breaks_51 (x1 : Int32) (x2 : Int32) (x3 : Int32) (x4 : Int32) (x5 : Int32) (x6 : Int32) (x7 : Int32) (h : Hp) : f_X7_breaks_51 x1 x2 x3 x4 x5 x6 x7 h = gd (inb x2 60) (if (rd h 251 x2.toNatClampNeg) < x7 then rtn (some (.int x5)) h else if x4 = 0 then rtn (some (.int x5)) h else f_X7_breaks_75 x1 x2 x3 x4 x5 x6 x7 ((x3 - x6) + 1) h) :=
  (exL_it SKc SKn SKr CS (lkp T_X7_breaks) [F_X7_loadOf] [] [] [25, 30, 51, 75, 105, 106, 159, 160, 168] 14 51 [.ref 227, .int x1, .int x2, .int x3, .int x4, .int x5, .int x6, .int x7, .retAddr 0, .retAddr 0] [] h).trans rfl
set_option maxRecDepth 100000 in
set_option maxHeartbeats 4000000 in
theorem e_X7_breaks_75 (x1 : Int32) (x2 : Int32) (x3 : Int32) (x4 : Int32) (x5 : Int32) (x6 : Int32) (x7 : Int32) (x8 : Int32) (h : Hp) : f_X7_breaks_75 x1 x2 x3 x4 x5 x6 x7 x8 h = if x3 < x8 then f_X7_breaks_168 x1 x2 x3 x4 x5 x6 x7 h else if x5 = 0 then if x8 < 0 then f_X7_breaks_105 x1 x2 x3 x4 x6 x7 x8 h else if 72 < (x8 + x6) then f_X7_breaks_105 x1 x2 x3 x4 x6 x7 x8 h else f_X7_breaks_106 x1 x2 x3 x4 x6 x7 x8 1 h else f_X7_breaks_168 x1 x2 x3 x4 x5 x6 x7 h :=
  (exL_it SKc SKn SKr CS (lkp T_X7_breaks) [F_X7_loadOf] [] [] [25, 30, 51, 75, 105, 106, 159, 160, 168] 14 75 [.ref 227, .int x1, .int x2, .int x3, .int x4, .int x5, .int x6, .int x7, .int x8, .retAddr 0] [] h).trans rfl
set_option maxRecDepth 100000 in
set_option maxHeartbeats 4000000 in
theorem e_X7_breaks_105 (x1 : Int32) (x2 : Int32) (x3 : Int32) (x4 : Int32) (x6 : Int32) (x7 : Int32) (x8 : Int32) (h : Hp) : f_X7_breaks_105 x1 x2 x3 x4 x6 x7 x8 h = f_X7_breaks_106 x1 x2 x3 x4 x6 x7 x8 0 h :=
  (exL_it SKc SKn SKr CS (lkp T_X7_breaks) [F_X7_loadOf] [] [] [25, 30, 51, 75, 105, 106, 159, 160, 168] 1 105 [.ref 227, .int x1, .int x2, .int x3, .int x4, .retAddr 0, .int x6, .int x7, .int x8, .retAddr 0] [] h).trans rfl
set_option maxRecDepth 100000 in
set_option maxHeartbeats 4000000 in
theorem e_X7_breaks_106 (x1 : Int32) (x2 : Int32) (x3 : Int32) (x4 : Int32) (x6 : Int32) (x7 : Int32) (x8 : Int32) (s0 : Int32) (h : Hp) : f_X7_breaks_106 x1 x2 x3 x4 x6 x7 x8 s0 h = if s0 = 0 then f_X7_breaks_159 x1 x2 x3 x4 x6 x7 x8 h else gd (inb x2 60) (gd (inb x1 24) (gd (inb x2 60) (bI (F_X7_loadOf [.ref 227, .int (rd h 246 x2.toNatClampNeg), .int (rd h 229 x1.toNatClampNeg), .int (rd h 248 x2.toNatClampNeg), .int x7, .int x8, .int ((x8 + x6) - 1)] h) (fun v2 h1 => gd (inb x1 24) (if v2 < (rd h1 231 x1.toNatClampNeg) then f_X7_breaks_159 x1 x2 x3 x4 x6 x7 x8 h1 else f_X7_breaks_160 x1 x2 x3 x4 x6 x7 x8 1 h1)) (hnk [])))) :=
  (exL_it SKc SKn SKr CS (lkp T_X7_breaks) [F_X7_loadOf] [] [] [25, 30, 51, 75, 105, 106, 159, 160, 168] 31 106 [.ref 227, .int x1, .int x2, .int x3, .int x4, .retAddr 0, .int x6, .int x7, .int x8, .retAddr 0] [.int s0] h).trans rfl
set_option maxRecDepth 100000 in
set_option maxHeartbeats 4000000 in
theorem e_X7_breaks_159 (x1 : Int32) (x2 : Int32) (x3 : Int32) (x4 : Int32) (x6 : Int32) (x7 : Int32) (x8 : Int32) (h : Hp) : f_X7_breaks_159 x1 x2 x3 x4 x6 x7 x8 h = f_X7_breaks_160 x1 x2 x3 x4 x6 x7 x8 0 h :=
  (exL_it SKc SKn SKr CS (lkp T_X7_breaks) [F_X7_loadOf] [] [] [25, 30, 51, 75, 105, 106, 159, 160, 168] 1 159 [.ref 227, .int x1, .int x2, .int x3, .int x4, .retAddr 0, .int x6, .int x7, .int x8, .retAddr 0] [] h).trans rfl
set_option maxRecDepth 100000 in
set_option maxHeartbeats 4000000 in
theorem e_X7_breaks_160 (x1 : Int32) (x2 : Int32) (x3 : Int32) (x4 : Int32) (x6 : Int32) (x7 : Int32) (x8 : Int32) (s0 : Int32) (h : Hp) : f_X7_breaks_160 x1 x2 x3 x4 x6 x7 x8 s0 h = f_X7_breaks_75 x1 x2 x3 x4 s0 x6 x7 (x8 + 1) h :=
  (exL_it SKc SKn SKr CS (lkp T_X7_breaks) [F_X7_loadOf] [] [] [25, 30, 51, 75, 105, 106, 159, 160, 168] 3 160 [.ref 227, .int x1, .int x2, .int x3, .int x4, .retAddr 0, .int x6, .int x7, .int x8, .retAddr 0] [.int s0] h).trans rfl
set_option maxRecDepth 100000 in
set_option maxHeartbeats 4000000 in
theorem e_X7_breaks_168 (x1 : Int32) (x2 : Int32) (x3 : Int32) (x4 : Int32) (x5 : Int32) (x6 : Int32) (x7 : Int32) (h : Hp) : f_X7_breaks_168 x1 x2 x3 x4 x5 x6 x7 h = f_X7_breaks_51 x1 x2 x3 x4 x5 x6 (x7 + 1) h :=
  (exL_it SKc SKn SKr CS (lkp T_X7_breaks) [F_X7_loadOf] [] [] [25, 30, 51, 75, 105, 106, 159, 160, 168] 2 168 [.ref 227, .int x1, .int x2, .int x3, .int x4, .int x5, .int x6, .int x7, .retAddr 0, .retAddr 0] [] h).trans rfl

def T_X7_weeks : List (Nat × Ent) := [(0, ([], .aload_n 0, 1, 0, 0, 0, 0)),
  (1, ([], .getfield 79, 3, 27, 3, 0, 0)),
  (4, ([], .iload_n 1, 1, 1, 0, 0, 0)),
  (5, ([], .iaload, 1, 0, 0, 0, 0)),
  (6, ([], .aload_n 0, 1, 0, 0, 0, 0)),
  (7, ([], .getfield 76, 3, 26, 3, 0, 0)),
  (10, ([], .iload_n 1, 1, 1, 0, 0, 0)),
  (11, ([], .iaload, 1, 0, 0, 0, 0)),
  (12, ([], .isub, 1, 0, 0, 0, 0)),
  (13, ([], .iconst 1, 1, 0, 0, 0, 1)),
  (14, ([], .iadd, 1, 0, 0, 0, 0)),
  (15, ([], .ireturn, 1, 0, 0, 0, 0))]
noncomputable def E_X7_weeks : Kt := exL SKc SKn SKr CS (lkp T_X7_weeks) [] [] []
noncomputable def F_X7_weeks : Fn := fun as h => E_X7_weeks 0 (pad 2 as) [] h
set_option maxRecDepth 100000 in
set_option maxHeartbeats 4000000 in
theorem e_X7_weeks_0 (x1 : Int32) (h : Hp) : F_X7_weeks [.ref 227, .int x1] h = gd (inb x1 60) (gd (inb x1 60) (rtn (some (.int (((rd h 251 x1.toNatClampNeg) - (rd h 250 x1.toNatClampNeg)) + 1))) h)) :=
  (exL_it SKc SKn SKr CS (lkp T_X7_weeks) [] [] [] [] 12 0 [.ref 227, .int x1] [] h).trans rfl

def T_X7_reason : List (Nat × Ent) := [(0, ([], .aload_n 0, 1, 0, 0, 0, 0)),
  (1, ([], .getfield 64, 3, 22, 3, 0, 0)),
  (4, ([], .iload_n 1, 1, 1, 0, 0, 0)),
  (5, ([], .iaload, 1, 0, 0, 0, 0)),
  (6, ([], .istore_n 3, 1, 3, 0, 0, 0)),
  (7, ([], .iload_n 2, 1, 2, 0, 0, 0)),
  (8, ([], .aload_n 0, 1, 0, 0, 0, 0)),
  (9, ([], .getfield 22, 3, 6, 3, 0, 0)),
  (12, ([], .iload_n 3, 1, 3, 0, 0, 0)),
  (13, ([], .iaload, 1, 0, 0, 0, 0)),
  (14, ([], .if_icmp .lt 15, 3, 29, 0, 0, 0)),
  (17, ([], .iload_n 2, 1, 2, 0, 0, 0)),
  (18, ([], .aload_n 0, 1, 0, 0, 0, 0)),
  (19, ([], .getfield 25, 3, 7, 3, 0, 0)),
  (22, ([], .iload_n 3, 1, 3, 0, 0, 0)),
  (23, ([], .iaload, 1, 0, 0, 0, 0)),
  (24, ([], .if_icmp .ge 5, 3, 29, 0, 0, 0)),
  (27, ([], .iconst 1, 1, 0, 0, 0, 1)),
  (28, ([], .ireturn, 1, 0, 0, 0, 0)),
  (29, ([false, false, false, false, true], .iload_n 2, 1, 2, 0, 0, 0)),
  (30, ([], .invokestatic 184, 3, 0, 5, 0, 0)),
  (33, ([], .ifCond .eq 32, 3, 65, 0, 0, 0)),
  (36, ([], .aload_n 0, 1, 0, 0, 0, 0)),
  (37, ([], .iload_n 3, 1, 3, 0, 0, 0)),
  (38, ([], .invokevirtual 191, 3, 1, 9, 0, 0)),
  (41, ([], .aload_n 0, 1, 0, 0, 0, 0)),
  (42, ([], .getfield 82, 3, 28, 3, 0, 0)),
  (45, ([], .iload_n 1, 1, 1, 0, 0, 0)),
  (46, ([], .iaload, 1, 0, 0, 0, 0)),
  (47, ([], .aload_n 0, 1, 0, 0, 0, 0)),
  (48, ([], .iload_n 1, 1, 1, 0, 0, 0)),
  (49, ([], .invokevirtual 195, 3, 2, 9, 0, 0)),
  (52, ([], .imul, 1, 0, 0, 0, 0)),
  (53, ([], .iadd, 1, 0, 0, 0, 0)),
  (54, ([], .aload_n 0, 1, 0, 0, 0, 0)),
  (55, ([], .getfield 28, 3, 8, 3, 0, 0)),
  (58, ([], .iload_n 3, 1, 3, 0, 0, 0)),
  (59, ([], .iaload, 1, 0, 0, 0, 0)),
  (60, ([], .if_icmp .le 5, 3, 65, 0, 0, 0)),
  (63, ([], .iconst 2, 1, 0, 0, 0, 2)),
  (64, ([], .ireturn, 1, 0, 0, 0, 0)),
  (65, ([false, false, false, false, true], .iconst 0, 1, 0, 0, 0, 0)),
  (66, ([], .istore 4, 2, 4, 0, 0, 0)),
  (68, ([false, false, false, false, false], .iload 4, 2, 4, 0, 0, 0)),
  (70, ([], .aload_n 0, 1, 0, 0, 0, 0)),
  (71, ([], .getfield 7, 3, 2, 3, 0, 0)),
  (74, ([], .iload_n 3, 1, 3, 0, 0, 0)),
  (75, ([], .iaload, 1, 0, 0, 0, 0)),
  (76, ([], .if_icmp .ge 31, 3, 107, 0, 0, 0)),
  (79, ([], .aload_n 0, 1, 0, 0, 0, 0)),
  (80, ([], .bipush 6, 2, 0, 0, 0, 6)),
  (82, ([], .iload_n 3, 1, 3, 0, 0, 0)),
  (83, ([], .imul, 1, 0, 0, 0, 0)),
  (84, ([], .iload 4, 2, 4, 0, 0, 0)),
  (86, ([], .iadd, 1, 0, 0, 0, 0)),
  (87, ([], .iload_n 1, 1, 1, 0, 0, 0)),
  (88, ([], .iload_n 2, 1, 2, 0, 0, 0)),
  (89, ([], .invokevirtual 198, 3, 3, 17, 0, 0)),
  (92, ([], .ifCond .eq 9, 3, 101, 0, 0, 0)),
  (95, ([], .bipush 10, 2, 0, 0, 0, 10)),
  (97, ([], .iload 4, 2, 4, 0, 0, 0)),
  (99, ([], .iadd, 1, 0, 0, 0, 0)),
  (100, ([], .ireturn, 1, 0, 0, 0, 0)),
  (101, ([], .iinc 4 1, 3, 4, 0, 0, 1)),
  (104, ([], .goto (-36), 3, 68, 0, 0, 0)),
  (107, ([], .iconst 0, 1, 0, 0, 0, 0)),
  (108, ([], .ireturn, 1, 0, 0, 0, 0))]
noncomputable def E_X7_reason : Kt := exL SKc SKn SKr CS (lkp T_X7_reason) [F_X7_isNight, F_X7_noiseOf, F_X7_weeks, F_X7_breaks] [] []
noncomputable def F_X7_reason : Fn := fun as h => E_X7_reason 0 (pad 5 as) [] h
noncomputable def f_X7_reason_29 (x1 : Int32) (x2 : Int32) (x3 : Int32) (h : Hp) : Res := E_X7_reason 29 [.ref 227, .int x1, .int x2, .int x3, .retAddr 0] [] h
noncomputable def f_X7_reason_65 (x1 : Int32) (x2 : Int32) (x3 : Int32) (h : Hp) : Res := E_X7_reason 65 [.ref 227, .int x1, .int x2, .int x3, .retAddr 0] [] h
noncomputable def f_X7_reason_68 (x1 : Int32) (x2 : Int32) (x3 : Int32) (x4 : Int32) (h : Hp) : Res := E_X7_reason 68 [.ref 227, .int x1, .int x2, .int x3, .int x4] [] h
set_option maxRecDepth 100000 in
set_option maxHeartbeats 4000000 in
theorem e_X7_reason_0 (x1 : Int32) (x2 : Int32) (h : Hp) : F_X7_reason [.ref 227, .int x1, .int x2] h = gd (inb x1 60) (gd (inb (rd h 246 x1.toNatClampNeg) 4) (if x2 < (rd h 232 ((rd h 246 x1.toNatClampNeg).toNatClampNeg)) then f_X7_reason_29 x1 x2 (rd h 246 x1.toNatClampNeg) h else gd (inb (rd h 246 x1.toNatClampNeg) 4) (if x2 < (rd h 233 ((rd h 246 x1.toNatClampNeg).toNatClampNeg)) then rtn (some (.int 1)) h else f_X7_reason_29 x1 x2 (rd h 246 x1.toNatClampNeg) h))) :=
  (exL_it SKc SKn SKr CS (lkp T_X7_reason) [F_X7_isNight, F_X7_noiseOf, F_X7_weeks, F_X7_breaks] [] [] [29, 65, 68] 19 0 [.ref 227, .int x1, .int x2, .retAddr 0, .retAddr 0] [] h).trans rfl
set_option maxRecDepth 100000 in
set_option maxHeartbeats 4000000 in
theorem e_X7_reason_29 (x1 : Int32) (x2 : Int32) (x3 : Int32) (h : Hp) : f_X7_reason_29 x1 x2 x3 h = bI (F_X7_isNight [.int x2] h) (fun v2 h1 => if v2 = 0 then f_X7_reason_65 x1 x2 x3 h1 else bI (F_X7_noiseOf [.ref 227, .int x3] h1) (fun v4 h3 => gd (inb x1 60) (bI (F_X7_weeks [.ref 227, .int x1] h3) (fun v6 h5 => gd (inb x3 4) (if (rd h5 234 x3.toNatClampNeg) < (v4 + ((rd h3 252 x1.toNatClampNeg) * v6)) then rtn (some (.int 2)) h5 else f_X7_reason_65 x1 x2 x3 h5)) (hnk []))) (hnk [])) (hnk []) :=
  (exL_it SKc SKn SKr CS (lkp T_X7_reason) [F_X7_isNight, F_X7_noiseOf, F_X7_weeks, F_X7_breaks] [] [] [29, 65, 68] 22 29 [.ref 227, .int x1, .int x2, .int x3, .retAddr 0] [] h).trans rfl
set_option maxRecDepth 100000 in
set_option maxHeartbeats 4000000 in
theorem e_X7_reason_65 (x1 : Int32) (x2 : Int32) (x3 : Int32) (h : Hp) : f_X7_reason_65 x1 x2 x3 h = f_X7_reason_68 x1 x2 x3 0 h :=
  (exL_it SKc SKn SKr CS (lkp T_X7_reason) [F_X7_isNight, F_X7_noiseOf, F_X7_weeks, F_X7_breaks] [] [] [29, 65, 68] 2 65 [.ref 227, .int x1, .int x2, .int x3, .retAddr 0] [] h).trans rfl
set_option maxRecDepth 100000 in
set_option maxHeartbeats 4000000 in
theorem e_X7_reason_68 (x1 : Int32) (x2 : Int32) (x3 : Int32) (x4 : Int32) (h : Hp) : f_X7_reason_68 x1 x2 x3 x4 h = gd (inb x3 4) (if x4 < (rd h 228 x3.toNatClampNeg) then bI (F_X7_breaks [.ref 227, .int ((6 * x3) + x4), .int x1, .int x2] h) (fun v2 h1 => if v2 = 0 then f_X7_reason_68 x1 x2 x3 (x4 + 1) h1 else rtn (some (.int (10 + x4))) h1) (hnk []) else rtn (some (.int 0)) h) :=
  (exL_it SKc SKn SKr CS (lkp T_X7_reason) [F_X7_isNight, F_X7_noiseOf, F_X7_weeks, F_X7_breaks] [] [] [29, 65, 68] 20 68 [.ref 227, .int x1, .int x2, .int x3, .int x4] [] h).trans rfl

def T_X7_isNewAt : List (Nat × Ent) := [(0, ([], .iconst 0, 1, 0, 0, 0, 0)),
  (1, ([], .istore_n 3, 1, 3, 0, 0, 0)),
  (2, ([], .iconst 0, 1, 0, 0, 0, 0)),
  (3, ([], .istore 4, 2, 4, 0, 0, 0)),
  (5, ([false, false, false, false, false], .iload 4, 2, 4, 0, 0, 0)),
  (7, ([], .aload_n 0, 1, 0, 0, 0, 0)),
  (8, ([], .getfield 201, 3, 10, 2, 0, 0)),
  (11, ([], .if_icmp .ge 49, 3, 60, 0, 0, 0)),
  (14, ([], .iload_n 3, 1, 3, 0, 0, 0)),
  (15, ([], .aload_n 0, 1, 0, 0, 0, 0)),
  (16, ([], .getfield 37, 3, 12, 3, 0, 0)),
  (19, ([], .iload 4, 2, 4, 0, 0, 0)),
  (21, ([], .iaload, 1, 0, 0, 0, 0)),
  (22, ([], .iload_n 2, 1, 2, 0, 0, 0)),
  (23, ([], .if_icmp .ne 28, 3, 51, 0, 0, 0)),
  (26, ([], .aload_n 0, 1, 0, 0, 0, 0)),
  (27, ([], .getfield 31, 3, 9, 3, 0, 0)),
  (30, ([], .aload_n 0, 1, 0, 0, 0, 0)),
  (31, ([], .getfield 34, 3, 11, 3, 0, 0)),
  (34, ([], .iload 4, 2, 4, 0, 0, 0)),
  (36, ([], .iaload, 1, 0, 0, 0, 0)),
  (37, ([], .iaload, 1, 0, 0, 0, 0)),
  (38, ([], .aload_n 0, 1, 0, 0, 0, 0)),
  (39, ([], .getfield 31, 3, 9, 3, 0, 0)),
  (42, ([], .iload_n 1, 1, 1, 0, 0, 0)),
  (43, ([], .iaload, 1, 0, 0, 0, 0)),
  (44, ([], .if_icmp .ne 7, 3, 51, 0, 0, 0)),
  (47, ([], .iconst 1, 1, 0, 0, 0, 1)),
  (48, ([], .goto 4, 3, 52, 0, 0, 0)),
  (51, ([false, false, false, true, false], .iconst 0, 1, 0, 0, 0, 0)),
  (52, ([false, false, false, true, false], .iadd, 1, 0, 0, 0, 0)),
  (53, ([], .istore_n 3, 1, 3, 0, 0, 0)),
  (54, ([], .iinc 4 1, 3, 4, 0, 0, 1)),
  (57, ([], .goto (-52), 3, 5, 0, 0, 0)),
  (60, ([], .iconst 0, 1, 0, 0, 0, 0)),
  (61, ([], .istore 4, 2, 4, 0, 0, 0)),
  (63, ([false, false, false, false, false], .iload 4, 2, 4, 0, 0, 0)),
  (65, ([], .aload_n 0, 1, 0, 0, 0, 0)),
  (66, ([], .getfield 167, 3, 37, 2, 0, 0)),
  (69, ([], .if_icmp .ge 59, 3, 128, 0, 0, 0)),
  (72, ([], .iload_n 3, 1, 3, 0, 0, 0)),
  (73, ([], .aload_n 0, 1, 0, 0, 0, 0)),
  (74, ([], .getfield 142, 3, 50, 3, 0, 0)),
  (77, ([], .iload 4, 2, 4, 0, 0, 0)),
  (79, ([], .baload, 1, 0, 0, 0, 0)),
  (80, ([], .ifCond .ne 39, 3, 119, 0, 0, 0)),
  (83, ([], .aload_n 0, 1, 0, 0, 0, 0)),
  (84, ([], .getfield 112, 3, 40, 3, 0, 0)),
  (87, ([], .iload 4, 2, 4, 0, 0, 0)),
  (89, ([], .iaload, 1, 0, 0, 0, 0)),
  (90, ([], .iload_n 2, 1, 2, 0, 0, 0)),
  (91, ([], .if_icmp .ne 28, 3, 119, 0, 0, 0)),
  (94, ([], .aload_n 0, 1, 0, 0, 0, 0)),
  (95, ([], .getfield 31, 3, 9, 3, 0, 0)),
  (98, ([], .aload_n 0, 1, 0, 0, 0, 0)),
  (99, ([], .getfield 106, 3, 38, 3, 0, 0)),
  (102, ([], .iload 4, 2, 4, 0, 0, 0)),
  (104, ([], .iaload, 1, 0, 0, 0, 0)),
  (105, ([], .iaload, 1, 0, 0, 0, 0)),
  (106, ([], .aload_n 0, 1, 0, 0, 0, 0)),
  (107, ([], .getfield 31, 3, 9, 3, 0, 0)),
  (110, ([], .iload_n 1, 1, 1, 0, 0, 0)),
  (111, ([], .iaload, 1, 0, 0, 0, 0)),
  (112, ([], .if_icmp .ne 7, 3, 119, 0, 0, 0)),
  (115, ([], .iconst 1, 1, 0, 0, 0, 1)),
  (116, ([], .goto 4, 3, 120, 0, 0, 0)),
  (119, ([false, false, false, true, false], .iconst 0, 1, 0, 0, 0, 0)),
  (120, ([false, false, false, true, false], .iadd, 1, 0, 0, 0, 0)),
  (121, ([], .istore_n 3, 1, 3, 0, 0, 0)),
  (122, ([], .iinc 4 1, 3, 4, 0, 0, 1)),
  (125, ([], .goto (-62), 3, 63, 0, 0, 0)),
  (128, ([], .iload_n 3, 1, 3, 0, 0, 0)),
  (129, ([], .iconst 3, 1, 0, 0, 0, 3)),
  (130, ([], .if_icmp .ge 7, 3, 137, 0, 0, 0)),
  (133, ([], .iconst 1, 1, 0, 0, 0, 1)),
  (134, ([], .goto 4, 3, 138, 0, 0, 0)),
  (137, ([], .iconst 0, 1, 0, 0, 0, 0)),
  (138, ([], .ireturn, 1, 0, 0, 0, 0))]
noncomputable def E_X7_isNewAt : Kt := exL SKc SKn SKr CS (lkp T_X7_isNewAt) [] [] []
noncomputable def F_X7_isNewAt : Fn := fun as h => E_X7_isNewAt 0 (pad 5 as) [] h
noncomputable def f_X7_isNewAt_5 (x1 : Int32) (x2 : Int32) (x3 : Int32) (x4 : Int32) (h : Hp) : Res := E_X7_isNewAt 5 [.ref 227, .int x1, .int x2, .int x3, .int x4] [] h
noncomputable def f_X7_isNewAt_51 (x1 : Int32) (x2 : Int32) (x4 : Int32) (s0 : Int32) (h : Hp) : Res := E_X7_isNewAt 51 [.ref 227, .int x1, .int x2, .retAddr 0, .int x4] [.int s0] h
noncomputable def f_X7_isNewAt_52 (x1 : Int32) (x2 : Int32) (x4 : Int32) (s0 : Int32) (s1 : Int32) (h : Hp) : Res := E_X7_isNewAt 52 [.ref 227, .int x1, .int x2, .retAddr 0, .int x4] [.int s0, .int s1] h
noncomputable def f_X7_isNewAt_63 (x1 : Int32) (x2 : Int32) (x3 : Int32) (x4 : Int32) (h : Hp) : Res := E_X7_isNewAt 63 [.ref 227, .int x1, .int x2, .int x3, .int x4] [] h
noncomputable def f_X7_isNewAt_119 (x1 : Int32) (x2 : Int32) (x4 : Int32) (s0 : Int32) (h : Hp) : Res := E_X7_isNewAt 119 [.ref 227, .int x1, .int x2, .retAddr 0, .int x4] [.int s0] h
noncomputable def f_X7_isNewAt_120 (x1 : Int32) (x2 : Int32) (x4 : Int32) (s0 : Int32) (s1 : Int32) (h : Hp) : Res := E_X7_isNewAt 120 [.ref 227, .int x1, .int x2, .retAddr 0, .int x4] [.int s0, .int s1] h
set_option maxRecDepth 100000 in
set_option maxHeartbeats 4000000 in
theorem e_X7_isNewAt_0 (x1 : Int32) (x2 : Int32) (h : Hp) : F_X7_isNewAt [.ref 227, .int x1, .int x2] h = f_X7_isNewAt_5 x1 x2 0 0 h :=
  (exL_it SKc SKn SKr CS (lkp T_X7_isNewAt) [] [] [] [5, 51, 52, 63, 119, 120] 4 0 [.ref 227, .int x1, .int x2, .retAddr 0, .retAddr 0] [] h).trans rfl
set_option maxRecDepth 100000 in
set_option maxHeartbeats 4000000 in
theorem e_X7_isNewAt_5 (x1 : Int32) (x2 : Int32) (x3 : Int32) (x4 : Int32) (h : Hp) : f_X7_isNewAt_5 x1 x2 x3 x4 h = if x4 < (rd h 227 10) then gd (inb x4 60) (if (rd h 237 x4.toNatClampNeg) = x2 then gd (inb x4 60) (gd (inb (rd h 236 x4.toNatClampNeg) 10) (gd (inb x1 10) (if (rd h 235 ((rd h 236 x4.toNatClampNeg).toNatClampNeg)) = (rd h 235 x1.toNatClampNeg) then f_X7_isNewAt_52 x1 x2 x4 1 x3 h else f_X7_isNewAt_51 x1 x2 x4 x3 h))) else f_X7_isNewAt_51 x1 x2 x4 x3 h) else f_X7_isNewAt_63 x1 x2 x3 0 h :=
  (exL_it SKc SKn SKr CS (lkp T_X7_isNewAt) [] [] [] [5, 51, 52, 63, 119, 120] 25 5 [.ref 227, .int x1, .int x2, .int x3, .int x4] [] h).trans rfl
set_option maxRecDepth 100000 in
set_option maxHeartbeats 4000000 in
theorem e_X7_isNewAt_51 (x1 : Int32) (x2 : Int32) (x4 : Int32) (s0 : Int32) (h : Hp) : f_X7_isNewAt_51 x1 x2 x4 s0 h = f_X7_isNewAt_52 x1 x2 x4 0 s0 h :=
  (exL_it SKc SKn SKr CS (lkp T_X7_isNewAt) [] [] [] [5, 51, 52, 63, 119, 120] 1 51 [.ref 227, .int x1, .int x2, .retAddr 0, .int x4] [.int s0] h).trans rfl
set_option maxRecDepth 100000 in
set_option maxHeartbeats 4000000 in
theorem e_X7_isNewAt_52 (x1 : Int32) (x2 : Int32) (x4 : Int32) (s0 : Int32) (s1 : Int32) (h : Hp) : f_X7_isNewAt_52 x1 x2 x4 s0 s1 h = f_X7_isNewAt_5 x1 x2 (s1 + s0) (x4 + 1) h :=
  (exL_it SKc SKn SKr CS (lkp T_X7_isNewAt) [] [] [] [5, 51, 52, 63, 119, 120] 4 52 [.ref 227, .int x1, .int x2, .retAddr 0, .int x4] [.int s0, .int s1] h).trans rfl
set_option maxRecDepth 100000 in
set_option maxHeartbeats 4000000 in
theorem e_X7_isNewAt_63 (x1 : Int32) (x2 : Int32) (x3 : Int32) (x4 : Int32) (h : Hp) : f_X7_isNewAt_63 x1 x2 x3 x4 h = if x4 < (rd h 227 37) then gd (inb x4 60) (if (rd h 272 x4.toNatClampNeg) = 0 then gd (inb x4 60) (if (rd h 262 x4.toNatClampNeg) = x2 then gd (inb x4 60) (gd (inb (rd h 260 x4.toNatClampNeg) 10) (gd (inb x1 10) (if (rd h 235 ((rd h 260 x4.toNatClampNeg).toNatClampNeg)) = (rd h 235 x1.toNatClampNeg) then f_X7_isNewAt_120 x1 x2 x4 1 x3 h else f_X7_isNewAt_119 x1 x2 x4 x3 h))) else f_X7_isNewAt_119 x1 x2 x4 x3 h) else f_X7_isNewAt_119 x1 x2 x4 x3 h) else if x3 < 3 then rtn (some (.int 1)) h else rtn (some (.int 0)) h :=
  (exL_it SKc SKn SKr CS (lkp T_X7_isNewAt) [] [] [] [5, 51, 52, 63, 119, 120] 30 63 [.ref 227, .int x1, .int x2, .int x3, .int x4] [] h).trans rfl
set_option maxRecDepth 100000 in
set_option maxHeartbeats 4000000 in
theorem e_X7_isNewAt_119 (x1 : Int32) (x2 : Int32) (x4 : Int32) (s0 : Int32) (h : Hp) : f_X7_isNewAt_119 x1 x2 x4 s0 h = f_X7_isNewAt_120 x1 x2 x4 0 s0 h :=
  (exL_it SKc SKn SKr CS (lkp T_X7_isNewAt) [] [] [] [5, 51, 52, 63, 119, 120] 1 119 [.ref 227, .int x1, .int x2, .retAddr 0, .int x4] [.int s0] h).trans rfl
set_option maxRecDepth 100000 in
set_option maxHeartbeats 4000000 in
theorem e_X7_isNewAt_120 (x1 : Int32) (x2 : Int32) (x4 : Int32) (s0 : Int32) (s1 : Int32) (h : Hp) : f_X7_isNewAt_120 x1 x2 x4 s0 s1 h = f_X7_isNewAt_63 x1 x2 (s1 + s0) (x4 + 1) h :=
  (exL_it SKc SKn SKr CS (lkp T_X7_isNewAt) [] [] [] [5, 51, 52, 63, 119, 120] 4 120 [.ref 227, .int x1, .int x2, .retAddr 0, .int x4] [.int s0, .int s1] h).trans rfl

def T_X7_sortOf : List (Nat × Ent) := [(0, ([], .aload_n 0, 1, 0, 0, 0, 0)),
  (1, ([], .getfield 85, 3, 29, 3, 0, 0)),
  (4, ([], .iload_n 1, 1, 1, 0, 0, 0)),
  (5, ([], .iaload, 1, 0, 0, 0, 0)),
  (6, ([], .istore_n 2, 1, 2, 0, 0, 0)),
  (7, ([], .iload_n 2, 1, 2, 0, 0, 0)),
  (8, ([], .iconst (-1), 1, 0, 0, 0, (-1))),
  (9, ([], .if_icmp .ne 28, 3, 37, 0, 0, 0)),
  (12, ([], .aload_n 0, 1, 0, 0, 0, 0)),
  (13, ([], .aload_n 0, 1, 0, 0, 0, 0)),
  (14, ([], .getfield 61, 3, 21, 3, 0, 0)),
  (17, ([], .iload_n 1, 1, 1, 0, 0, 0)),
  (18, ([], .iaload, 1, 0, 0, 0, 0)),
  (19, ([], .aload_n 0, 1, 0, 0, 0, 0)),
  (20, ([], .getfield 64, 3, 22, 3, 0, 0)),
  (23, ([], .iload_n 1, 1, 1, 0, 0, 0)),
  (24, ([], .iaload, 1, 0, 0, 0, 0)),
  (25, ([], .invokevirtual 204, 3, 0, 13, 0, 0)),
  (28, ([], .ifCond .eq 7, 3, 35, 0, 0, 0)),
  (31, ([], .iconst 2, 1, 0, 0, 0, 2)),
  (32, ([], .goto 4, 3, 36, 0, 0, 0)),
  (35, ([], .iconst 3, 1, 0, 0, 0, 3)),
  (36, ([], .ireturn, 1, 0, 0, 0, 0)),
  (37, ([], .aload_n 0, 1, 0, 0, 0, 0)),
  (38, ([], .getfield 73, 3, 25, 3, 0, 0)),
  (41, ([], .iload_n 1, 1, 1, 0, 0, 0)),
  (42, ([], .iaload, 1, 0, 0, 0, 0)),
  (43, ([], .aload_n 0, 1, 0, 0, 0, 0)),
  (44, ([], .getfield 46, 3, 15, 3, 0, 0)),
  (47, ([], .iload_n 2, 1, 2, 0, 0, 0)),
  (48, ([], .iaload, 1, 0, 0, 0, 0)),
  (49, ([], .if_icmp .ne 52, 3, 101, 0, 0, 0)),
  (52, ([], .aload_n 0, 1, 0, 0, 0, 0)),
  (53, ([], .getfield 76, 3, 26, 3, 0, 0)),
  (56, ([], .iload_n 1, 1, 1, 0, 0, 0)),
  (57, ([], .iaload, 1, 0, 0, 0, 0)),
  (58, ([], .aload_n 0, 1, 0, 0, 0, 0)),
  (59, ([], .getfield 49, 3, 16, 3, 0, 0)),
  (62, ([], .iload_n 2, 1, 2, 0, 0, 0)),
  (63, ([], .iaload, 1, 0, 0, 0, 0)),
  (64, ([], .if_icmp .ne 37, 3, 101, 0, 0, 0)),
  (67, ([], .aload_n 0, 1, 0, 0, 0, 0)),
  (68, ([], .getfield 79, 3, 27, 3, 0, 0)),
  (71, ([], .iload_n 1, 1, 1, 0, 0, 0)),
  (72, ([], .iaload, 1, 0, 0, 0, 0)),
  (73, ([], .aload_n 0, 1, 0, 0, 0, 0)),
  (74, ([], .getfield 52, 3, 17, 3, 0, 0)),
  (77, ([], .iload_n 2, 1, 2, 0, 0, 0)),
  (78, ([], .iaload, 1, 0, 0, 0, 0)),
  (79, ([], .if_icmp .ne 22, 3, 101, 0, 0, 0)),
  (82, ([], .aload_n 0, 1, 0, 0, 0, 0)),
  (83, ([], .getfield 82, 3, 28, 3, 0, 0)),
  (86, ([], .iload_n 1, 1, 1, 0, 0, 0)),
  (87, ([], .iaload, 1, 0, 0, 0, 0)),
  (88, ([], .aload_n 0, 1, 0, 0, 0, 0)),
  (89, ([], .getfield 55, 3, 18, 3, 0, 0)),
  (92, ([], .iload_n 2, 1, 2, 0, 0, 0)),
  (93, ([], .iaload, 1, 0, 0, 0, 0)),
  (94, ([], .if_icmp .ne 7, 3, 101, 0, 0, 0)),
  (97, ([], .iconst 1, 1, 0, 0, 0, 1)),
  (98, ([], .goto 4, 3, 102, 0, 0, 0)),
  (101, ([true, true, true, true], .iconst 0, 1, 0, 0, 0, 0)),
  (102, ([true, true, true, true], .istore_n 3, 1, 3, 0, 0, 0)),
  (103, ([], .iload_n 3, 1, 3, 0, 0, 0)),
  (104, ([], .ifCond .eq 7, 3, 111, 0, 0, 0)),
  (107, ([], .iconst 0, 1, 0, 0, 0, 0)),
  (108, ([], .goto 4, 3, 112, 0, 0, 0)),
  (111, ([], .iconst 1, 1, 0, 0, 0, 1)),
  (112, ([], .ireturn, 1, 0, 0, 0, 0))]
noncomputable def E_X7_sortOf : Kt := exL SKc SKn SKr CS (lkp T_X7_sortOf) [F_X7_isNewAt] [] []
noncomputable def F_X7_sortOf : Fn := fun as h => E_X7_sortOf 0 (pad 4 as) [] h
noncomputable def f_X7_sortOf_101 (h : Hp) : Res := E_X7_sortOf 101 [.retAddr 0, .retAddr 0, .retAddr 0, .retAddr 0] [] h
noncomputable def f_X7_sortOf_102 (s0 : Int32) (h : Hp) : Res := E_X7_sortOf 102 [.retAddr 0, .retAddr 0, .retAddr 0, .retAddr 0] [.int s0] h
set_option maxRecDepth 100000 in
set_option maxHeartbeats 4000000 in
theorem e_X7_sortOf_0 (x1 : Int32) (h : Hp) : F_X7_sortOf [.ref 227, .int x1] h = gd (inb x1 60) (if (rd h 253 x1.toNatClampNeg) = (-1) then gd (inb x1 60) (gd (inb x1 60) (bI (F_X7_isNewAt [.ref 227, .int (rd h 245 x1.toNatClampNeg), .int (rd h 246 x1.toNatClampNeg)] h) (fun v2 h1 => if v2 = 0 then rtn (some (.int 3)) h1 else rtn (some (.int 2)) h1) (hnk []))) else gd (inb x1 60) (gd (inb (rd h 253 x1.toNatClampNeg) 60) (if (rd h 249 x1.toNatClampNeg) = (rd h 240 ((rd h 253 x1.toNatClampNeg).toNatClampNeg)) then gd (inb x1 60) (gd (inb (rd h 253 x1.toNatClampNeg) 60) (if (rd h 250 x1.toNatClampNeg) = (rd h 241 ((rd h 253 x1.toNatClampNeg).toNatClampNeg)) then gd (inb x1 60) (gd (inb (rd h 253 x1.toNatClampNeg) 60) (if (rd h 251 x1.toNatClampNeg) = (rd h 242 ((rd h 253 x1.toNatClampNeg).toNatClampNeg)) then gd (inb x1 60) (gd (inb (rd h 253 x1.toNatClampNeg) 60) (if (rd h 252 x1.toNatClampNeg) = (rd h 243 ((rd h 253 x1.toNatClampNeg).toNatClampNeg)) then f_X7_sortOf_102 1 h else f_X7_sortOf_101 h)) else f_X7_sortOf_101 h)) else f_X7_sortOf_101 h)) else f_X7_sortOf_101 h))) :=
  (exL_it SKc SKn SKr CS (lkp T_X7_sortOf) [F_X7_isNewAt] [] [] [101, 102] 46 0 [.ref 227, .int x1, .retAddr 0, .retAddr 0] [] h).trans rfl
set_option maxRecDepth 100000 in
set_option maxHeartbeats 4000000 in
theorem e_X7_sortOf_101 (h : Hp) : f_X7_sortOf_101 h = f_X7_sortOf_102 0 h :=
  (exL_it SKc SKn SKr CS (lkp T_X7_sortOf) [F_X7_isNewAt] [] [] [101, 102] 1 101 [.retAddr 0, .retAddr 0, .retAddr 0, .retAddr 0] [] h).trans rfl
set_option maxRecDepth 100000 in
set_option maxHeartbeats 4000000 in
theorem e_X7_sortOf_102 (s0 : Int32) (h : Hp) : f_X7_sortOf_102 s0 h = if s0 = 0 then rtn (some (.int 1)) h else rtn (some (.int 0)) h :=
  (exL_it SKc SKn SKr CS (lkp T_X7_sortOf) [F_X7_isNewAt] [] [] [101, 102] 6 102 [.retAddr 0, .retAddr 0, .retAddr 0, .retAddr 0] [.int s0] h).trans rfl

def T_X7_mayClaim : List (Nat × Ent) := [(0, ([], .aload_n 0, 1, 0, 0, 0, 0)),
  (1, ([], .getfield 58, 3, 19, 3, 0, 0)),
  (4, ([], .iload_n 1, 1, 1, 0, 0, 0)),
  (5, ([], .iaload, 1, 0, 0, 0, 0)),
  (6, ([], .iconst (-1), 1, 0, 0, 0, (-1))),
  (7, ([], .if_icmp .ne 49, 3, 56, 0, 0, 0)),
  (10, ([], .aload_n 0, 1, 0, 0, 0, 0)),
  (11, ([], .getfield 34, 3, 11, 3, 0, 0)),
  (14, ([], .iload_n 1, 1, 1, 0, 0, 0)),
  (15, ([], .iaload, 1, 0, 0, 0, 0)),
  (16, ([], .iload_n 2, 1, 2, 0, 0, 0)),
  (17, ([], .if_icmp .ne 39, 3, 56, 0, 0, 0)),
  (20, ([], .aload_n 0, 1, 0, 0, 0, 0)),
  (21, ([], .getfield 37, 3, 12, 3, 0, 0)),
  (24, ([], .iload_n 1, 1, 1, 0, 0, 0)),
  (25, ([], .iaload, 1, 0, 0, 0, 0)),
  (26, ([], .iload_n 3, 1, 3, 0, 0, 0)),
  (27, ([], .if_icmp .ne 29, 3, 56, 0, 0, 0)),
  (30, ([], .aload_n 0, 1, 0, 0, 0, 0)),
  (31, ([], .getfield 40, 3, 13, 3, 0, 0)),
  (34, ([], .iload_n 1, 1, 1, 0, 0, 0)),
  (35, ([], .iaload, 1, 0, 0, 0, 0)),
  (36, ([], .iload 4, 2, 4, 0, 0, 0)),
  (38, ([], .if_icmp .ne 18, 3, 56, 0, 0, 0)),
  (41, ([], .aload_n 0, 1, 0, 0, 0, 0)),
  (42, ([], .getfield 43, 3, 14, 3, 0, 0)),
  (45, ([], .iload_n 1, 1, 1, 0, 0, 0)),
  (46, ([], .iaload, 1, 0, 0, 0, 0)),
  (47, ([], .iload 5, 2, 5, 0, 0, 0)),
  (49, ([], .if_icmp .ne 7, 3, 56, 0, 0, 0)),
  (52, ([], .iconst 1, 1, 0, 0, 0, 1)),
  (53, ([], .goto 4, 3, 57, 0, 0, 0)),
  (56, ([], .iconst 0, 1, 0, 0, 0, 0)),
  (57, ([], .ireturn, 1, 0, 0, 0, 0))]
noncomputable def E_X7_mayClaim : Kt := exL SKc SKn SKr CS (lkp T_X7_mayClaim) [] [] []
noncomputable def F_X7_mayClaim : Fn := fun as h => E_X7_mayClaim 0 (pad 6 as) [] h
set_option maxRecDepth 100000 in
set_option maxHeartbeats 4000000 in
theorem e_X7_mayClaim_0 (x1 : Int32) (x2 : Int32) (x3 : Int32) (x4 : Int32) (x5 : Int32) (h : Hp) : F_X7_mayClaim [.ref 227, .int x1, .int x2, .int x3, .int x4, .int x5] h = gd (inb x1 60) (if (rd h 244 x1.toNatClampNeg) = (-1) then gd (inb x1 60) (if (rd h 236 x1.toNatClampNeg) = x2 then gd (inb x1 60) (if (rd h 237 x1.toNatClampNeg) = x3 then gd (inb x1 60) (if (rd h 238 x1.toNatClampNeg) = x4 then gd (inb x1 60) (if (rd h 239 x1.toNatClampNeg) = x5 then rtn (some (.int 1)) h else rtn (some (.int 0)) h) else rtn (some (.int 0)) h) else rtn (some (.int 0)) h) else rtn (some (.int 0)) h) else rtn (some (.int 0)) h) :=
  (exL_it SKc SKn SKr CS (lkp T_X7_mayClaim) [] [] [] [] 33 0 [.ref 227, .int x1, .int x2, .int x3, .int x4, .int x5] [] h).trans rfl

def T_X7_request : List (Nat × Ent) := [(0, ([], .iload_n 1, 1, 1, 0, 0, 0)),
  (1, ([], .invokestatic 177, 3, 0, 5, 0, 0)),
  (4, ([], .ifCond .eq 29, 3, 33, 0, 0, 0)),
  (7, ([], .iload_n 2, 1, 2, 0, 0, 0)),
  (8, ([], .invokestatic 160, 3, 1, 5, 0, 0)),
  (11, ([], .ifCond .eq 22, 3, 33, 0, 0, 0)),
  (14, ([], .iload 9, 2, 9, 0, 0, 0)),
  (16, ([], .iconst (-1), 1, 0, 0, 0, (-1))),
  (17, ([], .aload_n 0, 1, 0, 0, 0, 0)),
  (18, ([], .getfield 201, 3, 10, 2, 0, 0)),
  (21, ([], .iconst 1, 1, 0, 0, 0, 1)),
  (22, ([], .isub, 1, 0, 0, 0, 0)),
  (23, ([], .invokestatic 156, 3, 2, 13, 0, 0)),
  (26, ([], .ifCond .eq 7, 3, 33, 0, 0, 0)),
  (29, ([], .iconst 1, 1, 0, 0, 0, 1)),
  (30, ([], .goto 4, 3, 34, 0, 0, 0)),
  (33, ([false, false, false, false, false, false, false, false, false, false, true, true, true, true], .iconst 0, 1, 0, 0, 0, 0)),
  (34, ([false, false, false, false, false, false, false, false, false, false, true, true, true, true], .istore 10, 2, 10, 0, 0, 0)),
  (36, ([], .iload_n 3, 1, 3, 0, 0, 0)),
  (37, ([], .iconst 0, 1, 0, 0, 0, 0)),
  (38, ([], .iconst 1, 1, 0, 0, 0, 1)),
  (39, ([], .invokestatic 156, 3, 2, 13, 0, 0)),
  (42, ([], .ifCond .eq 51, 3, 93, 0, 0, 0)),
  (45, ([], .iload 4, 2, 4, 0, 0, 0)),
  (47, ([], .iload 6, 2, 6, 0, 0, 0)),
  (49, ([], .invokestatic 207, 3, 3, 9, 0, 0)),
  (52, ([], .ifCond .eq 41, 3, 93, 0, 0, 0)),
  (55, ([], .iload 5, 2, 5, 0, 0, 0)),
  (57, ([], .iconst 0, 1, 0, 0, 0, 0)),
  (58, ([], .bipush 71, 2, 0, 0, 0, 71)),
  (60, ([], .invokestatic 156, 3, 2, 13, 0, 0)),
  (63, ([], .ifCond .eq 30, 3, 93, 0, 0, 0)),
  (66, ([], .iload 7, 2, 7, 0, 0, 0)),
  (68, ([], .iload 6, 2, 6, 0, 0, 0)),
  (70, ([], .bipush 19, 2, 0, 0, 0, 19)),
  (72, ([], .invokestatic 156, 3, 2, 13, 0, 0)),
  (75, ([], .ifCond .eq 18, 3, 93, 0, 0, 0)),
  (78, ([], .iload 8, 2, 8, 0, 0, 0)),
  (80, ([], .iconst 0, 1, 0, 0, 0, 0)),
  (81, ([], .bipush 9, 2, 0, 0, 0, 9)),
  (83, ([], .invokestatic 156, 3, 2, 13, 0, 0)),
  (86, ([], .ifCond .eq 7, 3, 93, 0, 0, 0)),
  (89, ([], .iconst 1, 1, 0, 0, 0, 1)),
  (90, ([], .goto 4, 3, 94, 0, 0, 0)),
  (93, ([false, false, false, false, false, false, false, false, false, false, false, true, true, true], .iconst 0, 1, 0, 0, 0, 0)),
  (94, ([false, false, false, false, false, false, false, false, false, false, false, true, true, true], .istore 11, 2, 11, 0, 0, 0)),
  (96, ([], .iload 10, 2, 10, 0, 0, 0)),
  (98, ([], .ifCond .eq 41, 3, 139, 0, 0, 0)),
  (101, ([], .iload 11, 2, 11, 0, 0, 0)),
  (103, ([], .ifCond .eq 36, 3, 139, 0, 0, 0)),
  (106, ([], .aload_n 0, 1, 0, 0, 0, 0)),
  (107, ([], .getfield 164, 3, 20, 2, 0, 0)),
  (110, ([], .bipush 60, 2, 0, 0, 0, 60)),
  (112, ([], .if_icmp .ge 27, 3, 139, 0, 0, 0)),
  (115, ([], .iload 9, 2, 9, 0, 0, 0)),
  (117, ([], .iconst (-1), 1, 0, 0, 0, (-1))),
  (118, ([], .if_icmp .eq 17, 3, 135, 0, 0, 0)),
  (121, ([], .aload_n 0, 1, 0, 0, 0, 0)),
  (122, ([], .iload 9, 2, 9, 0, 0, 0)),
  (124, ([], .iload_n 1, 1, 1, 0, 0, 0)),
  (125, ([], .iload_n 2, 1, 2, 0, 0, 0)),
  (126, ([], .iload_n 3, 1, 3, 0, 0, 0)),
  (127, ([], .iload 4, 2, 4, 0, 0, 0)),
  (129, ([], .invokevirtual 210, 3, 4, 25, 0, 0)),
  (132, ([], .ifCond .eq 7, 3, 139, 0, 0, 0)),
  (135, ([false, false, false, false, false, false, false, false, false, false, false, false, true, true], .iconst 1, 1, 0, 0, 0, 1)),
  (136, ([], .goto 4, 3, 140, 0, 0, 0)),
  (139, ([false, false, false, false, false, false, false, false, false, false, false, false, true, true], .iconst 0, 1, 0, 0, 0, 0)),
  (140, ([false, false, false, false, false, false, false, false, false, false, false, false, true, true], .istore 12, 2, 12, 0, 0, 0)),
  (142, ([], .aload_n 0, 1, 0, 0, 0, 0)),
  (143, ([], .iload 10, 2, 10, 0, 0, 0)),
  (145, ([], .ifCond .ne 7, 3, 152, 0, 0, 0)),
  (148, ([], .iconst 1, 1, 0, 0, 0, 1)),
  (149, ([], .goto 22, 3, 171, 0, 0, 0)),
  (152, ([], .iload 11, 2, 11, 0, 0, 0)),
  (154, ([], .ifCond .ne 7, 3, 161, 0, 0, 0)),
  (157, ([], .iconst 2, 1, 0, 0, 0, 2)),
  (158, ([], .goto 13, 3, 171, 0, 0, 0)),
  (161, ([], .iload 12, 2, 12, 0, 0, 0)),
  (163, ([], .ifCond .eq 7, 3, 170, 0, 0, 0)),
  (166, ([], .iconst 0, 1, 0, 0, 0, 0)),
  (167, ([], .goto 4, 3, 171, 0, 0, 0)),
  (170, ([], .iconst 3, 1, 0, 0, 0, 3)),
  (171, ([false, false, false, false, false, false, false, false, false, false, true, true, true, true], .invokevirtual 170, 3, 5, 9, 0, 0)),
  (174, ([], .ifCond .ne 5, 3, 179, 0, 0, 0)),
  (177, ([], .iconst 0, 1, 0, 0, 0, 0)),
  (178, ([], .ireturn, 1, 0, 0, 0, 0)),
  (179, ([], .aload_n 0, 1, 0, 0, 0, 0)),
  (180, ([], .getfield 164, 3, 20, 2, 0, 0)),
  (183, ([], .istore 13, 2, 13, 0, 0, 0)),
  (185, ([], .aload_n 0, 1, 0, 0, 0, 0)),
  (186, ([], .getfield 61, 3, 21, 3, 0, 0)),
  (189, ([], .iload 13, 2, 13, 0, 0, 0)),
  (191, ([], .iload_n 1, 1, 1, 0, 0, 0)),
  (192, ([], .iastore, 1, 0, 0, 0, 0)),
  (193, ([], .aload_n 0, 1, 0, 0, 0, 0)),
  (194, ([], .getfield 64, 3, 22, 3, 0, 0)),
  (197, ([], .iload 13, 2, 13, 0, 0, 0)),
  (199, ([], .iload_n 2, 1, 2, 0, 0, 0)),
  (200, ([], .iastore, 1, 0, 0, 0, 0)),
  (201, ([], .aload_n 0, 1, 0, 0, 0, 0)),
  (202, ([], .getfield 67, 3, 23, 3, 0, 0)),
  (205, ([], .iload 13, 2, 13, 0, 0, 0)),
  (207, ([], .iload_n 3, 1, 3, 0, 0, 0)),
  (208, ([], .iastore, 1, 0, 0, 0, 0)),
  (209, ([], .aload_n 0, 1, 0, 0, 0, 0)),
  (210, ([], .getfield 70, 3, 24, 3, 0, 0)),
  (213, ([], .iload 13, 2, 13, 0, 0, 0)),
  (215, ([], .iload 4, 2, 4, 0, 0, 0)),
  (217, ([], .iastore, 1, 0, 0, 0, 0)),
  (218, ([], .aload_n 0, 1, 0, 0, 0, 0)),
  (219, ([], .getfield 73, 3, 25, 3, 0, 0)),
  (222, ([], .iload 13, 2, 13, 0, 0, 0)),
  (224, ([], .iload 5, 2, 5, 0, 0, 0)),
  (226, ([], .iastore, 1, 0, 0, 0, 0)),
  (227, ([], .aload_n 0, 1, 0, 0, 0, 0)),
  (228, ([], .getfield 76, 3, 26, 3, 0, 0)),
  (231, ([], .iload 13, 2, 13, 0, 0, 0)),
  (233, ([], .iload 6, 2, 6, 0, 0, 0)),
  (235, ([], .iastore, 1, 0, 0, 0, 0)),
  (236, ([], .aload_n 0, 1, 0, 0, 0, 0)),
  (237, ([], .getfield 79, 3, 27, 3, 0, 0)),
  (240, ([], .iload 13, 2, 13, 0, 0, 0)),
  (242, ([], .iload 7, 2, 7, 0, 0, 0)),
  (244, ([], .iastore, 1, 0, 0, 0, 0)),
  (245, ([], .aload_n 0, 1, 0, 0, 0, 0)),
  (246, ([], .getfield 82, 3, 28, 3, 0, 0)),
  (249, ([], .iload 13, 2, 13, 0, 0, 0)),
  (251, ([], .iload 8, 2, 8, 0, 0, 0)),
  (253, ([], .iastore, 1, 0, 0, 0, 0)),
  (254, ([], .aload_n 0, 1, 0, 0, 0, 0)),
  (255, ([], .getfield 85, 3, 29, 3, 0, 0)),
  (258, ([], .iload 13, 2, 13, 0, 0, 0)),
  (260, ([], .iload 9, 2, 9, 0, 0, 0)),
  (262, ([], .iastore, 1, 0, 0, 0, 0)),
  (263, ([], .aload_n 0, 1, 0, 0, 0, 0)),
  (264, ([], .getfield 88, 3, 30, 3, 0, 0)),
  (267, ([], .iload 13, 2, 13, 0, 0, 0)),
  (269, ([], .iconst 0, 1, 0, 0, 0, 0)),
  (270, ([], .iastore, 1, 0, 0, 0, 0)),
  (271, ([], .aload_n 0, 1, 0, 0, 0, 0)),
  (272, ([], .getfield 94, 3, 32, 3, 0, 0)),
  (275, ([], .iload 13, 2, 13, 0, 0, 0)),
  (277, ([], .iconst (-1), 1, 0, 0, 0, (-1))),
  (278, ([], .iastore, 1, 0, 0, 0, 0)),
  (279, ([], .aload_n 0, 1, 0, 0, 0, 0)),
  (280, ([], .getfield 97, 3, 33, 3, 0, 0)),
  (283, ([], .iload 13, 2, 13, 0, 0, 0)),
  (285, ([], .iconst (-1), 1, 0, 0, 0, (-1))),
  (286, ([], .iastore, 1, 0, 0, 0, 0)),
  (287, ([], .aload_n 0, 1, 0, 0, 0, 0)),
  (288, ([], .getfield 100, 3, 34, 3, 0, 0)),
  (291, ([], .iload 13, 2, 13, 0, 0, 0)),
  (293, ([], .iconst (-1), 1, 0, 0, 0, (-1))),
  (294, ([], .iastore, 1, 0, 0, 0, 0)),
  (295, ([], .iload 9, 2, 9, 0, 0, 0)),
  (297, ([], .iconst (-1), 1, 0, 0, 0, (-1))),
  (298, ([], .if_icmp .eq 12, 3, 310, 0, 0, 0)),
  (301, ([], .aload_n 0, 1, 0, 0, 0, 0)),
  (302, ([], .getfield 58, 3, 19, 3, 0, 0)),
  (305, ([], .iload 9, 2, 9, 0, 0, 0)),
  (307, ([], .iload 13, 2, 13, 0, 0, 0)),
  (309, ([], .iastore, 1, 0, 0, 0, 0)),
  (310, ([false, true, true, true, true, true, true, true, true, true, true, true, true, false], .aload_n 0, 1, 0, 0, 0, 0)),
  (311, ([], .dup, 1, 0, 0, 0, 0)),
  (312, ([], .getfield 164, 3, 20, 2, 0, 0)),
  (315, ([], .iconst 1, 1, 0, 0, 0, 1)),
  (316, ([], .iadd, 1, 0, 0, 0, 0)),
  (317, ([], .putfield 164, 3, 20, 2, 0, 0)),
  (320, ([], .iload 13, 2, 13, 0, 0, 0)),
  (322, ([], .ireturn, 1, 0, 0, 0, 0))]
noncomputable def E_X7_request : Kt := exL SKc SKn SKr CS (lkp T_X7_request) [F_X7_isCarrier, F_X7_isAirport, F_X7_isIn, F_X7_isDay, F_X7_mayClaim, F_X7_holds] [] []
noncomputable def F_X7_request : Fn := fun as h => E_X7_request 0 (pad 14 as) [] h
noncomputable def f_X7_request_33 (x1 : Int32) (x2 : Int32) (x3 : Int32) (x4 : Int32) (x5 : Int32) (x6 : Int32) (x7 : Int32) (x8 : Int32) (x9 : Int32) (h : Hp) : Res := E_X7_request 33 [.ref 227, .int x1, .int x2, .int x3, .int x4, .int x5, .int x6, .int x7, .int x8, .int x9, .retAddr 0, .retAddr 0, .retAddr 0, .retAddr 0] [] h
noncomputable def f_X7_request_34 (x1 : Int32) (x2 : Int32) (x3 : Int32) (x4 : Int32) (x5 : Int32) (x6 : Int32) (x7 : Int32) (x8 : Int32) (x9 : Int32) (s0 : Int32) (h : Hp) : Res := E_X7_request 34 [.ref 227, .int x1, .int x2, .int x3, .int x4, .int x5, .int x6, .int x7, .int x8, .int x9, .retAddr 0, .retAddr 0, .retAddr 0, .retAddr 0] [.int s0] h
noncomputable def f_X7_request_93 (x1 : Int32) (x2 : Int32) (x3 : Int32) (x4 : Int32) (x5 : Int32) (x6 : Int32) (x7 : Int32) (x8 : Int32) (x9 : Int32) (x10 : Int32) (h : Hp) : Res := E_X7_request 93 [.ref 227, .int x1, .int x2, .int x3, .int x4, .int x5, .int x6, .int x7, .int x8, .int x9, .int x10, .retAddr 0, .retAddr 0, .retAddr 0] [] h
noncomputable def f_X7_request_94 (x1 : Int32) (x2 : Int32) (x3 : Int32) (x4 : Int32) (x5 : Int32) (x6 : Int32) (x7 : Int32) (x8 : Int32) (x9 : Int32) (x10 : Int32) (s0 : Int32) (h : Hp) : Res := E_X7_request 94 [.ref 227, .int x1, .int x2, .int x3, .int x4, .int x5, .int x6, .int x7, .int x8, .int x9, .int x10, .retAddr 0, .retAddr 0, .retAddr 0] [.int s0] h
noncomputable def f_X7_request_135 (x1 : Int32) (x2 : Int32) (x3 : Int32) (x4 : Int32) (x5 : Int32) (x6 : Int32) (x7 : Int32) (x8 : Int32) (x9 : Int32) (x10 : Int32) (x11 : Int32) (h : Hp) : Res := E_X7_request 135 [.ref 227, .int x1, .int x2, .int x3, .int x4, .int x5, .int x6, .int x7, .int x8, .int x9, .int x10, .int x11, .retAddr 0, .retAddr 0] [] h
noncomputable def f_X7_request_139 (x1 : Int32) (x2 : Int32) (x3 : Int32) (x4 : Int32) (x5 : Int32) (x6 : Int32) (x7 : Int32) (x8 : Int32) (x9 : Int32) (x10 : Int32) (x11 : Int32) (h : Hp) : Res := E_X7_request 139 [.ref 227, .int x1, .int x2, .int x3, .int x4, .int x5, .int x6, .int x7, .int x8, .int x9, .int x10, .int x11, .retAddr 0, .retAddr 0] [] h
noncomputable def f_X7_request_140 (x1 : Int32) (x2 : Int32) (x3 : Int32) (x4 : Int32) (x5 : Int32) (x6 : Int32) (x7 : Int32) (x8 : Int32) (x9 : Int32) (x10 : Int32) (x11 : Int32) (s0 : Int32) (h : Hp) : Res := E_X7_request 140 [.ref 227, .int x1, .int x2, .int x3, .int x4, .int x5, .int x6, .int x7, .int x8, .int x9, .int x10, .int x11, .retAddr 0, .retAddr 0] [.int s0] h
noncomputable def f_X7_request_171 (x1 : Int32) (x2 : Int32) (x3 : Int32) (x4 : Int32) (x5 : Int32) (x6 : Int32) (x7 : Int32) (x8 : Int32) (x9 : Int32) (s0 : Int32) (h : Hp) : Res := E_X7_request 171 [.ref 227, .int x1, .int x2, .int x3, .int x4, .int x5, .int x6, .int x7, .int x8, .int x9, .retAddr 0, .retAddr 0, .retAddr 0, .retAddr 0] [.int s0, .ref 227] h
noncomputable def f_X7_request_310 (x13 : Int32) (h : Hp) : Res := E_X7_request 310 [.ref 227, .retAddr 0, .retAddr 0, .retAddr 0, .retAddr 0, .retAddr 0, .retAddr 0, .retAddr 0, .retAddr 0, .retAddr 0, .retAddr 0, .retAddr 0, .retAddr 0, .int x13] [] h
set_option maxRecDepth 100000 in
set_option maxHeartbeats 4000000 in
theorem e_X7_request_0 (x1 : Int32) (x2 : Int32) (x3 : Int32) (x4 : Int32) (x5 : Int32) (x6 : Int32) (x7 : Int32) (x8 : Int32) (x9 : Int32) (h : Hp) : F_X7_request [.ref 227, .int x1, .int x2, .int x3, .int x4, .int x5, .int x6, .int x7, .int x8, .int x9] h = bI (F_X7_isCarrier [.int x1] h) (fun v2 h1 => if v2 = 0 then f_X7_request_33 x1 x2 x3 x4 x5 x6 x7 x8 x9 h1 else bI (F_X7_isAirport [.int x2] h1) (fun v4 h3 => if v4 = 0 then f_X7_request_33 x1 x2 x3 x4 x5 x6 x7 x8 x9 h3 else bI (F_X7_isIn [.int x9, .int (-1), .int ((rd h3 227 10) - 1)] h3) (fun v6 h5 => if v6 = 0 then f_X7_request_33 x1 x2 x3 x4 x5 x6 x7 x8 x9 h5 else f_X7_request_34 x1 x2 x3 x4 x5 x6 x7 x8 x9 1 h5) (hnk [])) (hnk [])) (hnk []) :=
  (exL_it SKc SKn SKr CS (lkp T_X7_request) [F_X7_isCarrier, F_X7_isAirport, F_X7_isIn, F_X7_isDay, F_X7_mayClaim, F_X7_holds] [] [] [33, 34, 93, 94, 135, 139, 140, 171, 310] 16 0 [.ref 227, .int x1, .int x2, .int x3, .int x4, .int x5, .int x6, .int x7, .int x8, .int x9, .retAddr 0, .retAddr 0, .retAddr 0, .retAddr 0] [] h).trans rfl
set_option maxRecDepth 100000 in
set_option maxHeartbeats 4000000 in
theorem e_X7_request_33 (x1 : Int32) (x2 : Int32) (x3 : Int32) (x4 : Int32) (x5 : Int32) (x6 : Int32) (x7 : Int32) (x8 : Int32) (x9 : Int32) (h : Hp) : f_X7_request_33 x1 x2 x3 x4 x5 x6 x7 x8 x9 h = f_X7_request_34 x1 x2 x3 x4 x5 x6 x7 x8 x9 0 h :=
  (exL_it SKc SKn SKr CS (lkp T_X7_request) [F_X7_isCarrier, F_X7_isAirport, F_X7_isIn, F_X7_isDay, F_X7_mayClaim, F_X7_holds] [] [] [33, 34, 93, 94, 135, 139, 140, 171, 310] 1 33 [.ref 227, .int x1, .int x2, .int x3, .int x4, .int x5, .int x6, .int x7, .int x8, .int x9, .retAddr 0, .retAddr 0, .retAddr 0, .retAddr 0] [] h).trans rfl
set_option maxRecDepth 100000 in
set_option maxHeartbeats 4000000 in
theorem e_X7_request_34 (x1 : Int32) (x2 : Int32) (x3 : Int32) (x4 : Int32) (x5 : Int32) (x6 : Int32) (x7 : Int32) (x8 : Int32) (x9 : Int32) (s0 : Int32) (h : Hp) : f_X7_request_34 x1 x2 x3 x4 x5 x6 x7 x8 x9 s0 h = bI (F_X7_isIn [.int x3, .int 0, .int 1] h) (fun v2 h1 => if v2 = 0 then f_X7_request_93 x1 x2 x3 x4 x5 x6 x7 x8 x9 s0 h1 else bI (F_X7_isDay [.int x4, .int x6] h1) (fun v4 h3 => if v4 = 0 then f_X7_request_93 x1 x2 x3 x4 x5 x6 x7 x8 x9 s0 h3 else bI (F_X7_isIn [.int x5, .int 0, .int 71] h3) (fun v6 h5 => if v6 = 0 then f_X7_request_93 x1 x2 x3 x4 x5 x6 x7 x8 x9 s0 h5 else bI (F_X7_isIn [.int x7, .int x6, .int 19] h5) (fun v8 h7 => if v8 = 0 then f_X7_request_93 x1 x2 x3 x4 x5 x6 x7 x8 x9 s0 h7 else bI (F_X7_isIn [.int x8, .int 0, .int 9] h7) (fun v10 h9 => if v10 = 0 then f_X7_request_93 x1 x2 x3 x4 x5 x6 x7 x8 x9 s0 h9 else f_X7_request_94 x1 x2 x3 x4 x5 x6 x7 x8 x9 s0 1 h9) (hnk [])) (hnk [])) (hnk [])) (hnk [])) (hnk []) :=
  (exL_it SKc SKn SKr CS (lkp T_X7_request) [F_X7_isCarrier, F_X7_isAirport, F_X7_isIn, F_X7_isDay, F_X7_mayClaim, F_X7_holds] [] [] [33, 34, 93, 94, 135, 139, 140, 171, 310] 27 34 [.ref 227, .int x1, .int x2, .int x3, .int x4, .int x5, .int x6, .int x7, .int x8, .int x9, .retAddr 0, .retAddr 0, .retAddr 0, .retAddr 0] [.int s0] h).trans rfl
set_option maxRecDepth 100000 in
set_option maxHeartbeats 4000000 in
theorem e_X7_request_93 (x1 : Int32) (x2 : Int32) (x3 : Int32) (x4 : Int32) (x5 : Int32) (x6 : Int32) (x7 : Int32) (x8 : Int32) (x9 : Int32) (x10 : Int32) (h : Hp) : f_X7_request_93 x1 x2 x3 x4 x5 x6 x7 x8 x9 x10 h = f_X7_request_94 x1 x2 x3 x4 x5 x6 x7 x8 x9 x10 0 h :=
  (exL_it SKc SKn SKr CS (lkp T_X7_request) [F_X7_isCarrier, F_X7_isAirport, F_X7_isIn, F_X7_isDay, F_X7_mayClaim, F_X7_holds] [] [] [33, 34, 93, 94, 135, 139, 140, 171, 310] 1 93 [.ref 227, .int x1, .int x2, .int x3, .int x4, .int x5, .int x6, .int x7, .int x8, .int x9, .int x10, .retAddr 0, .retAddr 0, .retAddr 0] [] h).trans rfl
set_option maxRecDepth 100000 in
set_option maxHeartbeats 4000000 in
theorem e_X7_request_94 (x1 : Int32) (x2 : Int32) (x3 : Int32) (x4 : Int32) (x5 : Int32) (x6 : Int32) (x7 : Int32) (x8 : Int32) (x9 : Int32) (x10 : Int32) (s0 : Int32) (h : Hp) : f_X7_request_94 x1 x2 x3 x4 x5 x6 x7 x8 x9 x10 s0 h = if x10 = 0 then f_X7_request_139 x1 x2 x3 x4 x5 x6 x7 x8 x9 x10 s0 h else if s0 = 0 then f_X7_request_139 x1 x2 x3 x4 x5 x6 x7 x8 x9 x10 s0 h else if (rd h 227 20) < 60 then if x9 = (-1) then f_X7_request_135 x1 x2 x3 x4 x5 x6 x7 x8 x9 x10 s0 h else bI (F_X7_mayClaim [.ref 227, .int x9, .int x1, .int x2, .int x3, .int x4] h) (fun v2 h1 => if v2 = 0 then f_X7_request_139 x1 x2 x3 x4 x5 x6 x7 x8 x9 x10 s0 h1 else f_X7_request_135 x1 x2 x3 x4 x5 x6 x7 x8 x9 x10 s0 h1) (hnk []) else f_X7_request_139 x1 x2 x3 x4 x5 x6 x7 x8 x9 x10 s0 h :=
  (exL_it SKc SKn SKr CS (lkp T_X7_request) [F_X7_isCarrier, F_X7_isAirport, F_X7_isIn, F_X7_isDay, F_X7_mayClaim, F_X7_holds] [] [] [33, 34, 93, 94, 135, 139, 140, 171, 310] 20 94 [.ref 227, .int x1, .int x2, .int x3, .int x4, .int x5, .int x6, .int x7, .int x8, .int x9, .int x10, .retAddr 0, .retAddr 0, .retAddr 0] [.int s0] h).trans rfl
set_option maxRecDepth 100000 in
set_option maxHeartbeats 4000000 in
theorem e_X7_request_135 (x1 : Int32) (x2 : Int32) (x3 : Int32) (x4 : Int32) (x5 : Int32) (x6 : Int32) (x7 : Int32) (x8 : Int32) (x9 : Int32) (x10 : Int32) (x11 : Int32) (h : Hp) : f_X7_request_135 x1 x2 x3 x4 x5 x6 x7 x8 x9 x10 x11 h = f_X7_request_140 x1 x2 x3 x4 x5 x6 x7 x8 x9 x10 x11 1 h :=
  (exL_it SKc SKn SKr CS (lkp T_X7_request) [F_X7_isCarrier, F_X7_isAirport, F_X7_isIn, F_X7_isDay, F_X7_mayClaim, F_X7_holds] [] [] [33, 34, 93, 94, 135, 139, 140, 171, 310] 2 135 [.ref 227, .int x1, .int x2, .int x3, .int x4, .int x5, .int x6, .int x7, .int x8, .int x9, .int x10, .int x11, .retAddr 0, .retAddr 0] [] h).trans rfl
set_option maxRecDepth 100000 in
set_option maxHeartbeats 4000000 in
theorem e_X7_request_139 (x1 : Int32) (x2 : Int32) (x3 : Int32) (x4 : Int32) (x5 : Int32) (x6 : Int32) (x7 : Int32) (x8 : Int32) (x9 : Int32) (x10 : Int32) (x11 : Int32) (h : Hp) : f_X7_request_139 x1 x2 x3 x4 x5 x6 x7 x8 x9 x10 x11 h = f_X7_request_140 x1 x2 x3 x4 x5 x6 x7 x8 x9 x10 x11 0 h :=
  (exL_it SKc SKn SKr CS (lkp T_X7_request) [F_X7_isCarrier, F_X7_isAirport, F_X7_isIn, F_X7_isDay, F_X7_mayClaim, F_X7_holds] [] [] [33, 34, 93, 94, 135, 139, 140, 171, 310] 1 139 [.ref 227, .int x1, .int x2, .int x3, .int x4, .int x5, .int x6, .int x7, .int x8, .int x9, .int x10, .int x11, .retAddr 0, .retAddr 0] [] h).trans rfl
set_option maxRecDepth 100000 in
set_option maxHeartbeats 4000000 in
theorem e_X7_request_140 (x1 : Int32) (x2 : Int32) (x3 : Int32) (x4 : Int32) (x5 : Int32) (x6 : Int32) (x7 : Int32) (x8 : Int32) (x9 : Int32) (x10 : Int32) (x11 : Int32) (s0 : Int32) (h : Hp) : f_X7_request_140 x1 x2 x3 x4 x5 x6 x7 x8 x9 x10 x11 s0 h = if x10 = 0 then f_X7_request_171 x1 x2 x3 x4 x5 x6 x7 x8 x9 1 h else if x11 = 0 then f_X7_request_171 x1 x2 x3 x4 x5 x6 x7 x8 x9 2 h else if s0 = 0 then f_X7_request_171 x1 x2 x3 x4 x5 x6 x7 x8 x9 3 h else f_X7_request_171 x1 x2 x3 x4 x5 x6 x7 x8 x9 0 h :=
  (exL_it SKc SKn SKr CS (lkp T_X7_request) [F_X7_isCarrier, F_X7_isAirport, F_X7_isIn, F_X7_isDay, F_X7_mayClaim, F_X7_holds] [] [] [33, 34, 93, 94, 135, 139, 140, 171, 310] 10 140 [.ref 227, .int x1, .int x2, .int x3, .int x4, .int x5, .int x6, .int x7, .int x8, .int x9, .int x10, .int x11, .retAddr 0, .retAddr 0] [.int s0] h).trans rfl
set_option maxRecDepth 100000 in
set_option maxHeartbeats 4000000 in
theorem e_X7_request_171 (x1 : Int32) (x2 : Int32) (x3 : Int32) (x4 : Int32) (x5 : Int32) (x6 : Int32) (x7 : Int32) (x8 : Int32) (x9 : Int32) (s0 : Int32) (h : Hp) : f_X7_request_171 x1 x2 x3 x4 x5 x6 x7 x8 x9 s0 h = bI (F_X7_holds [.ref 227, .int s0] h) (fun v2 h1 => if v2 = 0 then rtn (some (.int 0)) h1 else gd (inb (rd h1 227 20) 60) (gd (inb (rd h1 227 20) 60) (gd (inb (rd h1 227 20) 60) (gd (inb (rd h1 227 20) 60) (gd (inb (rd h1 227 20) 60) (gd (inb (rd h1 227 20) 60) (gd (inb (rd h1 227 20) 60) (gd (inb (rd h1 227 20) 60) (gd (inb (rd h1 227 20) 60) (gd (inb (rd h1 227 20) 60) (gd (inb (rd h1 227 20) 60) (gd (inb (rd h1 227 20) 60) (gd (inb (rd h1 227 20) 60) (if x9 = (-1) then f_X7_request_310 (rd h1 227 20) (wr (wr (wr (wr (wr (wr (wr (wr (wr (wr (wr (wr (wr h1 245 ((rd h1 227 20).toNatClampNeg) x1) 246 ((rd h1 227 20).toNatClampNeg) x2) 247 ((rd h1 227 20).toNatClampNeg) x3) 248 ((rd h1 227 20).toNatClampNeg) x4) 249 ((rd h1 227 20).toNatClampNeg) x5) 250 ((rd h1 227 20).toNatClampNeg) x6) 251 ((rd h1 227 20).toNatClampNeg) x7) 252 ((rd h1 227 20).toNatClampNeg) x8) 253 ((rd h1 227 20).toNatClampNeg) x9) 254 ((rd h1 227 20).toNatClampNeg) 0) 256 ((rd h1 227 20).toNatClampNeg) (-1)) 257 ((rd h1 227 20).toNatClampNeg) (-1)) 258 ((rd h1 227 20).toNatClampNeg) (-1)) else gd (inb x9 60) (f_X7_request_310 (rd h1 227 20) (wr (wr (wr (wr (wr (wr (wr (wr (wr (wr (wr (wr (wr (wr h1 245 ((rd h1 227 20).toNatClampNeg) x1) 246 ((rd h1 227 20).toNatClampNeg) x2) 247 ((rd h1 227 20).toNatClampNeg) x3) 248 ((rd h1 227 20).toNatClampNeg) x4) 249 ((rd h1 227 20).toNatClampNeg) x5) 250 ((rd h1 227 20).toNatClampNeg) x6) 251 ((rd h1 227 20).toNatClampNeg) x7) 252 ((rd h1 227 20).toNatClampNeg) x8) 253 ((rd h1 227 20).toNatClampNeg) x9) 254 ((rd h1 227 20).toNatClampNeg) 0) 256 ((rd h1 227 20).toNatClampNeg) (-1)) 257 ((rd h1 227 20).toNatClampNeg) (-1)) 258 ((rd h1 227 20).toNatClampNeg) (-1)) 244 x9.toNatClampNeg (rd h1 227 20))))))))))))))))) (hnk []) :=
  (exL_it SKc SKn SKr CS (lkp T_X7_request) [F_X7_isCarrier, F_X7_isAirport, F_X7_isIn, F_X7_isDay, F_X7_mayClaim, F_X7_holds] [] [] [33, 34, 93, 94, 135, 139, 140, 171, 310] 78 171 [.ref 227, .int x1, .int x2, .int x3, .int x4, .int x5, .int x6, .int x7, .int x8, .int x9, .retAddr 0, .retAddr 0, .retAddr 0, .retAddr 0] [.int s0, .ref 227] h).trans rfl
set_option maxRecDepth 100000 in
set_option maxHeartbeats 4000000 in
theorem e_X7_request_310 (x13 : Int32) (h : Hp) : f_X7_request_310 x13 h = rtn (some (.int x13)) (wr h 227 20 ((rd h 227 20) + 1)) :=
  (exL_it SKc SKn SKr CS (lkp T_X7_request) [F_X7_isCarrier, F_X7_isAirport, F_X7_isIn, F_X7_isDay, F_X7_mayClaim, F_X7_holds] [] [] [33, 34, 93, 94, 135, 139, 140, 171, 310] 8 310 [.ref 227, .retAddr 0, .retAddr 0, .retAddr 0, .retAddr 0, .retAddr 0, .retAddr 0, .retAddr 0, .retAddr 0, .retAddr 0, .retAddr 0, .retAddr 0, .retAddr 0, .int x13] [] h).trans rfl

def T_X7_link : List (Nat × Ent) := [(0, ([], .aload_n 0, 1, 0, 0, 0, 0)),
  (1, ([], .iload_n 1, 1, 1, 0, 0, 0)),
  (2, ([], .invokevirtual 214, 3, 0, 9, 0, 0)),
  (5, ([], .ifCond .eq 15, 3, 20, 0, 0, 0)),
  (8, ([], .aload_n 0, 1, 0, 0, 0, 0)),
  (9, ([], .iload_n 2, 1, 2, 0, 0, 0)),
  (10, ([], .invokevirtual 214, 3, 0, 9, 0, 0)),
  (13, ([], .ifCond .eq 7, 3, 20, 0, 0, 0)),
  (16, ([], .iconst 1, 1, 0, 0, 0, 1)),
  (17, ([], .goto 4, 3, 21, 0, 0, 0)),
  (20, ([false, false, false, true, true], .iconst 0, 1, 0, 0, 0, 0)),
  (21, ([false, false, false, true, true], .istore_n 3, 1, 3, 0, 0, 0)),
  (22, ([], .iload_n 3, 1, 3, 0, 0, 0)),
  (23, ([], .ifCond .eq 45, 3, 68, 0, 0, 0)),
  (26, ([], .aload_n 0, 1, 0, 0, 0, 0)),
  (27, ([], .getfield 100, 3, 34, 3, 0, 0)),
  (30, ([], .iload_n 1, 1, 1, 0, 0, 0)),
  (31, ([], .iaload, 1, 0, 0, 0, 0)),
  (32, ([], .iconst (-1), 1, 0, 0, 0, (-1))),
  (33, ([], .if_icmp .ne 35, 3, 68, 0, 0, 0)),
  (36, ([], .aload_n 0, 1, 0, 0, 0, 0)),
  (37, ([], .getfield 100, 3, 34, 3, 0, 0)),
  (40, ([], .iload_n 2, 1, 2, 0, 0, 0)),
  (41, ([], .iaload, 1, 0, 0, 0, 0)),
  (42, ([], .iconst (-1), 1, 0, 0, 0, (-1))),
  (43, ([], .if_icmp .ne 25, 3, 68, 0, 0, 0)),
  (46, ([], .aload_n 0, 1, 0, 0, 0, 0)),
  (47, ([], .getfield 88, 3, 30, 3, 0, 0)),
  (50, ([], .iload_n 1, 1, 1, 0, 0, 0)),
  (51, ([], .iaload, 1, 0, 0, 0, 0)),
  (52, ([], .ifCond .ne 16, 3, 68, 0, 0, 0)),
  (55, ([], .aload_n 0, 1, 0, 0, 0, 0)),
  (56, ([], .getfield 88, 3, 30, 3, 0, 0)),
  (59, ([], .iload_n 2, 1, 2, 0, 0, 0)),
  (60, ([], .iaload, 1, 0, 0, 0, 0)),
  (61, ([], .ifCond .ne 7, 3, 68, 0, 0, 0)),
  (64, ([], .iconst 1, 1, 0, 0, 0, 1)),
  (65, ([], .goto 4, 3, 69, 0, 0, 0)),
  (68, ([false, false, false, false, true], .iconst 0, 1, 0, 0, 0, 0)),
  (69, ([false, false, false, false, true], .istore 4, 2, 4, 0, 0, 0)),
  (71, ([], .aload_n 0, 1, 0, 0, 0, 0)),
  (72, ([], .iload_n 3, 1, 3, 0, 0, 0)),
  (73, ([], .ifCond .ne 7, 3, 80, 0, 0, 0)),
  (76, ([], .iconst 1, 1, 0, 0, 0, 1)),
  (77, ([], .goto 22, 3, 99, 0, 0, 0)),
  (80, ([], .iload_n 1, 1, 1, 0, 0, 0)),
  (81, ([], .iload_n 2, 1, 2, 0, 0, 0)),
  (82, ([], .if_icmp .ne 7, 3, 89, 0, 0, 0)),
  (85, ([], .iconst 2, 1, 0, 0, 0, 2)),
  (86, ([], .goto 13, 3, 99, 0, 0, 0)),
  (89, ([], .iload 4, 2, 4, 0, 0, 0)),
  (91, ([], .ifCond .eq 7, 3, 98, 0, 0, 0)),
  (94, ([], .iconst 0, 1, 0, 0, 0, 0)),
  (95, ([], .goto 4, 3, 99, 0, 0, 0)),
  (98, ([], .iconst 3, 1, 0, 0, 0, 3)),
  (99, ([false, false, false, true, true], .invokevirtual 170, 3, 1, 9, 0, 0)),
  (102, ([], .ifCond .eq 17, 3, 119, 0, 0, 0)),
  (105, ([], .aload_n 0, 1, 0, 0, 0, 0)),
  (106, ([], .getfield 100, 3, 34, 3, 0, 0)),
  (109, ([], .iload_n 1, 1, 1, 0, 0, 0)),
  (110, ([], .iload_n 2, 1, 2, 0, 0, 0)),
  (111, ([], .iastore, 1, 0, 0, 0, 0)),
  (112, ([], .aload_n 0, 1, 0, 0, 0, 0)),
  (113, ([], .getfield 100, 3, 34, 3, 0, 0)),
  (116, ([], .iload_n 2, 1, 2, 0, 0, 0)),
  (117, ([], .iload_n 1, 1, 1, 0, 0, 0)),
  (118, ([], .iastore, 1, 0, 0, 0, 0)),
  (119, ([], .return_, 1, 0, 0, 0, 0))]
noncomputable def E_X7_link : Kt := exL SKc SKn SKr CS (lkp T_X7_link) [F_X7_isRequest, F_X7_holds] [] []
noncomputable def F_X7_link : Fn := fun as h => E_X7_link 0 (pad 5 as) [] h
noncomputable def f_X7_link_20 (x1 : Int32) (x2 : Int32) (h : Hp) : Res := E_X7_link 20 [.ref 227, .int x1, .int x2, .retAddr 0, .retAddr 0] [] h
noncomputable def f_X7_link_21 (x1 : Int32) (x2 : Int32) (s0 : Int32) (h : Hp) : Res := E_X7_link 21 [.ref 227, .int x1, .int x2, .retAddr 0, .retAddr 0] [.int s0] h
noncomputable def f_X7_link_68 (x1 : Int32) (x2 : Int32) (x3 : Int32) (h : Hp) : Res := E_X7_link 68 [.ref 227, .int x1, .int x2, .int x3, .retAddr 0] [] h
noncomputable def f_X7_link_69 (x1 : Int32) (x2 : Int32) (x3 : Int32) (s0 : Int32) (h : Hp) : Res := E_X7_link 69 [.ref 227, .int x1, .int x2, .int x3, .retAddr 0] [.int s0] h
noncomputable def f_X7_link_99 (x1 : Int32) (x2 : Int32) (s0 : Int32) (h : Hp) : Res := E_X7_link 99 [.ref 227, .int x1, .int x2, .retAddr 0, .retAddr 0] [.int s0, .ref 227] h
set_option maxRecDepth 100000 in
set_option maxHeartbeats 4000000 in
theorem e_X7_link_0 (x1 : Int32) (x2 : Int32) (h : Hp) : F_X7_link [.ref 227, .int x1, .int x2] h = bI (F_X7_isRequest [.ref 227, .int x1] h) (fun v2 h1 => if v2 = 0 then f_X7_link_20 x1 x2 h1 else bI (F_X7_isRequest [.ref 227, .int x2] h1) (fun v4 h3 => if v4 = 0 then f_X7_link_20 x1 x2 h3 else f_X7_link_21 x1 x2 1 h3) (hnk [])) (hnk []) :=
  (exL_it SKc SKn SKr CS (lkp T_X7_link) [F_X7_isRequest, F_X7_holds] [] [] [20, 21, 68, 69, 99] 10 0 [.ref 227, .int x1, .int x2, .retAddr 0, .retAddr 0] [] h).trans rfl
set_option maxRecDepth 100000 in
set_option maxHeartbeats 4000000 in
theorem e_X7_link_20 (x1 : Int32) (x2 : Int32) (h : Hp) : f_X7_link_20 x1 x2 h = f_X7_link_21 x1 x2 0 h :=
  (exL_it SKc SKn SKr CS (lkp T_X7_link) [F_X7_isRequest, F_X7_holds] [] [] [20, 21, 68, 69, 99] 1 20 [.ref 227, .int x1, .int x2, .retAddr 0, .retAddr 0] [] h).trans rfl
set_option maxRecDepth 100000 in
set_option maxHeartbeats 4000000 in
theorem e_X7_link_21 (x1 : Int32) (x2 : Int32) (s0 : Int32) (h : Hp) : f_X7_link_21 x1 x2 s0 h = if s0 = 0 then f_X7_link_68 x1 x2 s0 h else gd (inb x1 60) (if (rd h 258 x1.toNatClampNeg) = (-1) then gd (inb x2 60) (if (rd h 258 x2.toNatClampNeg) = (-1) then gd (inb x1 60) (if (rd h 254 x1.toNatClampNeg) = 0 then gd (inb x2 60) (if (rd h 254 x2.toNatClampNeg) = 0 then f_X7_link_69 x1 x2 s0 1 h else f_X7_link_68 x1 x2 s0 h) else f_X7_link_68 x1 x2 s0 h) else f_X7_link_68 x1 x2 s0 h) else f_X7_link_68 x1 x2 s0 h) :=
  (exL_it SKc SKn SKr CS (lkp T_X7_link) [F_X7_isRequest, F_X7_holds] [] [] [20, 21, 68, 69, 99] 27 21 [.ref 227, .int x1, .int x2, .retAddr 0, .retAddr 0] [.int s0] h).trans rfl
set_option maxRecDepth 100000 in
set_option maxHeartbeats 4000000 in
theorem e_X7_link_68 (x1 : Int32) (x2 : Int32) (x3 : Int32) (h : Hp) : f_X7_link_68 x1 x2 x3 h = f_X7_link_69 x1 x2 x3 0 h :=
  (exL_it SKc SKn SKr CS (lkp T_X7_link) [F_X7_isRequest, F_X7_holds] [] [] [20, 21, 68, 69, 99] 1 68 [.ref 227, .int x1, .int x2, .int x3, .retAddr 0] [] h).trans rfl
set_option maxRecDepth 100000 in
set_option maxHeartbeats 4000000 in
theorem e_X7_link_69 (x1 : Int32) (x2 : Int32) (x3 : Int32) (s0 : Int32) (h : Hp) : f_X7_link_69 x1 x2 x3 s0 h = if x3 = 0 then f_X7_link_99 x1 x2 1 h else if x1 = x2 then f_X7_link_99 x1 x2 2 h else if s0 = 0 then f_X7_link_99 x1 x2 3 h else f_X7_link_99 x1 x2 0 h :=
  (exL_it SKc SKn SKr CS (lkp T_X7_link) [F_X7_isRequest, F_X7_holds] [] [] [20, 21, 68, 69, 99] 11 69 [.ref 227, .int x1, .int x2, .int x3, .retAddr 0] [.int s0] h).trans rfl
set_option maxRecDepth 100000 in
set_option maxHeartbeats 4000000 in
theorem e_X7_link_99 (x1 : Int32) (x2 : Int32) (s0 : Int32) (h : Hp) : f_X7_link_99 x1 x2 s0 h = bI (F_X7_holds [.ref 227, .int s0] h) (fun v2 h1 => if v2 = 0 then rtn none h1 else gd (inb x1 60) (gd (inb x2 60) (rtn none (wr (wr h1 258 x1.toNatClampNeg x2) 258 x2.toNatClampNeg x1)))) (hnk []) :=
  (exL_it SKc SKn SKr CS (lkp T_X7_link) [F_X7_isRequest, F_X7_holds] [] [] [20, 21, 68, 69, 99] 13 99 [.ref 227, .int x1, .int x2, .retAddr 0, .retAddr 0] [.int s0, .ref 227] h).trans rfl

def T_X7_gives : List (Nat × Ent) := [(0, ([], .aload_n 0, 1, 0, 0, 0, 0)),
  (1, ([], .getfield 167, 3, 37, 2, 0, 0)),
  (4, ([], .istore_n 3, 1, 3, 0, 0, 0)),
  (5, ([], .aload_n 0, 1, 0, 0, 0, 0)),
  (6, ([], .dup, 1, 0, 0, 0, 0)),
  (7, ([], .getfield 167, 3, 37, 2, 0, 0)),
  (10, ([], .iconst 1, 1, 0, 0, 0, 1)),
  (11, ([], .iadd, 1, 0, 0, 0, 0)),
  (12, ([], .putfield 167, 3, 37, 2, 0, 0)),
  (15, ([], .aload_n 0, 1, 0, 0, 0, 0)),
  (16, ([], .getfield 106, 3, 38, 3, 0, 0)),
  (19, ([], .iload_n 3, 1, 3, 0, 0, 0)),
  (20, ([], .aload_n 0, 1, 0, 0, 0, 0)),
  (21, ([], .getfield 61, 3, 21, 3, 0, 0)),
  (24, ([], .iload_n 1, 1, 1, 0, 0, 0)),
  (25, ([], .iaload, 1, 0, 0, 0, 0)),
  (26, ([], .iastore, 1, 0, 0, 0, 0)),
  (27, ([], .aload_n 0, 1, 0, 0, 0, 0)),
  (28, ([], .getfield 109, 3, 39, 3, 0, 0)),
  (31, ([], .iload_n 3, 1, 3, 0, 0, 0)),
  (32, ([], .aload_n 0, 1, 0, 0, 0, 0)),
  (33, ([], .getfield 61, 3, 21, 3, 0, 0)),
  (36, ([], .iload_n 1, 1, 1, 0, 0, 0)),
  (37, ([], .iaload, 1, 0, 0, 0, 0)),
  (38, ([], .iastore, 1, 0, 0, 0, 0)),
  (39, ([], .aload_n 0, 1, 0, 0, 0, 0)),
  (40, ([], .getfield 112, 3, 40, 3, 0, 0)),
  (43, ([], .iload_n 3, 1, 3, 0, 0, 0)),
  (44, ([], .aload_n 0, 1, 0, 0, 0, 0)),
  (45, ([], .getfield 64, 3, 22, 3, 0, 0)),
  (48, ([], .iload_n 1, 1, 1, 0, 0, 0)),
  (49, ([], .iaload, 1, 0, 0, 0, 0)),
  (50, ([], .iastore, 1, 0, 0, 0, 0)),
  (51, ([], .aload_n 0, 1, 0, 0, 0, 0)),
  (52, ([], .getfield 115, 3, 41, 3, 0, 0)),
  (55, ([], .iload_n 3, 1, 3, 0, 0, 0)),
  (56, ([], .aload_n 0, 1, 0, 0, 0, 0)),
  (57, ([], .getfield 67, 3, 23, 3, 0, 0)),
  (60, ([], .iload_n 1, 1, 1, 0, 0, 0)),
  (61, ([], .iaload, 1, 0, 0, 0, 0)),
  (62, ([], .iastore, 1, 0, 0, 0, 0)),
  (63, ([], .aload_n 0, 1, 0, 0, 0, 0)),
  (64, ([], .getfield 118, 3, 42, 3, 0, 0)),
  (67, ([], .iload_n 3, 1, 3, 0, 0, 0)),
  (68, ([], .aload_n 0, 1, 0, 0, 0, 0)),
  (69, ([], .getfield 70, 3, 24, 3, 0, 0)),
  (72, ([], .iload_n 1, 1, 1, 0, 0, 0)),
  (73, ([], .iaload, 1, 0, 0, 0, 0)),
  (74, ([], .iastore, 1, 0, 0, 0, 0)),
  (75, ([], .aload_n 0, 1, 0, 0, 0, 0)),
  (76, ([], .getfield 121, 3, 43, 3, 0, 0)),
  (79, ([], .iload_n 3, 1, 3, 0, 0, 0)),
  (80, ([], .iload_n 2, 1, 2, 0, 0, 0)),
  (81, ([], .iastore, 1, 0, 0, 0, 0)),
  (82, ([], .aload_n 0, 1, 0, 0, 0, 0)),
  (83, ([], .getfield 124, 3, 44, 3, 0, 0)),
  (86, ([], .iload_n 3, 1, 3, 0, 0, 0)),
  (87, ([], .aload_n 0, 1, 0, 0, 0, 0)),
  (88, ([], .getfield 76, 3, 26, 3, 0, 0)),
  (91, ([], .iload_n 1, 1, 1, 0, 0, 0)),
  (92, ([], .iaload, 1, 0, 0, 0, 0)),
  (93, ([], .iastore, 1, 0, 0, 0, 0)),
  (94, ([], .aload_n 0, 1, 0, 0, 0, 0)),
  (95, ([], .getfield 127, 3, 45, 3, 0, 0)),
  (98, ([], .iload_n 3, 1, 3, 0, 0, 0)),
  (99, ([], .aload_n 0, 1, 0, 0, 0, 0)),
  (100, ([], .getfield 79, 3, 27, 3, 0, 0)),
  (103, ([], .iload_n 1, 1, 1, 0, 0, 0)),
  (104, ([], .iaload, 1, 0, 0, 0, 0)),
  (105, ([], .iastore, 1, 0, 0, 0, 0)),
  (106, ([], .aload_n 0, 1, 0, 0, 0, 0)),
  (107, ([], .getfield 130, 3, 46, 3, 0, 0)),
  (110, ([], .iload_n 3, 1, 3, 0, 0, 0)),
  (111, ([], .aload_n 0, 1, 0, 0, 0, 0)),
  (112, ([], .getfield 82, 3, 28, 3, 0, 0)),
  (115, ([], .iload_n 1, 1, 1, 0, 0, 0)),
  (116, ([], .iaload, 1, 0, 0, 0, 0)),
  (117, ([], .iastore, 1, 0, 0, 0, 0)),
  (118, ([], .aload_n 0, 1, 0, 0, 0, 0)),
  (119, ([], .getfield 133, 3, 47, 3, 0, 0)),
  (122, ([], .iload_n 3, 1, 3, 0, 0, 0)),
  (123, ([], .iload_n 1, 1, 1, 0, 0, 0)),
  (124, ([], .iastore, 1, 0, 0, 0, 0)),
  (125, ([], .aload_n 0, 1, 0, 0, 0, 0)),
  (126, ([], .getfield 136, 3, 48, 3, 0, 0)),
  (129, ([], .iload_n 3, 1, 3, 0, 0, 0)),
  (130, ([], .iconst 0, 1, 0, 0, 0, 0)),
  (131, ([], .iastore, 1, 0, 0, 0, 0)),
  (132, ([], .aload_n 0, 1, 0, 0, 0, 0)),
  (133, ([], .getfield 139, 3, 49, 3, 0, 0)),
  (136, ([], .iload_n 3, 1, 3, 0, 0, 0)),
  (137, ([], .iconst 0, 1, 0, 0, 0, 0)),
  (138, ([], .iastore, 1, 0, 0, 0, 0)),
  (139, ([], .aload_n 0, 1, 0, 0, 0, 0)),
  (140, ([], .getfield 142, 3, 50, 3, 0, 0)),
  (143, ([], .iload_n 3, 1, 3, 0, 0, 0)),
  (144, ([], .iconst 0, 1, 0, 0, 0, 0)),
  (145, ([], .bastore, 1, 0, 0, 0, 0)),
  (146, ([], .aload_n 0, 1, 0, 0, 0, 0)),
  (147, ([], .getfield 88, 3, 30, 3, 0, 0)),
  (150, ([], .iload_n 1, 1, 1, 0, 0, 0)),
  (151, ([], .iconst 1, 1, 0, 0, 0, 1)),
  (152, ([], .iastore, 1, 0, 0, 0, 0)),
  (153, ([], .aload_n 0, 1, 0, 0, 0, 0)),
  (154, ([], .getfield 94, 3, 32, 3, 0, 0)),
  (157, ([], .iload_n 1, 1, 1, 0, 0, 0)),
  (158, ([], .iload_n 3, 1, 3, 0, 0, 0)),
  (159, ([], .iastore, 1, 0, 0, 0, 0)),
  (160, ([], .aload_n 0, 1, 0, 0, 0, 0)),
  (161, ([], .getfield 97, 3, 33, 3, 0, 0)),
  (164, ([], .iload_n 1, 1, 1, 0, 0, 0)),
  (165, ([], .iconst (-1), 1, 0, 0, 0, (-1))),
  (166, ([], .iastore, 1, 0, 0, 0, 0)),
  (167, ([], .return_, 1, 0, 0, 0, 0))]
noncomputable def E_X7_gives : Kt := exL SKc SKn SKr CS (lkp T_X7_gives) [] [] []
noncomputable def F_X7_gives : Fn := fun as h => E_X7_gives 0 (pad 4 as) [] h
set_option maxRecDepth 100000 in
set_option maxHeartbeats 4000000 in
theorem e_X7_gives_0 (x1 : Int32) (x2 : Int32) (h : Hp) : F_X7_gives [.ref 227, .int x1, .int x2] h = gd (inb x1 60) (gd (inb (rd h 227 37) 60) (gd (inb x1 60) (gd (inb (rd h 227 37) 60) (gd (inb x1 60) (gd (inb (rd h 227 37) 60) (gd (inb x1 60) (gd (inb (rd h 227 37) 60) (gd (inb x1 60) (gd (inb (rd h 227 37) 60) (gd (inb (rd h 227 37) 60) (gd (inb x1 60) (gd (inb (rd h 227 37) 60) (gd (inb x1 60) (gd (inb (rd h 227 37) 60) (gd (inb x1 60) (gd (inb (rd h 227 37) 60) (gd (inb (rd h 227 37) 60) (gd (inb (rd h 227 37) 60) (gd (inb (rd h 227 37) 60) (gd (inb (rd h 227 37) 60) (gd (inb x1 60) (gd (inb x1 60) (gd (inb x1 60) (rtn none (wr (wr (wr (wr (wr (wr (wr (wr (wr (wr (wr (wr (wr (wr (wr (wr (wr h 227 37 ((rd h 227 37) + 1)) 260 ((rd h 227 37).toNatClampNeg) (rd h 245 x1.toNatClampNeg)) 261 ((rd h 227 37).toNatClampNeg) (rd h 245 x1.toNatClampNeg)) 262 ((rd h 227 37).toNatClampNeg) (rd h 246 x1.toNatClampNeg)) 263 ((rd h 227 37).toNatClampNeg) (rd h 247 x1.toNatClampNeg)) 264 ((rd h 227 37).toNatClampNeg) (rd h 248 x1.toNatClampNeg)) 265 ((rd h 227 37).toNatClampNeg) x2) 266 ((rd h 227 37).toNatClampNeg) (rd h 250 x1.toNatClampNeg)) 267 ((rd h 227 37).toNatClampNeg) (rd h 251 x1.toNatClampNeg)) 268 ((rd h 227 37).toNatClampNeg) (rd h 252 x1.toNatClampNeg)) 269 ((rd h 227 37).toNatClampNeg) x1) 270 ((rd h 227 37).toNatClampNeg) 0) 271 ((rd h 227 37).toNatClampNeg) 0) 272 ((rd h 227 37).toNatClampNeg) (vp_nar .boolean 0)) 254 x1.toNatClampNeg 1) 256 x1.toNatClampNeg (rd h 227 37)) 257 x1.toNatClampNeg (-1)))))))))))))))))))))))))) :=
  (exL_it SKc SKn SKr CS (lkp T_X7_gives) [] [] [] [] 114 0 [.ref 227, .int x1, .int x2, .retAddr 0] [] h).trans rfl

def T_X7_waits : List (Nat × Ent) := [(0, ([], .aload_n 0, 1, 0, 0, 0, 0)),
  (1, ([], .getfield 88, 3, 30, 3, 0, 0)),
  (4, ([], .iload_n 1, 1, 1, 0, 0, 0)),
  (5, ([], .iload_n 2, 1, 2, 0, 0, 0)),
  (6, ([], .iastore, 1, 0, 0, 0, 0)),
  (7, ([], .aload_n 0, 1, 0, 0, 0, 0)),
  (8, ([], .getfield 103, 3, 35, 3, 0, 0)),
  (11, ([], .iload_n 1, 1, 1, 0, 0, 0)),
  (12, ([], .aload_n 0, 1, 0, 0, 0, 0)),
  (13, ([], .getfield 217, 3, 36, 2, 0, 0)),
  (16, ([], .iastore, 1, 0, 0, 0, 0)),
  (17, ([], .aload_n 0, 1, 0, 0, 0, 0)),
  (18, ([], .dup, 1, 0, 0, 0, 0)),
  (19, ([], .getfield 217, 3, 36, 2, 0, 0)),
  (22, ([], .iconst 1, 1, 0, 0, 0, 1)),
  (23, ([], .iadd, 1, 0, 0, 0, 0)),
  (24, ([], .putfield 217, 3, 36, 2, 0, 0)),
  (27, ([], .return_, 1, 0, 0, 0, 0))]
noncomputable def E_X7_waits : Kt := exL SKc SKn SKr CS (lkp T_X7_waits) [] [] []
noncomputable def F_X7_waits : Fn := fun as h => E_X7_waits 0 (pad 3 as) [] h
set_option maxRecDepth 100000 in
set_option maxHeartbeats 4000000 in
theorem e_X7_waits_0 (x1 : Int32) (x2 : Int32) (h : Hp) : F_X7_waits [.ref 227, .int x1, .int x2] h = gd (inb x1 60) (gd (inb x1 60) (rtn none (wr (wr (wr h 254 x1.toNatClampNeg x2) 259 x1.toNatClampNeg (rd h 227 36)) 227 36 ((rd h 227 36) + 1)))) :=
  (exL_it SKc SKn SKr CS (lkp T_X7_waits) [] [] [] [] 18 0 [.ref 227, .int x1, .int x2] [] h).trans rfl

def T_X7_isAhead : List (Nat × Ent) := [(0, ([], .aload_n 0, 1, 0, 0, 0, 0)),
  (1, ([], .iload_n 1, 1, 1, 0, 0, 0)),
  (2, ([], .invokevirtual 195, 3, 0, 9, 0, 0)),
  (5, ([], .aload_n 0, 1, 0, 0, 0, 0)),
  (6, ([], .iload_n 2, 1, 2, 0, 0, 0)),
  (7, ([], .invokevirtual 195, 3, 0, 9, 0, 0)),
  (10, ([], .if_icmp .gt 21, 3, 31, 0, 0, 0)),
  (13, ([], .aload_n 0, 1, 0, 0, 0, 0)),
  (14, ([], .iload_n 1, 1, 1, 0, 0, 0)),
  (15, ([], .invokevirtual 195, 3, 0, 9, 0, 0)),
  (18, ([], .aload_n 0, 1, 0, 0, 0, 0)),
  (19, ([], .iload_n 2, 1, 2, 0, 0, 0)),
  (20, ([], .invokevirtual 195, 3, 0, 9, 0, 0)),
  (23, ([], .if_icmp .ne 12, 3, 35, 0, 0, 0)),
  (26, ([], .iload_n 1, 1, 1, 0, 0, 0)),
  (27, ([], .iload_n 2, 1, 2, 0, 0, 0)),
  (28, ([], .if_icmp .ge 7, 3, 35, 0, 0, 0)),
  (31, ([], .iconst 1, 1, 0, 0, 0, 1)),
  (32, ([], .goto 4, 3, 36, 0, 0, 0)),
  (35, ([], .iconst 0, 1, 0, 0, 0, 0)),
  (36, ([], .ireturn, 1, 0, 0, 0, 0))]
noncomputable def E_X7_isAhead : Kt := exL SKc SKn SKr CS (lkp T_X7_isAhead) [F_X7_weeks] [] []
noncomputable def F_X7_isAhead : Fn := fun as h => E_X7_isAhead 0 (pad 3 as) [] h
set_option maxRecDepth 100000 in
set_option maxHeartbeats 4000000 in
theorem e_X7_isAhead_0 (x1 : Int32) (x2 : Int32) (h : Hp) : F_X7_isAhead [.ref 227, .int x1, .int x2] h = bI (F_X7_weeks [.ref 227, .int x1] h) (fun v2 h1 => bI (F_X7_weeks [.ref 227, .int x2] h1) (fun v4 h3 => if v4 < v2 then rtn (some (.int 1)) h3 else bI (F_X7_weeks [.ref 227, .int x1] h3) (fun v6 h5 => bI (F_X7_weeks [.ref 227, .int x2] h5) (fun v8 h7 => if v6 = v8 then if x1 < x2 then rtn (some (.int 1)) h7 else rtn (some (.int 0)) h7 else rtn (some (.int 0)) h7) (hnk [])) (hnk [])) (hnk [])) (hnk []) :=
  (exL_it SKc SKn SKr CS (lkp T_X7_isAhead) [F_X7_weeks] [] [] [] 20 0 [.ref 227, .int x1, .int x2] [] h).trans rfl

def T_X7_isOrdered : List (Nat × Ent) := [(0, ([], .iconst 0, 1, 0, 0, 0, 0)),
  (1, ([], .istore_n 2, 1, 2, 0, 0, 0)),
  (2, ([], .iconst 0, 1, 0, 0, 0, 0)),
  (3, ([], .istore_n 3, 1, 3, 0, 0, 0)),
  (4, ([false, false, false, false], .iload_n 3, 1, 3, 0, 0, 0)),
  (5, ([], .aload_n 0, 1, 0, 0, 0, 0)),
  (6, ([], .getfield 226, 3, 52, 2, 0, 0)),
  (9, ([], .if_icmp .ge 29, 3, 38, 0, 0, 0)),
  (12, ([], .iload_n 2, 1, 2, 0, 0, 0)),
  (13, ([], .ifCond .ne 13, 3, 26, 0, 0, 0)),
  (16, ([], .aload_n 0, 1, 0, 0, 0, 0)),
  (17, ([], .getfield 149, 3, 53, 3, 0, 0)),
  (20, ([], .iload_n 3, 1, 3, 0, 0, 0)),
  (21, ([], .iaload, 1, 0, 0, 0, 0)),
  (22, ([], .iload_n 1, 1, 1, 0, 0, 0)),
  (23, ([], .if_icmp .ne 7, 3, 30, 0, 0, 0)),
  (26, ([false, false, true, false], .iconst 1, 1, 0, 0, 0, 1)),
  (27, ([], .goto 4, 3, 31, 0, 0, 0)),
  (30, ([], .iconst 0, 1, 0, 0, 0, 0)),
  (31, ([false, false, true, false], .istore_n 2, 1, 2, 0, 0, 0)),
  (32, ([], .iinc 3 1, 3, 3, 0, 0, 1)),
  (35, ([], .goto (-31), 3, 4, 0, 0, 0)),
  (38, ([], .iload_n 2, 1, 2, 0, 0, 0)),
  (39, ([], .ireturn, 1, 0, 0, 0, 0))]
noncomputable def E_X7_isOrdered : Kt := exL SKc SKn SKr CS (lkp T_X7_isOrdered) [] [] []
noncomputable def F_X7_isOrdered : Fn := fun as h => E_X7_isOrdered 0 (pad 4 as) [] h
noncomputable def f_X7_isOrdered_4 (x1 : Int32) (x2 : Int32) (x3 : Int32) (h : Hp) : Res := E_X7_isOrdered 4 [.ref 227, .int x1, .int x2, .int x3] [] h
noncomputable def f_X7_isOrdered_26 (x1 : Int32) (x3 : Int32) (h : Hp) : Res := E_X7_isOrdered 26 [.ref 227, .int x1, .retAddr 0, .int x3] [] h
noncomputable def f_X7_isOrdered_31 (x1 : Int32) (x3 : Int32) (s0 : Int32) (h : Hp) : Res := E_X7_isOrdered 31 [.ref 227, .int x1, .retAddr 0, .int x3] [.int s0] h
set_option maxRecDepth 100000 in
set_option maxHeartbeats 4000000 in
theorem e_X7_isOrdered_0 (x1 : Int32) (h : Hp) : F_X7_isOrdered [.ref 227, .int x1] h = f_X7_isOrdered_4 x1 0 0 h :=
  (exL_it SKc SKn SKr CS (lkp T_X7_isOrdered) [] [] [] [4, 26, 31] 4 0 [.ref 227, .int x1, .retAddr 0, .retAddr 0] [] h).trans rfl
set_option maxRecDepth 100000 in
set_option maxHeartbeats 4000000 in
theorem e_X7_isOrdered_4 (x1 : Int32) (x2 : Int32) (x3 : Int32) (h : Hp) : f_X7_isOrdered_4 x1 x2 x3 h = if x3 < (rd h 227 52) then if x2 = 0 then gd (inb x3 60) (if (rd h 274 x3.toNatClampNeg) = x1 then f_X7_isOrdered_26 x1 x3 h else f_X7_isOrdered_31 x1 x3 0 h) else f_X7_isOrdered_26 x1 x3 h else rtn (some (.int x2)) h :=
  (exL_it SKc SKn SKr CS (lkp T_X7_isOrdered) [] [] [] [4, 26, 31] 13 4 [.ref 227, .int x1, .int x2, .int x3] [] h).trans rfl
set_option maxRecDepth 100000 in
set_option maxHeartbeats 4000000 in
theorem e_X7_isOrdered_26 (x1 : Int32) (x3 : Int32) (h : Hp) : f_X7_isOrdered_26 x1 x3 h = f_X7_isOrdered_31 x1 x3 1 h :=
  (exL_it SKc SKn SKr CS (lkp T_X7_isOrdered) [] [] [] [4, 26, 31] 2 26 [.ref 227, .int x1, .retAddr 0, .int x3] [] h).trans rfl
set_option maxRecDepth 100000 in
set_option maxHeartbeats 4000000 in
theorem e_X7_isOrdered_31 (x1 : Int32) (x3 : Int32) (s0 : Int32) (h : Hp) : f_X7_isOrdered_31 x1 x3 s0 h = f_X7_isOrdered_4 x1 s0 (x3 + 1) h :=
  (exL_it SKc SKn SKr CS (lkp T_X7_isOrdered) [] [] [] [4, 26, 31] 3 31 [.ref 227, .int x1, .retAddr 0, .int x3] [.int s0] h).trans rfl

def T_X7_firstOf : List (Nat × Ent) := [(0, ([], .iconst (-1), 1, 0, 0, 0, (-1))),
  (1, ([], .istore_n 2, 1, 2, 0, 0, 0)),
  (2, ([], .iconst 0, 1, 0, 0, 0, 0)),
  (3, ([], .istore_n 3, 1, 3, 0, 0, 0)),
  (4, ([false, false, false, false, true], .iload_n 3, 1, 3, 0, 0, 0)),
  (5, ([], .aload_n 0, 1, 0, 0, 0, 0)),
  (6, ([], .getfield 164, 3, 20, 2, 0, 0)),
  (9, ([], .if_icmp .ge 68, 3, 77, 0, 0, 0)),
  (12, ([], .aload_n 0, 1, 0, 0, 0, 0)),
  (13, ([], .getfield 88, 3, 30, 3, 0, 0)),
  (16, ([], .iload_n 3, 1, 3, 0, 0, 0)),
  (17, ([], .iaload, 1, 0, 0, 0, 0)),
  (18, ([], .ifCond .ne 25, 3, 43, 0, 0, 0)),
  (21, ([], .aload_n 0, 1, 0, 0, 0, 0)),
  (22, ([], .getfield 91, 3, 31, 3, 0, 0)),
  (25, ([], .iload_n 3, 1, 3, 0, 0, 0)),
  (26, ([], .iaload, 1, 0, 0, 0, 0)),
  (27, ([], .iload_n 1, 1, 1, 0, 0, 0)),
  (28, ([], .if_icmp .ne 15, 3, 43, 0, 0, 0)),
  (31, ([], .aload_n 0, 1, 0, 0, 0, 0)),
  (32, ([], .iload_n 3, 1, 3, 0, 0, 0)),
  (33, ([], .invokevirtual 220, 3, 0, 9, 0, 0)),
  (36, ([], .ifCond .ne 7, 3, 43, 0, 0, 0)),
  (39, ([], .iconst 1, 1, 0, 0, 0, 1)),
  (40, ([], .goto 4, 3, 44, 0, 0, 0)),
  (43, ([false, false, false, false, true], .iconst 0, 1, 0, 0, 0, 0)),
  (44, ([false, false, false, false, true], .istore 4, 2, 4, 0, 0, 0)),
  (46, ([], .iload 4, 2, 4, 0, 0, 0)),
  (48, ([], .ifCond .eq 21, 3, 69, 0, 0, 0)),
  (51, ([], .iload_n 2, 1, 2, 0, 0, 0)),
  (52, ([], .iconst (-1), 1, 0, 0, 0, (-1))),
  (53, ([], .if_icmp .eq 12, 3, 65, 0, 0, 0)),
  (56, ([], .aload_n 0, 1, 0, 0, 0, 0)),
  (57, ([], .iload_n 3, 1, 3, 0, 0, 0)),
  (58, ([], .iload_n 2, 1, 2, 0, 0, 0)),
  (59, ([], .invokevirtual 223, 3, 1, 13, 0, 0)),
  (62, ([], .ifCond .eq 7, 3, 69, 0, 0, 0)),
  (65, ([false, false, true, false, true], .iload_n 3, 1, 3, 0, 0, 0)),
  (66, ([], .goto 4, 3, 70, 0, 0, 0)),
  (69, ([false, false, false, false, true], .iload_n 2, 1, 2, 0, 0, 0)),
  (70, ([false, false, true, false, true], .istore_n 2, 1, 2, 0, 0, 0)),
  (71, ([], .iinc 3 1, 3, 3, 0, 0, 1)),
  (74, ([], .goto (-70), 3, 4, 0, 0, 0)),
  (77, ([], .iload_n 2, 1, 2, 0, 0, 0)),
  (78, ([], .ireturn, 1, 0, 0, 0, 0))]
noncomputable def E_X7_firstOf : Kt := exL SKc SKn SKr CS (lkp T_X7_firstOf) [F_X7_isOrdered, F_X7_isAhead] [] []
noncomputable def F_X7_firstOf : Fn := fun as h => E_X7_firstOf 0 (pad 5 as) [] h
noncomputable def f_X7_firstOf_4 (x1 : Int32) (x2 : Int32) (x3 : Int32) (h : Hp) : Res := E_X7_firstOf 4 [.ref 227, .int x1, .int x2, .int x3, .retAddr 0] [] h
noncomputable def f_X7_firstOf_43 (x1 : Int32) (x2 : Int32) (x3 : Int32) (h : Hp) : Res := E_X7_firstOf 43 [.ref 227, .int x1, .int x2, .int x3, .retAddr 0] [] h
noncomputable def f_X7_firstOf_44 (x1 : Int32) (x2 : Int32) (x3 : Int32) (s0 : Int32) (h : Hp) : Res := E_X7_firstOf 44 [.ref 227, .int x1, .int x2, .int x3, .retAddr 0] [.int s0] h
noncomputable def f_X7_firstOf_65 (x1 : Int32) (x3 : Int32) (h : Hp) : Res := E_X7_firstOf 65 [.ref 227, .int x1, .retAddr 0, .int x3, .retAddr 0] [] h
noncomputable def f_X7_firstOf_69 (x1 : Int32) (x2 : Int32) (x3 : Int32) (h : Hp) : Res := E_X7_firstOf 69 [.ref 227, .int x1, .int x2, .int x3, .retAddr 0] [] h
noncomputable def f_X7_firstOf_70 (x1 : Int32) (x3 : Int32) (s0 : Int32) (h : Hp) : Res := E_X7_firstOf 70 [.ref 227, .int x1, .retAddr 0, .int x3, .retAddr 0] [.int s0] h
set_option maxRecDepth 100000 in
set_option maxHeartbeats 4000000 in
theorem e_X7_firstOf_0 (x1 : Int32) (h : Hp) : F_X7_firstOf [.ref 227, .int x1] h = f_X7_firstOf_4 x1 (-1) 0 h :=
  (exL_it SKc SKn SKr CS (lkp T_X7_firstOf) [F_X7_isOrdered, F_X7_isAhead] [] [] [4, 43, 44, 65, 69, 70] 4 0 [.ref 227, .int x1, .retAddr 0, .retAddr 0, .retAddr 0] [] h).trans rfl
set_option maxRecDepth 100000 in
set_option maxHeartbeats 4000000 in
theorem e_X7_firstOf_4 (x1 : Int32) (x2 : Int32) (x3 : Int32) (h : Hp) : f_X7_firstOf_4 x1 x2 x3 h = if x3 < (rd h 227 20) then gd (inb x3 60) (if (rd h 254 x3.toNatClampNeg) = 0 then gd (inb x3 60) (if (rd h 255 x3.toNatClampNeg) = x1 then bI (F_X7_isOrdered [.ref 227, .int x3] h) (fun v2 h1 => if v2 = 0 then f_X7_firstOf_44 x1 x2 x3 1 h1 else f_X7_firstOf_43 x1 x2 x3 h1) (hnk []) else f_X7_firstOf_43 x1 x2 x3 h) else f_X7_firstOf_43 x1 x2 x3 h) else rtn (some (.int x2)) h :=
  (exL_it SKc SKn SKr CS (lkp T_X7_firstOf) [F_X7_isOrdered, F_X7_isAhead] [] [] [4, 43, 44, 65, 69, 70] 21 4 [.ref 227, .int x1, .int x2, .int x3, .retAddr 0] [] h).trans rfl
set_option maxRecDepth 100000 in
set_option maxHeartbeats 4000000 in
theorem e_X7_firstOf_43 (x1 : Int32) (x2 : Int32) (x3 : Int32) (h : Hp) : f_X7_firstOf_43 x1 x2 x3 h = f_X7_firstOf_44 x1 x2 x3 0 h :=
  (exL_it SKc SKn SKr CS (lkp T_X7_firstOf) [F_X7_isOrdered, F_X7_isAhead] [] [] [4, 43, 44, 65, 69, 70] 1 43 [.ref 227, .int x1, .int x2, .int x3, .retAddr 0] [] h).trans rfl
set_option maxRecDepth 100000 in
set_option maxHeartbeats 4000000 in
theorem e_X7_firstOf_44 (x1 : Int32) (x2 : Int32) (x3 : Int32) (s0 : Int32) (h : Hp) : f_X7_firstOf_44 x1 x2 x3 s0 h = if s0 = 0 then f_X7_firstOf_69 x1 x2 x3 h else if x2 = (-1) then f_X7_firstOf_65 x1 x3 h else bI (F_X7_isAhead [.ref 227, .int x3, .int x2] h) (fun v2 h1 => if v2 = 0 then f_X7_firstOf_69 x1 x2 x3 h1 else f_X7_firstOf_65 x1 x3 h1) (hnk []) :=
  (exL_it SKc SKn SKr CS (lkp T_X7_firstOf) [F_X7_isOrdered, F_X7_isAhead] [] [] [4, 43, 44, 65, 69, 70] 11 44 [.ref 227, .int x1, .int x2, .int x3, .retAddr 0] [.int s0] h).trans rfl
set_option maxRecDepth 100000 in
set_option maxHeartbeats 4000000 in
theorem e_X7_firstOf_65 (x1 : Int32) (x3 : Int32) (h : Hp) : f_X7_firstOf_65 x1 x3 h = f_X7_firstOf_70 x1 x3 x3 h :=
  (exL_it SKc SKn SKr CS (lkp T_X7_firstOf) [F_X7_isOrdered, F_X7_isAhead] [] [] [4, 43, 44, 65, 69, 70] 2 65 [.ref 227, .int x1, .retAddr 0, .int x3, .retAddr 0] [] h).trans rfl
set_option maxRecDepth 100000 in
set_option maxHeartbeats 4000000 in
theorem e_X7_firstOf_69 (x1 : Int32) (x2 : Int32) (x3 : Int32) (h : Hp) : f_X7_firstOf_69 x1 x2 x3 h = f_X7_firstOf_70 x1 x3 x2 h :=
  (exL_it SKc SKn SKr CS (lkp T_X7_firstOf) [F_X7_isOrdered, F_X7_isAhead] [] [] [4, 43, 44, 65, 69, 70] 1 69 [.ref 227, .int x1, .int x2, .int x3, .retAddr 0] [] h).trans rfl
set_option maxRecDepth 100000 in
set_option maxHeartbeats 4000000 in
theorem e_X7_firstOf_70 (x1 : Int32) (x3 : Int32) (s0 : Int32) (h : Hp) : f_X7_firstOf_70 x1 x3 s0 h = f_X7_firstOf_4 x1 s0 (x3 + 1) h :=
  (exL_it SKc SKn SKr CS (lkp T_X7_firstOf) [F_X7_isOrdered, F_X7_isAhead] [] [] [4, 43, 44, 65, 69, 70] 3 70 [.ref 227, .int x1, .retAddr 0, .int x3, .retAddr 0] [.int s0] h).trans rfl

def T_X7_orders : List (Nat × Ent) := [(0, ([], .aload_n 0, 1, 0, 0, 0, 0)),
  (1, ([], .iload_n 1, 1, 1, 0, 0, 0)),
  (2, ([], .invokevirtual 229, 3, 0, 9, 0, 0)),
  (5, ([], .istore_n 2, 1, 2, 0, 0, 0)),
  (6, ([], .iload_n 2, 1, 2, 0, 0, 0)),
  (7, ([], .iconst (-1), 1, 0, 0, 0, (-1))),
  (8, ([], .if_icmp .eq 23, 3, 31, 0, 0, 0)),
  (11, ([], .aload_n 0, 1, 0, 0, 0, 0)),
  (12, ([], .getfield 149, 3, 53, 3, 0, 0)),
  (15, ([], .aload_n 0, 1, 0, 0, 0, 0)),
  (16, ([], .getfield 226, 3, 52, 2, 0, 0)),
  (19, ([], .iload_n 2, 1, 2, 0, 0, 0)),
  (20, ([], .iastore, 1, 0, 0, 0, 0)),
  (21, ([], .aload_n 0, 1, 0, 0, 0, 0)),
  (22, ([], .dup, 1, 0, 0, 0, 0)),
  (23, ([], .getfield 226, 3, 52, 2, 0, 0)),
  (26, ([], .iconst 1, 1, 0, 0, 0, 1)),
  (27, ([], .iadd, 1, 0, 0, 0, 0)),
  (28, ([], .putfield 226, 3, 52, 2, 0, 0)),
  (31, ([true, true, false], .iload_n 2, 1, 2, 0, 0, 0)),
  (32, ([], .iconst (-1), 1, 0, 0, 0, (-1))),
  (33, ([], .if_icmp .eq 7, 3, 40, 0, 0, 0)),
  (36, ([], .iconst 1, 1, 0, 0, 0, 1)),
  (37, ([], .goto 4, 3, 41, 0, 0, 0)),
  (40, ([], .iconst 0, 1, 0, 0, 0, 0)),
  (41, ([], .ireturn, 1, 0, 0, 0, 0))]
noncomputable def E_X7_orders : Kt := exL SKc SKn SKr CS (lkp T_X7_orders) [F_X7_firstOf] [] []
noncomputable def F_X7_orders : Fn := fun as h => E_X7_orders 0 (pad 3 as) [] h
noncomputable def f_X7_orders_31 (x2 : Int32) (h : Hp) : Res := E_X7_orders 31 [.retAddr 0, .retAddr 0, .int x2] [] h
set_option maxRecDepth 100000 in
set_option maxHeartbeats 4000000 in
theorem e_X7_orders_0 (x1 : Int32) (h : Hp) : F_X7_orders [.ref 227, .int x1] h = bI (F_X7_firstOf [.ref 227, .int x1] h) (fun v2 h1 => if v2 = (-1) then f_X7_orders_31 v2 h1 else gd (inb (rd h1 227 52) 60) (f_X7_orders_31 v2 (wr (wr h1 274 ((rd h1 227 52).toNatClampNeg) v2) 227 52 ((rd h1 227 52) + 1)))) (hnk []) :=
  (exL_it SKc SKn SKr CS (lkp T_X7_orders) [F_X7_firstOf] [] [] [31] 19 0 [.ref 227, .int x1, .retAddr 0] [] h).trans rfl
set_option maxRecDepth 100000 in
set_option maxHeartbeats 4000000 in
theorem e_X7_orders_31 (x2 : Int32) (h : Hp) : f_X7_orders_31 x2 h = if x2 = (-1) then rtn (some (.int 0)) h else rtn (some (.int 1)) h :=
  (exL_it SKc SKn SKr CS (lkp T_X7_orders) [F_X7_firstOf] [] [] [31] 6 31 [.retAddr 0, .retAddr 0, .int x2] [] h).trans rfl

def T_X7_sorts : List (Nat × Ent) := [(0, ([], .iconst 0, 1, 0, 0, 0, 0)),
  (1, ([], .istore_n 1, 1, 1, 0, 0, 0)),
  (2, ([false, false, true], .iload_n 1, 1, 1, 0, 0, 0)),
  (3, ([], .aload_n 0, 1, 0, 0, 0, 0)),
  (4, ([], .getfield 164, 3, 20, 2, 0, 0)),
  (7, ([], .if_icmp .ge 38, 3, 45, 0, 0, 0)),
  (10, ([], .aload_n 0, 1, 0, 0, 0, 0)),
  (11, ([], .getfield 91, 3, 31, 3, 0, 0)),
  (14, ([], .iload_n 1, 1, 1, 0, 0, 0)),
  (15, ([], .aload_n 0, 1, 0, 0, 0, 0)),
  (16, ([], .getfield 88, 3, 30, 3, 0, 0)),
  (19, ([], .iload_n 1, 1, 1, 0, 0, 0)),
  (20, ([], .iaload, 1, 0, 0, 0, 0)),
  (21, ([], .ifCond .ne 11, 3, 32, 0, 0, 0)),
  (24, ([], .aload_n 0, 1, 0, 0, 0, 0)),
  (25, ([], .iload_n 1, 1, 1, 0, 0, 0)),
  (26, ([], .invokevirtual 232, 3, 0, 9, 0, 0)),
  (29, ([], .goto 9, 3, 38, 0, 0, 0)),
  (32, ([], .aload_n 0, 1, 0, 0, 0, 0)),
  (33, ([], .getfield 91, 3, 31, 3, 0, 0)),
  (36, ([], .iload_n 1, 1, 1, 0, 0, 0)),
  (37, ([], .iaload, 1, 0, 0, 0, 0)),
  (38, ([false, false, true], .iastore, 1, 0, 0, 0, 0)),
  (39, ([], .iinc 1 1, 3, 1, 0, 0, 1)),
  (42, ([], .goto (-40), 3, 2, 0, 0, 0)),
  (45, ([], .aload_n 0, 1, 0, 0, 0, 0)),
  (46, ([], .iconst 0, 1, 0, 0, 0, 0)),
  (47, ([], .putfield 226, 3, 52, 2, 0, 0)),
  (50, ([], .iconst 0, 1, 0, 0, 0, 0)),
  (51, ([], .istore_n 1, 1, 1, 0, 0, 0)),
  (52, ([false, false, true], .iload_n 1, 1, 1, 0, 0, 0)),
  (53, ([], .iconst 1, 1, 0, 0, 0, 1)),
  (54, ([], .if_icmp .gt 24, 3, 78, 0, 0, 0)),
  (57, ([], .iconst 1, 1, 0, 0, 0, 1)),
  (58, ([], .istore_n 2, 1, 2, 0, 0, 0)),
  (59, ([false, false, false], .iload_n 2, 1, 2, 0, 0, 0)),
  (60, ([], .ifCond .eq 12, 3, 72, 0, 0, 0)),
  (63, ([], .aload_n 0, 1, 0, 0, 0, 0)),
  (64, ([], .iload_n 1, 1, 1, 0, 0, 0)),
  (65, ([], .invokevirtual 235, 3, 1, 9, 0, 0)),
  (68, ([], .istore_n 2, 1, 2, 0, 0, 0)),
  (69, ([], .goto (-10), 3, 59, 0, 0, 0)),
  (72, ([], .iinc 1 1, 3, 1, 0, 0, 1)),
  (75, ([], .goto (-23), 3, 52, 0, 0, 0)),
  (78, ([], .iconst 1, 1, 0, 0, 0, 1)),
  (79, ([], .istore_n 1, 1, 1, 0, 0, 0)),
  (80, ([false, false, true], .iload_n 1, 1, 1, 0, 0, 0)),
  (81, ([], .ifCond .eq 30, 3, 111, 0, 0, 0)),
  (84, ([], .aload_n 0, 1, 0, 0, 0, 0)),
  (85, ([], .iconst 2, 1, 0, 0, 0, 2)),
  (86, ([], .invokevirtual 235, 3, 1, 9, 0, 0)),
  (89, ([], .istore_n 2, 1, 2, 0, 0, 0)),
  (90, ([], .aload_n 0, 1, 0, 0, 0, 0)),
  (91, ([], .iconst 3, 1, 0, 0, 0, 3)),
  (92, ([], .invokevirtual 235, 3, 1, 9, 0, 0)),
  (95, ([], .ifCond .ne 7, 3, 102, 0, 0, 0)),
  (98, ([], .iload_n 2, 1, 2, 0, 0, 0)),
  (99, ([], .ifCond .eq 7, 3, 106, 0, 0, 0)),
  (102, ([false, true, true], .iconst 1, 1, 0, 0, 0, 1)),
  (103, ([], .goto 4, 3, 107, 0, 0, 0)),
  (106, ([], .iconst 0, 1, 0, 0, 0, 0)),
  (107, ([false, true, true], .istore_n 1, 1, 1, 0, 0, 0)),
  (108, ([], .goto (-28), 3, 80, 0, 0, 0)),
  (111, ([], .return_, 1, 0, 0, 0, 0))]
noncomputable def E_X7_sorts : Kt := exL SKc SKn SKr CS (lkp T_X7_sorts) [F_X7_sortOf, F_X7_orders] [] []
noncomputable def F_X7_sorts : Fn := fun as h => E_X7_sorts 0 (pad 3 as) [] h
noncomputable def f_X7_sorts_2 (x1 : Int32) (h : Hp) : Res := E_X7_sorts 2 [.ref 227, .int x1, .retAddr 0] [] h
noncomputable def f_X7_sorts_38 (x1 : Int32) (s0 : Int32) (s1 : Int32) (h : Hp) : Res := E_X7_sorts 38 [.ref 227, .int x1, .retAddr 0] [.int s0, .int s1, .ref 255] h
noncomputable def f_X7_sorts_52 (x1 : Int32) (h : Hp) : Res := E_X7_sorts 52 [.ref 227, .int x1, .retAddr 0] [] h
noncomputable def f_X7_sorts_59 (x1 : Int32) (x2 : Int32) (h : Hp) : Res := E_X7_sorts 59 [.ref 227, .int x1, .int x2] [] h
noncomputable def f_X7_sorts_80 (x1 : Int32) (h : Hp) : Res := E_X7_sorts 80 [.ref 227, .int x1, .retAddr 0] [] h
noncomputable def f_X7_sorts_102 (h : Hp) : Res := E_X7_sorts 102 [.ref 227, .retAddr 0, .retAddr 0] [] h
noncomputable def f_X7_sorts_107 (s0 : Int32) (h : Hp) : Res := E_X7_sorts 107 [.ref 227, .retAddr 0, .retAddr 0] [.int s0] h
set_option maxRecDepth 100000 in
set_option maxHeartbeats 4000000 in
theorem e_X7_sorts_0 (h : Hp) : F_X7_sorts [.ref 227] h = f_X7_sorts_2 0 h :=
  (exL_it SKc SKn SKr CS (lkp T_X7_sorts) [F_X7_sortOf, F_X7_orders] [] [] [2, 38, 52, 59, 80, 102, 107] 2 0 [.ref 227, .retAddr 0, .retAddr 0] [] h).trans rfl
set_option maxRecDepth 100000 in
set_option maxHeartbeats 4000000 in
theorem e_X7_sorts_2 (x1 : Int32) (h : Hp) : f_X7_sorts_2 x1 h = if x1 < (rd h 227 20) then gd (inb x1 60) (if (rd h 254 x1.toNatClampNeg) = 0 then bI (F_X7_sortOf [.ref 227, .int x1] h) (fun v2 h1 => f_X7_sorts_38 x1 v2 x1 h1) (hnk []) else gd (inb x1 60) (f_X7_sorts_38 x1 (rd h 255 x1.toNatClampNeg) x1 h)) else f_X7_sorts_52 0 (wr h 227 52 0) :=
  (exL_it SKc SKn SKr CS (lkp T_X7_sorts) [F_X7_sortOf, F_X7_orders] [] [] [2, 38, 52, 59, 80, 102, 107] 16 2 [.ref 227, .int x1, .retAddr 0] [] h).trans rfl
set_option maxRecDepth 100000 in
set_option maxHeartbeats 4000000 in
theorem e_X7_sorts_38 (x1 : Int32) (s0 : Int32) (s1 : Int32) (h : Hp) : f_X7_sorts_38 x1 s0 s1 h = gd (inb s1 60) (f_X7_sorts_2 (x1 + 1) (wr h 255 s1.toNatClampNeg s0)) :=
  (exL_it SKc SKn SKr CS (lkp T_X7_sorts) [F_X7_sortOf, F_X7_orders] [] [] [2, 38, 52, 59, 80, 102, 107] 3 38 [.ref 227, .int x1, .retAddr 0] [.int s0, .int s1, .ref 255] h).trans rfl
set_option maxRecDepth 100000 in
set_option maxHeartbeats 4000000 in
theorem e_X7_sorts_52 (x1 : Int32) (h : Hp) : f_X7_sorts_52 x1 h = if 1 < x1 then f_X7_sorts_80 1 h else f_X7_sorts_59 x1 1 h :=
  (exL_it SKc SKn SKr CS (lkp T_X7_sorts) [F_X7_sortOf, F_X7_orders] [] [] [2, 38, 52, 59, 80, 102, 107] 5 52 [.ref 227, .int x1, .retAddr 0] [] h).trans rfl
set_option maxRecDepth 100000 in
set_option maxHeartbeats 4000000 in
theorem e_X7_sorts_59 (x1 : Int32) (x2 : Int32) (h : Hp) : f_X7_sorts_59 x1 x2 h = if x2 = 0 then f_X7_sorts_52 (x1 + 1) h else bI (F_X7_orders [.ref 227, .int x1] h) (fun v2 h1 => f_X7_sorts_59 x1 v2 h1) (hnk []) :=
  (exL_it SKc SKn SKr CS (lkp T_X7_sorts) [F_X7_sortOf, F_X7_orders] [] [] [2, 38, 52, 59, 80, 102, 107] 7 59 [.ref 227, .int x1, .int x2] [] h).trans rfl
set_option maxRecDepth 100000 in
set_option maxHeartbeats 4000000 in
theorem e_X7_sorts_80 (x1 : Int32) (h : Hp) : f_X7_sorts_80 x1 h = if x1 = 0 then rtn none h else bI (F_X7_orders [.ref 227, .int 2] h) (fun v2 h1 => bI (F_X7_orders [.ref 227, .int 3] h1) (fun v4 h3 => if v4 = 0 then if v2 = 0 then f_X7_sorts_107 0 h3 else f_X7_sorts_102 h3 else f_X7_sorts_102 h3) (hnk [])) (hnk []) :=
  (exL_it SKc SKn SKr CS (lkp T_X7_sorts) [F_X7_sortOf, F_X7_orders] [] [] [2, 38, 52, 59, 80, 102, 107] 13 80 [.ref 227, .int x1, .retAddr 0] [] h).trans rfl
set_option maxRecDepth 100000 in
set_option maxHeartbeats 4000000 in
theorem e_X7_sorts_102 (h : Hp) : f_X7_sorts_102 h = f_X7_sorts_107 1 h :=
  (exL_it SKc SKn SKr CS (lkp T_X7_sorts) [F_X7_sortOf, F_X7_orders] [] [] [2, 38, 52, 59, 80, 102, 107] 2 102 [.ref 227, .retAddr 0, .retAddr 0] [] h).trans rfl
set_option maxRecDepth 100000 in
set_option maxHeartbeats 4000000 in
theorem e_X7_sorts_107 (s0 : Int32) (h : Hp) : f_X7_sorts_107 s0 h = f_X7_sorts_80 s0 h :=
  (exL_it SKc SKn SKr CS (lkp T_X7_sorts) [F_X7_sortOf, F_X7_orders] [] [] [2, 38, 52, 59, 80, 102, 107] 2 107 [.ref 227, .retAddr 0, .retAddr 0] [.int s0] h).trans rfl

def T_X7_looksAtBoth : List (Nat × Ent) := [(0, ([], .aload_n 0, 1, 0, 0, 0, 0)),
  (1, ([], .iload_n 1, 1, 1, 0, 0, 0)),
  (2, ([], .aload_n 0, 1, 0, 0, 0, 0)),
  (3, ([], .getfield 73, 3, 25, 3, 0, 0)),
  (6, ([], .iload_n 1, 1, 1, 0, 0, 0)),
  (7, ([], .iaload, 1, 0, 0, 0, 0)),
  (8, ([], .invokevirtual 238, 3, 0, 13, 0, 0)),
  (11, ([], .ifCond .ne 7, 3, 18, 0, 0, 0)),
  (14, ([], .iconst 1, 1, 0, 0, 0, 1)),
  (15, ([], .goto 4, 3, 19, 0, 0, 0)),
  (18, ([], .iconst 0, 1, 0, 0, 0, 0)),
  (19, ([false, false, false, true], .istore_n 3, 1, 3, 0, 0, 0)),
  (20, ([], .iload_n 3, 1, 3, 0, 0, 0)),
  (21, ([], .ifCond .eq 52, 3, 73, 0, 0, 0)),
  (24, ([], .aload_n 0, 1, 0, 0, 0, 0)),
  (25, ([], .iload_n 1, 1, 1, 0, 0, 0)),
  (26, ([], .aload_n 0, 1, 0, 0, 0, 0)),
  (27, ([], .getfield 73, 3, 25, 3, 0, 0)),
  (30, ([], .iload_n 1, 1, 1, 0, 0, 0)),
  (31, ([], .iaload, 1, 0, 0, 0, 0)),
  (32, ([], .invokevirtual 242, 3, 1, 12, 0, 0)),
  (35, ([], .aload_n 0, 1, 0, 0, 0, 0)),
  (36, ([], .iload_n 2, 1, 2, 0, 0, 0)),
  (37, ([], .aload_n 0, 1, 0, 0, 0, 0)),
  (38, ([], .getfield 73, 3, 25, 3, 0, 0)),
  (41, ([], .iload_n 2, 1, 2, 0, 0, 0)),
  (42, ([], .iaload, 1, 0, 0, 0, 0)),
  (43, ([], .invokevirtual 238, 3, 0, 13, 0, 0)),
  (46, ([], .ifCond .ne 7, 3, 53, 0, 0, 0)),
  (49, ([], .iconst 1, 1, 0, 0, 0, 1)),
  (50, ([], .goto 4, 3, 54, 0, 0, 0)),
  (53, ([], .iconst 0, 1, 0, 0, 0, 0)),
  (54, ([false, false, false, true], .istore_n 3, 1, 3, 0, 0, 0)),
  (55, ([], .aload_n 0, 1, 0, 0, 0, 0)),
  (56, ([], .dup, 1, 0, 0, 0, 0)),
  (57, ([], .getfield 167, 3, 37, 2, 0, 0)),
  (60, ([], .iload_n 3, 1, 3, 0, 0, 0)),
  (61, ([], .ifCond .eq 7, 3, 68, 0, 0, 0)),
  (64, ([], .iconst 0, 1, 0, 0, 0, 0)),
  (65, ([], .goto 4, 3, 69, 0, 0, 0)),
  (68, ([], .iconst 1, 1, 0, 0, 0, 1)),
  (69, ([false, false, false, false], .isub, 1, 0, 0, 0, 0)),
  (70, ([], .putfield 167, 3, 37, 2, 0, 0)),
  (73, ([false, false, false, false], .iload_n 3, 1, 3, 0, 0, 0)),
  (74, ([], .ifCond .eq 15, 3, 89, 0, 0, 0)),
  (77, ([], .aload_n 0, 1, 0, 0, 0, 0)),
  (78, ([], .iload_n 2, 1, 2, 0, 0, 0)),
  (79, ([], .aload_n 0, 1, 0, 0, 0, 0)),
  (80, ([], .getfield 73, 3, 25, 3, 0, 0)),
  (83, ([], .iload_n 2, 1, 2, 0, 0, 0)),
  (84, ([], .iaload, 1, 0, 0, 0, 0)),
  (85, ([], .invokevirtual 242, 3, 1, 12, 0, 0)),
  (88, ([], .return_, 1, 0, 0, 0, 0)),
  (89, ([], .aload_n 0, 1, 0, 0, 0, 0)),
  (90, ([], .getfield 94, 3, 32, 3, 0, 0)),
  (93, ([], .iload_n 1, 1, 1, 0, 0, 0)),
  (94, ([], .iconst (-1), 1, 0, 0, 0, (-1))),
  (95, ([], .iastore, 1, 0, 0, 0, 0)),
  (96, ([], .aload_n 0, 1, 0, 0, 0, 0)),
  (97, ([], .iload_n 1, 1, 1, 0, 0, 0)),
  (98, ([], .iconst 3, 1, 0, 0, 0, 3)),
  (99, ([], .invokevirtual 246, 3, 2, 12, 0, 0)),
  (102, ([], .aload_n 0, 1, 0, 0, 0, 0)),
  (103, ([], .iload_n 2, 1, 2, 0, 0, 0)),
  (104, ([], .iconst 3, 1, 0, 0, 0, 3)),
  (105, ([], .invokevirtual 246, 3, 2, 12, 0, 0)),
  (108, ([], .return_, 1, 0, 0, 0, 0))]
noncomputable def E_X7_looksAtBoth : Kt := exL SKc SKn SKr CS (lkp T_X7_looksAtBoth) [F_X7_reason, F_X7_gives, F_X7_waits] [] []
noncomputable def F_X7_looksAtBoth : Fn := fun as h => E_X7_looksAtBoth 0 (pad 4 as) [] h
noncomputable def f_X7_looksAtBoth_19 (x1 : Int32) (x2 : Int32) (s0 : Int32) (h : Hp) : Res := E_X7_looksAtBoth 19 [.ref 227, .int x1, .int x2, .retAddr 0] [.int s0] h
noncomputable def f_X7_looksAtBoth_54 (x1 : Int32) (x2 : Int32) (s0 : Int32) (h : Hp) : Res := E_X7_looksAtBoth 54 [.ref 227, .int x1, .int x2, .retAddr 0] [.int s0] h
noncomputable def f_X7_looksAtBoth_69 (x1 : Int32) (x2 : Int32) (x3 : Int32) (s0 : Int32) (s1 : Int32) (h : Hp) : Res := E_X7_looksAtBoth 69 [.ref 227, .int x1, .int x2, .int x3] [.int s0, .int s1, .ref 227] h
noncomputable def f_X7_looksAtBoth_73 (x1 : Int32) (x2 : Int32) (x3 : Int32) (h : Hp) : Res := E_X7_looksAtBoth 73 [.ref 227, .int x1, .int x2, .int x3] [] h
set_option maxRecDepth 100000 in
set_option maxHeartbeats 4000000 in
theorem e_X7_looksAtBoth_0 (x1 : Int32) (x2 : Int32) (h : Hp) : F_X7_looksAtBoth [.ref 227, .int x1, .int x2] h = gd (inb x1 60) (bI (F_X7_reason [.ref 227, .int x1, .int (rd h 249 x1.toNatClampNeg)] h) (fun v2 h1 => if v2 = 0 then f_X7_looksAtBoth_19 x1 x2 1 h1 else f_X7_looksAtBoth_19 x1 x2 0 h1) (hnk [])) :=
  (exL_it SKc SKn SKr CS (lkp T_X7_looksAtBoth) [F_X7_reason, F_X7_gives, F_X7_waits] [] [] [19, 54, 69, 73] 10 0 [.ref 227, .int x1, .int x2, .retAddr 0] [] h).trans rfl
set_option maxRecDepth 100000 in
set_option maxHeartbeats 4000000 in
theorem e_X7_looksAtBoth_19 (x1 : Int32) (x2 : Int32) (s0 : Int32) (h : Hp) : f_X7_looksAtBoth_19 x1 x2 s0 h = if s0 = 0 then f_X7_looksAtBoth_73 x1 x2 s0 h else gd (inb x1 60) (bV (F_X7_gives [.ref 227, .int x1, .int (rd h 249 x1.toNatClampNeg)] h) (fun h1 => gd (inb x2 60) (bI (F_X7_reason [.ref 227, .int x2, .int (rd h1 249 x2.toNatClampNeg)] h1) (fun v3 h2 => if v3 = 0 then f_X7_looksAtBoth_54 x1 x2 1 h2 else f_X7_looksAtBoth_54 x1 x2 0 h2) (hnk []))) (hnk [])) :=
  (exL_it SKc SKn SKr CS (lkp T_X7_looksAtBoth) [F_X7_reason, F_X7_gives, F_X7_waits] [] [] [19, 54, 69, 73] 20 19 [.ref 227, .int x1, .int x2, .retAddr 0] [.int s0] h).trans rfl
set_option maxRecDepth 100000 in
set_option maxHeartbeats 4000000 in
theorem e_X7_looksAtBoth_54 (x1 : Int32) (x2 : Int32) (s0 : Int32) (h : Hp) : f_X7_looksAtBoth_54 x1 x2 s0 h = if s0 = 0 then f_X7_looksAtBoth_69 x1 x2 s0 1 (rd h 227 37) h else f_X7_looksAtBoth_69 x1 x2 s0 0 (rd h 227 37) h :=
  (exL_it SKc SKn SKr CS (lkp T_X7_looksAtBoth) [F_X7_reason, F_X7_gives, F_X7_waits] [] [] [19, 54, 69, 73] 8 54 [.ref 227, .int x1, .int x2, .retAddr 0] [.int s0] h).trans rfl
set_option maxRecDepth 100000 in
set_option maxHeartbeats 4000000 in
theorem e_X7_looksAtBoth_69 (x1 : Int32) (x2 : Int32) (x3 : Int32) (s0 : Int32) (s1 : Int32) (h : Hp) : f_X7_looksAtBoth_69 x1 x2 x3 s0 s1 h = f_X7_looksAtBoth_73 x1 x2 x3 (wr h 227 37 (s1 - s0)) :=
  (exL_it SKc SKn SKr CS (lkp T_X7_looksAtBoth) [F_X7_reason, F_X7_gives, F_X7_waits] [] [] [19, 54, 69, 73] 2 69 [.ref 227, .int x1, .int x2, .int x3] [.int s0, .int s1, .ref 227] h).trans rfl
set_option maxRecDepth 100000 in
set_option maxHeartbeats 4000000 in
theorem e_X7_looksAtBoth_73 (x1 : Int32) (x2 : Int32) (x3 : Int32) (h : Hp) : f_X7_looksAtBoth_73 x1 x2 x3 h = if x3 = 0 then gd (inb x1 60) (bV (F_X7_waits [.ref 227, .int x1, .int 3] (wr h 256 x1.toNatClampNeg (-1))) (fun h1 => bV (F_X7_waits [.ref 227, .int x2, .int 3] h1) (fun h2 => rtn none h2) (hnk [])) (hnk [])) else gd (inb x2 60) (bV (F_X7_gives [.ref 227, .int x2, .int (rd h 249 x2.toNatClampNeg)] h) (fun h3 => rtn none h3) (hnk [])) :=
  (exL_it SKc SKn SKr CS (lkp T_X7_looksAtBoth) [F_X7_reason, F_X7_gives, F_X7_waits] [] [] [19, 54, 69, 73] 16 73 [.ref 227, .int x1, .int x2, .int x3] [] h).trans rfl

def T_X7_looksAt : List (Nat × Ent) := [(0, ([], .aload_n 0, 1, 0, 0, 0, 0)),
  (1, ([], .getfield 100, 3, 34, 3, 0, 0)),
  (4, ([], .iload_n 1, 1, 1, 0, 0, 0)),
  (5, ([], .iaload, 1, 0, 0, 0, 0)),
  (6, ([], .iconst (-1), 1, 0, 0, 0, (-1))),
  (7, ([], .if_icmp .eq 15, 3, 22, 0, 0, 0)),
  (10, ([], .aload_n 0, 1, 0, 0, 0, 0)),
  (11, ([], .iload_n 1, 1, 1, 0, 0, 0)),
  (12, ([], .aload_n 0, 1, 0, 0, 0, 0)),
  (13, ([], .getfield 100, 3, 34, 3, 0, 0)),
  (16, ([], .iload_n 1, 1, 1, 0, 0, 0)),
  (17, ([], .iaload, 1, 0, 0, 0, 0)),
  (18, ([], .invokevirtual 249, 3, 2, 12, 0, 0)),
  (21, ([], .return_, 1, 0, 0, 0, 0)),
  (22, ([], .aload_n 0, 1, 0, 0, 0, 0)),
  (23, ([], .iload_n 1, 1, 1, 0, 0, 0)),
  (24, ([], .aload_n 0, 1, 0, 0, 0, 0)),
  (25, ([], .getfield 73, 3, 25, 3, 0, 0)),
  (28, ([], .iload_n 1, 1, 1, 0, 0, 0)),
  (29, ([], .iaload, 1, 0, 0, 0, 0)),
  (30, ([], .invokevirtual 238, 3, 0, 13, 0, 0)),
  (33, ([], .ifCond .ne 15, 3, 48, 0, 0, 0)),
  (36, ([], .aload_n 0, 1, 0, 0, 0, 0)),
  (37, ([], .iload_n 1, 1, 1, 0, 0, 0)),
  (38, ([], .aload_n 0, 1, 0, 0, 0, 0)),
  (39, ([], .getfield 73, 3, 25, 3, 0, 0)),
  (42, ([], .iload_n 1, 1, 1, 0, 0, 0)),
  (43, ([], .iaload, 1, 0, 0, 0, 0)),
  (44, ([], .invokevirtual 242, 3, 1, 12, 0, 0)),
  (47, ([], .return_, 1, 0, 0, 0, 0)),
  (48, ([], .iconst 2, 1, 0, 0, 0, 2)),
  (49, ([], .istore_n 2, 1, 2, 0, 0, 0)),
  (50, ([false, false, false, true], .iload_n 2, 1, 2, 0, 0, 0)),
  (51, ([], .bipush 8, 2, 0, 0, 0, 8)),
  (53, ([], .if_icmp .ge 69, 3, 122, 0, 0, 0)),
  (56, ([], .aload_n 0, 1, 0, 0, 0, 0)),
  (57, ([], .getfield 73, 3, 25, 3, 0, 0)),
  (60, ([], .iload_n 1, 1, 1, 0, 0, 0)),
  (61, ([], .iaload, 1, 0, 0, 0, 0)),
  (62, ([], .iload_n 2, 1, 2, 0, 0, 0)),
  (63, ([], .iconst 2, 1, 0, 0, 0, 2)),
  (64, ([], .irem, 1, 0, 0, 0, 0)),
  (65, ([], .ifCond .ne 10, 3, 75, 0, 0, 0)),
  (68, ([], .iload_n 2, 1, 2, 0, 0, 0)),
  (69, ([], .iconst 2, 1, 0, 0, 0, 2)),
  (70, ([], .idiv, 1, 0, 0, 0, 0)),
  (71, ([], .ineg, 1, 0, 0, 0, 0)),
  (72, ([], .goto 6, 3, 78, 0, 0, 0)),
  (75, ([], .iload_n 2, 1, 2, 0, 0, 0)),
  (76, ([], .iconst 2, 1, 0, 0, 0, 2)),
  (77, ([], .idiv, 1, 0, 0, 0, 0)),
  (78, ([false, false, false, true], .iadd, 1, 0, 0, 0, 0)),
  (79, ([], .istore_n 3, 1, 3, 0, 0, 0)),
  (80, ([], .aload_n 0, 1, 0, 0, 0, 0)),
  (81, ([], .getfield 97, 3, 33, 3, 0, 0)),
  (84, ([], .iload_n 1, 1, 1, 0, 0, 0)),
  (85, ([], .iaload, 1, 0, 0, 0, 0)),
  (86, ([], .iconst (-1), 1, 0, 0, 0, (-1))),
  (87, ([], .if_icmp .ne 29, 3, 116, 0, 0, 0)),
  (90, ([], .iload_n 3, 1, 3, 0, 0, 0)),
  (91, ([], .iconst 0, 1, 0, 0, 0, 0)),
  (92, ([], .bipush 71, 2, 0, 0, 0, 71)),
  (94, ([], .invokestatic 156, 3, 4, 13, 0, 0)),
  (97, ([], .ifCond .eq 19, 3, 116, 0, 0, 0)),
  (100, ([], .aload_n 0, 1, 0, 0, 0, 0)),
  (101, ([], .iload_n 1, 1, 1, 0, 0, 0)),
  (102, ([], .iload_n 3, 1, 3, 0, 0, 0)),
  (103, ([], .invokevirtual 238, 3, 0, 13, 0, 0)),
  (106, ([], .ifCond .ne 10, 3, 116, 0, 0, 0)),
  (109, ([], .aload_n 0, 1, 0, 0, 0, 0)),
  (110, ([], .getfield 97, 3, 33, 3, 0, 0)),
  (113, ([], .iload_n 1, 1, 1, 0, 0, 0)),
  (114, ([], .iload_n 3, 1, 3, 0, 0, 0)),
  (115, ([], .iastore, 1, 0, 0, 0, 0)),
  (116, ([false, false, false, true], .iinc 2 1, 3, 2, 0, 0, 1)),
  (119, ([], .goto (-69), 3, 50, 0, 0, 0)),
  (122, ([], .aload_n 0, 1, 0, 0, 0, 0)),
  (123, ([], .iload_n 1, 1, 1, 0, 0, 0)),
  (124, ([], .aload_n 0, 1, 0, 0, 0, 0)),
  (125, ([], .getfield 97, 3, 33, 3, 0, 0)),
  (128, ([], .iload_n 1, 1, 1, 0, 0, 0)),
  (129, ([], .iaload, 1, 0, 0, 0, 0)),
  (130, ([], .iconst (-1), 1, 0, 0, 0, (-1))),
  (131, ([], .if_icmp .ne 7, 3, 138, 0, 0, 0)),
  (134, ([], .iconst 3, 1, 0, 0, 0, 3)),
  (135, ([], .goto 4, 3, 139, 0, 0, 0)),
  (138, ([], .iconst 2, 1, 0, 0, 0, 2)),
  (139, ([true, true, true, true], .invokevirtual 246, 3, 3, 12, 0, 0)),
  (142, ([], .return_, 1, 0, 0, 0, 0))]
noncomputable def E_X7_looksAt : Kt := exL SKc SKn SKr CS (lkp T_X7_looksAt) [F_X7_reason, F_X7_gives, F_X7_looksAtBoth, F_X7_waits, F_X7_isIn] [] []
noncomputable def F_X7_looksAt : Fn := fun as h => E_X7_looksAt 0 (pad 4 as) [] h
noncomputable def f_X7_looksAt_50 (x1 : Int32) (x2 : Int32) (h : Hp) : Res := E_X7_looksAt 50 [.ref 227, .int x1, .int x2, .retAddr 0] [] h
noncomputable def f_X7_looksAt_78 (x1 : Int32) (x2 : Int32) (s0 : Int32) (s1 : Int32) (h : Hp) : Res := E_X7_looksAt 78 [.ref 227, .int x1, .int x2, .retAddr 0] [.int s0, .int s1] h
noncomputable def f_X7_looksAt_116 (x1 : Int32) (x2 : Int32) (h : Hp) : Res := E_X7_looksAt 116 [.ref 227, .int x1, .int x2, .retAddr 0] [] h
noncomputable def f_X7_looksAt_139 (s0 : Int32) (s1 : Int32) (h : Hp) : Res := E_X7_looksAt 139 [.retAddr 0, .retAddr 0, .retAddr 0, .retAddr 0] [.int s0, .int s1, .ref 227] h
set_option maxRecDepth 100000 in
set_option maxHeartbeats 4000000 in
theorem e_X7_looksAt_0 (x1 : Int32) (h : Hp) : F_X7_looksAt [.ref 227, .int x1] h = gd (inb x1 60) (if (rd h 258 x1.toNatClampNeg) = (-1) then gd (inb x1 60) (bI (F_X7_reason [.ref 227, .int x1, .int (rd h 249 x1.toNatClampNeg)] h) (fun v2 h1 => if v2 = 0 then gd (inb x1 60) (bV (F_X7_gives [.ref 227, .int x1, .int (rd h1 249 x1.toNatClampNeg)] h1) (fun h3 => rtn none h3) (hnk [])) else f_X7_looksAt_50 x1 2 h1) (hnk [])) else gd (inb x1 60) (bV (F_X7_looksAtBoth [.ref 227, .int x1, .int (rd h 258 x1.toNatClampNeg)] h) (fun h4 => rtn none h4) (hnk []))) :=
  (exL_it SKc SKn SKr CS (lkp T_X7_looksAt) [F_X7_reason, F_X7_gives, F_X7_looksAtBoth, F_X7_waits, F_X7_isIn] [] [] [50, 78, 116, 139] 22 0 [.ref 227, .int x1, .retAddr 0, .retAddr 0] [] h).trans rfl
set_option maxRecDepth 100000 in
set_option maxHeartbeats 4000000 in
theorem e_X7_looksAt_50 (x1 : Int32) (x2 : Int32) (h : Hp) : f_X7_looksAt_50 x1 x2 h = if x2 < 8 then gd (inb x1 60) (gd (!decide (2 = 0)) (if (x2 - x2 / 2 * 2) = 0 then gd (!decide (2 = 0)) (f_X7_looksAt_78 x1 x2 (-(x2 / 2)) (rd h 249 x1.toNatClampNeg) h) else gd (!decide (2 = 0)) (f_X7_looksAt_78 x1 x2 (x2 / 2) (rd h 249 x1.toNatClampNeg) h))) else gd (inb x1 60) (if (rd h 257 x1.toNatClampNeg) = (-1) then f_X7_looksAt_139 3 x1 h else f_X7_looksAt_139 2 x1 h) :=
  (exL_it SKc SKn SKr CS (lkp T_X7_looksAt) [F_X7_reason, F_X7_gives, F_X7_looksAtBoth, F_X7_waits, F_X7_isIn] [] [] [50, 78, 116, 139] 16 50 [.ref 227, .int x1, .int x2, .retAddr 0] [] h).trans rfl
set_option maxRecDepth 100000 in
set_option maxHeartbeats 4000000 in
theorem e_X7_looksAt_78 (x1 : Int32) (x2 : Int32) (s0 : Int32) (s1 : Int32) (h : Hp) : f_X7_looksAt_78 x1 x2 s0 s1 h = gd (inb x1 60) (if (rd h 257 x1.toNatClampNeg) = (-1) then bI (F_X7_isIn [.int (s1 + s0), .int 0, .int 71] h) (fun v2 h1 => if v2 = 0 then f_X7_looksAt_116 x1 x2 h1 else bI (F_X7_reason [.ref 227, .int x1, .int (s1 + s0)] h1) (fun v4 h3 => if v4 = 0 then gd (inb x1 60) (f_X7_looksAt_116 x1 x2 (wr h3 257 x1.toNatClampNeg (s1 + s0))) else f_X7_looksAt_116 x1 x2 h3) (hnk [])) (hnk []) else f_X7_looksAt_116 x1 x2 h) :=
  (exL_it SKc SKn SKr CS (lkp T_X7_looksAt) [F_X7_reason, F_X7_gives, F_X7_looksAtBoth, F_X7_waits, F_X7_isIn] [] [] [50, 78, 116, 139] 23 78 [.ref 227, .int x1, .int x2, .retAddr 0] [.int s0, .int s1] h).trans rfl
set_option maxRecDepth 100000 in
set_option maxHeartbeats 4000000 in
theorem e_X7_looksAt_116 (x1 : Int32) (x2 : Int32) (h : Hp) : f_X7_looksAt_116 x1 x2 h = f_X7_looksAt_50 x1 (x2 + 1) h :=
  (exL_it SKc SKn SKr CS (lkp T_X7_looksAt) [F_X7_reason, F_X7_gives, F_X7_looksAtBoth, F_X7_waits, F_X7_isIn] [] [] [50, 78, 116, 139] 2 116 [.ref 227, .int x1, .int x2, .retAddr 0] [] h).trans rfl
set_option maxRecDepth 100000 in
set_option maxHeartbeats 4000000 in
theorem e_X7_looksAt_139 (s0 : Int32) (s1 : Int32) (h : Hp) : f_X7_looksAt_139 s0 s1 h = bV (F_X7_waits [.ref 227, .int s1, .int s0] h) (fun h1 => rtn none h1) (hnk []) :=
  (exL_it SKc SKn SKr CS (lkp T_X7_looksAt) [F_X7_reason, F_X7_gives, F_X7_looksAtBoth, F_X7_waits, F_X7_isIn] [] [] [50, 78, 116, 139] 2 139 [.retAddr 0, .retAddr 0, .retAddr 0, .retAddr 0] [.int s0, .int s1, .ref 227] h).trans rfl

def T_X7_countOf : List (Nat × Ent) := [(0, ([], .iconst 0, 1, 0, 0, 0, 0)),
  (1, ([], .istore_n 2, 1, 2, 0, 0, 0)),
  (2, ([], .iconst 0, 1, 0, 0, 0, 0)),
  (3, ([], .istore_n 3, 1, 3, 0, 0, 0)),
  (4, ([false, false, false, false], .iload_n 3, 1, 3, 0, 0, 0)),
  (5, ([], .aload_n 0, 1, 0, 0, 0, 0)),
  (6, ([], .getfield 164, 3, 20, 2, 0, 0)),
  (9, ([], .if_icmp .ge 27, 3, 36, 0, 0, 0)),
  (12, ([], .iload_n 2, 1, 2, 0, 0, 0)),
  (13, ([], .aload_n 0, 1, 0, 0, 0, 0)),
  (14, ([], .getfield 88, 3, 30, 3, 0, 0)),
  (17, ([], .iload_n 3, 1, 3, 0, 0, 0)),
  (18, ([], .iaload, 1, 0, 0, 0, 0)),
  (19, ([], .iload_n 1, 1, 1, 0, 0, 0)),
  (20, ([], .if_icmp .ne 7, 3, 27, 0, 0, 0)),
  (23, ([], .iconst 1, 1, 0, 0, 0, 1)),
  (24, ([], .goto 4, 3, 28, 0, 0, 0)),
  (27, ([], .iconst 0, 1, 0, 0, 0, 0)),
  (28, ([false, false, true, false], .iadd, 1, 0, 0, 0, 0)),
  (29, ([], .istore_n 2, 1, 2, 0, 0, 0)),
  (30, ([], .iinc 3 1, 3, 3, 0, 0, 1)),
  (33, ([], .goto (-29), 3, 4, 0, 0, 0)),
  (36, ([], .iload_n 2, 1, 2, 0, 0, 0)),
  (37, ([], .ireturn, 1, 0, 0, 0, 0))]
noncomputable def E_X7_countOf : Kt := exL SKc SKn SKr CS (lkp T_X7_countOf) [] [] []
noncomputable def F_X7_countOf : Fn := fun as h => E_X7_countOf 0 (pad 4 as) [] h
noncomputable def f_X7_countOf_4 (x1 : Int32) (x2 : Int32) (x3 : Int32) (h : Hp) : Res := E_X7_countOf 4 [.ref 227, .int x1, .int x2, .int x3] [] h
noncomputable def f_X7_countOf_28 (x1 : Int32) (x3 : Int32) (s0 : Int32) (s1 : Int32) (h : Hp) : Res := E_X7_countOf 28 [.ref 227, .int x1, .retAddr 0, .int x3] [.int s0, .int s1] h
set_option maxRecDepth 100000 in
set_option maxHeartbeats 4000000 in
theorem e_X7_countOf_0 (x1 : Int32) (h : Hp) : F_X7_countOf [.ref 227, .int x1] h = f_X7_countOf_4 x1 0 0 h :=
  (exL_it SKc SKn SKr CS (lkp T_X7_countOf) [] [] [] [4, 28] 4 0 [.ref 227, .int x1, .retAddr 0, .retAddr 0] [] h).trans rfl
set_option maxRecDepth 100000 in
set_option maxHeartbeats 4000000 in
theorem e_X7_countOf_4 (x1 : Int32) (x2 : Int32) (x3 : Int32) (h : Hp) : f_X7_countOf_4 x1 x2 x3 h = if x3 < (rd h 227 20) then gd (inb x3 60) (if (rd h 254 x3.toNatClampNeg) = x1 then f_X7_countOf_28 x1 x3 1 x2 h else f_X7_countOf_28 x1 x3 0 x2 h) else rtn (some (.int x2)) h :=
  (exL_it SKc SKn SKr CS (lkp T_X7_countOf) [] [] [] [4, 28] 13 4 [.ref 227, .int x1, .int x2, .int x3] [] h).trans rfl
set_option maxRecDepth 100000 in
set_option maxHeartbeats 4000000 in
theorem e_X7_countOf_28 (x1 : Int32) (x3 : Int32) (s0 : Int32) (s1 : Int32) (h : Hp) : f_X7_countOf_28 x1 x3 s0 s1 h = f_X7_countOf_4 x1 (s1 + s0) (x3 + 1) h :=
  (exL_it SKc SKn SKr CS (lkp T_X7_countOf) [] [] [] [4, 28] 4 28 [.ref 227, .int x1, .retAddr 0, .int x3] [.int s0, .int s1] h).trans rfl

def T_X7_confer : List (Nat × Ent) := [(0, ([], .aload_n 0, 1, 0, 0, 0, 0)),
  (1, ([], .aload_n 0, 1, 0, 0, 0, 0)),
  (2, ([], .iconst 0, 1, 0, 0, 0, 0)),
  (3, ([], .invokevirtual 252, 3, 0, 9, 0, 0)),
  (6, ([], .ifCond .ne 7, 3, 13, 0, 0, 0)),
  (9, ([], .iconst 1, 1, 0, 0, 0, 1)),
  (10, ([], .goto 4, 3, 14, 0, 0, 0)),
  (13, ([], .iconst 0, 1, 0, 0, 0, 0)),
  (14, ([false, true, true], .invokevirtual 170, 3, 1, 9, 0, 0)),
  (17, ([], .ifCond .ne 5, 3, 22, 0, 0, 0)),
  (20, ([], .iconst 0, 1, 0, 0, 0, 0)),
  (21, ([], .ireturn, 1, 0, 0, 0, 0)),
  (22, ([], .aload_n 0, 1, 0, 0, 0, 0)),
  (23, ([], .iconst 1, 1, 0, 0, 0, 1)),
  (24, ([], .invokevirtual 252, 3, 0, 9, 0, 0)),
  (27, ([], .istore_n 1, 1, 1, 0, 0, 0)),
  (28, ([], .aload_n 0, 1, 0, 0, 0, 0)),
  (29, ([], .invokevirtual 255, 3, 2, 4, 0, 0)),
  (32, ([], .iconst 0, 1, 0, 0, 0, 0)),
  (33, ([], .istore_n 2, 1, 2, 0, 0, 0)),
  (34, ([false, false, false], .iload_n 2, 1, 2, 0, 0, 0)),
  (35, ([], .aload_n 0, 1, 0, 0, 0, 0)),
  (36, ([], .getfield 226, 3, 52, 2, 0, 0)),
  (39, ([], .if_icmp .ge 33, 3, 72, 0, 0, 0)),
  (42, ([], .aload_n 0, 1, 0, 0, 0, 0)),
  (43, ([], .getfield 88, 3, 30, 3, 0, 0)),
  (46, ([], .aload_n 0, 1, 0, 0, 0, 0)),
  (47, ([], .getfield 149, 3, 53, 3, 0, 0)),
  (50, ([], .iload_n 2, 1, 2, 0, 0, 0)),
  (51, ([], .iaload, 1, 0, 0, 0, 0)),
  (52, ([], .iaload, 1, 0, 0, 0, 0)),
  (53, ([], .ifCond .ne 13, 3, 66, 0, 0, 0)),
  (56, ([], .aload_n 0, 1, 0, 0, 0, 0)),
  (57, ([], .aload_n 0, 1, 0, 0, 0, 0)),
  (58, ([], .getfield 149, 3, 53, 3, 0, 0)),
  (61, ([], .iload_n 2, 1, 2, 0, 0, 0)),
  (62, ([], .iaload, 1, 0, 0, 0, 0)),
  (63, ([], .invokevirtual 258, 3, 3, 8, 0, 0)),
  (66, ([false, false, false], .iinc 2 1, 3, 2, 0, 0, 1)),
  (69, ([], .goto (-35), 3, 34, 0, 0, 0)),
  (72, ([], .aload_n 0, 1, 0, 0, 0, 0)),
  (73, ([], .iconst 1, 1, 0, 0, 0, 1)),
  (74, ([], .invokevirtual 252, 3, 0, 9, 0, 0)),
  (77, ([], .iload_n 1, 1, 1, 0, 0, 0)),
  (78, ([], .isub, 1, 0, 0, 0, 0)),
  (79, ([], .ireturn, 1, 0, 0, 0, 0))]
noncomputable def E_X7_confer : Kt := exL SKc SKn SKr CS (lkp T_X7_confer) [F_X7_countOf, F_X7_holds, F_X7_sorts, F_X7_looksAt] [] []
noncomputable def F_X7_confer : Fn := fun as h => E_X7_confer 0 (pad 3 as) [] h
noncomputable def f_X7_confer_14 (s0 : Int32) (h : Hp) : Res := E_X7_confer 14 [.ref 227, .retAddr 0, .retAddr 0] [.int s0, .ref 227] h
noncomputable def f_X7_confer_34 (x1 : Int32) (x2 : Int32) (h : Hp) : Res := E_X7_confer 34 [.ref 227, .int x1, .int x2] [] h
noncomputable def f_X7_confer_66 (x1 : Int32) (x2 : Int32) (h : Hp) : Res := E_X7_confer 66 [.ref 227, .int x1, .int x2] [] h
set_option maxRecDepth 100000 in
set_option maxHeartbeats 4000000 in
theorem e_X7_confer_0 (h : Hp) : F_X7_confer [.ref 227] h = bI (F_X7_countOf [.ref 227, .int 0] h) (fun v2 h1 => if v2 = 0 then f_X7_confer_14 1 h1 else f_X7_confer_14 0 h1) (hnk []) :=
  (exL_it SKc SKn SKr CS (lkp T_X7_confer) [F_X7_countOf, F_X7_holds, F_X7_sorts, F_X7_looksAt] [] [] [14, 34, 66] 7 0 [.ref 227, .retAddr 0, .retAddr 0] [] h).trans rfl
set_option maxRecDepth 100000 in
set_option maxHeartbeats 4000000 in
theorem e_X7_confer_14 (s0 : Int32) (h : Hp) : f_X7_confer_14 s0 h = bI (F_X7_holds [.ref 227, .int s0] h) (fun v2 h1 => if v2 = 0 then rtn (some (.int 0)) h1 else bI (F_X7_countOf [.ref 227, .int 1] h1) (fun v4 h3 => bV (F_X7_sorts [.ref 227] h3) (fun h5 => f_X7_confer_34 v4 0 h5) (hnk [])) (hnk [])) (hnk []) :=
  (exL_it SKc SKn SKr CS (lkp T_X7_confer) [F_X7_countOf, F_X7_holds, F_X7_sorts, F_X7_looksAt] [] [] [14, 34, 66] 10 14 [.ref 227, .retAddr 0, .retAddr 0] [.int s0, .ref 227] h).trans rfl
set_option maxRecDepth 100000 in
set_option maxHeartbeats 4000000 in
theorem e_X7_confer_34 (x1 : Int32) (x2 : Int32) (h : Hp) : f_X7_confer_34 x1 x2 h = if x2 < (rd h 227 52) then gd (inb x2 60) (gd (inb (rd h 274 x2.toNatClampNeg) 60) (if (rd h 254 ((rd h 274 x2.toNatClampNeg).toNatClampNeg)) = 0 then gd (inb x2 60) (bV (F_X7_looksAt [.ref 227, .int (rd h 274 x2.toNatClampNeg)] h) (fun h1 => f_X7_confer_66 x1 x2 h1) (hnk [])) else f_X7_confer_66 x1 x2 h)) else bI (F_X7_countOf [.ref 227, .int 1] h) (fun v3 h2 => rtn (some (.int (v3 - x1))) h2) (hnk []) :=
  (exL_it SKc SKn SKr CS (lkp T_X7_confer) [F_X7_countOf, F_X7_holds, F_X7_sorts, F_X7_looksAt] [] [] [14, 34, 66] 18 34 [.ref 227, .int x1, .int x2] [] h).trans rfl
set_option maxRecDepth 100000 in
set_option maxHeartbeats 4000000 in
theorem e_X7_confer_66 (x1 : Int32) (x2 : Int32) (h : Hp) : f_X7_confer_66 x1 x2 h = f_X7_confer_34 x1 (x2 + 1) h :=
  (exL_it SKc SKn SKr CS (lkp T_X7_confer) [F_X7_countOf, F_X7_holds, F_X7_sorts, F_X7_looksAt] [] [] [14, 34, 66] 2 66 [.ref 227, .int x1, .int x2] [] h).trans rfl

def T_X7_accept : List (Nat × Ent) := [(0, ([], .aload_n 0, 1, 0, 0, 0, 0)),
  (1, ([], .iload_n 1, 1, 1, 0, 0, 0)),
  (2, ([], .invokevirtual 214, 3, 0, 9, 0, 0)),
  (5, ([], .istore_n 2, 1, 2, 0, 0, 0)),
  (6, ([], .aload_n 0, 1, 0, 0, 0, 0)),
  (7, ([], .iload_n 2, 1, 2, 0, 0, 0)),
  (8, ([], .ifCond .ne 7, 3, 15, 0, 0, 0)),
  (11, ([], .iconst 1, 1, 0, 0, 0, 1)),
  (12, ([], .goto 18, 3, 30, 0, 0, 0)),
  (15, ([], .aload_n 0, 1, 0, 0, 0, 0)),
  (16, ([], .getfield 88, 3, 30, 3, 0, 0)),
  (19, ([], .iload_n 1, 1, 1, 0, 0, 0)),
  (20, ([], .iaload, 1, 0, 0, 0, 0)),
  (21, ([], .iconst 2, 1, 0, 0, 0, 2)),
  (22, ([], .if_icmp .ne 7, 3, 29, 0, 0, 0)),
  (25, ([], .iconst 0, 1, 0, 0, 0, 0)),
  (26, ([], .goto 4, 3, 30, 0, 0, 0)),
  (29, ([], .iconst 2, 1, 0, 0, 0, 2)),
  (30, ([false, false, true, true], .invokevirtual 170, 3, 1, 9, 0, 0)),
  (33, ([], .ifCond .ne 5, 3, 38, 0, 0, 0)),
  (36, ([], .iconst 0, 1, 0, 0, 0, 0)),
  (37, ([], .ireturn, 1, 0, 0, 0, 0)),
  (38, ([], .aload_n 0, 1, 0, 0, 0, 0)),
  (39, ([], .iload_n 1, 1, 1, 0, 0, 0)),
  (40, ([], .aload_n 0, 1, 0, 0, 0, 0)),
  (41, ([], .getfield 97, 3, 33, 3, 0, 0)),
  (44, ([], .iload_n 1, 1, 1, 0, 0, 0)),
  (45, ([], .iaload, 1, 0, 0, 0, 0)),
  (46, ([], .invokevirtual 238, 3, 2, 13, 0, 0)),
  (49, ([], .ifCond .ne 7, 3, 56, 0, 0, 0)),
  (52, ([], .iconst 1, 1, 0, 0, 0, 1)),
  (53, ([], .goto 4, 3, 57, 0, 0, 0)),
  (56, ([], .iconst 0, 1, 0, 0, 0, 0)),
  (57, ([false, false, true, true], .istore_n 3, 1, 3, 0, 0, 0)),
  (58, ([], .iload_n 3, 1, 3, 0, 0, 0)),
  (59, ([], .ifCond .eq 17, 3, 76, 0, 0, 0)),
  (62, ([], .aload_n 0, 1, 0, 0, 0, 0)),
  (63, ([], .iload_n 1, 1, 1, 0, 0, 0)),
  (64, ([], .aload_n 0, 1, 0, 0, 0, 0)),
  (65, ([], .getfield 97, 3, 33, 3, 0, 0)),
  (68, ([], .iload_n 1, 1, 1, 0, 0, 0)),
  (69, ([], .iaload, 1, 0, 0, 0, 0)),
  (70, ([], .invokevirtual 242, 3, 3, 12, 0, 0)),
  (73, ([], .goto 17, 3, 90, 0, 0, 0)),
  (76, ([], .aload_n 0, 1, 0, 0, 0, 0)),
  (77, ([], .getfield 88, 3, 30, 3, 0, 0)),
  (80, ([], .iload_n 1, 1, 1, 0, 0, 0)),
  (81, ([], .iconst 3, 1, 0, 0, 0, 3)),
  (82, ([], .iastore, 1, 0, 0, 0, 0)),
  (83, ([], .aload_n 0, 1, 0, 0, 0, 0)),
  (84, ([], .getfield 97, 3, 33, 3, 0, 0)),
  (87, ([], .iload_n 1, 1, 1, 0, 0, 0)),
  (88, ([], .iconst (-1), 1, 0, 0, 0, (-1))),
  (89, ([], .iastore, 1, 0, 0, 0, 0)),
  (90, ([], .iload_n 3, 1, 3, 0, 0, 0)),
  (91, ([], .ireturn, 1, 0, 0, 0, 0))]
noncomputable def E_X7_accept : Kt := exL SKc SKn SKr CS (lkp T_X7_accept) [F_X7_isRequest, F_X7_holds, F_X7_reason, F_X7_gives] [] []
noncomputable def F_X7_accept : Fn := fun as h => E_X7_accept 0 (pad 4 as) [] h
noncomputable def f_X7_accept_30 (x1 : Int32) (s0 : Int32) (h : Hp) : Res := E_X7_accept 30 [.ref 227, .int x1, .retAddr 0, .retAddr 0] [.int s0, .ref 227] h
noncomputable def f_X7_accept_57 (x1 : Int32) (s0 : Int32) (h : Hp) : Res := E_X7_accept 57 [.ref 227, .int x1, .retAddr 0, .retAddr 0] [.int s0] h
set_option maxRecDepth 100000 in
set_option maxHeartbeats 4000000 in
theorem e_X7_accept_0 (x1 : Int32) (h : Hp) : F_X7_accept [.ref 227, .int x1] h = bI (F_X7_isRequest [.ref 227, .int x1] h) (fun v2 h1 => if v2 = 0 then f_X7_accept_30 x1 1 h1 else gd (inb x1 60) (if (rd h1 254 x1.toNatClampNeg) = 2 then f_X7_accept_30 x1 0 h1 else f_X7_accept_30 x1 2 h1)) (hnk []) :=
  (exL_it SKc SKn SKr CS (lkp T_X7_accept) [F_X7_isRequest, F_X7_holds, F_X7_reason, F_X7_gives] [] [] [30, 57] 15 0 [.ref 227, .int x1, .retAddr 0, .retAddr 0] [] h).trans rfl
set_option maxRecDepth 100000 in
set_option maxHeartbeats 4000000 in
theorem e_X7_accept_30 (x1 : Int32) (s0 : Int32) (h : Hp) : f_X7_accept_30 x1 s0 h = bI (F_X7_holds [.ref 227, .int s0] h) (fun v2 h1 => if v2 = 0 then rtn (some (.int 0)) h1 else gd (inb x1 60) (bI (F_X7_reason [.ref 227, .int x1, .int (rd h1 257 x1.toNatClampNeg)] h1) (fun v4 h3 => if v4 = 0 then f_X7_accept_57 x1 1 h3 else f_X7_accept_57 x1 0 h3) (hnk []))) (hnk []) :=
  (exL_it SKc SKn SKr CS (lkp T_X7_accept) [F_X7_isRequest, F_X7_holds, F_X7_reason, F_X7_gives] [] [] [30, 57] 12 30 [.ref 227, .int x1, .retAddr 0, .retAddr 0] [.int s0, .ref 227] h).trans rfl
set_option maxRecDepth 100000 in
set_option maxHeartbeats 4000000 in
theorem e_X7_accept_57 (x1 : Int32) (s0 : Int32) (h : Hp) : f_X7_accept_57 x1 s0 h = if s0 = 0 then gd (inb x1 60) (gd (inb x1 60) (rtn (some (.int s0)) (wr (wr h 254 x1.toNatClampNeg 3) 257 x1.toNatClampNeg (-1)))) else gd (inb x1 60) (bV (F_X7_gives [.ref 227, .int x1, .int (rd h 257 x1.toNatClampNeg)] h) (fun h1 => rtn (some (.int s0)) h1) (hnk [])) :=
  (exL_it SKc SKn SKr CS (lkp T_X7_accept) [F_X7_isRequest, F_X7_holds, F_X7_reason, F_X7_gives] [] [] [30, 57] 15 57 [.ref 227, .int x1, .retAddr 0, .retAddr 0] [.int s0] h).trans rfl

def T_X7_isWaiting : List (Nat × Ent) := [(0, ([], .aload_n 0, 1, 0, 0, 0, 0)),
  (1, ([], .getfield 88, 3, 30, 3, 0, 0)),
  (4, ([], .iload_n 1, 1, 1, 0, 0, 0)),
  (5, ([], .iaload, 1, 0, 0, 0, 0)),
  (6, ([], .iconst 2, 1, 0, 0, 0, 2)),
  (7, ([], .if_icmp .eq 13, 3, 20, 0, 0, 0)),
  (10, ([], .aload_n 0, 1, 0, 0, 0, 0)),
  (11, ([], .getfield 88, 3, 30, 3, 0, 0)),
  (14, ([], .iload_n 1, 1, 1, 0, 0, 0)),
  (15, ([], .iaload, 1, 0, 0, 0, 0)),
  (16, ([], .iconst 3, 1, 0, 0, 0, 3)),
  (17, ([], .if_icmp .ne 7, 3, 24, 0, 0, 0)),
  (20, ([], .iconst 1, 1, 0, 0, 0, 1)),
  (21, ([], .goto 4, 3, 25, 0, 0, 0)),
  (24, ([], .iconst 0, 1, 0, 0, 0, 0)),
  (25, ([], .ireturn, 1, 0, 0, 0, 0))]
noncomputable def E_X7_isWaiting : Kt := exL SKc SKn SKr CS (lkp T_X7_isWaiting) [] [] []
noncomputable def F_X7_isWaiting : Fn := fun as h => E_X7_isWaiting 0 (pad 2 as) [] h
set_option maxRecDepth 100000 in
set_option maxHeartbeats 4000000 in
theorem e_X7_isWaiting_0 (x1 : Int32) (h : Hp) : F_X7_isWaiting [.ref 227, .int x1] h = gd (inb x1 60) (if (rd h 254 x1.toNatClampNeg) = 2 then rtn (some (.int 1)) h else gd (inb x1 60) (if (rd h 254 x1.toNatClampNeg) = 3 then rtn (some (.int 1)) h else rtn (some (.int 0)) h)) :=
  (exL_it SKc SKn SKr CS (lkp T_X7_isWaiting) [] [] [] [] 15 0 [.ref 227, .int x1] [] h).trans rfl

def T_X7_nextAt : List (Nat × Ent) := [(0, ([], .iconst (-1), 1, 0, 0, 0, (-1))),
  (1, ([], .istore_n 3, 1, 3, 0, 0, 0)),
  (2, ([], .iconst 0, 1, 0, 0, 0, 0)),
  (3, ([], .istore 4, 2, 4, 0, 0, 0)),
  (5, ([false, false, false, false, false, true], .iload 4, 2, 4, 0, 0, 0)),
  (7, ([], .aload_n 0, 1, 0, 0, 0, 0)),
  (8, ([], .getfield 164, 3, 20, 2, 0, 0)),
  (11, ([], .if_icmp .ge 80, 3, 91, 0, 0, 0)),
  (14, ([], .aload_n 0, 1, 0, 0, 0, 0)),
  (15, ([], .iload 4, 2, 4, 0, 0, 0)),
  (17, ([], .invokevirtual 262, 3, 0, 9, 0, 0)),
  (20, ([], .ifCond .eq 29, 3, 49, 0, 0, 0)),
  (23, ([], .aload_n 0, 1, 0, 0, 0, 0)),
  (24, ([], .getfield 64, 3, 22, 3, 0, 0)),
  (27, ([], .iload 4, 2, 4, 0, 0, 0)),
  (29, ([], .iaload, 1, 0, 0, 0, 0)),
  (30, ([], .iload_n 1, 1, 1, 0, 0, 0)),
  (31, ([], .if_icmp .ne 18, 3, 49, 0, 0, 0)),
  (34, ([], .aload_n 0, 1, 0, 0, 0, 0)),
  (35, ([], .getfield 103, 3, 35, 3, 0, 0)),
  (38, ([], .iload 4, 2, 4, 0, 0, 0)),
  (40, ([], .iaload, 1, 0, 0, 0, 0)),
  (41, ([], .iload_n 2, 1, 2, 0, 0, 0)),
  (42, ([], .if_icmp .le 7, 3, 49, 0, 0, 0)),
  (45, ([], .iconst 1, 1, 0, 0, 0, 1)),
  (46, ([], .goto 4, 3, 50, 0, 0, 0)),
  (49, ([false, false, false, false, false, true], .iconst 0, 1, 0, 0, 0, 0)),
  (50, ([false, false, false, false, false, true], .istore 5, 2, 5, 0, 0, 0)),
  (52, ([], .iload 5, 2, 5, 0, 0, 0)),
  (54, ([], .ifCond .eq 29, 3, 83, 0, 0, 0)),
  (57, ([], .iload_n 3, 1, 3, 0, 0, 0)),
  (58, ([], .iconst (-1), 1, 0, 0, 0, (-1))),
  (59, ([], .if_icmp .eq 19, 3, 78, 0, 0, 0)),
  (62, ([], .aload_n 0, 1, 0, 0, 0, 0)),
  (63, ([], .getfield 103, 3, 35, 3, 0, 0)),
  (66, ([], .iload 4, 2, 4, 0, 0, 0)),
  (68, ([], .iaload, 1, 0, 0, 0, 0)),
  (69, ([], .aload_n 0, 1, 0, 0, 0, 0)),
  (70, ([], .getfield 103, 3, 35, 3, 0, 0)),
  (73, ([], .iload_n 3, 1, 3, 0, 0, 0)),
  (74, ([], .iaload, 1, 0, 0, 0, 0)),
  (75, ([], .if_icmp .ge 8, 3, 83, 0, 0, 0)),
  (78, ([false, false, false, true, false, true], .iload 4, 2, 4, 0, 0, 0)),
  (80, ([], .goto 4, 3, 84, 0, 0, 0)),
  (83, ([false, false, false, false, false, true], .iload_n 3, 1, 3, 0, 0, 0)),
  (84, ([false, false, false, true, false, true], .istore_n 3, 1, 3, 0, 0, 0)),
  (85, ([], .iinc 4 1, 3, 4, 0, 0, 1)),
  (88, ([], .goto (-83), 3, 5, 0, 0, 0)),
  (91, ([], .iload_n 3, 1, 3, 0, 0, 0)),
  (92, ([], .ireturn, 1, 0, 0, 0, 0))]
noncomputable def E_X7_nextAt : Kt := exL SKc SKn SKr CS (lkp T_X7_nextAt) [F_X7_isWaiting] [] []
noncomputable def F_X7_nextAt : Fn := fun as h => E_X7_nextAt 0 (pad 6 as) [] h
noncomputable def f_X7_nextAt_5 (x1 : Int32) (x2 : Int32) (x3 : Int32) (x4 : Int32) (h : Hp) : Res := E_X7_nextAt 5 [.ref 227, .int x1, .int x2, .int x3, .int x4, .retAddr 0] [] h
noncomputable def f_X7_nextAt_49 (x1 : Int32) (x2 : Int32) (x3 : Int32) (x4 : Int32) (h : Hp) : Res := E_X7_nextAt 49 [.ref 227, .int x1, .int x2, .int x3, .int x4, .retAddr 0] [] h
noncomputable def f_X7_nextAt_50 (x1 : Int32) (x2 : Int32) (x3 : Int32) (x4 : Int32) (s0 : Int32) (h : Hp) : Res := E_X7_nextAt 50 [.ref 227, .int x1, .int x2, .int x3, .int x4, .retAddr 0] [.int s0] h
noncomputable def f_X7_nextAt_78 (x1 : Int32) (x2 : Int32) (x4 : Int32) (h : Hp) : Res := E_X7_nextAt 78 [.ref 227, .int x1, .int x2, .retAddr 0, .int x4, .retAddr 0] [] h
noncomputable def f_X7_nextAt_83 (x1 : Int32) (x2 : Int32) (x3 : Int32) (x4 : Int32) (h : Hp) : Res := E_X7_nextAt 83 [.ref 227, .int x1, .int x2, .int x3, .int x4, .retAddr 0] [] h
noncomputable def f_X7_nextAt_84 (x1 : Int32) (x2 : Int32) (x4 : Int32) (s0 : Int32) (h : Hp) : Res := E_X7_nextAt 84 [.ref 227, .int x1, .int x2, .retAddr 0, .int x4, .retAddr 0] [.int s0] h
set_option maxRecDepth 100000 in
set_option maxHeartbeats 4000000 in
theorem e_X7_nextAt_0 (x1 : Int32) (x2 : Int32) (h : Hp) : F_X7_nextAt [.ref 227, .int x1, .int x2] h = f_X7_nextAt_5 x1 x2 (-1) 0 h :=
  (exL_it SKc SKn SKr CS (lkp T_X7_nextAt) [F_X7_isWaiting] [] [] [5, 49, 50, 78, 83, 84] 4 0 [.ref 227, .int x1, .int x2, .retAddr 0, .retAddr 0, .retAddr 0] [] h).trans rfl
set_option maxRecDepth 100000 in
set_option maxHeartbeats 4000000 in
theorem e_X7_nextAt_5 (x1 : Int32) (x2 : Int32) (x3 : Int32) (x4 : Int32) (h : Hp) : f_X7_nextAt_5 x1 x2 x3 x4 h = if x4 < (rd h 227 20) then bI (F_X7_isWaiting [.ref 227, .int x4] h) (fun v2 h1 => if v2 = 0 then f_X7_nextAt_49 x1 x2 x3 x4 h1 else gd (inb x4 60) (if (rd h1 246 x4.toNatClampNeg) = x1 then gd (inb x4 60) (if x2 < (rd h1 259 x4.toNatClampNeg) then f_X7_nextAt_50 x1 x2 x3 x4 1 h1 else f_X7_nextAt_49 x1 x2 x3 x4 h1) else f_X7_nextAt_49 x1 x2 x3 x4 h1)) (hnk []) else rtn (some (.int x3)) h :=
  (exL_it SKc SKn SKr CS (lkp T_X7_nextAt) [F_X7_isWaiting] [] [] [5, 49, 50, 78, 83, 84] 22 5 [.ref 227, .int x1, .int x2, .int x3, .int x4, .retAddr 0] [] h).trans rfl
set_option maxRecDepth 100000 in
set_option maxHeartbeats 4000000 in
theorem e_X7_nextAt_49 (x1 : Int32) (x2 : Int32) (x3 : Int32) (x4 : Int32) (h : Hp) : f_X7_nextAt_49 x1 x2 x3 x4 h = f_X7_nextAt_50 x1 x2 x3 x4 0 h :=
  (exL_it SKc SKn SKr CS (lkp T_X7_nextAt) [F_X7_isWaiting] [] [] [5, 49, 50, 78, 83, 84] 1 49 [.ref 227, .int x1, .int x2, .int x3, .int x4, .retAddr 0] [] h).trans rfl
set_option maxRecDepth 100000 in
set_option maxHeartbeats 4000000 in
theorem e_X7_nextAt_50 (x1 : Int32) (x2 : Int32) (x3 : Int32) (x4 : Int32) (s0 : Int32) (h : Hp) : f_X7_nextAt_50 x1 x2 x3 x4 s0 h = if s0 = 0 then f_X7_nextAt_83 x1 x2 x3 x4 h else if x3 = (-1) then f_X7_nextAt_78 x1 x2 x4 h else gd (inb x4 60) (gd (inb x3 60) (if (rd h 259 x4.toNatClampNeg) < (rd h 259 x3.toNatClampNeg) then f_X7_nextAt_78 x1 x2 x4 h else f_X7_nextAt_83 x1 x2 x3 x4 h)) :=
  (exL_it SKc SKn SKr CS (lkp T_X7_nextAt) [F_X7_isWaiting] [] [] [5, 49, 50, 78, 83, 84] 15 50 [.ref 227, .int x1, .int x2, .int x3, .int x4, .retAddr 0] [.int s0] h).trans rfl
set_option maxRecDepth 100000 in
set_option maxHeartbeats 4000000 in
theorem e_X7_nextAt_78 (x1 : Int32) (x2 : Int32) (x4 : Int32) (h : Hp) : f_X7_nextAt_78 x1 x2 x4 h = f_X7_nextAt_84 x1 x2 x4 x4 h :=
  (exL_it SKc SKn SKr CS (lkp T_X7_nextAt) [F_X7_isWaiting] [] [] [5, 49, 50, 78, 83, 84] 2 78 [.ref 227, .int x1, .int x2, .retAddr 0, .int x4, .retAddr 0] [] h).trans rfl
set_option maxRecDepth 100000 in
set_option maxHeartbeats 4000000 in
theorem e_X7_nextAt_83 (x1 : Int32) (x2 : Int32) (x3 : Int32) (x4 : Int32) (h : Hp) : f_X7_nextAt_83 x1 x2 x3 x4 h = f_X7_nextAt_84 x1 x2 x4 x3 h :=
  (exL_it SKc SKn SKr CS (lkp T_X7_nextAt) [F_X7_isWaiting] [] [] [5, 49, 50, 78, 83, 84] 1 83 [.ref 227, .int x1, .int x2, .int x3, .int x4, .retAddr 0] [] h).trans rfl
set_option maxRecDepth 100000 in
set_option maxHeartbeats 4000000 in
theorem e_X7_nextAt_84 (x1 : Int32) (x2 : Int32) (x4 : Int32) (s0 : Int32) (h : Hp) : f_X7_nextAt_84 x1 x2 x4 s0 h = f_X7_nextAt_5 x1 x2 s0 (x4 + 1) h :=
  (exL_it SKc SKn SKr CS (lkp T_X7_nextAt) [F_X7_isWaiting] [] [] [5, 49, 50, 78, 83, 84] 3 84 [.ref 227, .int x1, .int x2, .retAddr 0, .int x4, .retAddr 0] [.int s0] h).trans rfl

def T_X7_giveBack : List (Nat × Ent) := [(0, ([], .aload_n 0, 1, 0, 0, 0, 0)),
  (1, ([], .iload_n 1, 1, 1, 0, 0, 0)),
  (2, ([], .invokevirtual 265, 3, 0, 9, 0, 0)),
  (5, ([], .istore_n 3, 1, 3, 0, 0, 0)),
  (6, ([], .aload_n 0, 1, 0, 0, 0, 0)),
  (7, ([], .iload_n 3, 1, 3, 0, 0, 0)),
  (8, ([], .ifCond .ne 7, 3, 15, 0, 0, 0)),
  (11, ([], .iconst 1, 1, 0, 0, 0, 1)),
  (12, ([], .goto 41, 3, 53, 0, 0, 0)),
  (15, ([], .iload_n 2, 1, 2, 0, 0, 0)),
  (16, ([], .iconst 0, 1, 0, 0, 0, 0)),
  (17, ([], .bipush 19, 2, 0, 0, 0, 19)),
  (19, ([], .invokestatic 156, 3, 1, 13, 0, 0)),
  (22, ([], .ifCond .ne 7, 3, 29, 0, 0, 0)),
  (25, ([], .iconst 2, 1, 0, 0, 0, 2)),
  (26, ([], .goto 27, 3, 53, 0, 0, 0)),
  (29, ([], .aload_n 0, 1, 0, 0, 0, 0)),
  (30, ([], .getfield 142, 3, 50, 3, 0, 0)),
  (33, ([], .iload_n 1, 1, 1, 0, 0, 0)),
  (34, ([], .baload, 1, 0, 0, 0, 0)),
  (35, ([], .ifCond .ne 13, 3, 48, 0, 0, 0)),
  (38, ([], .aload_n 0, 1, 0, 0, 0, 0)),
  (39, ([], .getfield 127, 3, 45, 3, 0, 0)),
  (42, ([], .iload_n 1, 1, 1, 0, 0, 0)),
  (43, ([], .iaload, 1, 0, 0, 0, 0)),
  (44, ([], .iload_n 2, 1, 2, 0, 0, 0)),
  (45, ([], .if_icmp .ge 7, 3, 52, 0, 0, 0)),
  (48, ([false, false, false, true, true, true, true], .iconst 3, 1, 0, 0, 0, 3)),
  (49, ([], .goto 4, 3, 53, 0, 0, 0)),
  (52, ([], .iconst 0, 1, 0, 0, 0, 0)),
  (53, ([false, false, false, true, true, true, true], .invokevirtual 170, 3, 2, 9, 0, 0)),
  (56, ([], .ifCond .ne 5, 3, 61, 0, 0, 0)),
  (59, ([], .iconst 0, 1, 0, 0, 0, 0)),
  (60, ([], .ireturn, 1, 0, 0, 0, 0)),
  (61, ([], .iload_n 2, 1, 2, 0, 0, 0)),
  (62, ([], .aload_n 0, 1, 0, 0, 0, 0)),
  (63, ([], .getfield 124, 3, 44, 3, 0, 0)),
  (66, ([], .iload_n 1, 1, 1, 0, 0, 0)),
  (67, ([], .iaload, 1, 0, 0, 0, 0)),
  (68, ([], .if_icmp .gt 13, 3, 81, 0, 0, 0)),
  (71, ([], .aload_n 0, 1, 0, 0, 0, 0)),
  (72, ([], .getfield 142, 3, 50, 3, 0, 0)),
  (75, ([], .iload_n 1, 1, 1, 0, 0, 0)),
  (76, ([], .iconst 1, 1, 0, 0, 0, 1)),
  (77, ([], .bastore, 1, 0, 0, 0, 0)),
  (78, ([], .goto 12, 3, 90, 0, 0, 0)),
  (81, ([], .aload_n 0, 1, 0, 0, 0, 0)),
  (82, ([], .getfield 127, 3, 45, 3, 0, 0)),
  (85, ([], .iload_n 1, 1, 1, 0, 0, 0)),
  (86, ([], .iload_n 2, 1, 2, 0, 0, 0)),
  (87, ([], .iconst 1, 1, 0, 0, 0, 1)),
  (88, ([], .isub, 1, 0, 0, 0, 0)),
  (89, ([], .iastore, 1, 0, 0, 0, 0)),
  (90, ([false, false, true, true, true, true, true], .iconst 0, 1, 0, 0, 0, 0)),
  (91, ([], .istore 4, 2, 4, 0, 0, 0)),
  (93, ([], .aload_n 0, 1, 0, 0, 0, 0)),
  (94, ([], .aload_n 0, 1, 0, 0, 0, 0)),
  (95, ([], .getfield 112, 3, 40, 3, 0, 0)),
  (98, ([], .iload_n 1, 1, 1, 0, 0, 0)),
  (99, ([], .iaload, 1, 0, 0, 0, 0)),
  (100, ([], .iconst (-1), 1, 0, 0, 0, (-1))),
  (101, ([], .invokevirtual 268, 3, 3, 13, 0, 0)),
  (104, ([], .istore 5, 2, 5, 0, 0, 0)),
  (106, ([false, false, true, true, false, false, true], .iload 5, 2, 5, 0, 0, 0)),
  (108, ([], .iconst (-1), 1, 0, 0, 0, (-1))),
  (109, ([], .if_icmp .eq 72, 3, 181, 0, 0, 0)),
  (112, ([], .aload_n 0, 1, 0, 0, 0, 0)),
  (113, ([], .getfield 103, 3, 35, 3, 0, 0)),
  (116, ([], .iload 5, 2, 5, 0, 0, 0)),
  (118, ([], .iaload, 1, 0, 0, 0, 0)),
  (119, ([], .istore 6, 2, 6, 0, 0, 0)),
  (121, ([], .aload_n 0, 1, 0, 0, 0, 0)),
  (122, ([], .getfield 100, 3, 34, 3, 0, 0)),
  (125, ([], .iload 5, 2, 5, 0, 0, 0)),
  (127, ([], .iaload, 1, 0, 0, 0, 0)),
  (128, ([], .iconst (-1), 1, 0, 0, 0, (-1))),
  (129, ([], .if_icmp .ne 35, 3, 164, 0, 0, 0)),
  (132, ([], .aload_n 0, 1, 0, 0, 0, 0)),
  (133, ([], .iload 5, 2, 5, 0, 0, 0)),
  (135, ([], .aload_n 0, 1, 0, 0, 0, 0)),
  (136, ([], .getfield 73, 3, 25, 3, 0, 0)),
  (139, ([], .iload 5, 2, 5, 0, 0, 0)),
  (141, ([], .iaload, 1, 0, 0, 0, 0)),
  (142, ([], .invokevirtual 238, 3, 4, 13, 0, 0)),
  (145, ([], .ifCond .ne 19, 3, 164, 0, 0, 0)),
  (148, ([], .aload_n 0, 1, 0, 0, 0, 0)),
  (149, ([], .iload 5, 2, 5, 0, 0, 0)),
  (151, ([], .aload_n 0, 1, 0, 0, 0, 0)),
  (152, ([], .getfield 73, 3, 25, 3, 0, 0)),
  (155, ([], .iload 5, 2, 5, 0, 0, 0)),
  (157, ([], .iaload, 1, 0, 0, 0, 0)),
  (158, ([], .invokevirtual 242, 3, 5, 12, 0, 0)),
  (161, ([], .iinc 4 1, 3, 4, 0, 0, 1)),
  (164, ([false, false, true, true, false, true, false], .aload_n 0, 1, 0, 0, 0, 0)),
  (165, ([], .aload_n 0, 1, 0, 0, 0, 0)),
  (166, ([], .getfield 112, 3, 40, 3, 0, 0)),
  (169, ([], .iload_n 1, 1, 1, 0, 0, 0)),
  (170, ([], .iaload, 1, 0, 0, 0, 0)),
  (171, ([], .iload 6, 2, 6, 0, 0, 0)),
  (173, ([], .invokevirtual 268, 3, 3, 13, 0, 0)),
  (176, ([], .istore 5, 2, 5, 0, 0, 0)),
  (178, ([], .goto (-72), 3, 106, 0, 0, 0)),
  (181, ([], .iload 4, 2, 4, 0, 0, 0)),
  (183, ([], .ireturn, 1, 0, 0, 0, 0))]
noncomputable def E_X7_giveBack : Kt := exL SKc SKn SKr CS (lkp T_X7_giveBack) [F_X7_isSeries, F_X7_isIn, F_X7_holds, F_X7_nextAt, F_X7_reason, F_X7_gives] [] []
noncomputable def F_X7_giveBack : Fn := fun as h => E_X7_giveBack 0 (pad 7 as) [] h
noncomputable def f_X7_giveBack_48 (x1 : Int32) (x2 : Int32) (h : Hp) : Res := E_X7_giveBack 48 [.ref 227, .int x1, .int x2, .retAddr 0, .retAddr 0, .retAddr 0, .retAddr 0] [.ref 227] h
noncomputable def f_X7_giveBack_53 (x1 : Int32) (x2 : Int32) (s0 : Int32) (h : Hp) : Res := E_X7_giveBack 53 [.ref 227, .int x1, .int x2, .retAddr 0, .retAddr 0, .retAddr 0, .retAddr 0] [.int s0, .ref 227] h
noncomputable def f_X7_giveBack_90 (x1 : Int32) (h : Hp) : Res := E_X7_giveBack 90 [.ref 227, .int x1, .retAddr 0, .retAddr 0, .retAddr 0, .retAddr 0, .retAddr 0] [] h
noncomputable def f_X7_giveBack_106 (x1 : Int32) (x4 : Int32) (x5 : Int32) (h : Hp) : Res := E_X7_giveBack 106 [.ref 227, .int x1, .retAddr 0, .retAddr 0, .int x4, .int x5, .retAddr 0] [] h
noncomputable def f_X7_giveBack_164 (x1 : Int32) (x4 : Int32) (x6 : Int32) (h : Hp) : Res := E_X7_giveBack 164 [.ref 227, .int x1, .retAddr 0, .retAddr 0, .int x4, .retAddr 0, .int x6] [] h
set_option maxRecDepth 100000 in
set_option maxHeartbeats 4000000 in
theorem e_X7_giveBack_0 (x1 : Int32) (x2 : Int32) (h : Hp) : F_X7_giveBack [.ref 227, .int x1, .int x2] h = bI (F_X7_isSeries [.ref 227, .int x1] h) (fun v2 h1 => if v2 = 0 then f_X7_giveBack_53 x1 x2 1 h1 else bI (F_X7_isIn [.int x2, .int 0, .int 19] h1) (fun v4 h3 => if v4 = 0 then f_X7_giveBack_53 x1 x2 2 h3 else gd (inb x1 60) (if (rd h3 272 x1.toNatClampNeg) = 0 then gd (inb x1 60) (if (rd h3 267 x1.toNatClampNeg) < x2 then f_X7_giveBack_48 x1 x2 h3 else f_X7_giveBack_53 x1 x2 0 h3) else f_X7_giveBack_48 x1 x2 h3)) (hnk [])) (hnk []) :=
  (exL_it SKc SKn SKr CS (lkp T_X7_giveBack) [F_X7_isSeries, F_X7_isIn, F_X7_holds, F_X7_nextAt, F_X7_reason, F_X7_gives] [] [] [48, 53, 90, 106, 164] 24 0 [.ref 227, .int x1, .int x2, .retAddr 0, .retAddr 0, .retAddr 0, .retAddr 0] [] h).trans rfl
set_option maxRecDepth 100000 in
set_option maxHeartbeats 4000000 in
theorem e_X7_giveBack_48 (x1 : Int32) (x2 : Int32) (h : Hp) : f_X7_giveBack_48 x1 x2 h = f_X7_giveBack_53 x1 x2 3 h :=
  (exL_it SKc SKn SKr CS (lkp T_X7_giveBack) [F_X7_isSeries, F_X7_isIn, F_X7_holds, F_X7_nextAt, F_X7_reason, F_X7_gives] [] [] [48, 53, 90, 106, 164] 2 48 [.ref 227, .int x1, .int x2, .retAddr 0, .retAddr 0, .retAddr 0, .retAddr 0] [.ref 227] h).trans rfl
set_option maxRecDepth 100000 in
set_option maxHeartbeats 4000000 in
theorem e_X7_giveBack_53 (x1 : Int32) (x2 : Int32) (s0 : Int32) (h : Hp) : f_X7_giveBack_53 x1 x2 s0 h = bI (F_X7_holds [.ref 227, .int s0] h) (fun v2 h1 => if v2 = 0 then rtn (some (.int 0)) h1 else gd (inb x1 60) (if (rd h1 266 x1.toNatClampNeg) < x2 then gd (inb x1 60) (f_X7_giveBack_90 x1 (wr h1 267 x1.toNatClampNeg (x2 - 1))) else gd (inb x1 60) (f_X7_giveBack_90 x1 (wr h1 272 x1.toNatClampNeg (vp_nar .boolean 1))))) (hnk []) :=
  (exL_it SKc SKn SKr CS (lkp T_X7_giveBack) [F_X7_isSeries, F_X7_isIn, F_X7_holds, F_X7_nextAt, F_X7_reason, F_X7_gives] [] [] [48, 53, 90, 106, 164] 15 53 [.ref 227, .int x1, .int x2, .retAddr 0, .retAddr 0, .retAddr 0, .retAddr 0] [.int s0, .ref 227] h).trans rfl
set_option maxRecDepth 100000 in
set_option maxHeartbeats 4000000 in
theorem e_X7_giveBack_90 (x1 : Int32) (h : Hp) : f_X7_giveBack_90 x1 h = gd (inb x1 60) (bI (F_X7_nextAt [.ref 227, .int (rd h 262 x1.toNatClampNeg), .int (-1)] h) (fun v2 h1 => f_X7_giveBack_106 x1 0 v2 h1) (hnk [])) :=
  (exL_it SKc SKn SKr CS (lkp T_X7_giveBack) [F_X7_isSeries, F_X7_isIn, F_X7_holds, F_X7_nextAt, F_X7_reason, F_X7_gives] [] [] [48, 53, 90, 106, 164] 10 90 [.ref 227, .int x1, .retAddr 0, .retAddr 0, .retAddr 0, .retAddr 0, .retAddr 0] [] h).trans rfl
set_option maxRecDepth 100000 in
set_option maxHeartbeats 4000000 in
theorem e_X7_giveBack_106 (x1 : Int32) (x4 : Int32) (x5 : Int32) (h : Hp) : f_X7_giveBack_106 x1 x4 x5 h = if x5 = (-1) then rtn (some (.int x4)) h else gd (inb x5 60) (gd (inb x5 60) (if (rd h 258 x5.toNatClampNeg) = (-1) then gd (inb x5 60) (bI (F_X7_reason [.ref 227, .int x5, .int (rd h 249 x5.toNatClampNeg)] h) (fun v2 h1 => if v2 = 0 then gd (inb x5 60) (bV (F_X7_gives [.ref 227, .int x5, .int (rd h1 249 x5.toNatClampNeg)] h1) (fun h3 => f_X7_giveBack_164 x1 (x4 + 1) (rd h 259 x5.toNatClampNeg) h3) (hnk [])) else f_X7_giveBack_164 x1 x4 (rd h 259 x5.toNatClampNeg) h1) (hnk [])) else f_X7_giveBack_164 x1 x4 (rd h 259 x5.toNatClampNeg) h)) :=
  (exL_it SKc SKn SKr CS (lkp T_X7_giveBack) [F_X7_isSeries, F_X7_isIn, F_X7_holds, F_X7_nextAt, F_X7_reason, F_X7_gives] [] [] [48, 53, 90, 106, 164] 30 106 [.ref 227, .int x1, .retAddr 0, .retAddr 0, .int x4, .int x5, .retAddr 0] [] h).trans rfl
set_option maxRecDepth 100000 in
set_option maxHeartbeats 4000000 in
theorem e_X7_giveBack_164 (x1 : Int32) (x4 : Int32) (x6 : Int32) (h : Hp) : f_X7_giveBack_164 x1 x4 x6 h = gd (inb x1 60) (bI (F_X7_nextAt [.ref 227, .int (rd h 262 x1.toNatClampNeg), .int x6] h) (fun v2 h1 => f_X7_giveBack_106 x1 x4 v2 h1) (hnk [])) :=
  (exL_it SKc SKn SKr CS (lkp T_X7_giveBack) [F_X7_isSeries, F_X7_isIn, F_X7_holds, F_X7_nextAt, F_X7_reason, F_X7_gives] [] [] [48, 53, 90, 106, 164] 9 164 [.ref 227, .int x1, .retAddr 0, .retAddr 0, .int x4, .retAddr 0, .int x6] [] h).trans rfl

def T_X7_swap : List (Nat × Ent) := [(0, ([], .aload_n 0, 1, 0, 0, 0, 0)),
  (1, ([], .iload_n 1, 1, 1, 0, 0, 0)),
  (2, ([], .invokevirtual 265, 3, 0, 9, 0, 0)),
  (5, ([], .ifCond .eq 15, 3, 20, 0, 0, 0)),
  (8, ([], .aload_n 0, 1, 0, 0, 0, 0)),
  (9, ([], .iload_n 2, 1, 2, 0, 0, 0)),
  (10, ([], .invokevirtual 265, 3, 0, 9, 0, 0)),
  (13, ([], .ifCond .eq 7, 3, 20, 0, 0, 0)),
  (16, ([], .iconst 1, 1, 0, 0, 0, 1)),
  (17, ([], .goto 4, 3, 21, 0, 0, 0)),
  (20, ([false, false, false, true, true, true], .iconst 0, 1, 0, 0, 0, 0)),
  (21, ([false, false, false, true, true, true], .istore_n 3, 1, 3, 0, 0, 0)),
  (22, ([], .iload_n 3, 1, 3, 0, 0, 0)),
  (23, ([], .ifCond .eq 40, 3, 63, 0, 0, 0)),
  (26, ([], .aload_n 0, 1, 0, 0, 0, 0)),
  (27, ([], .getfield 142, 3, 50, 3, 0, 0)),
  (30, ([], .iload_n 1, 1, 1, 0, 0, 0)),
  (31, ([], .baload, 1, 0, 0, 0, 0)),
  (32, ([], .ifCond .ne 31, 3, 63, 0, 0, 0)),
  (35, ([], .aload_n 0, 1, 0, 0, 0, 0)),
  (36, ([], .getfield 142, 3, 50, 3, 0, 0)),
  (39, ([], .iload_n 2, 1, 2, 0, 0, 0)),
  (40, ([], .baload, 1, 0, 0, 0, 0)),
  (41, ([], .ifCond .ne 22, 3, 63, 0, 0, 0)),
  (44, ([], .aload_n 0, 1, 0, 0, 0, 0)),
  (45, ([], .getfield 112, 3, 40, 3, 0, 0)),
  (48, ([], .iload_n 1, 1, 1, 0, 0, 0)),
  (49, ([], .iaload, 1, 0, 0, 0, 0)),
  (50, ([], .aload_n 0, 1, 0, 0, 0, 0)),
  (51, ([], .getfield 112, 3, 40, 3, 0, 0)),
  (54, ([], .iload_n 2, 1, 2, 0, 0, 0)),
  (55, ([], .iaload, 1, 0, 0, 0, 0)),
  (56, ([], .if_icmp .ne 7, 3, 63, 0, 0, 0)),
  (59, ([], .iconst 1, 1, 0, 0, 0, 1)),
  (60, ([], .goto 4, 3, 64, 0, 0, 0)),
  (63, ([false, false, false, false, true, true], .iconst 0, 1, 0, 0, 0, 0)),
  (64, ([false, false, false, false, true, true], .istore 4, 2, 4, 0, 0, 0)),
  (66, ([], .aload_n 0, 1, 0, 0, 0, 0)),
  (67, ([], .iload_n 3, 1, 3, 0, 0, 0)),
  (68, ([], .ifCond .ne 7, 3, 75, 0, 0, 0)),
  (71, ([], .iconst 1, 1, 0, 0, 0, 1)),
  (72, ([], .goto 22, 3, 94, 0, 0, 0)),
  (75, ([], .iload_n 1, 1, 1, 0, 0, 0)),
  (76, ([], .iload_n 2, 1, 2, 0, 0, 0)),
  (77, ([], .if_icmp .ne 7, 3, 84, 0, 0, 0)),
  (80, ([], .iconst 2, 1, 0, 0, 0, 2)),
  (81, ([], .goto 13, 3, 94, 0, 0, 0)),
  (84, ([], .iload 4, 2, 4, 0, 0, 0)),
  (86, ([], .ifCond .eq 7, 3, 93, 0, 0, 0)),
  (89, ([], .iconst 0, 1, 0, 0, 0, 0)),
  (90, ([], .goto 4, 3, 94, 0, 0, 0)),
  (93, ([], .iconst 3, 1, 0, 0, 0, 3)),
  (94, ([false, false, false, true, true, true], .invokevirtual 170, 3, 1, 9, 0, 0)),
  (97, ([], .ifCond .eq 59, 3, 156, 0, 0, 0)),
  (100, ([], .aload_n 0, 1, 0, 0, 0, 0)),
  (101, ([], .getfield 106, 3, 38, 3, 0, 0)),
  (104, ([], .iload_n 1, 1, 1, 0, 0, 0)),
  (105, ([], .iaload, 1, 0, 0, 0, 0)),
  (106, ([], .istore 5, 2, 5, 0, 0, 0)),
  (108, ([], .aload_n 0, 1, 0, 0, 0, 0)),
  (109, ([], .getfield 106, 3, 38, 3, 0, 0)),
  (112, ([], .iload_n 1, 1, 1, 0, 0, 0)),
  (113, ([], .aload_n 0, 1, 0, 0, 0, 0)),
  (114, ([], .getfield 106, 3, 38, 3, 0, 0)),
  (117, ([], .iload_n 2, 1, 2, 0, 0, 0)),
  (118, ([], .iaload, 1, 0, 0, 0, 0)),
  (119, ([], .iastore, 1, 0, 0, 0, 0)),
  (120, ([], .aload_n 0, 1, 0, 0, 0, 0)),
  (121, ([], .getfield 106, 3, 38, 3, 0, 0)),
  (124, ([], .iload_n 2, 1, 2, 0, 0, 0)),
  (125, ([], .iload 5, 2, 5, 0, 0, 0)),
  (127, ([], .iastore, 1, 0, 0, 0, 0)),
  (128, ([], .aload_n 0, 1, 0, 0, 0, 0)),
  (129, ([], .getfield 109, 3, 39, 3, 0, 0)),
  (132, ([], .iload_n 1, 1, 1, 0, 0, 0)),
  (133, ([], .iaload, 1, 0, 0, 0, 0)),
  (134, ([], .istore 5, 2, 5, 0, 0, 0)),
  (136, ([], .aload_n 0, 1, 0, 0, 0, 0)),
  (137, ([], .getfield 109, 3, 39, 3, 0, 0)),
  (140, ([], .iload_n 1, 1, 1, 0, 0, 0)),
  (141, ([], .aload_n 0, 1, 0, 0, 0, 0)),
  (142, ([], .getfield 109, 3, 39, 3, 0, 0)),
  (145, ([], .iload_n 2, 1, 2, 0, 0, 0)),
  (146, ([], .iaload, 1, 0, 0, 0, 0)),
  (147, ([], .iastore, 1, 0, 0, 0, 0)),
  (148, ([], .aload_n 0, 1, 0, 0, 0, 0)),
  (149, ([], .getfield 109, 3, 39, 3, 0, 0)),
  (152, ([], .iload_n 2, 1, 2, 0, 0, 0)),
  (153, ([], .iload 5, 2, 5, 0, 0, 0)),
  (155, ([], .iastore, 1, 0, 0, 0, 0)),
  (156, ([], .return_, 1, 0, 0, 0, 0))]
noncomputable def E_X7_swap : Kt := exL SKc SKn SKr CS (lkp T_X7_swap) [F_X7_isSeries, F_X7_holds] [] []
noncomputable def F_X7_swap : Fn := fun as h => E_X7_swap 0 (pad 6 as) [] h
noncomputable def f_X7_swap_20 (x1 : Int32) (x2 : Int32) (h : Hp) : Res := E_X7_swap 20 [.ref 227, .int x1, .int x2, .retAddr 0, .retAddr 0, .retAddr 0] [] h
noncomputable def f_X7_swap_21 (x1 : Int32) (x2 : Int32) (s0 : Int32) (h : Hp) : Res := E_X7_swap 21 [.ref 227, .int x1, .int x2, .retAddr 0, .retAddr 0, .retAddr 0] [.int s0] h
noncomputable def f_X7_swap_63 (x1 : Int32) (x2 : Int32) (x3 : Int32) (h : Hp) : Res := E_X7_swap 63 [.ref 227, .int x1, .int x2, .int x3, .retAddr 0, .retAddr 0] [] h
noncomputable def f_X7_swap_64 (x1 : Int32) (x2 : Int32) (x3 : Int32) (s0 : Int32) (h : Hp) : Res := E_X7_swap 64 [.ref 227, .int x1, .int x2, .int x3, .retAddr 0, .retAddr 0] [.int s0] h
noncomputable def f_X7_swap_94 (x1 : Int32) (x2 : Int32) (s0 : Int32) (h : Hp) : Res := E_X7_swap 94 [.ref 227, .int x1, .int x2, .retAddr 0, .retAddr 0, .retAddr 0] [.int s0, .ref 227] h
set_option maxRecDepth 100000 in
set_option maxHeartbeats 4000000 in
theorem e_X7_swap_0 (x1 : Int32) (x2 : Int32) (h : Hp) : F_X7_swap [.ref 227, .int x1, .int x2] h = bI (F_X7_isSeries [.ref 227, .int x1] h) (fun v2 h1 => if v2 = 0 then f_X7_swap_20 x1 x2 h1 else bI (F_X7_isSeries [.ref 227, .int x2] h1) (fun v4 h3 => if v4 = 0 then f_X7_swap_20 x1 x2 h3 else f_X7_swap_21 x1 x2 1 h3) (hnk [])) (hnk []) :=
  (exL_it SKc SKn SKr CS (lkp T_X7_swap) [F_X7_isSeries, F_X7_holds] [] [] [20, 21, 63, 64, 94] 10 0 [.ref 227, .int x1, .int x2, .retAddr 0, .retAddr 0, .retAddr 0] [] h).trans rfl
set_option maxRecDepth 100000 in
set_option maxHeartbeats 4000000 in
theorem e_X7_swap_20 (x1 : Int32) (x2 : Int32) (h : Hp) : f_X7_swap_20 x1 x2 h = f_X7_swap_21 x1 x2 0 h :=
  (exL_it SKc SKn SKr CS (lkp T_X7_swap) [F_X7_isSeries, F_X7_holds] [] [] [20, 21, 63, 64, 94] 1 20 [.ref 227, .int x1, .int x2, .retAddr 0, .retAddr 0, .retAddr 0] [] h).trans rfl
set_option maxRecDepth 100000 in
set_option maxHeartbeats 4000000 in
theorem e_X7_swap_21 (x1 : Int32) (x2 : Int32) (s0 : Int32) (h : Hp) : f_X7_swap_21 x1 x2 s0 h = if s0 = 0 then f_X7_swap_63 x1 x2 s0 h else gd (inb x1 60) (if (rd h 272 x1.toNatClampNeg) = 0 then gd (inb x2 60) (if (rd h 272 x2.toNatClampNeg) = 0 then gd (inb x1 60) (gd (inb x2 60) (if (rd h 262 x1.toNatClampNeg) = (rd h 262 x2.toNatClampNeg) then f_X7_swap_64 x1 x2 s0 1 h else f_X7_swap_63 x1 x2 s0 h)) else f_X7_swap_63 x1 x2 s0 h) else f_X7_swap_63 x1 x2 s0 h) :=
  (exL_it SKc SKn SKr CS (lkp T_X7_swap) [F_X7_isSeries, F_X7_holds] [] [] [20, 21, 63, 64, 94] 24 21 [.ref 227, .int x1, .int x2, .retAddr 0, .retAddr 0, .retAddr 0] [.int s0] h).trans rfl
set_option maxRecDepth 100000 in
set_option maxHeartbeats 4000000 in
theorem e_X7_swap_63 (x1 : Int32) (x2 : Int32) (x3 : Int32) (h : Hp) : f_X7_swap_63 x1 x2 x3 h = f_X7_swap_64 x1 x2 x3 0 h :=
  (exL_it SKc SKn SKr CS (lkp T_X7_swap) [F_X7_isSeries, F_X7_holds] [] [] [20, 21, 63, 64, 94] 1 63 [.ref 227, .int x1, .int x2, .int x3, .retAddr 0, .retAddr 0] [] h).trans rfl
set_option maxRecDepth 100000 in
set_option maxHeartbeats 4000000 in
theorem e_X7_swap_64 (x1 : Int32) (x2 : Int32) (x3 : Int32) (s0 : Int32) (h : Hp) : f_X7_swap_64 x1 x2 x3 s0 h = if x3 = 0 then f_X7_swap_94 x1 x2 1 h else if x1 = x2 then f_X7_swap_94 x1 x2 2 h else if s0 = 0 then f_X7_swap_94 x1 x2 3 h else f_X7_swap_94 x1 x2 0 h :=
  (exL_it SKc SKn SKr CS (lkp T_X7_swap) [F_X7_isSeries, F_X7_holds] [] [] [20, 21, 63, 64, 94] 11 64 [.ref 227, .int x1, .int x2, .int x3, .retAddr 0, .retAddr 0] [.int s0] h).trans rfl
set_option maxRecDepth 100000 in
set_option maxHeartbeats 4000000 in
theorem e_X7_swap_94 (x1 : Int32) (x2 : Int32) (s0 : Int32) (h : Hp) : f_X7_swap_94 x1 x2 s0 h = bI (F_X7_holds [.ref 227, .int s0] h) (fun v2 h1 => if v2 = 0 then rtn none h1 else gd (inb x1 60) (gd (inb x2 60) (gd (inb x1 60) (gd (inb x2 60) (gd (inb x1 60) (gd (inb x2 60) (gd (inb x1 60) (gd (inb x2 60) (rtn none (wr (wr (wr (wr h1 260 x1.toNatClampNeg (rd h1 260 x2.toNatClampNeg)) 260 x2.toNatClampNeg (rd h1 260 x1.toNatClampNeg)) 261 x1.toNatClampNeg (rd h1 261 x2.toNatClampNeg)) 261 x2.toNatClampNeg (rd h1 261 x1.toNatClampNeg))))))))))) (hnk []) :=
  (exL_it SKc SKn SKr CS (lkp T_X7_swap) [F_X7_isSeries, F_X7_holds] [] [] [20, 21, 63, 64, 94] 39 94 [.ref 227, .int x1, .int x2, .retAddr 0, .retAddr 0, .retAddr 0] [.int s0, .ref 227] h).trans rfl

def T_X7_lease : List (Nat × Ent) := [(0, ([], .aload_n 0, 1, 0, 0, 0, 0)),
  (1, ([], .iload_n 1, 1, 1, 0, 0, 0)),
  (2, ([], .invokevirtual 265, 3, 0, 9, 0, 0)),
  (5, ([], .ifCond .eq 14, 3, 19, 0, 0, 0)),
  (8, ([], .iload_n 2, 1, 2, 0, 0, 0)),
  (9, ([], .invokestatic 177, 3, 1, 5, 0, 0)),
  (12, ([], .ifCond .eq 7, 3, 19, 0, 0, 0)),
  (15, ([], .iconst 1, 1, 0, 0, 0, 1)),
  (16, ([], .goto 4, 3, 20, 0, 0, 0)),
  (19, ([false, false, false, true, true], .iconst 0, 1, 0, 0, 0, 0)),
  (20, ([false, false, false, true, true], .istore_n 3, 1, 3, 0, 0, 0)),
  (21, ([], .aload_n 0, 1, 0, 0, 0, 0)),
  (22, ([], .iload_n 3, 1, 3, 0, 0, 0)),
  (23, ([], .ifCond .ne 7, 3, 30, 0, 0, 0)),
  (26, ([], .iconst 1, 1, 0, 0, 0, 1)),
  (27, ([], .goto 17, 3, 44, 0, 0, 0)),
  (30, ([], .aload_n 0, 1, 0, 0, 0, 0)),
  (31, ([], .getfield 142, 3, 50, 3, 0, 0)),
  (34, ([], .iload_n 1, 1, 1, 0, 0, 0)),
  (35, ([], .baload, 1, 0, 0, 0, 0)),
  (36, ([], .ifCond .eq 7, 3, 43, 0, 0, 0)),
  (39, ([], .iconst 2, 1, 0, 0, 0, 2)),
  (40, ([], .goto 4, 3, 44, 0, 0, 0)),
  (43, ([], .iconst 0, 1, 0, 0, 0, 0)),
  (44, ([false, false, false, true, true], .invokevirtual 170, 3, 2, 9, 0, 0)),
  (47, ([], .ifCond .ne 5, 3, 52, 0, 0, 0)),
  (50, ([], .iconst 0, 1, 0, 0, 0, 0)),
  (51, ([], .ireturn, 1, 0, 0, 0, 0)),
  (52, ([], .aload_n 0, 1, 0, 0, 0, 0)),
  (53, ([], .getfield 109, 3, 39, 3, 0, 0)),
  (56, ([], .iload_n 1, 1, 1, 0, 0, 0)),
  (57, ([], .iaload, 1, 0, 0, 0, 0)),
  (58, ([], .istore 4, 2, 4, 0, 0, 0)),
  (60, ([], .aload_n 0, 1, 0, 0, 0, 0)),
  (61, ([], .getfield 109, 3, 39, 3, 0, 0)),
  (64, ([], .iload_n 1, 1, 1, 0, 0, 0)),
  (65, ([], .iload_n 2, 1, 2, 0, 0, 0)),
  (66, ([], .iastore, 1, 0, 0, 0, 0)),
  (67, ([], .iload 4, 2, 4, 0, 0, 0)),
  (69, ([], .ireturn, 1, 0, 0, 0, 0))]
noncomputable def E_X7_lease : Kt := exL SKc SKn SKr CS (lkp T_X7_lease) [F_X7_isSeries, F_X7_isCarrier, F_X7_holds] [] []
noncomputable def F_X7_lease : Fn := fun as h => E_X7_lease 0 (pad 5 as) [] h
noncomputable def f_X7_lease_19 (x1 : Int32) (x2 : Int32) (h : Hp) : Res := E_X7_lease 19 [.ref 227, .int x1, .int x2, .retAddr 0, .retAddr 0] [] h
noncomputable def f_X7_lease_20 (x1 : Int32) (x2 : Int32) (s0 : Int32) (h : Hp) : Res := E_X7_lease 20 [.ref 227, .int x1, .int x2, .retAddr 0, .retAddr 0] [.int s0] h
noncomputable def f_X7_lease_44 (x1 : Int32) (x2 : Int32) (s0 : Int32) (h : Hp) : Res := E_X7_lease 44 [.ref 227, .int x1, .int x2, .retAddr 0, .retAddr 0] [.int s0, .ref 227] h
set_option maxRecDepth 100000 in
set_option maxHeartbeats 4000000 in
theorem e_X7_lease_0 (x1 : Int32) (x2 : Int32) (h : Hp) : F_X7_lease [.ref 227, .int x1, .int x2] h = bI (F_X7_isSeries [.ref 227, .int x1] h) (fun v2 h1 => if v2 = 0 then f_X7_lease_19 x1 x2 h1 else bI (F_X7_isCarrier [.int x2] h1) (fun v4 h3 => if v4 = 0 then f_X7_lease_19 x1 x2 h3 else f_X7_lease_20 x1 x2 1 h3) (hnk [])) (hnk []) :=
  (exL_it SKc SKn SKr CS (lkp T_X7_lease) [F_X7_isSeries, F_X7_isCarrier, F_X7_holds] [] [] [19, 20, 44] 9 0 [.ref 227, .int x1, .int x2, .retAddr 0, .retAddr 0] [] h).trans rfl
set_option maxRecDepth 100000 in
set_option maxHeartbeats 4000000 in
theorem e_X7_lease_19 (x1 : Int32) (x2 : Int32) (h : Hp) : f_X7_lease_19 x1 x2 h = f_X7_lease_20 x1 x2 0 h :=
  (exL_it SKc SKn SKr CS (lkp T_X7_lease) [F_X7_isSeries, F_X7_isCarrier, F_X7_holds] [] [] [19, 20, 44] 1 19 [.ref 227, .int x1, .int x2, .retAddr 0, .retAddr 0] [] h).trans rfl
set_option maxRecDepth 100000 in
set_option maxHeartbeats 4000000 in
theorem e_X7_lease_20 (x1 : Int32) (x2 : Int32) (s0 : Int32) (h : Hp) : f_X7_lease_20 x1 x2 s0 h = if s0 = 0 then f_X7_lease_44 x1 x2 1 h else gd (inb x1 60) (if (rd h 272 x1.toNatClampNeg) = 0 then f_X7_lease_44 x1 x2 0 h else f_X7_lease_44 x1 x2 2 h) :=
  (exL_it SKc SKn SKr CS (lkp T_X7_lease) [F_X7_isSeries, F_X7_isCarrier, F_X7_holds] [] [] [19, 20, 44] 11 20 [.ref 227, .int x1, .int x2, .retAddr 0, .retAddr 0] [.int s0] h).trans rfl
set_option maxRecDepth 100000 in
set_option maxHeartbeats 4000000 in
theorem e_X7_lease_44 (x1 : Int32) (x2 : Int32) (s0 : Int32) (h : Hp) : f_X7_lease_44 x1 x2 s0 h = bI (F_X7_holds [.ref 227, .int s0] h) (fun v2 h1 => if v2 = 0 then rtn (some (.int 0)) h1 else gd (inb x1 60) (gd (inb x1 60) (rtn (some (.int (rd h1 261 x1.toNatClampNeg))) (wr h1 261 x1.toNatClampNeg x2)))) (hnk []) :=
  (exL_it SKc SKn SKr CS (lkp T_X7_lease) [F_X7_isSeries, F_X7_isCarrier, F_X7_holds] [] [] [19, 20, 44] 14 44 [.ref 227, .int x1, .int x2, .retAddr 0, .retAddr 0] [.int s0, .ref 227] h).trans rfl

def T_X7_fly : List (Nat × Ent) := [(0, ([], .aload_n 0, 1, 0, 0, 0, 0)),
  (1, ([], .iload_n 1, 1, 1, 0, 0, 0)),
  (2, ([], .invokevirtual 265, 3, 0, 9, 0, 0)),
  (5, ([], .istore 4, 2, 4, 0, 0, 0)),
  (7, ([], .iload 4, 2, 4, 0, 0, 0)),
  (9, ([], .ifCond .eq 36, 3, 45, 0, 0, 0)),
  (12, ([], .iload_n 2, 1, 2, 0, 0, 0)),
  (13, ([], .aload_n 0, 1, 0, 0, 0, 0)),
  (14, ([], .getfield 124, 3, 44, 3, 0, 0)),
  (17, ([], .iload_n 1, 1, 1, 0, 0, 0)),
  (18, ([], .iaload, 1, 0, 0, 0, 0)),
  (19, ([], .aload_n 0, 1, 0, 0, 0, 0)),
  (20, ([], .getfield 127, 3, 45, 3, 0, 0)),
  (23, ([], .iload_n 1, 1, 1, 0, 0, 0)),
  (24, ([], .iaload, 1, 0, 0, 0, 0)),
  (25, ([], .invokestatic 156, 3, 1, 13, 0, 0)),
  (28, ([], .ifCond .eq 17, 3, 45, 0, 0, 0)),
  (31, ([], .iload_n 3, 1, 3, 0, 0, 0)),
  (32, ([], .iconst 0, 1, 0, 0, 0, 0)),
  (33, ([], .bipush 71, 2, 0, 0, 0, 71)),
  (35, ([], .invokestatic 156, 3, 1, 13, 0, 0)),
  (38, ([], .ifCond .eq 7, 3, 45, 0, 0, 0)),
  (41, ([], .iconst 1, 1, 0, 0, 0, 1)),
  (42, ([], .goto 4, 3, 46, 0, 0, 0)),
  (45, ([false, false, false, false, false, true], .iconst 0, 1, 0, 0, 0, 0)),
  (46, ([false, false, false, false, false, true], .istore 5, 2, 5, 0, 0, 0)),
  (48, ([], .aload_n 0, 1, 0, 0, 0, 0)),
  (49, ([], .iload 4, 2, 4, 0, 0, 0)),
  (51, ([], .ifCond .ne 7, 3, 58, 0, 0, 0)),
  (54, ([], .iconst 1, 1, 0, 0, 0, 1)),
  (55, ([], .goto 40, 3, 95, 0, 0, 0)),
  (58, ([], .iload 5, 2, 5, 0, 0, 0)),
  (60, ([], .ifCond .ne 7, 3, 67, 0, 0, 0)),
  (63, ([], .iconst 2, 1, 0, 0, 0, 2)),
  (64, ([], .goto 31, 3, 95, 0, 0, 0)),
  (67, ([], .aload_n 0, 1, 0, 0, 0, 0)),
  (68, ([], .getfield 142, 3, 50, 3, 0, 0)),
  (71, ([], .iload_n 1, 1, 1, 0, 0, 0)),
  (72, ([], .baload, 1, 0, 0, 0, 0)),
  (73, ([], .ifCond .ne 17, 3, 90, 0, 0, 0)),
  (76, ([], .aload_n 0, 1, 0, 0, 0, 0)),
  (77, ([], .getfield 136, 3, 48, 3, 0, 0)),
  (80, ([], .iload_n 1, 1, 1, 0, 0, 0)),
  (81, ([], .iaload, 1, 0, 0, 0, 0)),
  (82, ([], .iload_n 2, 1, 2, 0, 0, 0)),
  (83, ([], .ishr, 1, 0, 0, 0, 0)),
  (84, ([], .iconst 1, 1, 0, 0, 0, 1)),
  (85, ([], .iand, 1, 0, 0, 0, 0)),
  (86, ([], .iconst 1, 1, 0, 0, 0, 1)),
  (87, ([], .if_icmp .ne 7, 3, 94, 0, 0, 0)),
  (90, ([false, false, false, false, true, true], .iconst 3, 1, 0, 0, 0, 3)),
  (91, ([], .goto 4, 3, 95, 0, 0, 0)),
  (94, ([], .iconst 0, 1, 0, 0, 0, 0)),
  (95, ([false, false, false, false, true, true], .invokevirtual 170, 3, 2, 9, 0, 0)),
  (98, ([], .ifCond .ne 5, 3, 103, 0, 0, 0)),
  (101, ([], .iconst 0, 1, 0, 0, 0, 0)),
  (102, ([], .ireturn, 1, 0, 0, 0, 0)),
  (103, ([], .aload_n 0, 1, 0, 0, 0, 0)),
  (104, ([], .getfield 136, 3, 48, 3, 0, 0)),
  (107, ([], .iload_n 1, 1, 1, 0, 0, 0)),
  (108, ([], .dup2, 1, 0, 0, 0, 0)),
  (109, ([], .iaload, 1, 0, 0, 0, 0)),
  (110, ([], .iconst 1, 1, 0, 0, 0, 1)),
  (111, ([], .iload_n 2, 1, 2, 0, 0, 0)),
  (112, ([], .ishl, 1, 0, 0, 0, 0)),
  (113, ([], .ior, 1, 0, 0, 0, 0)),
  (114, ([], .iastore, 1, 0, 0, 0, 0)),
  (115, ([], .aload_n 0, 1, 0, 0, 0, 0)),
  (116, ([], .getfield 139, 3, 49, 3, 0, 0)),
  (119, ([], .iload_n 1, 1, 1, 0, 0, 0)),
  (120, ([], .dup2, 1, 0, 0, 0, 0)),
  (121, ([], .iaload, 1, 0, 0, 0, 0)),
  (122, ([], .iload_n 3, 1, 3, 0, 0, 0)),
  (123, ([], .aload_n 0, 1, 0, 0, 0, 0)),
  (124, ([], .getfield 121, 3, 43, 3, 0, 0)),
  (127, ([], .iload_n 1, 1, 1, 0, 0, 0)),
  (128, ([], .iaload, 1, 0, 0, 0, 0)),
  (129, ([], .iconst 2, 1, 0, 0, 0, 2)),
  (130, ([], .isub, 1, 0, 0, 0, 0)),
  (131, ([], .aload_n 0, 1, 0, 0, 0, 0)),
  (132, ([], .getfield 121, 3, 43, 3, 0, 0)),
  (135, ([], .iload_n 1, 1, 1, 0, 0, 0)),
  (136, ([], .iaload, 1, 0, 0, 0, 0)),
  (137, ([], .iconst 2, 1, 0, 0, 0, 2)),
  (138, ([], .iadd, 1, 0, 0, 0, 0)),
  (139, ([], .invokestatic 156, 3, 1, 13, 0, 0)),
  (142, ([], .ifCond .eq 7, 3, 149, 0, 0, 0)),
  (145, ([], .iconst 0, 1, 0, 0, 0, 0)),
  (146, ([], .goto 4, 3, 150, 0, 0, 0)),
  (149, ([], .iconst 1, 1, 0, 0, 0, 1)),
  (150, ([false, false, true, true, true, true], .iadd, 1, 0, 0, 0, 0)),
  (151, ([], .iastore, 1, 0, 0, 0, 0)),
  (152, ([], .aload_n 0, 1, 0, 0, 0, 0)),
  (153, ([], .getfield 142, 3, 50, 3, 0, 0)),
  (156, ([], .iload_n 1, 1, 1, 0, 0, 0)),
  (157, ([], .aload_n 0, 1, 0, 0, 0, 0)),
  (158, ([], .getfield 139, 3, 49, 3, 0, 0)),
  (161, ([], .iload_n 1, 1, 1, 0, 0, 0)),
  (162, ([], .iaload, 1, 0, 0, 0, 0)),
  (163, ([], .iconst 2, 1, 0, 0, 0, 2)),
  (164, ([], .if_icmp .le 7, 3, 171, 0, 0, 0)),
  (167, ([], .iconst 1, 1, 0, 0, 0, 1)),
  (168, ([], .goto 4, 3, 172, 0, 0, 0)),
  (171, ([], .iconst 0, 1, 0, 0, 0, 0)),
  (172, ([], .bastore, 1, 0, 0, 0, 0)),
  (173, ([], .aload_n 0, 1, 0, 0, 0, 0)),
  (174, ([], .getfield 139, 3, 49, 3, 0, 0)),
  (177, ([], .iload_n 1, 1, 1, 0, 0, 0)),
  (178, ([], .iaload, 1, 0, 0, 0, 0)),
  (179, ([], .ireturn, 1, 0, 0, 0, 0))]
noncomputable def E_X7_fly : Kt := exL SKc SKn SKr CS (lkp T_X7_fly) [F_X7_isSeries, F_X7_isIn, F_X7_holds] [] []
noncomputable def F_X7_fly : Fn := fun as h => E_X7_fly 0 (pad 6 as) [] h
noncomputable def f_X7_fly_45 (x1 : Int32) (x2 : Int32) (x3 : Int32) (x4 : Int32) (h : Hp) : Res := E_X7_fly 45 [.ref 227, .int x1, .int x2, .int x3, .int x4, .retAddr 0] [] h
noncomputable def f_X7_fly_46 (x1 : Int32) (x2 : Int32) (x3 : Int32) (x4 : Int32) (s0 : Int32) (h : Hp) : Res := E_X7_fly 46 [.ref 227, .int x1, .int x2, .int x3, .int x4, .retAddr 0] [.int s0] h
noncomputable def f_X7_fly_90 (x1 : Int32) (x2 : Int32) (x3 : Int32) (h : Hp) : Res := E_X7_fly 90 [.ref 227, .int x1, .int x2, .int x3, .retAddr 0, .retAddr 0] [.ref 227] h
noncomputable def f_X7_fly_95 (x1 : Int32) (x2 : Int32) (x3 : Int32) (s0 : Int32) (h : Hp) : Res := E_X7_fly 95 [.ref 227, .int x1, .int x2, .int x3, .retAddr 0, .retAddr 0] [.int s0, .ref 227] h
noncomputable def f_X7_fly_150 (x1 : Int32) (s0 : Int32) (s1 : Int32) (s2 : Int32) (h : Hp) : Res := E_X7_fly 150 [.ref 227, .int x1, .retAddr 0, .retAddr 0, .retAddr 0, .retAddr 0] [.int s0, .int s1, .int s2, .ref 271] h
set_option maxRecDepth 100000 in
set_option maxHeartbeats 4000000 in
theorem e_X7_fly_0 (x1 : Int32) (x2 : Int32) (x3 : Int32) (h : Hp) : F_X7_fly [.ref 227, .int x1, .int x2, .int x3] h = bI (F_X7_isSeries [.ref 227, .int x1] h) (fun v2 h1 => if v2 = 0 then f_X7_fly_45 x1 x2 x3 v2 h1 else gd (inb x1 60) (gd (inb x1 60) (bI (F_X7_isIn [.int x2, .int (rd h1 266 x1.toNatClampNeg), .int (rd h1 267 x1.toNatClampNeg)] h1) (fun v4 h3 => if v4 = 0 then f_X7_fly_45 x1 x2 x3 v2 h3 else bI (F_X7_isIn [.int x3, .int 0, .int 71] h3) (fun v6 h5 => if v6 = 0 then f_X7_fly_45 x1 x2 x3 v2 h5 else f_X7_fly_46 x1 x2 x3 v2 1 h5) (hnk [])) (hnk [])))) (hnk []) :=
  (exL_it SKc SKn SKr CS (lkp T_X7_fly) [F_X7_isSeries, F_X7_isIn, F_X7_holds] [] [] [45, 46, 90, 95, 150] 24 0 [.ref 227, .int x1, .int x2, .int x3, .retAddr 0, .retAddr 0] [] h).trans rfl
set_option maxRecDepth 100000 in
set_option maxHeartbeats 4000000 in
theorem e_X7_fly_45 (x1 : Int32) (x2 : Int32) (x3 : Int32) (x4 : Int32) (h : Hp) : f_X7_fly_45 x1 x2 x3 x4 h = f_X7_fly_46 x1 x2 x3 x4 0 h :=
  (exL_it SKc SKn SKr CS (lkp T_X7_fly) [F_X7_isSeries, F_X7_isIn, F_X7_holds] [] [] [45, 46, 90, 95, 150] 1 45 [.ref 227, .int x1, .int x2, .int x3, .int x4, .retAddr 0] [] h).trans rfl
set_option maxRecDepth 100000 in
set_option maxHeartbeats 4000000 in
theorem e_X7_fly_46 (x1 : Int32) (x2 : Int32) (x3 : Int32) (x4 : Int32) (s0 : Int32) (h : Hp) : f_X7_fly_46 x1 x2 x3 x4 s0 h = if x4 = 0 then f_X7_fly_95 x1 x2 x3 1 h else if s0 = 0 then f_X7_fly_95 x1 x2 x3 2 h else gd (inb x1 60) (if (rd h 272 x1.toNatClampNeg) = 0 then gd (inb x1 60) (if (((rd h 270 x1.toNatClampNeg) >>> (x2 &&& 31)) &&& 1) = 1 then f_X7_fly_90 x1 x2 x3 h else f_X7_fly_95 x1 x2 x3 0 h) else f_X7_fly_90 x1 x2 x3 h) :=
  (exL_it SKc SKn SKr CS (lkp T_X7_fly) [F_X7_isSeries, F_X7_isIn, F_X7_holds] [] [] [45, 46, 90, 95, 150] 22 46 [.ref 227, .int x1, .int x2, .int x3, .int x4, .retAddr 0] [.int s0] h).trans rfl
set_option maxRecDepth 100000 in
set_option maxHeartbeats 4000000 in
theorem e_X7_fly_90 (x1 : Int32) (x2 : Int32) (x3 : Int32) (h : Hp) : f_X7_fly_90 x1 x2 x3 h = f_X7_fly_95 x1 x2 x3 3 h :=
  (exL_it SKc SKn SKr CS (lkp T_X7_fly) [F_X7_isSeries, F_X7_isIn, F_X7_holds] [] [] [45, 46, 90, 95, 150] 2 90 [.ref 227, .int x1, .int x2, .int x3, .retAddr 0, .retAddr 0] [.ref 227] h).trans rfl
set_option maxRecDepth 100000 in
set_option maxHeartbeats 4000000 in
theorem e_X7_fly_95 (x1 : Int32) (x2 : Int32) (x3 : Int32) (s0 : Int32) (h : Hp) : f_X7_fly_95 x1 x2 x3 s0 h = bI (F_X7_holds [.ref 227, .int s0] h) (fun v2 h1 => if v2 = 0 then rtn (some (.int 0)) h1 else gd (inb x1 60) (gd (inb x1 60) (gd (inb x1 60) (gd (inb x1 60) (gd (inb x1 60) (bI (F_X7_isIn [.int x3, .int ((rd h1 265 x1.toNatClampNeg) - 2), .int ((rd h1 265 x1.toNatClampNeg) + 2)] (wr h1 270 x1.toNatClampNeg ((rd h1 270 x1.toNatClampNeg) ||| (1 <<< (x2 &&& 31))))) (fun v4 h3 => if v4 = 0 then f_X7_fly_150 x1 1 (rd h1 271 x1.toNatClampNeg) x1 h3 else f_X7_fly_150 x1 0 (rd h1 271 x1.toNatClampNeg) x1 h3) (hnk []))))))) (hnk []) :=
  (exL_it SKc SKn SKr CS (lkp T_X7_fly) [F_X7_isSeries, F_X7_isIn, F_X7_holds] [] [] [45, 46, 90, 95, 150] 34 95 [.ref 227, .int x1, .int x2, .int x3, .retAddr 0, .retAddr 0] [.int s0, .ref 227] h).trans rfl
set_option maxRecDepth 100000 in
set_option maxHeartbeats 4000000 in
theorem e_X7_fly_150 (x1 : Int32) (s0 : Int32) (s1 : Int32) (s2 : Int32) (h : Hp) : f_X7_fly_150 x1 s0 s1 s2 h = gd (inb s2 60) (gd (inb x1 60) (if 2 < (rd (wr h 271 s2.toNatClampNeg (s1 + s0)) 271 x1.toNatClampNeg) then gd (inb x1 60) (gd (inb x1 60) (rtn (some (.int (rd (wr h 271 s2.toNatClampNeg (s1 + s0)) 271 x1.toNatClampNeg))) (wr (wr h 271 s2.toNatClampNeg (s1 + s0)) 272 x1.toNatClampNeg (vp_nar .boolean 1)))) else gd (inb x1 60) (gd (inb x1 60) (rtn (some (.int (rd (wr h 271 s2.toNatClampNeg (s1 + s0)) 271 x1.toNatClampNeg))) (wr (wr h 271 s2.toNatClampNeg (s1 + s0)) 272 x1.toNatClampNeg (vp_nar .boolean 0)))))) :=
  (exL_it SKc SKn SKr CS (lkp T_X7_fly) [F_X7_isSeries, F_X7_isIn, F_X7_holds] [] [] [45, 46, 90, 95, 150] 19 150 [.ref 227, .int x1, .retAddr 0, .retAddr 0, .retAddr 0, .retAddr 0] [.int s0, .int s1, .int s2, .ref 271] h).trans rfl

def T_X7_close : List (Nat × Ent) := [(0, ([], .aload_n 0, 1, 0, 0, 0, 0)),
  (1, ([], .iload_n 1, 1, 1, 0, 0, 0)),
  (2, ([], .invokestatic 160, 3, 0, 5, 0, 0)),
  (5, ([], .ifCond .ne 7, 3, 12, 0, 0, 0)),
  (8, ([], .iconst 1, 1, 0, 0, 0, 1)),
  (9, ([], .goto 16, 3, 25, 0, 0, 0)),
  (12, ([], .iload_n 2, 1, 2, 0, 0, 0)),
  (13, ([], .iload_n 3, 1, 3, 0, 0, 0)),
  (14, ([], .invokestatic 207, 3, 1, 9, 0, 0)),
  (17, ([], .ifCond .eq 7, 3, 24, 0, 0, 0)),
  (20, ([], .iconst 0, 1, 0, 0, 0, 0)),
  (21, ([], .goto 4, 3, 25, 0, 0, 0)),
  (24, ([], .iconst 2, 1, 0, 0, 0, 2)),
  (25, ([false, false, false, false, true, true], .invokevirtual 170, 3, 2, 9, 0, 0)),
  (28, ([], .ifCond .ne 5, 3, 33, 0, 0, 0)),
  (31, ([], .iconst 0, 1, 0, 0, 0, 0)),
  (32, ([], .ireturn, 1, 0, 0, 0, 0)),
  (33, ([], .bipush 7, 2, 0, 0, 0, 7)),
  (35, ([], .iload_n 1, 1, 1, 0, 0, 0)),
  (36, ([], .imul, 1, 0, 0, 0, 0)),
  (37, ([], .iload_n 2, 1, 2, 0, 0, 0)),
  (38, ([], .iadd, 1, 0, 0, 0, 0)),
  (39, ([], .istore 4, 2, 4, 0, 0, 0)),
  (41, ([], .aload_n 0, 1, 0, 0, 0, 0)),
  (42, ([], .getfield 146, 3, 51, 3, 0, 0)),
  (45, ([], .iload 4, 2, 4, 0, 0, 0)),
  (47, ([], .iaload, 1, 0, 0, 0, 0)),
  (48, ([], .iload_n 3, 1, 3, 0, 0, 0)),
  (49, ([], .ishr, 1, 0, 0, 0, 0)),
  (50, ([], .iconst 1, 1, 0, 0, 0, 1)),
  (51, ([], .iand, 1, 0, 0, 0, 0)),
  (52, ([], .ifCond .ne 7, 3, 59, 0, 0, 0)),
  (55, ([], .iconst 1, 1, 0, 0, 0, 1)),
  (56, ([], .goto 4, 3, 60, 0, 0, 0)),
  (59, ([], .iconst 0, 1, 0, 0, 0, 0)),
  (60, ([false, true, true, false, false, true], .istore 5, 2, 5, 0, 0, 0)),
  (62, ([], .aload_n 0, 1, 0, 0, 0, 0)),
  (63, ([], .getfield 146, 3, 51, 3, 0, 0)),
  (66, ([], .iload 4, 2, 4, 0, 0, 0)),
  (68, ([], .dup2, 1, 0, 0, 0, 0)),
  (69, ([], .iaload, 1, 0, 0, 0, 0)),
  (70, ([], .iconst 1, 1, 0, 0, 0, 1)),
  (71, ([], .iload_n 3, 1, 3, 0, 0, 0)),
  (72, ([], .ishl, 1, 0, 0, 0, 0)),
  (73, ([], .ior, 1, 0, 0, 0, 0)),
  (74, ([], .iastore, 1, 0, 0, 0, 0)),
  (75, ([], .iload 5, 2, 5, 0, 0, 0)),
  (77, ([], .ireturn, 1, 0, 0, 0, 0))]
noncomputable def E_X7_close : Kt := exL SKc SKn SKr CS (lkp T_X7_close) [F_X7_isAirport, F_X7_isDay, F_X7_holds] [] []
noncomputable def F_X7_close : Fn := fun as h => E_X7_close 0 (pad 6 as) [] h
noncomputable def f_X7_close_25 (x1 : Int32) (x2 : Int32) (x3 : Int32) (s0 : Int32) (h : Hp) : Res := E_X7_close 25 [.ref 227, .int x1, .int x2, .int x3, .retAddr 0, .retAddr 0] [.int s0, .ref 227] h
noncomputable def f_X7_close_60 (x3 : Int32) (x4 : Int32) (s0 : Int32) (h : Hp) : Res := E_X7_close 60 [.ref 227, .retAddr 0, .retAddr 0, .int x3, .int x4, .retAddr 0] [.int s0] h
set_option maxRecDepth 100000 in
set_option maxHeartbeats 4000000 in
theorem e_X7_close_0 (x1 : Int32) (x2 : Int32) (x3 : Int32) (h : Hp) : F_X7_close [.ref 227, .int x1, .int x2, .int x3] h = bI (F_X7_isAirport [.int x1] h) (fun v2 h1 => if v2 = 0 then f_X7_close_25 x1 x2 x3 1 h1 else bI (F_X7_isDay [.int x2, .int x3] h1) (fun v4 h3 => if v4 = 0 then f_X7_close_25 x1 x2 x3 2 h3 else f_X7_close_25 x1 x2 x3 0 h3) (hnk [])) (hnk []) :=
  (exL_it SKc SKn SKr CS (lkp T_X7_close) [F_X7_isAirport, F_X7_isDay, F_X7_holds] [] [] [25, 60] 10 0 [.ref 227, .int x1, .int x2, .int x3, .retAddr 0, .retAddr 0] [] h).trans rfl
set_option maxRecDepth 100000 in
set_option maxHeartbeats 4000000 in
theorem e_X7_close_25 (x1 : Int32) (x2 : Int32) (x3 : Int32) (s0 : Int32) (h : Hp) : f_X7_close_25 x1 x2 x3 s0 h = bI (F_X7_holds [.ref 227, .int s0] h) (fun v2 h1 => if v2 = 0 then rtn (some (.int 0)) h1 else gd (inb ((7 * x1) + x2) 28) (if (((rd h1 273 (((7 * x1) + x2).toNatClampNeg)) >>> (x3 &&& 31)) &&& 1) = 0 then f_X7_close_60 x3 ((7 * x1) + x2) 1 h1 else f_X7_close_60 x3 ((7 * x1) + x2) 0 h1)) (hnk []) :=
  (exL_it SKc SKn SKr CS (lkp T_X7_close) [F_X7_isAirport, F_X7_isDay, F_X7_holds] [] [] [25, 60] 19 25 [.ref 227, .int x1, .int x2, .int x3, .retAddr 0, .retAddr 0] [.int s0, .ref 227] h).trans rfl
set_option maxRecDepth 100000 in
set_option maxHeartbeats 4000000 in
theorem e_X7_close_60 (x3 : Int32) (x4 : Int32) (s0 : Int32) (h : Hp) : f_X7_close_60 x3 x4 s0 h = gd (inb x4 28) (gd (inb x4 28) (rtn (some (.int s0)) (wr h 273 x4.toNatClampNeg ((rd h 273 x4.toNatClampNeg) ||| (1 <<< (x3 &&& 31)))))) :=
  (exL_it SKc SKn SKr CS (lkp T_X7_close) [F_X7_isAirport, F_X7_isDay, F_X7_holds] [] [] [25, 60] 13 60 [.ref 227, .retAddr 0, .retAddr 0, .int x3, .int x4, .retAddr 0] [.int s0] h).trans rfl

def T_X7_usedOf : List (Nat × Ent) := [(0, ([], .aload_n 0, 1, 0, 0, 0, 0)),
  (1, ([], .getfield 136, 3, 48, 3, 0, 0)),
  (4, ([], .iload_n 1, 1, 1, 0, 0, 0)),
  (5, ([], .iaload, 1, 0, 0, 0, 0)),
  (6, ([], .aload_n 0, 1, 0, 0, 0, 0)),
  (7, ([], .getfield 146, 3, 51, 3, 0, 0)),
  (10, ([], .bipush 7, 2, 0, 0, 0, 7)),
  (12, ([], .aload_n 0, 1, 0, 0, 0, 0)),
  (13, ([], .getfield 112, 3, 40, 3, 0, 0)),
  (16, ([], .iload_n 1, 1, 1, 0, 0, 0)),
  (17, ([], .iaload, 1, 0, 0, 0, 0)),
  (18, ([], .imul, 1, 0, 0, 0, 0)),
  (19, ([], .aload_n 0, 1, 0, 0, 0, 0)),
  (20, ([], .getfield 118, 3, 42, 3, 0, 0)),
  (23, ([], .iload_n 1, 1, 1, 0, 0, 0)),
  (24, ([], .iaload, 1, 0, 0, 0, 0)),
  (25, ([], .iadd, 1, 0, 0, 0, 0)),
  (26, ([], .iaload, 1, 0, 0, 0, 0)),
  (27, ([], .ior, 1, 0, 0, 0, 0)),
  (28, ([], .istore_n 2, 1, 2, 0, 0, 0)),
  (29, ([], .iconst 0, 1, 0, 0, 0, 0)),
  (30, ([], .istore_n 3, 1, 3, 0, 0, 0)),
  (31, ([], .aload_n 0, 1, 0, 0, 0, 0)),
  (32, ([], .getfield 124, 3, 44, 3, 0, 0)),
  (35, ([], .iload_n 1, 1, 1, 0, 0, 0)),
  (36, ([], .iaload, 1, 0, 0, 0, 0)),
  (37, ([], .istore 4, 2, 4, 0, 0, 0)),
  (39, ([false, false, false, false, false], .iload 4, 2, 4, 0, 0, 0)),
  (41, ([], .aload_n 0, 1, 0, 0, 0, 0)),
  (42, ([], .getfield 127, 3, 45, 3, 0, 0)),
  (45, ([], .iload_n 1, 1, 1, 0, 0, 0)),
  (46, ([], .iaload, 1, 0, 0, 0, 0)),
  (47, ([], .if_icmp .gt 18, 3, 65, 0, 0, 0)),
  (50, ([], .iload_n 3, 1, 3, 0, 0, 0)),
  (51, ([], .iload_n 2, 1, 2, 0, 0, 0)),
  (52, ([], .iload 4, 2, 4, 0, 0, 0)),
  (54, ([], .ishr, 1, 0, 0, 0, 0)),
  (55, ([], .iconst 1, 1, 0, 0, 0, 1)),
  (56, ([], .iand, 1, 0, 0, 0, 0)),
  (57, ([], .iadd, 1, 0, 0, 0, 0)),
  (58, ([], .istore_n 3, 1, 3, 0, 0, 0)),
  (59, ([], .iinc 4 1, 3, 4, 0, 0, 1)),
  (62, ([], .goto (-23), 3, 39, 0, 0, 0)),
  (65, ([], .iload_n 3, 1, 3, 0, 0, 0)),
  (66, ([], .ireturn, 1, 0, 0, 0, 0))]
noncomputable def E_X7_usedOf : Kt := exL SKc SKn SKr CS (lkp T_X7_usedOf) [] [] []
noncomputable def F_X7_usedOf : Fn := fun as h => E_X7_usedOf 0 (pad 5 as) [] h
noncomputable def f_X7_usedOf_39 (x1 : Int32) (x2 : Int32) (x3 : Int32) (x4 : Int32) (h : Hp) : Res := E_X7_usedOf 39 [.ref 227, .int x1, .int x2, .int x3, .int x4] [] h
set_option maxRecDepth 100000 in
set_option maxHeartbeats 4000000 in
theorem e_X7_usedOf_0 (x1 : Int32) (h : Hp) : F_X7_usedOf [.ref 227, .int x1] h = gd (inb x1 60) (gd (inb x1 60) (gd (inb x1 60) (gd (inb ((7 * (rd h 262 x1.toNatClampNeg)) + (rd h 264 x1.toNatClampNeg)) 28) (gd (inb x1 60) (f_X7_usedOf_39 x1 ((rd h 270 x1.toNatClampNeg) ||| (rd h 273 (((7 * (rd h 262 x1.toNatClampNeg)) + (rd h 264 x1.toNatClampNeg)).toNatClampNeg))) 0 (rd h 266 x1.toNatClampNeg) h))))) :=
  (exL_it SKc SKn SKr CS (lkp T_X7_usedOf) [] [] [] [39] 27 0 [.ref 227, .int x1, .retAddr 0, .retAddr 0, .retAddr 0] [] h).trans rfl
set_option maxRecDepth 100000 in
set_option maxHeartbeats 4000000 in
theorem e_X7_usedOf_39 (x1 : Int32) (x2 : Int32) (x3 : Int32) (x4 : Int32) (h : Hp) : f_X7_usedOf_39 x1 x2 x3 x4 h = gd (inb x1 60) (if (rd h 267 x1.toNatClampNeg) < x4 then rtn (some (.int x3)) h else f_X7_usedOf_39 x1 x2 (x3 + ((x2 >>> (x4 &&& 31)) &&& 1)) (x4 + 1) h) :=
  (exL_it SKc SKn SKr CS (lkp T_X7_usedOf) [] [] [] [39] 16 39 [.ref 227, .int x1, .int x2, .int x3, .int x4] [] h).trans rfl

def T_X7_isEarned : List (Nat × Ent) := [(0, ([], .aload_n 0, 1, 0, 0, 0, 0)),
  (1, ([], .getfield 127, 3, 45, 3, 0, 0)),
  (4, ([], .iload_n 1, 1, 1, 0, 0, 0)),
  (5, ([], .iaload, 1, 0, 0, 0, 0)),
  (6, ([], .aload_n 0, 1, 0, 0, 0, 0)),
  (7, ([], .getfield 124, 3, 44, 3, 0, 0)),
  (10, ([], .iload_n 1, 1, 1, 0, 0, 0)),
  (11, ([], .iaload, 1, 0, 0, 0, 0)),
  (12, ([], .isub, 1, 0, 0, 0, 0)),
  (13, ([], .iconst 1, 1, 0, 0, 0, 1)),
  (14, ([], .iadd, 1, 0, 0, 0, 0)),
  (15, ([], .istore_n 2, 1, 2, 0, 0, 0)),
  (16, ([], .aload_n 0, 1, 0, 0, 0, 0)),
  (17, ([], .getfield 142, 3, 50, 3, 0, 0)),
  (20, ([], .iload_n 1, 1, 1, 0, 0, 0)),
  (21, ([], .baload, 1, 0, 0, 0, 0)),
  (22, ([], .ifCond .ne 27, 3, 49, 0, 0, 0)),
  (25, ([], .iload_n 2, 1, 2, 0, 0, 0)),
  (26, ([], .iconst 4, 1, 0, 0, 0, 4)),
  (27, ([], .if_icmp .le 22, 3, 49, 0, 0, 0)),
  (30, ([], .bipush 100, 2, 0, 0, 0, 100)),
  (32, ([], .aload_n 0, 1, 0, 0, 0, 0)),
  (33, ([], .iload_n 1, 1, 1, 0, 0, 0)),
  (34, ([], .invokevirtual 271, 3, 0, 9, 0, 0)),
  (37, ([], .imul, 1, 0, 0, 0, 0)),
  (38, ([], .bipush 80, 2, 0, 0, 0, 80)),
  (40, ([], .iload_n 2, 1, 2, 0, 0, 0)),
  (41, ([], .imul, 1, 0, 0, 0, 0)),
  (42, ([], .if_icmp .lt 7, 3, 49, 0, 0, 0)),
  (45, ([], .iconst 1, 1, 0, 0, 0, 1)),
  (46, ([], .goto 4, 3, 50, 0, 0, 0)),
  (49, ([], .iconst 0, 1, 0, 0, 0, 0)),
  (50, ([], .ireturn, 1, 0, 0, 0, 0))]
noncomputable def E_X7_isEarned : Kt := exL SKc SKn SKr CS (lkp T_X7_isEarned) [F_X7_usedOf] [] []
noncomputable def F_X7_isEarned : Fn := fun as h => E_X7_isEarned 0 (pad 3 as) [] h
set_option maxRecDepth 100000 in
set_option maxHeartbeats 4000000 in
theorem e_X7_isEarned_0 (x1 : Int32) (h : Hp) : F_X7_isEarned [.ref 227, .int x1] h = gd (inb x1 60) (gd (inb x1 60) (gd (inb x1 60) (if (rd h 272 x1.toNatClampNeg) = 0 then if 4 < (((rd h 267 x1.toNatClampNeg) - (rd h 266 x1.toNatClampNeg)) + 1) then bI (F_X7_usedOf [.ref 227, .int x1] h) (fun v2 h1 => if (100 * v2) < (80 * (((rd h 267 x1.toNatClampNeg) - (rd h 266 x1.toNatClampNeg)) + 1)) then rtn (some (.int 0)) h1 else rtn (some (.int 1)) h1) (hnk []) else rtn (some (.int 0)) h else rtn (some (.int 0)) h))) :=
  (exL_it SKc SKn SKr CS (lkp T_X7_isEarned) [F_X7_usedOf] [] [] [] 32 0 [.ref 227, .int x1, .retAddr 0] [] h).trans rfl

def T_X7_end : List (Nat × Ent) := [(0, ([], .aload_n 0, 1, 0, 0, 0, 0)),
  (1, ([], .aload_n 0, 1, 0, 0, 0, 0)),
  (2, ([], .getfield 274, 3, 1, 2, 0, 0)),
  (5, ([], .bipush 20, 2, 0, 0, 0, 20)),
  (7, ([], .if_icmp .ne 7, 3, 14, 0, 0, 0)),
  (10, ([], .iconst 1, 1, 0, 0, 0, 1)),
  (11, ([], .goto 4, 3, 15, 0, 0, 0)),
  (14, ([], .iconst 0, 1, 0, 0, 0, 0)),
  (15, ([false, true, true], .invokevirtual 170, 3, 0, 9, 0, 0)),
  (18, ([], .ifCond .ne 5, 3, 23, 0, 0, 0)),
  (21, ([], .iconst 0, 1, 0, 0, 0, 0)),
  (22, ([], .ireturn, 1, 0, 0, 0, 0)),
  (23, ([], .iconst 0, 1, 0, 0, 0, 0)),
  (24, ([], .istore_n 1, 1, 1, 0, 0, 0)),
  (25, ([], .iconst 0, 1, 0, 0, 0, 0)),
  (26, ([], .istore_n 2, 1, 2, 0, 0, 0)),
  (27, ([false, false, false], .iload_n 2, 1, 2, 0, 0, 0)),
  (28, ([], .aload_n 0, 1, 0, 0, 0, 0)),
  (29, ([], .getfield 167, 3, 37, 2, 0, 0)),
  (32, ([], .if_icmp .ge 123, 3, 155, 0, 0, 0)),
  (35, ([], .aload_n 0, 1, 0, 0, 0, 0)),
  (36, ([], .iload_n 2, 1, 2, 0, 0, 0)),
  (37, ([], .invokevirtual 277, 3, 1, 9, 0, 0)),
  (40, ([], .ifCond .eq 109, 3, 149, 0, 0, 0)),
  (43, ([], .aload_n 0, 1, 0, 0, 0, 0)),
  (44, ([], .getfield 34, 3, 11, 3, 0, 0)),
  (47, ([], .iload_n 1, 1, 1, 0, 0, 0)),
  (48, ([], .aload_n 0, 1, 0, 0, 0, 0)),
  (49, ([], .getfield 106, 3, 38, 3, 0, 0)),
  (52, ([], .iload_n 2, 1, 2, 0, 0, 0)),
  (53, ([], .iaload, 1, 0, 0, 0, 0)),
  (54, ([], .iastore, 1, 0, 0, 0, 0)),
  (55, ([], .aload_n 0, 1, 0, 0, 0, 0)),
  (56, ([], .getfield 37, 3, 12, 3, 0, 0)),
  (59, ([], .iload_n 1, 1, 1, 0, 0, 0)),
  (60, ([], .aload_n 0, 1, 0, 0, 0, 0)),
  (61, ([], .getfield 112, 3, 40, 3, 0, 0)),
  (64, ([], .iload_n 2, 1, 2, 0, 0, 0)),
  (65, ([], .iaload, 1, 0, 0, 0, 0)),
  (66, ([], .iastore, 1, 0, 0, 0, 0)),
  (67, ([], .aload_n 0, 1, 0, 0, 0, 0)),
  (68, ([], .getfield 40, 3, 13, 3, 0, 0)),
  (71, ([], .iload_n 1, 1, 1, 0, 0, 0)),
  (72, ([], .aload_n 0, 1, 0, 0, 0, 0)),
  (73, ([], .getfield 115, 3, 41, 3, 0, 0)),
  (76, ([], .iload_n 2, 1, 2, 0, 0, 0)),
  (77, ([], .iaload, 1, 0, 0, 0, 0)),
  (78, ([], .iastore, 1, 0, 0, 0, 0)),
  (79, ([], .aload_n 0, 1, 0, 0, 0, 0)),
  (80, ([], .getfield 43, 3, 14, 3, 0, 0)),
  (83, ([], .iload_n 1, 1, 1, 0, 0, 0)),
  (84, ([], .aload_n 0, 1, 0, 0, 0, 0)),
  (85, ([], .getfield 118, 3, 42, 3, 0, 0)),
  (88, ([], .iload_n 2, 1, 2, 0, 0, 0)),
  (89, ([], .iaload, 1, 0, 0, 0, 0)),
  (90, ([], .iastore, 1, 0, 0, 0, 0)),
  (91, ([], .aload_n 0, 1, 0, 0, 0, 0)),
  (92, ([], .getfield 46, 3, 15, 3, 0, 0)),
  (95, ([], .iload_n 1, 1, 1, 0, 0, 0)),
  (96, ([], .aload_n 0, 1, 0, 0, 0, 0)),
  (97, ([], .getfield 121, 3, 43, 3, 0, 0)),
  (100, ([], .iload_n 2, 1, 2, 0, 0, 0)),
  (101, ([], .iaload, 1, 0, 0, 0, 0)),
  (102, ([], .iastore, 1, 0, 0, 0, 0)),
  (103, ([], .aload_n 0, 1, 0, 0, 0, 0)),
  (104, ([], .getfield 49, 3, 16, 3, 0, 0)),
  (107, ([], .iload_n 1, 1, 1, 0, 0, 0)),
  (108, ([], .aload_n 0, 1, 0, 0, 0, 0)),
  (109, ([], .getfield 124, 3, 44, 3, 0, 0)),
  (112, ([], .iload_n 2, 1, 2, 0, 0, 0)),
  (113, ([], .iaload, 1, 0, 0, 0, 0)),
  (114, ([], .iastore, 1, 0, 0, 0, 0)),
  (115, ([], .aload_n 0, 1, 0, 0, 0, 0)),
  (116, ([], .getfield 52, 3, 17, 3, 0, 0)),
  (119, ([], .iload_n 1, 1, 1, 0, 0, 0)),
  (120, ([], .aload_n 0, 1, 0, 0, 0, 0)),
  (121, ([], .getfield 127, 3, 45, 3, 0, 0)),
  (124, ([], .iload_n 2, 1, 2, 0, 0, 0)),
  (125, ([], .iaload, 1, 0, 0, 0, 0)),
  (126, ([], .iastore, 1, 0, 0, 0, 0)),
  (127, ([], .aload_n 0, 1, 0, 0, 0, 0)),
  (128, ([], .getfield 55, 3, 18, 3, 0, 0)),
  (131, ([], .iload_n 1, 1, 1, 0, 0, 0)),
  (132, ([], .aload_n 0, 1, 0, 0, 0, 0)),
  (133, ([], .getfield 130, 3, 46, 3, 0, 0)),
  (136, ([], .iload_n 2, 1, 2, 0, 0, 0)),
  (137, ([], .iaload, 1, 0, 0, 0, 0)),
  (138, ([], .iastore, 1, 0, 0, 0, 0)),
  (139, ([], .aload_n 0, 1, 0, 0, 0, 0)),
  (140, ([], .getfield 58, 3, 19, 3, 0, 0)),
  (143, ([], .iload_n 1, 1, 1, 0, 0, 0)),
  (144, ([], .iconst (-1), 1, 0, 0, 0, (-1))),
  (145, ([], .iastore, 1, 0, 0, 0, 0)),
  (146, ([], .iinc 1 1, 3, 1, 0, 0, 1)),
  (149, ([false, false, false], .iinc 2 1, 3, 2, 0, 0, 1)),
  (152, ([], .goto (-125), 3, 27, 0, 0, 0)),
  (155, ([], .iconst 0, 1, 0, 0, 0, 0)),
  (156, ([], .istore_n 2, 1, 2, 0, 0, 0)),
  (157, ([false, false, false], .iload_n 2, 1, 2, 0, 0, 0)),
  (158, ([], .bipush 28, 2, 0, 0, 0, 28)),
  (160, ([], .if_icmp .ge 16, 3, 176, 0, 0, 0)),
  (163, ([], .aload_n 0, 1, 0, 0, 0, 0)),
  (164, ([], .getfield 146, 3, 51, 3, 0, 0)),
  (167, ([], .iload_n 2, 1, 2, 0, 0, 0)),
  (168, ([], .iconst 0, 1, 0, 0, 0, 0)),
  (169, ([], .iastore, 1, 0, 0, 0, 0)),
  (170, ([], .iinc 2 1, 3, 2, 0, 0, 1)),
  (173, ([], .goto (-16), 3, 157, 0, 0, 0)),
  (176, ([], .aload_n 0, 1, 0, 0, 0, 0)),
  (177, ([], .iload_n 1, 1, 1, 0, 0, 0)),
  (178, ([], .putfield 201, 3, 10, 2, 0, 0)),
  (181, ([], .aload_n 0, 1, 0, 0, 0, 0)),
  (182, ([], .iconst 0, 1, 0, 0, 0, 0)),
  (183, ([], .putfield 164, 3, 20, 2, 0, 0)),
  (186, ([], .aload_n 0, 1, 0, 0, 0, 0)),
  (187, ([], .iconst 0, 1, 0, 0, 0, 0)),
  (188, ([], .putfield 217, 3, 36, 2, 0, 0)),
  (191, ([], .aload_n 0, 1, 0, 0, 0, 0)),
  (192, ([], .iconst 0, 1, 0, 0, 0, 0)),
  (193, ([], .putfield 167, 3, 37, 2, 0, 0)),
  (196, ([], .aload_n 0, 1, 0, 0, 0, 0)),
  (197, ([], .dup, 1, 0, 0, 0, 0)),
  (198, ([], .getfield 274, 3, 1, 2, 0, 0)),
  (201, ([], .iconst 1, 1, 0, 0, 0, 1)),
  (202, ([], .iadd, 1, 0, 0, 0, 0)),
  (203, ([], .putfield 274, 3, 1, 2, 0, 0)),
  (206, ([], .aload_n 0, 1, 0, 0, 0, 0)),
  (207, ([], .getfield 201, 3, 10, 2, 0, 0)),
  (210, ([], .ireturn, 1, 0, 0, 0, 0))]
noncomputable def E_X7_end : Kt := exL SKc SKn SKr CS (lkp T_X7_end) [F_X7_holds, F_X7_isEarned] [] []
noncomputable def F_X7_end : Fn := fun as h => E_X7_end 0 (pad 3 as) [] h
noncomputable def f_X7_end_15 (s0 : Int32) (h : Hp) : Res := E_X7_end 15 [.ref 227, .retAddr 0, .retAddr 0] [.int s0, .ref 227] h
noncomputable def f_X7_end_27 (x1 : Int32) (x2 : Int32) (h : Hp) : Res := E_X7_end 27 [.ref 227, .int x1, .int x2] [] h
noncomputable def f_X7_end_149 (x1 : Int32) (x2 : Int32) (h : Hp) : Res := E_X7_end 149 [.ref 227, .int x1, .int x2] [] h
noncomputable def f_X7_end_157 (x1 : Int32) (x2 : Int32) (h : Hp) : Res := E_X7_end 157 [.ref 227, .int x1, .int x2] [] h
set_option maxRecDepth 100000 in
set_option maxHeartbeats 4000000 in
theorem e_X7_end_0 (h : Hp) : F_X7_end [.ref 227] h = if (rd h 227 1) = 20 then f_X7_end_15 1 h else f_X7_end_15 0 h :=
  (exL_it SKc SKn SKr CS (lkp T_X7_end) [F_X7_holds, F_X7_isEarned] [] [] [15, 27, 149, 157] 7 0 [.ref 227, .retAddr 0, .retAddr 0] [] h).trans rfl
set_option maxRecDepth 100000 in
set_option maxHeartbeats 4000000 in
theorem e_X7_end_15 (s0 : Int32) (h : Hp) : f_X7_end_15 s0 h = bI (F_X7_holds [.ref 227, .int s0] h) (fun v2 h1 => if v2 = 0 then rtn (some (.int 0)) h1 else f_X7_end_27 0 0 h1) (hnk []) :=
  (exL_it SKc SKn SKr CS (lkp T_X7_end) [F_X7_holds, F_X7_isEarned] [] [] [15, 27, 149, 157] 6 15 [.ref 227, .retAddr 0, .retAddr 0] [.int s0, .ref 227] h).trans rfl
set_option maxRecDepth 100000 in
set_option maxHeartbeats 4000000 in
theorem e_X7_end_27 (x1 : Int32) (x2 : Int32) (h : Hp) : f_X7_end_27 x1 x2 h = if x2 < (rd h 227 37) then bI (F_X7_isEarned [.ref 227, .int x2] h) (fun v2 h1 => if v2 = 0 then f_X7_end_149 x1 x2 h1 else gd (inb x2 60) (gd (inb x1 60) (gd (inb x2 60) (gd (inb x1 60) (gd (inb x2 60) (gd (inb x1 60) (gd (inb x2 60) (gd (inb x1 60) (gd (inb x2 60) (gd (inb x1 60) (gd (inb x2 60) (gd (inb x1 60) (gd (inb x2 60) (gd (inb x1 60) (gd (inb x2 60) (gd (inb x1 60) (gd (inb x1 60) (f_X7_end_149 (x1 + 1) x2 (wr (wr (wr (wr (wr (wr (wr (wr (wr h1 236 x1.toNatClampNeg (rd h1 260 x2.toNatClampNeg)) 237 x1.toNatClampNeg (rd h1 262 x2.toNatClampNeg)) 238 x1.toNatClampNeg (rd h1 263 x2.toNatClampNeg)) 239 x1.toNatClampNeg (rd h1 264 x2.toNatClampNeg)) 240 x1.toNatClampNeg (rd h1 265 x2.toNatClampNeg)) 241 x1.toNatClampNeg (rd h1 266 x2.toNatClampNeg)) 242 x1.toNatClampNeg (rd h1 267 x2.toNatClampNeg)) 243 x1.toNatClampNeg (rd h1 268 x2.toNatClampNeg)) 244 x1.toNatClampNeg (-1)))))))))))))))))))) (hnk []) else f_X7_end_157 x1 0 h :=
  (exL_it SKc SKn SKr CS (lkp T_X7_end) [F_X7_holds, F_X7_isEarned] [] [] [15, 27, 149, 157] 78 27 [.ref 227, .int x1, .int x2] [] h).trans rfl
set_option maxRecDepth 100000 in
set_option maxHeartbeats 4000000 in
theorem e_X7_end_149 (x1 : Int32) (x2 : Int32) (h : Hp) : f_X7_end_149 x1 x2 h = f_X7_end_27 x1 (x2 + 1) h :=
  (exL_it SKc SKn SKr CS (lkp T_X7_end) [F_X7_holds, F_X7_isEarned] [] [] [15, 27, 149, 157] 2 149 [.ref 227, .int x1, .int x2] [] h).trans rfl
set_option maxRecDepth 100000 in
set_option maxHeartbeats 4000000 in
theorem e_X7_end_157 (x1 : Int32) (x2 : Int32) (h : Hp) : f_X7_end_157 x1 x2 h = if x2 < 28 then gd (inb x2 28) (f_X7_end_157 x1 (x2 + 1) (wr h 273 x2.toNatClampNeg 0)) else rtn (some (.int x1)) (wr (wr (wr (wr (wr h 227 10 x1) 227 20 0) 227 36 0) 227 37 0) 227 1 ((rd h 227 1) + 1)) :=
  (exL_it SKc SKn SKr CS (lkp T_X7_end) [F_X7_holds, F_X7_isEarned] [] [] [15, 27, 149, 157] 24 157 [.ref 227, .int x1, .int x2] [] h).trans rfl

def T_X7_season : List (Nat × Ent) := [(0, ([], .aload_n 0, 1, 0, 0, 0, 0)),
  (1, ([], .iconst 0, 1, 0, 0, 0, 0)),
  (2, ([], .putfield 152, 3, 0, 2, 0, 0)),
  (5, ([], .aload_n 0, 1, 0, 0, 0, 0)),
  (6, ([], .getfield 274, 3, 1, 2, 0, 0)),
  (9, ([], .ireturn, 1, 0, 0, 0, 0))]
noncomputable def E_X7_season : Kt := exL SKc SKn SKr CS (lkp T_X7_season) [] [] []
noncomputable def F_X7_season : Fn := fun as h => E_X7_season 0 (pad 1 as) [] h
set_option maxRecDepth 100000 in
set_option maxHeartbeats 4000000 in
theorem e_X7_season_0 (h : Hp) : F_X7_season [.ref 227] h = rtn (some (.int (rd h 227 1))) (wr h 227 0 0) :=
  (exL_it SKc SKn SKr CS (lkp T_X7_season) [] [] [] [] 6 0 [.ref 227] [] h).trans rfl

def T_X7_load : List (Nat × Ent) := [(0, ([], .iload_n 2, 1, 2, 0, 0, 0)),
  (1, ([], .iconst 0, 1, 0, 0, 0, 0)),
  (2, ([], .iconst 2, 1, 0, 0, 0, 2)),
  (3, ([], .invokestatic 156, 3, 0, 13, 0, 0)),
  (6, ([], .ifCond .eq 39, 3, 45, 0, 0, 0)),
  (9, ([], .iload_n 3, 1, 3, 0, 0, 0)),
  (10, ([], .iload 4, 2, 4, 0, 0, 0)),
  (12, ([], .invokestatic 207, 3, 1, 9, 0, 0)),
  (15, ([], .ifCond .eq 30, 3, 45, 0, 0, 0)),
  (18, ([], .iload 5, 2, 5, 0, 0, 0)),
  (20, ([], .iconst 0, 1, 0, 0, 0, 0)),
  (21, ([], .bipush 71, 2, 0, 0, 0, 71)),
  (23, ([], .invokestatic 156, 3, 0, 13, 0, 0)),
  (26, ([], .ifCond .eq 19, 3, 45, 0, 0, 0)),
  (29, ([], .iload 6, 2, 6, 0, 0, 0)),
  (31, ([], .iload 5, 2, 5, 0, 0, 0)),
  (33, ([], .bipush 71, 2, 0, 0, 0, 71)),
  (35, ([], .invokestatic 156, 3, 0, 13, 0, 0)),
  (38, ([], .ifCond .eq 7, 3, 45, 0, 0, 0)),
  (41, ([], .iconst 1, 1, 0, 0, 0, 1)),
  (42, ([], .goto 4, 3, 46, 0, 0, 0)),
  (45, ([false, false, false, false, false, false, false, true], .iconst 0, 1, 0, 0, 0, 0)),
  (46, ([false, false, false, false, false, false, false, true], .istore 7, 2, 7, 0, 0, 0)),
  (48, ([], .aload_n 0, 1, 0, 0, 0, 0)),
  (49, ([], .iload_n 1, 1, 1, 0, 0, 0)),
  (50, ([], .invokestatic 160, 3, 2, 5, 0, 0)),
  (53, ([], .ifCond .ne 7, 3, 60, 0, 0, 0)),
  (56, ([], .iconst 1, 1, 0, 0, 0, 1)),
  (57, ([], .goto 13, 3, 70, 0, 0, 0)),
  (60, ([], .iload 7, 2, 7, 0, 0, 0)),
  (62, ([], .ifCond .eq 7, 3, 69, 0, 0, 0)),
  (65, ([], .iconst 0, 1, 0, 0, 0, 0)),
  (66, ([], .goto 4, 3, 70, 0, 0, 0)),
  (69, ([], .iconst 2, 1, 0, 0, 0, 2)),
  (70, ([false, false, false, false, false, false, false, true], .invokevirtual 170, 3, 3, 9, 0, 0)),
  (73, ([], .ifCond .eq 19, 3, 92, 0, 0, 0)),
  (76, ([], .aload_n 0, 1, 0, 0, 0, 0)),
  (77, ([], .iload_n 1, 1, 1, 0, 0, 0)),
  (78, ([], .iload_n 2, 1, 2, 0, 0, 0)),
  (79, ([], .iload_n 3, 1, 3, 0, 0, 0)),
  (80, ([], .iload 4, 2, 4, 0, 0, 0)),
  (82, ([], .iload 5, 2, 5, 0, 0, 0)),
  (84, ([], .iload 6, 2, 6, 0, 0, 0)),
  (86, ([], .invokevirtual 187, 3, 4, 29, 0, 0)),
  (89, ([], .goto 4, 3, 93, 0, 0, 0)),
  (92, ([], .iconst 0, 1, 0, 0, 0, 0)),
  (93, ([], .ireturn, 1, 0, 0, 0, 0))]
noncomputable def E_X7_load : Kt := exL SKc SKn SKr CS (lkp T_X7_load) [F_X7_isIn, F_X7_isDay, F_X7_isAirport, F_X7_holds, F_X7_loadOf] [] []
noncomputable def F_X7_load : Fn := fun as h => E_X7_load 0 (pad 8 as) [] h
noncomputable def f_X7_load_45 (x1 : Int32) (x2 : Int32) (x3 : Int32) (x4 : Int32) (x5 : Int32) (x6 : Int32) (h : Hp) : Res := E_X7_load 45 [.ref 227, .int x1, .int x2, .int x3, .int x4, .int x5, .int x6, .retAddr 0] [] h
noncomputable def f_X7_load_46 (x1 : Int32) (x2 : Int32) (x3 : Int32) (x4 : Int32) (x5 : Int32) (x6 : Int32) (s0 : Int32) (h : Hp) : Res := E_X7_load 46 [.ref 227, .int x1, .int x2, .int x3, .int x4, .int x5, .int x6, .retAddr 0] [.int s0] h
noncomputable def f_X7_load_70 (x1 : Int32) (x2 : Int32) (x3 : Int32) (x4 : Int32) (x5 : Int32) (x6 : Int32) (s0 : Int32) (h : Hp) : Res := E_X7_load 70 [.ref 227, .int x1, .int x2, .int x3, .int x4, .int x5, .int x6, .retAddr 0] [.int s0, .ref 227] h
set_option maxRecDepth 100000 in
set_option maxHeartbeats 4000000 in
theorem e_X7_load_0 (x1 : Int32) (x2 : Int32) (x3 : Int32) (x4 : Int32) (x5 : Int32) (x6 : Int32) (h : Hp) : F_X7_load [.ref 227, .int x1, .int x2, .int x3, .int x4, .int x5, .int x6] h = bI (F_X7_isIn [.int x2, .int 0, .int 2] h) (fun v2 h1 => if v2 = 0 then f_X7_load_45 x1 x2 x3 x4 x5 x6 h1 else bI (F_X7_isDay [.int x3, .int x4] h1) (fun v4 h3 => if v4 = 0 then f_X7_load_45 x1 x2 x3 x4 x5 x6 h3 else bI (F_X7_isIn [.int x5, .int 0, .int 71] h3) (fun v6 h5 => if v6 = 0 then f_X7_load_45 x1 x2 x3 x4 x5 x6 h5 else bI (F_X7_isIn [.int x6, .int x5, .int 71] h5) (fun v8 h7 => if v8 = 0 then f_X7_load_45 x1 x2 x3 x4 x5 x6 h7 else f_X7_load_46 x1 x2 x3 x4 x5 x6 1 h7) (hnk [])) (hnk [])) (hnk [])) (hnk []) :=
  (exL_it SKc SKn SKr CS (lkp T_X7_load) [F_X7_isIn, F_X7_isDay, F_X7_isAirport, F_X7_holds, F_X7_loadOf] [] [] [45, 46, 70] 21 0 [.ref 227, .int x1, .int x2, .int x3, .int x4, .int x5, .int x6, .retAddr 0] [] h).trans rfl
set_option maxRecDepth 100000 in
set_option maxHeartbeats 4000000 in
theorem e_X7_load_45 (x1 : Int32) (x2 : Int32) (x3 : Int32) (x4 : Int32) (x5 : Int32) (x6 : Int32) (h : Hp) : f_X7_load_45 x1 x2 x3 x4 x5 x6 h = f_X7_load_46 x1 x2 x3 x4 x5 x6 0 h :=
  (exL_it SKc SKn SKr CS (lkp T_X7_load) [F_X7_isIn, F_X7_isDay, F_X7_isAirport, F_X7_holds, F_X7_loadOf] [] [] [45, 46, 70] 1 45 [.ref 227, .int x1, .int x2, .int x3, .int x4, .int x5, .int x6, .retAddr 0] [] h).trans rfl
set_option maxRecDepth 100000 in
set_option maxHeartbeats 4000000 in
theorem e_X7_load_46 (x1 : Int32) (x2 : Int32) (x3 : Int32) (x4 : Int32) (x5 : Int32) (x6 : Int32) (s0 : Int32) (h : Hp) : f_X7_load_46 x1 x2 x3 x4 x5 x6 s0 h = bI (F_X7_isAirport [.int x1] h) (fun v2 h1 => if v2 = 0 then f_X7_load_70 x1 x2 x3 x4 x5 x6 1 h1 else if s0 = 0 then f_X7_load_70 x1 x2 x3 x4 x5 x6 2 h1 else f_X7_load_70 x1 x2 x3 x4 x5 x6 0 h1) (hnk []) :=
  (exL_it SKc SKn SKr CS (lkp T_X7_load) [F_X7_isIn, F_X7_isDay, F_X7_isAirport, F_X7_holds, F_X7_loadOf] [] [] [45, 46, 70] 9 46 [.ref 227, .int x1, .int x2, .int x3, .int x4, .int x5, .int x6, .retAddr 0] [.int s0] h).trans rfl
set_option maxRecDepth 100000 in
set_option maxHeartbeats 4000000 in
theorem e_X7_load_70 (x1 : Int32) (x2 : Int32) (x3 : Int32) (x4 : Int32) (x5 : Int32) (x6 : Int32) (s0 : Int32) (h : Hp) : f_X7_load_70 x1 x2 x3 x4 x5 x6 s0 h = bI (F_X7_holds [.ref 227, .int s0] h) (fun v2 h1 => if v2 = 0 then rtn (some (.int 0)) h1 else bI (F_X7_loadOf [.ref 227, .int x1, .int x2, .int x3, .int x4, .int x5, .int x6] h1) (fun v4 h3 => rtn (some (.int v4)) h3) (hnk [])) (hnk []) :=
  (exL_it SKc SKn SKr CS (lkp T_X7_load) [F_X7_isIn, F_X7_isDay, F_X7_isAirport, F_X7_holds, F_X7_loadOf] [] [] [45, 46, 70] 12 70 [.ref 227, .int x1, .int x2, .int x3, .int x4, .int x5, .int x6, .retAddr 0] [.int s0, .ref 227] h).trans rfl

def T_X7_worst : List (Nat × Ent) := [(0, ([], .aload_n 0, 1, 0, 0, 0, 0)),
  (1, ([], .aload_n 0, 1, 0, 0, 0, 0)),
  (2, ([], .iload_n 1, 1, 1, 0, 0, 0)),
  (3, ([], .iload_n 2, 1, 2, 0, 0, 0)),
  (4, ([], .invokevirtual 173, 3, 0, 13, 0, 0)),
  (7, ([], .ifCond .ne 7, 3, 14, 0, 0, 0)),
  (10, ([], .iconst 1, 1, 0, 0, 0, 1)),
  (11, ([], .goto 17, 3, 28, 0, 0, 0)),
  (14, ([], .iload_n 3, 1, 3, 0, 0, 0)),
  (15, ([], .iload 4, 2, 4, 0, 0, 0)),
  (17, ([], .invokestatic 207, 3, 1, 9, 0, 0)),
  (20, ([], .ifCond .eq 7, 3, 27, 0, 0, 0)),
  (23, ([], .iconst 0, 1, 0, 0, 0, 0)),
  (24, ([], .goto 4, 3, 28, 0, 0, 0)),
  (27, ([], .iconst 2, 1, 0, 0, 0, 2)),
  (28, ([false, false, false, false, false, true, true, true, true], .invokevirtual 170, 3, 2, 9, 0, 0)),
  (31, ([], .ifCond .ne 5, 3, 36, 0, 0, 0)),
  (34, ([], .iconst 0, 1, 0, 0, 0, 0)),
  (35, ([], .ireturn, 1, 0, 0, 0, 0)),
  (36, ([], .bipush 6, 2, 0, 0, 0, 6)),
  (38, ([], .iload_n 1, 1, 1, 0, 0, 0)),
  (39, ([], .imul, 1, 0, 0, 0, 0)),
  (40, ([], .iload_n 2, 1, 2, 0, 0, 0)),
  (41, ([], .iadd, 1, 0, 0, 0, 0)),
  (42, ([], .istore 5, 2, 5, 0, 0, 0)),
  (44, ([], .iconst 0, 1, 0, 0, 0, 0)),
  (45, ([], .istore 6, 2, 6, 0, 0, 0)),
  (47, ([], .iconst 0, 1, 0, 0, 0, 0)),
  (48, ([], .istore 7, 2, 7, 0, 0, 0)),
  (50, ([false, false, true, false, false, false, false, false, true], .iload 7, 2, 7, 0, 0, 0)),
  (52, ([], .aload_n 0, 1, 0, 0, 0, 0)),
  (53, ([], .getfield 16, 3, 4, 3, 0, 0)),
  (56, ([], .iload 5, 2, 5, 0, 0, 0)),
  (58, ([], .iaload, 1, 0, 0, 0, 0)),
  (59, ([], .iadd, 1, 0, 0, 0, 0)),
  (60, ([], .bipush 72, 2, 0, 0, 0, 72)),
  (62, ([], .if_icmp .gt 56, 3, 118, 0, 0, 0)),
  (65, ([], .aload_n 0, 1, 0, 0, 0, 0)),
  (66, ([], .iload_n 1, 1, 1, 0, 0, 0)),
  (67, ([], .aload_n 0, 1, 0, 0, 0, 0)),
  (68, ([], .getfield 13, 3, 3, 3, 0, 0)),
  (71, ([], .iload 5, 2, 5, 0, 0, 0)),
  (73, ([], .iaload, 1, 0, 0, 0, 0)),
  (74, ([], .iload_n 3, 1, 3, 0, 0, 0)),
  (75, ([], .iload 4, 2, 4, 0, 0, 0)),
  (77, ([], .iload 7, 2, 7, 0, 0, 0)),
  (79, ([], .iload 7, 2, 7, 0, 0, 0)),
  (81, ([], .aload_n 0, 1, 0, 0, 0, 0)),
  (82, ([], .getfield 16, 3, 4, 3, 0, 0)),
  (85, ([], .iload 5, 2, 5, 0, 0, 0)),
  (87, ([], .iaload, 1, 0, 0, 0, 0)),
  (88, ([], .iadd, 1, 0, 0, 0, 0)),
  (89, ([], .iconst 1, 1, 0, 0, 0, 1)),
  (90, ([], .isub, 1, 0, 0, 0, 0)),
  (91, ([], .invokevirtual 187, 3, 3, 29, 0, 0)),
  (94, ([], .istore 8, 2, 8, 0, 0, 0)),
  (96, ([], .iload 8, 2, 8, 0, 0, 0)),
  (98, ([], .iload 6, 2, 6, 0, 0, 0)),
  (100, ([], .if_icmp .le 8, 3, 108, 0, 0, 0)),
  (103, ([], .iload 8, 2, 8, 0, 0, 0)),
  (105, ([], .goto 5, 3, 110, 0, 0, 0)),
  (108, ([], .iload 6, 2, 6, 0, 0, 0)),
  (110, ([false, false, true, false, false, false, true, false, true], .istore 6, 2, 6, 0, 0, 0)),
  (112, ([], .iinc 7 1, 3, 7, 0, 0, 1)),
  (115, ([], .goto (-65), 3, 50, 0, 0, 0)),
  (118, ([], .iload 6, 2, 6, 0, 0, 0)),
  (120, ([], .ireturn, 1, 0, 0, 0, 0))]
noncomputable def E_X7_worst : Kt := exL SKc SKn SKr CS (lkp T_X7_worst) [F_X7_isRule, F_X7_isDay, F_X7_holds, F_X7_loadOf] [] []
noncomputable def F_X7_worst : Fn := fun as h => E_X7_worst 0 (pad 9 as) [] h
noncomputable def f_X7_worst_28 (x1 : Int32) (x2 : Int32) (x3 : Int32) (x4 : Int32) (s0 : Int32) (h : Hp) : Res := E_X7_worst 28 [.ref 227, .int x1, .int x2, .int x3, .int x4, .retAddr 0, .retAddr 0, .retAddr 0, .retAddr 0] [.int s0, .ref 227] h
noncomputable def f_X7_worst_50 (x1 : Int32) (x3 : Int32) (x4 : Int32) (x5 : Int32) (x6 : Int32) (x7 : Int32) (h : Hp) : Res := E_X7_worst 50 [.ref 227, .int x1, .retAddr 0, .int x3, .int x4, .int x5, .int x6, .int x7, .retAddr 0] [] h
noncomputable def f_X7_worst_110 (x1 : Int32) (x3 : Int32) (x4 : Int32) (x5 : Int32) (x7 : Int32) (s0 : Int32) (h : Hp) : Res := E_X7_worst 110 [.ref 227, .int x1, .retAddr 0, .int x3, .int x4, .int x5, .retAddr 0, .int x7, .retAddr 0] [.int s0] h
set_option maxRecDepth 100000 in
set_option maxHeartbeats 4000000 in
theorem e_X7_worst_0 (x1 : Int32) (x2 : Int32) (x3 : Int32) (x4 : Int32) (h : Hp) : F_X7_worst [.ref 227, .int x1, .int x2, .int x3, .int x4] h = bI (F_X7_isRule [.ref 227, .int x1, .int x2] h) (fun v2 h1 => if v2 = 0 then f_X7_worst_28 x1 x2 x3 x4 1 h1 else bI (F_X7_isDay [.int x3, .int x4] h1) (fun v4 h3 => if v4 = 0 then f_X7_worst_28 x1 x2 x3 x4 2 h3 else f_X7_worst_28 x1 x2 x3 x4 0 h3) (hnk [])) (hnk []) :=
  (exL_it SKc SKn SKr CS (lkp T_X7_worst) [F_X7_isRule, F_X7_isDay, F_X7_holds, F_X7_loadOf] [] [] [28, 50, 110] 12 0 [.ref 227, .int x1, .int x2, .int x3, .int x4, .retAddr 0, .retAddr 0, .retAddr 0, .retAddr 0] [] h).trans rfl
set_option maxRecDepth 100000 in
set_option maxHeartbeats 4000000 in
theorem e_X7_worst_28 (x1 : Int32) (x2 : Int32) (x3 : Int32) (x4 : Int32) (s0 : Int32) (h : Hp) : f_X7_worst_28 x1 x2 x3 x4 s0 h = bI (F_X7_holds [.ref 227, .int s0] h) (fun v2 h1 => if v2 = 0 then rtn (some (.int 0)) h1 else f_X7_worst_50 x1 x3 x4 ((6 * x1) + x2) 0 0 h1) (hnk []) :=
  (exL_it SKc SKn SKr CS (lkp T_X7_worst) [F_X7_isRule, F_X7_isDay, F_X7_holds, F_X7_loadOf] [] [] [28, 50, 110] 12 28 [.ref 227, .int x1, .int x2, .int x3, .int x4, .retAddr 0, .retAddr 0, .retAddr 0, .retAddr 0] [.int s0, .ref 227] h).trans rfl
set_option maxRecDepth 100000 in
set_option maxHeartbeats 4000000 in
theorem e_X7_worst_50 (x1 : Int32) (x3 : Int32) (x4 : Int32) (x5 : Int32) (x6 : Int32) (x7 : Int32) (h : Hp) : f_X7_worst_50 x1 x3 x4 x5 x6 x7 h = gd (inb x5 24) (if 72 < (x7 + (rd h 230 x5.toNatClampNeg)) then rtn (some (.int x6)) h else gd (inb x5 24) (gd (inb x5 24) (bI (F_X7_loadOf [.ref 227, .int x1, .int (rd h 229 x5.toNatClampNeg), .int x3, .int x4, .int x7, .int ((x7 + (rd h 230 x5.toNatClampNeg)) - 1)] h) (fun v2 h1 => if x6 < v2 then f_X7_worst_110 x1 x3 x4 x5 x7 v2 h1 else f_X7_worst_110 x1 x3 x4 x5 x7 x6 h1) (hnk [])))) :=
  (exL_it SKc SKn SKr CS (lkp T_X7_worst) [F_X7_isRule, F_X7_isDay, F_X7_holds, F_X7_loadOf] [] [] [28, 50, 110] 32 50 [.ref 227, .int x1, .retAddr 0, .int x3, .int x4, .int x5, .int x6, .int x7, .retAddr 0] [] h).trans rfl
set_option maxRecDepth 100000 in
set_option maxHeartbeats 4000000 in
theorem e_X7_worst_110 (x1 : Int32) (x3 : Int32) (x4 : Int32) (x5 : Int32) (x7 : Int32) (s0 : Int32) (h : Hp) : f_X7_worst_110 x1 x3 x4 x5 x7 s0 h = f_X7_worst_50 x1 x3 x4 x5 s0 (x7 + 1) h :=
  (exL_it SKc SKn SKr CS (lkp T_X7_worst) [F_X7_isRule, F_X7_isDay, F_X7_holds, F_X7_loadOf] [] [] [28, 50, 110] 3 110 [.ref 227, .int x1, .retAddr 0, .int x3, .int x4, .int x5, .retAddr 0, .int x7, .retAddr 0] [.int s0] h).trans rfl

def T_X7_noise : List (Nat × Ent) := [(0, ([], .aload_n 0, 1, 0, 0, 0, 0)),
  (1, ([], .iload_n 1, 1, 1, 0, 0, 0)),
  (2, ([], .invokestatic 160, 3, 0, 5, 0, 0)),
  (5, ([], .ifCond .eq 7, 3, 12, 0, 0, 0)),
  (8, ([], .iconst 0, 1, 0, 0, 0, 0)),
  (9, ([], .goto 4, 3, 13, 0, 0, 0)),
  (12, ([], .iconst 1, 1, 0, 0, 0, 1)),
  (13, ([false, false], .invokevirtual 170, 3, 1, 9, 0, 0)),
  (16, ([], .ifCond .eq 11, 3, 27, 0, 0, 0)),
  (19, ([], .aload_n 0, 1, 0, 0, 0, 0)),
  (20, ([], .iload_n 1, 1, 1, 0, 0, 0)),
  (21, ([], .invokevirtual 191, 3, 2, 9, 0, 0)),
  (24, ([], .goto 4, 3, 28, 0, 0, 0)),
  (27, ([], .iconst 0, 1, 0, 0, 0, 0)),
  (28, ([], .ireturn, 1, 0, 0, 0, 0))]
noncomputable def E_X7_noise : Kt := exL SKc SKn SKr CS (lkp T_X7_noise) [F_X7_isAirport, F_X7_holds, F_X7_noiseOf] [] []
noncomputable def F_X7_noise : Fn := fun as h => E_X7_noise 0 (pad 2 as) [] h
noncomputable def f_X7_noise_13 (x1 : Int32) (s0 : Int32) (h : Hp) : Res := E_X7_noise 13 [.ref 227, .int x1] [.int s0, .ref 227] h
set_option maxRecDepth 100000 in
set_option maxHeartbeats 4000000 in
theorem e_X7_noise_0 (x1 : Int32) (h : Hp) : F_X7_noise [.ref 227, .int x1] h = bI (F_X7_isAirport [.int x1] h) (fun v2 h1 => if v2 = 0 then f_X7_noise_13 x1 1 h1 else f_X7_noise_13 x1 0 h1) (hnk []) :=
  (exL_it SKc SKn SKr CS (lkp T_X7_noise) [F_X7_isAirport, F_X7_holds, F_X7_noiseOf] [] [] [13] 6 0 [.ref 227, .int x1] [] h).trans rfl
set_option maxRecDepth 100000 in
set_option maxHeartbeats 4000000 in
theorem e_X7_noise_13 (x1 : Int32) (s0 : Int32) (h : Hp) : f_X7_noise_13 x1 s0 h = bI (F_X7_holds [.ref 227, .int s0] h) (fun v2 h1 => if v2 = 0 then rtn (some (.int 0)) h1 else bI (F_X7_noiseOf [.ref 227, .int x1] h1) (fun v4 h3 => rtn (some (.int v4)) h3) (hnk [])) (hnk []) :=
  (exL_it SKc SKn SKr CS (lkp T_X7_noise) [F_X7_isAirport, F_X7_holds, F_X7_noiseOf] [] [] [13] 7 13 [.ref 227, .int x1] [.int s0, .ref 227] h).trans rfl

def T_X7_requestOf : List (Nat × Ent) := [(0, ([], .aload_n 0, 1, 0, 0, 0, 0)),
  (1, ([], .aload_n 0, 1, 0, 0, 0, 0)),
  (2, ([], .iload_n 1, 1, 1, 0, 0, 0)),
  (3, ([], .invokevirtual 214, 3, 0, 9, 0, 0)),
  (6, ([], .ifCond .ne 7, 3, 13, 0, 0, 0)),
  (9, ([], .iconst 1, 1, 0, 0, 0, 1)),
  (10, ([], .goto 17, 3, 27, 0, 0, 0)),
  (13, ([], .iload_n 2, 1, 2, 0, 0, 0)),
  (14, ([], .iconst 0, 1, 0, 0, 0, 0)),
  (15, ([], .iconst 5, 1, 0, 0, 0, 5)),
  (16, ([], .invokestatic 156, 3, 1, 13, 0, 0)),
  (19, ([], .ifCond .eq 7, 3, 26, 0, 0, 0)),
  (22, ([], .iconst 0, 1, 0, 0, 0, 0)),
  (23, ([], .goto 4, 3, 27, 0, 0, 0)),
  (26, ([], .iconst 2, 1, 0, 0, 0, 2)),
  (27, ([false, false, false], .invokevirtual 170, 3, 2, 9, 0, 0)),
  (30, ([], .ifCond .ne 5, 3, 35, 0, 0, 0)),
  (33, ([], .iconst 0, 1, 0, 0, 0, 0)),
  (34, ([], .ireturn, 1, 0, 0, 0, 0)),
  (35, ([], .iload_n 2, 1, 2, 0, 0, 0)),
  (36, ([], .iconst 3, 1, 0, 0, 0, 3)),
  (37, ([], .if_icmp .ge 54, 3, 91, 0, 0, 0)),
  (40, ([], .iload_n 2, 1, 2, 0, 0, 0)),
  (41, ([], .ifCond .ne 12, 3, 53, 0, 0, 0)),
  (44, ([], .aload_n 0, 1, 0, 0, 0, 0)),
  (45, ([], .getfield 88, 3, 30, 3, 0, 0)),
  (48, ([], .iload_n 1, 1, 1, 0, 0, 0)),
  (49, ([], .iaload, 1, 0, 0, 0, 0)),
  (50, ([], .goto 40, 3, 90, 0, 0, 0)),
  (53, ([], .iload_n 2, 1, 2, 0, 0, 0)),
  (54, ([], .iconst 2, 1, 0, 0, 0, 2)),
  (55, ([], .if_icmp .ne 12, 3, 67, 0, 0, 0)),
  (58, ([], .aload_n 0, 1, 0, 0, 0, 0)),
  (59, ([], .getfield 94, 3, 32, 3, 0, 0)),
  (62, ([], .iload_n 1, 1, 1, 0, 0, 0)),
  (63, ([], .iaload, 1, 0, 0, 0, 0)),
  (64, ([], .goto 26, 3, 90, 0, 0, 0)),
  (67, ([], .aload_n 0, 1, 0, 0, 0, 0)),
  (68, ([], .getfield 88, 3, 30, 3, 0, 0)),
  (71, ([], .iload_n 1, 1, 1, 0, 0, 0)),
  (72, ([], .iaload, 1, 0, 0, 0, 0)),
  (73, ([], .ifCond .ne 11, 3, 84, 0, 0, 0)),
  (76, ([], .aload_n 0, 1, 0, 0, 0, 0)),
  (77, ([], .iload_n 1, 1, 1, 0, 0, 0)),
  (78, ([], .invokevirtual 232, 3, 3, 9, 0, 0)),
  (81, ([], .goto 9, 3, 90, 0, 0, 0)),
  (84, ([], .aload_n 0, 1, 0, 0, 0, 0)),
  (85, ([], .getfield 91, 3, 31, 3, 0, 0)),
  (88, ([], .iload_n 1, 1, 1, 0, 0, 0)),
  (89, ([], .iaload, 1, 0, 0, 0, 0)),
  (90, ([], .ireturn, 1, 0, 0, 0, 0)),
  (91, ([], .iload_n 2, 1, 2, 0, 0, 0)),
  (92, ([], .iconst 3, 1, 0, 0, 0, 3)),
  (93, ([], .if_icmp .ne 12, 3, 105, 0, 0, 0)),
  (96, ([], .aload_n 0, 1, 0, 0, 0, 0)),
  (97, ([], .getfield 97, 3, 33, 3, 0, 0)),
  (100, ([], .iload_n 1, 1, 1, 0, 0, 0)),
  (101, ([], .iaload, 1, 0, 0, 0, 0)),
  (102, ([], .goto 42, 3, 144, 0, 0, 0)),
  (105, ([], .iload_n 2, 1, 2, 0, 0, 0)),
  (106, ([], .iconst 4, 1, 0, 0, 0, 4)),
  (107, ([], .if_icmp .ne 12, 3, 119, 0, 0, 0)),
  (110, ([], .aload_n 0, 1, 0, 0, 0, 0)),
  (111, ([], .getfield 100, 3, 34, 3, 0, 0)),
  (114, ([], .iload_n 1, 1, 1, 0, 0, 0)),
  (115, ([], .iaload, 1, 0, 0, 0, 0)),
  (116, ([], .goto 28, 3, 144, 0, 0, 0)),
  (119, ([], .aload_n 0, 1, 0, 0, 0, 0)),
  (120, ([], .getfield 88, 3, 30, 3, 0, 0)),
  (123, ([], .iload_n 1, 1, 1, 0, 0, 0)),
  (124, ([], .iaload, 1, 0, 0, 0, 0)),
  (125, ([], .iconst 1, 1, 0, 0, 0, 1)),
  (126, ([], .if_icmp .ne 7, 3, 133, 0, 0, 0)),
  (129, ([], .iconst 0, 1, 0, 0, 0, 0)),
  (130, ([], .goto 14, 3, 144, 0, 0, 0)),
  (133, ([], .aload_n 0, 1, 0, 0, 0, 0)),
  (134, ([], .iload_n 1, 1, 1, 0, 0, 0)),
  (135, ([], .aload_n 0, 1, 0, 0, 0, 0)),
  (136, ([], .getfield 73, 3, 25, 3, 0, 0)),
  (139, ([], .iload_n 1, 1, 1, 0, 0, 0)),
  (140, ([], .iaload, 1, 0, 0, 0, 0)),
  (141, ([], .invokevirtual 238, 3, 4, 13, 0, 0)),
  (144, ([], .ireturn, 1, 0, 0, 0, 0))]
noncomputable def E_X7_requestOf : Kt := exL SKc SKn SKr CS (lkp T_X7_requestOf) [F_X7_isRequest, F_X7_isIn, F_X7_holds, F_X7_sortOf, F_X7_reason] [] []
noncomputable def F_X7_requestOf : Fn := fun as h => E_X7_requestOf 0 (pad 3 as) [] h
noncomputable def f_X7_requestOf_27 (x1 : Int32) (x2 : Int32) (s0 : Int32) (h : Hp) : Res := E_X7_requestOf 27 [.ref 227, .int x1, .int x2] [.int s0, .ref 227] h
set_option maxRecDepth 100000 in
set_option maxHeartbeats 4000000 in
theorem e_X7_requestOf_0 (x1 : Int32) (x2 : Int32) (h : Hp) : F_X7_requestOf [.ref 227, .int x1, .int x2] h = bI (F_X7_isRequest [.ref 227, .int x1] h) (fun v2 h1 => if v2 = 0 then f_X7_requestOf_27 x1 x2 1 h1 else bI (F_X7_isIn [.int x2, .int 0, .int 5] h1) (fun v4 h3 => if v4 = 0 then f_X7_requestOf_27 x1 x2 2 h3 else f_X7_requestOf_27 x1 x2 0 h3) (hnk [])) (hnk []) :=
  (exL_it SKc SKn SKr CS (lkp T_X7_requestOf) [F_X7_isRequest, F_X7_isIn, F_X7_holds, F_X7_sortOf, F_X7_reason] [] [] [27] 12 0 [.ref 227, .int x1, .int x2] [] h).trans rfl
set_option maxRecDepth 100000 in
set_option maxHeartbeats 4000000 in
theorem e_X7_requestOf_27 (x1 : Int32) (x2 : Int32) (s0 : Int32) (h : Hp) : f_X7_requestOf_27 x1 x2 s0 h = bI (F_X7_holds [.ref 227, .int s0] h) (fun v2 h1 => if v2 = 0 then rtn (some (.int 0)) h1 else if x2 < 3 then if x2 = 0 then gd (inb x1 60) (rtn (some (.int (rd h1 254 x1.toNatClampNeg))) h1) else if x2 = 2 then gd (inb x1 60) (rtn (some (.int (rd h1 256 x1.toNatClampNeg))) h1) else gd (inb x1 60) (if (rd h1 254 x1.toNatClampNeg) = 0 then bI (F_X7_sortOf [.ref 227, .int x1] h1) (fun v4 h3 => rtn (some (.int v4)) h3) (hnk []) else gd (inb x1 60) (rtn (some (.int (rd h1 255 x1.toNatClampNeg))) h1)) else if x2 = 3 then gd (inb x1 60) (rtn (some (.int (rd h1 257 x1.toNatClampNeg))) h1) else if x2 = 4 then gd (inb x1 60) (rtn (some (.int (rd h1 258 x1.toNatClampNeg))) h1) else gd (inb x1 60) (if (rd h1 254 x1.toNatClampNeg) = 1 then rtn (some (.int 0)) h1 else gd (inb x1 60) (bI (F_X7_reason [.ref 227, .int x1, .int (rd h1 249 x1.toNatClampNeg)] h1) (fun v6 h5 => rtn (some (.int v6)) h5) (hnk [])))) (hnk []) :=
  (exL_it SKc SKn SKr CS (lkp T_X7_requestOf) [F_X7_isRequest, F_X7_isIn, F_X7_holds, F_X7_sortOf, F_X7_reason] [] [] [27] 25 27 [.ref 227, .int x1, .int x2] [.int s0, .ref 227] h).trans rfl

def T_X7_ahead : List (Nat × Ent) := [(0, ([], .aload_n 0, 1, 0, 0, 0, 0)),
  (1, ([], .aload_n 0, 1, 0, 0, 0, 0)),
  (2, ([], .iload_n 1, 1, 1, 0, 0, 0)),
  (3, ([], .invokevirtual 214, 3, 0, 9, 0, 0)),
  (6, ([], .ifCond .eq 7, 3, 13, 0, 0, 0)),
  (9, ([], .iconst 0, 1, 0, 0, 0, 0)),
  (10, ([], .goto 4, 3, 14, 0, 0, 0)),
  (13, ([], .iconst 1, 1, 0, 0, 0, 1)),
  (14, ([false, false, true, true], .invokevirtual 170, 3, 1, 9, 0, 0)),
  (17, ([], .ifCond .ne 5, 3, 22, 0, 0, 0)),
  (20, ([], .iconst 0, 1, 0, 0, 0, 0)),
  (21, ([], .ireturn, 1, 0, 0, 0, 0)),
  (22, ([], .iconst 0, 1, 0, 0, 0, 0)),
  (23, ([], .istore_n 2, 1, 2, 0, 0, 0)),
  (24, ([], .iconst 0, 1, 0, 0, 0, 0)),
  (25, ([], .istore_n 3, 1, 3, 0, 0, 0)),
  (26, ([false, false, false, false], .iload_n 3, 1, 3, 0, 0, 0)),
  (27, ([], .aload_n 0, 1, 0, 0, 0, 0)),
  (28, ([], .getfield 164, 3, 20, 2, 0, 0)),
  (31, ([], .if_icmp .ge 55, 3, 86, 0, 0, 0)),
  (34, ([], .iload_n 2, 1, 2, 0, 0, 0)),
  (35, ([], .aload_n 0, 1, 0, 0, 0, 0)),
  (36, ([], .iload_n 3, 1, 3, 0, 0, 0)),
  (37, ([], .invokevirtual 262, 3, 2, 9, 0, 0)),
  (40, ([], .ifCond .eq 37, 3, 77, 0, 0, 0)),
  (43, ([], .aload_n 0, 1, 0, 0, 0, 0)),
  (44, ([], .getfield 64, 3, 22, 3, 0, 0)),
  (47, ([], .iload_n 3, 1, 3, 0, 0, 0)),
  (48, ([], .iaload, 1, 0, 0, 0, 0)),
  (49, ([], .aload_n 0, 1, 0, 0, 0, 0)),
  (50, ([], .getfield 64, 3, 22, 3, 0, 0)),
  (53, ([], .iload_n 1, 1, 1, 0, 0, 0)),
  (54, ([], .iaload, 1, 0, 0, 0, 0)),
  (55, ([], .if_icmp .ne 22, 3, 77, 0, 0, 0)),
  (58, ([], .aload_n 0, 1, 0, 0, 0, 0)),
  (59, ([], .getfield 103, 3, 35, 3, 0, 0)),
  (62, ([], .iload_n 3, 1, 3, 0, 0, 0)),
  (63, ([], .iaload, 1, 0, 0, 0, 0)),
  (64, ([], .aload_n 0, 1, 0, 0, 0, 0)),
  (65, ([], .getfield 103, 3, 35, 3, 0, 0)),
  (68, ([], .iload_n 1, 1, 1, 0, 0, 0)),
  (69, ([], .iaload, 1, 0, 0, 0, 0)),
  (70, ([], .if_icmp .ge 7, 3, 77, 0, 0, 0)),
  (73, ([], .iconst 1, 1, 0, 0, 0, 1)),
  (74, ([], .goto 4, 3, 78, 0, 0, 0)),
  (77, ([false, false, true, false], .iconst 0, 1, 0, 0, 0, 0)),
  (78, ([false, false, true, false], .iadd, 1, 0, 0, 0, 0)),
  (79, ([], .istore_n 2, 1, 2, 0, 0, 0)),
  (80, ([], .iinc 3 1, 3, 3, 0, 0, 1)),
  (83, ([], .goto (-57), 3, 26, 0, 0, 0)),
  (86, ([], .aload_n 0, 1, 0, 0, 0, 0)),
  (87, ([], .iload_n 1, 1, 1, 0, 0, 0)),
  (88, ([], .invokevirtual 262, 3, 2, 9, 0, 0)),
  (91, ([], .ifCond .eq 7, 3, 98, 0, 0, 0)),
  (94, ([], .iload_n 2, 1, 2, 0, 0, 0)),
  (95, ([], .goto 4, 3, 99, 0, 0, 0)),
  (98, ([], .iconst (-1), 1, 0, 0, 0, (-1))),
  (99, ([], .ireturn, 1, 0, 0, 0, 0))]
noncomputable def E_X7_ahead : Kt := exL SKc SKn SKr CS (lkp T_X7_ahead) [F_X7_isRequest, F_X7_holds, F_X7_isWaiting] [] []
noncomputable def F_X7_ahead : Fn := fun as h => E_X7_ahead 0 (pad 4 as) [] h
noncomputable def f_X7_ahead_14 (x1 : Int32) (s0 : Int32) (h : Hp) : Res := E_X7_ahead 14 [.ref 227, .int x1, .retAddr 0, .retAddr 0] [.int s0, .ref 227] h
noncomputable def f_X7_ahead_26 (x1 : Int32) (x2 : Int32) (x3 : Int32) (h : Hp) : Res := E_X7_ahead 26 [.ref 227, .int x1, .int x2, .int x3] [] h
noncomputable def f_X7_ahead_77 (x1 : Int32) (x3 : Int32) (s0 : Int32) (h : Hp) : Res := E_X7_ahead 77 [.ref 227, .int x1, .retAddr 0, .int x3] [.int s0] h
noncomputable def f_X7_ahead_78 (x1 : Int32) (x3 : Int32) (s0 : Int32) (s1 : Int32) (h : Hp) : Res := E_X7_ahead 78 [.ref 227, .int x1, .retAddr 0, .int x3] [.int s0, .int s1] h
set_option maxRecDepth 100000 in
set_option maxHeartbeats 4000000 in
theorem e_X7_ahead_0 (x1 : Int32) (h : Hp) : F_X7_ahead [.ref 227, .int x1] h = bI (F_X7_isRequest [.ref 227, .int x1] h) (fun v2 h1 => if v2 = 0 then f_X7_ahead_14 x1 1 h1 else f_X7_ahead_14 x1 0 h1) (hnk []) :=
  (exL_it SKc SKn SKr CS (lkp T_X7_ahead) [F_X7_isRequest, F_X7_holds, F_X7_isWaiting] [] [] [14, 26, 77, 78] 7 0 [.ref 227, .int x1, .retAddr 0, .retAddr 0] [] h).trans rfl
set_option maxRecDepth 100000 in
set_option maxHeartbeats 4000000 in
theorem e_X7_ahead_14 (x1 : Int32) (s0 : Int32) (h : Hp) : f_X7_ahead_14 x1 s0 h = bI (F_X7_holds [.ref 227, .int s0] h) (fun v2 h1 => if v2 = 0 then rtn (some (.int 0)) h1 else f_X7_ahead_26 x1 0 0 h1) (hnk []) :=
  (exL_it SKc SKn SKr CS (lkp T_X7_ahead) [F_X7_isRequest, F_X7_holds, F_X7_isWaiting] [] [] [14, 26, 77, 78] 6 14 [.ref 227, .int x1, .retAddr 0, .retAddr 0] [.int s0, .ref 227] h).trans rfl
set_option maxRecDepth 100000 in
set_option maxHeartbeats 4000000 in
theorem e_X7_ahead_26 (x1 : Int32) (x2 : Int32) (x3 : Int32) (h : Hp) : f_X7_ahead_26 x1 x2 x3 h = if x3 < (rd h 227 20) then bI (F_X7_isWaiting [.ref 227, .int x3] h) (fun v2 h1 => if v2 = 0 then f_X7_ahead_77 x1 x3 x2 h1 else gd (inb x3 60) (gd (inb x1 60) (if (rd h1 246 x3.toNatClampNeg) = (rd h1 246 x1.toNatClampNeg) then gd (inb x3 60) (gd (inb x1 60) (if (rd h1 259 x3.toNatClampNeg) < (rd h1 259 x1.toNatClampNeg) then f_X7_ahead_78 x1 x3 1 x2 h1 else f_X7_ahead_77 x1 x3 x2 h1)) else f_X7_ahead_77 x1 x3 x2 h1))) (hnk []) else bI (F_X7_isWaiting [.ref 227, .int x1] h) (fun v4 h3 => if v4 = 0 then rtn (some (.int (-1))) h3 else rtn (some (.int x2)) h3) (hnk []) :=
  (exL_it SKc SKn SKr CS (lkp T_X7_ahead) [F_X7_isRequest, F_X7_holds, F_X7_isWaiting] [] [] [14, 26, 77, 78] 29 26 [.ref 227, .int x1, .int x2, .int x3] [] h).trans rfl
set_option maxRecDepth 100000 in
set_option maxHeartbeats 4000000 in
theorem e_X7_ahead_77 (x1 : Int32) (x3 : Int32) (s0 : Int32) (h : Hp) : f_X7_ahead_77 x1 x3 s0 h = f_X7_ahead_78 x1 x3 0 s0 h :=
  (exL_it SKc SKn SKr CS (lkp T_X7_ahead) [F_X7_isRequest, F_X7_holds, F_X7_isWaiting] [] [] [14, 26, 77, 78] 1 77 [.ref 227, .int x1, .retAddr 0, .int x3] [.int s0] h).trans rfl
set_option maxRecDepth 100000 in
set_option maxHeartbeats 4000000 in
theorem e_X7_ahead_78 (x1 : Int32) (x3 : Int32) (s0 : Int32) (s1 : Int32) (h : Hp) : f_X7_ahead_78 x1 x3 s0 s1 h = f_X7_ahead_26 x1 (s1 + s0) (x3 + 1) h :=
  (exL_it SKc SKn SKr CS (lkp T_X7_ahead) [F_X7_isRequest, F_X7_holds, F_X7_isWaiting] [] [] [14, 26, 77, 78] 4 78 [.ref 227, .int x1, .retAddr 0, .int x3] [.int s0, .int s1] h).trans rfl

def T_X7_seriesOf : List (Nat × Ent) := [(0, ([], .aload_n 0, 1, 0, 0, 0, 0)),
  (1, ([], .aload_n 0, 1, 0, 0, 0, 0)),
  (2, ([], .iload_n 1, 1, 1, 0, 0, 0)),
  (3, ([], .invokevirtual 265, 3, 0, 9, 0, 0)),
  (6, ([], .ifCond .ne 7, 3, 13, 0, 0, 0)),
  (9, ([], .iconst 1, 1, 0, 0, 0, 1)),
  (10, ([], .goto 18, 3, 28, 0, 0, 0)),
  (13, ([], .iload_n 2, 1, 2, 0, 0, 0)),
  (14, ([], .iconst 0, 1, 0, 0, 0, 0)),
  (15, ([], .bipush 11, 2, 0, 0, 0, 11)),
  (17, ([], .invokestatic 156, 3, 1, 13, 0, 0)),
  (20, ([], .ifCond .eq 7, 3, 27, 0, 0, 0)),
  (23, ([], .iconst 0, 1, 0, 0, 0, 0)),
  (24, ([], .goto 4, 3, 28, 0, 0, 0)),
  (27, ([], .iconst 2, 1, 0, 0, 0, 2)),
  (28, ([false, false, false], .invokevirtual 170, 3, 2, 9, 0, 0)),
  (31, ([], .ifCond .ne 5, 3, 36, 0, 0, 0)),
  (34, ([], .iconst 0, 1, 0, 0, 0, 0)),
  (35, ([], .ireturn, 1, 0, 0, 0, 0)),
  (36, ([], .iload_n 2, 1, 2, 0, 0, 0)),
  (37, ([], .iconst 4, 1, 0, 0, 0, 4)),
  (38, ([], .if_icmp .ge 51, 3, 89, 0, 0, 0)),
  (41, ([], .iload_n 2, 1, 2, 0, 0, 0)),
  (42, ([], .ifCond .ne 12, 3, 54, 0, 0, 0)),
  (45, ([], .aload_n 0, 1, 0, 0, 0, 0)),
  (46, ([], .getfield 106, 3, 38, 3, 0, 0)),
  (49, ([], .iload_n 1, 1, 1, 0, 0, 0)),
  (50, ([], .iaload, 1, 0, 0, 0, 0)),
  (51, ([], .goto 37, 3, 88, 0, 0, 0)),
  (54, ([], .iload_n 2, 1, 2, 0, 0, 0)),
  (55, ([], .iconst 1, 1, 0, 0, 0, 1)),
  (56, ([], .if_icmp .ne 12, 3, 68, 0, 0, 0)),
  (59, ([], .aload_n 0, 1, 0, 0, 0, 0)),
  (60, ([], .getfield 109, 3, 39, 3, 0, 0)),
  (63, ([], .iload_n 1, 1, 1, 0, 0, 0)),
  (64, ([], .iaload, 1, 0, 0, 0, 0)),
  (65, ([], .goto 23, 3, 88, 0, 0, 0)),
  (68, ([], .iload_n 2, 1, 2, 0, 0, 0)),
  (69, ([], .iconst 2, 1, 0, 0, 0, 2)),
  (70, ([], .if_icmp .ne 12, 3, 82, 0, 0, 0)),
  (73, ([], .aload_n 0, 1, 0, 0, 0, 0)),
  (74, ([], .getfield 112, 3, 40, 3, 0, 0)),
  (77, ([], .iload_n 1, 1, 1, 0, 0, 0)),
  (78, ([], .iaload, 1, 0, 0, 0, 0)),
  (79, ([], .goto 9, 3, 88, 0, 0, 0)),
  (82, ([], .aload_n 0, 1, 0, 0, 0, 0)),
  (83, ([], .getfield 115, 3, 41, 3, 0, 0)),
  (86, ([], .iload_n 1, 1, 1, 0, 0, 0)),
  (87, ([], .iaload, 1, 0, 0, 0, 0)),
  (88, ([], .ireturn, 1, 0, 0, 0, 0)),
  (89, ([], .iload_n 2, 1, 2, 0, 0, 0)),
  (90, ([], .bipush 8, 2, 0, 0, 0, 8)),
  (92, ([], .if_icmp .ge 53, 3, 145, 0, 0, 0)),
  (95, ([], .iload_n 2, 1, 2, 0, 0, 0)),
  (96, ([], .iconst 4, 1, 0, 0, 0, 4)),
  (97, ([], .if_icmp .ne 12, 3, 109, 0, 0, 0)),
  (100, ([], .aload_n 0, 1, 0, 0, 0, 0)),
  (101, ([], .getfield 118, 3, 42, 3, 0, 0)),
  (104, ([], .iload_n 1, 1, 1, 0, 0, 0)),
  (105, ([], .iaload, 1, 0, 0, 0, 0)),
  (106, ([], .goto 38, 3, 144, 0, 0, 0)),
  (109, ([], .iload_n 2, 1, 2, 0, 0, 0)),
  (110, ([], .iconst 5, 1, 0, 0, 0, 5)),
  (111, ([], .if_icmp .ne 12, 3, 123, 0, 0, 0)),
  (114, ([], .aload_n 0, 1, 0, 0, 0, 0)),
  (115, ([], .getfield 121, 3, 43, 3, 0, 0)),
  (118, ([], .iload_n 1, 1, 1, 0, 0, 0)),
  (119, ([], .iaload, 1, 0, 0, 0, 0)),
  (120, ([], .goto 24, 3, 144, 0, 0, 0)),
  (123, ([], .iload_n 2, 1, 2, 0, 0, 0)),
  (124, ([], .bipush 6, 2, 0, 0, 0, 6)),
  (126, ([], .if_icmp .ne 12, 3, 138, 0, 0, 0)),
  (129, ([], .aload_n 0, 1, 0, 0, 0, 0)),
  (130, ([], .getfield 124, 3, 44, 3, 0, 0)),
  (133, ([], .iload_n 1, 1, 1, 0, 0, 0)),
  (134, ([], .iaload, 1, 0, 0, 0, 0)),
  (135, ([], .goto 9, 3, 144, 0, 0, 0)),
  (138, ([], .aload_n 0, 1, 0, 0, 0, 0)),
  (139, ([], .getfield 127, 3, 45, 3, 0, 0)),
  (142, ([], .iload_n 1, 1, 1, 0, 0, 0)),
  (143, ([], .iaload, 1, 0, 0, 0, 0)),
  (144, ([], .ireturn, 1, 0, 0, 0, 0)),
  (145, ([], .iload_n 2, 1, 2, 0, 0, 0)),
  (146, ([], .bipush 8, 2, 0, 0, 0, 8)),
  (148, ([], .if_icmp .ne 12, 3, 160, 0, 0, 0)),
  (151, ([], .aload_n 0, 1, 0, 0, 0, 0)),
  (152, ([], .getfield 133, 3, 47, 3, 0, 0)),
  (155, ([], .iload_n 1, 1, 1, 0, 0, 0)),
  (156, ([], .iaload, 1, 0, 0, 0, 0)),
  (157, ([], .goto 46, 3, 203, 0, 0, 0)),
  (160, ([], .iload_n 2, 1, 2, 0, 0, 0)),
  (161, ([], .bipush 9, 2, 0, 0, 0, 9)),
  (163, ([], .if_icmp .ne 11, 3, 174, 0, 0, 0)),
  (166, ([], .aload_n 0, 1, 0, 0, 0, 0)),
  (167, ([], .iload_n 1, 1, 1, 0, 0, 0)),
  (168, ([], .invokevirtual 271, 3, 3, 9, 0, 0)),
  (171, ([], .goto 32, 3, 203, 0, 0, 0)),
  (174, ([], .iload_n 2, 1, 2, 0, 0, 0)),
  (175, ([], .bipush 10, 2, 0, 0, 0, 10)),
  (177, ([], .if_icmp .ne 12, 3, 189, 0, 0, 0)),
  (180, ([], .aload_n 0, 1, 0, 0, 0, 0)),
  (181, ([], .getfield 139, 3, 49, 3, 0, 0)),
  (184, ([], .iload_n 1, 1, 1, 0, 0, 0)),
  (185, ([], .iaload, 1, 0, 0, 0, 0)),
  (186, ([], .goto 17, 3, 203, 0, 0, 0)),
  (189, ([], .aload_n 0, 1, 0, 0, 0, 0)),
  (190, ([], .getfield 142, 3, 50, 3, 0, 0)),
  (193, ([], .iload_n 1, 1, 1, 0, 0, 0)),
  (194, ([], .baload, 1, 0, 0, 0, 0)),
  (195, ([], .ifCond .eq 7, 3, 202, 0, 0, 0)),
  (198, ([], .iconst 1, 1, 0, 0, 0, 1)),
  (199, ([], .goto 4, 3, 203, 0, 0, 0)),
  (202, ([], .iconst 0, 1, 0, 0, 0, 0)),
  (203, ([], .ireturn, 1, 0, 0, 0, 0))]
noncomputable def E_X7_seriesOf : Kt := exL SKc SKn SKr CS (lkp T_X7_seriesOf) [F_X7_isSeries, F_X7_isIn, F_X7_holds, F_X7_usedOf] [] []
noncomputable def F_X7_seriesOf : Fn := fun as h => E_X7_seriesOf 0 (pad 3 as) [] h
noncomputable def f_X7_seriesOf_28 (x1 : Int32) (x2 : Int32) (s0 : Int32) (h : Hp) : Res := E_X7_seriesOf 28 [.ref 227, .int x1, .int x2] [.int s0, .ref 227] h
set_option maxRecDepth 100000 in
set_option maxHeartbeats 4000000 in
theorem e_X7_seriesOf_0 (x1 : Int32) (x2 : Int32) (h : Hp) : F_X7_seriesOf [.ref 227, .int x1, .int x2] h = bI (F_X7_isSeries [.ref 227, .int x1] h) (fun v2 h1 => if v2 = 0 then f_X7_seriesOf_28 x1 x2 1 h1 else bI (F_X7_isIn [.int x2, .int 0, .int 11] h1) (fun v4 h3 => if v4 = 0 then f_X7_seriesOf_28 x1 x2 2 h3 else f_X7_seriesOf_28 x1 x2 0 h3) (hnk [])) (hnk []) :=
  (exL_it SKc SKn SKr CS (lkp T_X7_seriesOf) [F_X7_isSeries, F_X7_isIn, F_X7_holds, F_X7_usedOf] [] [] [28] 12 0 [.ref 227, .int x1, .int x2] [] h).trans rfl
set_option maxRecDepth 100000 in
set_option maxHeartbeats 4000000 in
theorem e_X7_seriesOf_28 (x1 : Int32) (x2 : Int32) (s0 : Int32) (h : Hp) : f_X7_seriesOf_28 x1 x2 s0 h = bI (F_X7_holds [.ref 227, .int s0] h) (fun v2 h1 => if v2 = 0 then rtn (some (.int 0)) h1 else if x2 < 4 then if x2 = 0 then gd (inb x1 60) (rtn (some (.int (rd h1 260 x1.toNatClampNeg))) h1) else if x2 = 1 then gd (inb x1 60) (rtn (some (.int (rd h1 261 x1.toNatClampNeg))) h1) else if x2 = 2 then gd (inb x1 60) (rtn (some (.int (rd h1 262 x1.toNatClampNeg))) h1) else gd (inb x1 60) (rtn (some (.int (rd h1 263 x1.toNatClampNeg))) h1) else if x2 < 8 then if x2 = 4 then gd (inb x1 60) (rtn (some (.int (rd h1 264 x1.toNatClampNeg))) h1) else if x2 = 5 then gd (inb x1 60) (rtn (some (.int (rd h1 265 x1.toNatClampNeg))) h1) else if x2 = 6 then gd (inb x1 60) (rtn (some (.int (rd h1 266 x1.toNatClampNeg))) h1) else gd (inb x1 60) (rtn (some (.int (rd h1 267 x1.toNatClampNeg))) h1) else if x2 = 8 then gd (inb x1 60) (rtn (some (.int (rd h1 269 x1.toNatClampNeg))) h1) else if x2 = 9 then bI (F_X7_usedOf [.ref 227, .int x1] h1) (fun v4 h3 => rtn (some (.int v4)) h3) (hnk []) else if x2 = 10 then gd (inb x1 60) (rtn (some (.int (rd h1 271 x1.toNatClampNeg))) h1) else gd (inb x1 60) (if (rd h1 272 x1.toNatClampNeg) = 0 then rtn (some (.int 0)) h1 else rtn (some (.int 1)) h1)) (hnk []) :=
  (exL_it SKc SKn SKr CS (lkp T_X7_seriesOf) [F_X7_isSeries, F_X7_isIn, F_X7_holds, F_X7_usedOf] [] [] [28] 25 28 [.ref 227, .int x1, .int x2] [.int s0, .ref 227] h).trans rfl

def T_X7_earns : List (Nat × Ent) := [(0, ([], .aload_n 0, 1, 0, 0, 0, 0)),
  (1, ([], .aload_n 0, 1, 0, 0, 0, 0)),
  (2, ([], .iload_n 1, 1, 1, 0, 0, 0)),
  (3, ([], .invokevirtual 265, 3, 0, 9, 0, 0)),
  (6, ([], .ifCond .eq 7, 3, 13, 0, 0, 0)),
  (9, ([], .iconst 0, 1, 0, 0, 0, 0)),
  (10, ([], .goto 4, 3, 14, 0, 0, 0)),
  (13, ([], .iconst 1, 1, 0, 0, 0, 1)),
  (14, ([false, false], .invokevirtual 170, 3, 1, 9, 0, 0)),
  (17, ([], .ifCond .eq 15, 3, 32, 0, 0, 0)),
  (20, ([], .aload_n 0, 1, 0, 0, 0, 0)),
  (21, ([], .iload_n 1, 1, 1, 0, 0, 0)),
  (22, ([], .invokevirtual 277, 3, 2, 9, 0, 0)),
  (25, ([], .ifCond .eq 7, 3, 32, 0, 0, 0)),
  (28, ([], .iconst 1, 1, 0, 0, 0, 1)),
  (29, ([], .goto 4, 3, 33, 0, 0, 0)),
  (32, ([], .iconst 0, 1, 0, 0, 0, 0)),
  (33, ([], .ireturn, 1, 0, 0, 0, 0))]
noncomputable def E_X7_earns : Kt := exL SKc SKn SKr CS (lkp T_X7_earns) [F_X7_isSeries, F_X7_holds, F_X7_isEarned] [] []
noncomputable def F_X7_earns : Fn := fun as h => E_X7_earns 0 (pad 2 as) [] h
noncomputable def f_X7_earns_14 (x1 : Int32) (s0 : Int32) (h : Hp) : Res := E_X7_earns 14 [.ref 227, .int x1] [.int s0, .ref 227] h
set_option maxRecDepth 100000 in
set_option maxHeartbeats 4000000 in
theorem e_X7_earns_0 (x1 : Int32) (h : Hp) : F_X7_earns [.ref 227, .int x1] h = bI (F_X7_isSeries [.ref 227, .int x1] h) (fun v2 h1 => if v2 = 0 then f_X7_earns_14 x1 1 h1 else f_X7_earns_14 x1 0 h1) (hnk []) :=
  (exL_it SKc SKn SKr CS (lkp T_X7_earns) [F_X7_isSeries, F_X7_holds, F_X7_isEarned] [] [] [14] 7 0 [.ref 227, .int x1] [] h).trans rfl
set_option maxRecDepth 100000 in
set_option maxHeartbeats 4000000 in
theorem e_X7_earns_14 (x1 : Int32) (s0 : Int32) (h : Hp) : f_X7_earns_14 x1 s0 h = bI (F_X7_holds [.ref 227, .int s0] h) (fun v2 h1 => if v2 = 0 then rtn (some (.int 0)) h1 else bI (F_X7_isEarned [.ref 227, .int x1] h1) (fun v4 h3 => if v4 = 0 then rtn (some (.int 0)) h3 else rtn (some (.int 1)) h3) (hnk [])) (hnk []) :=
  (exL_it SKc SKn SKr CS (lkp T_X7_earns) [F_X7_isSeries, F_X7_holds, F_X7_isEarned] [] [] [14] 9 14 [.ref 227, .int x1] [.int s0, .ref 227] h).trans rfl

def T_X7_rights : List (Nat × Ent) := [(0, ([], .aload_n 0, 1, 0, 0, 0, 0)),
  (1, ([], .iconst 0, 1, 0, 0, 0, 0)),
  (2, ([], .putfield 152, 3, 0, 2, 0, 0)),
  (5, ([], .aload_n 0, 1, 0, 0, 0, 0)),
  (6, ([], .getfield 201, 3, 10, 2, 0, 0)),
  (9, ([], .ireturn, 1, 0, 0, 0, 0))]
noncomputable def E_X7_rights : Kt := exL SKc SKn SKr CS (lkp T_X7_rights) [] [] []
noncomputable def F_X7_rights : Fn := fun as h => E_X7_rights 0 (pad 1 as) [] h
set_option maxRecDepth 100000 in
set_option maxHeartbeats 4000000 in
theorem e_X7_rights_0 (h : Hp) : F_X7_rights [.ref 227] h = rtn (some (.int (rd h 227 10))) (wr h 227 0 0) :=
  (exL_it SKc SKn SKr CS (lkp T_X7_rights) [] [] [] [] 6 0 [.ref 227] [] h).trans rfl

def T_X7_rightOf : List (Nat × Ent) := [(0, ([], .aload_n 0, 1, 0, 0, 0, 0)),
  (1, ([], .iload_n 1, 1, 1, 0, 0, 0)),
  (2, ([], .iconst 0, 1, 0, 0, 0, 0)),
  (3, ([], .aload_n 0, 1, 0, 0, 0, 0)),
  (4, ([], .getfield 201, 3, 10, 2, 0, 0)),
  (7, ([], .iconst 1, 1, 0, 0, 0, 1)),
  (8, ([], .isub, 1, 0, 0, 0, 0)),
  (9, ([], .invokestatic 156, 3, 0, 13, 0, 0)),
  (12, ([], .ifCond .ne 7, 3, 19, 0, 0, 0)),
  (15, ([], .iconst 1, 1, 0, 0, 0, 1)),
  (16, ([], .goto 18, 3, 34, 0, 0, 0)),
  (19, ([], .iload_n 2, 1, 2, 0, 0, 0)),
  (20, ([], .iconst 0, 1, 0, 0, 0, 0)),
  (21, ([], .bipush 8, 2, 0, 0, 0, 8)),
  (23, ([], .invokestatic 156, 3, 0, 13, 0, 0)),
  (26, ([], .ifCond .eq 7, 3, 33, 0, 0, 0)),
  (29, ([], .iconst 0, 1, 0, 0, 0, 0)),
  (30, ([], .goto 4, 3, 34, 0, 0, 0)),
  (33, ([], .iconst 2, 1, 0, 0, 0, 2)),
  (34, ([false, false, false], .invokevirtual 170, 3, 1, 9, 0, 0)),
  (37, ([], .ifCond .ne 5, 3, 42, 0, 0, 0)),
  (40, ([], .iconst 0, 1, 0, 0, 0, 0)),
  (41, ([], .ireturn, 1, 0, 0, 0, 0)),
  (42, ([], .iload_n 2, 1, 2, 0, 0, 0)),
  (43, ([], .iconst 4, 1, 0, 0, 0, 4)),
  (44, ([], .if_icmp .ge 51, 3, 95, 0, 0, 0)),
  (47, ([], .iload_n 2, 1, 2, 0, 0, 0)),
  (48, ([], .ifCond .ne 12, 3, 60, 0, 0, 0)),
  (51, ([], .aload_n 0, 1, 0, 0, 0, 0)),
  (52, ([], .getfield 34, 3, 11, 3, 0, 0)),
  (55, ([], .iload_n 1, 1, 1, 0, 0, 0)),
  (56, ([], .iaload, 1, 0, 0, 0, 0)),
  (57, ([], .goto 37, 3, 94, 0, 0, 0)),
  (60, ([], .iload_n 2, 1, 2, 0, 0, 0)),
  (61, ([], .iconst 1, 1, 0, 0, 0, 1)),
  (62, ([], .if_icmp .ne 12, 3, 74, 0, 0, 0)),
  (65, ([], .aload_n 0, 1, 0, 0, 0, 0)),
  (66, ([], .getfield 37, 3, 12, 3, 0, 0)),
  (69, ([], .iload_n 1, 1, 1, 0, 0, 0)),
  (70, ([], .iaload, 1, 0, 0, 0, 0)),
  (71, ([], .goto 23, 3, 94, 0, 0, 0)),
  (74, ([], .iload_n 2, 1, 2, 0, 0, 0)),
  (75, ([], .iconst 2, 1, 0, 0, 0, 2)),
  (76, ([], .if_icmp .ne 12, 3, 88, 0, 0, 0)),
  (79, ([], .aload_n 0, 1, 0, 0, 0, 0)),
  (80, ([], .getfield 40, 3, 13, 3, 0, 0)),
  (83, ([], .iload_n 1, 1, 1, 0, 0, 0)),
  (84, ([], .iaload, 1, 0, 0, 0, 0)),
  (85, ([], .goto 9, 3, 94, 0, 0, 0)),
  (88, ([], .aload_n 0, 1, 0, 0, 0, 0)),
  (89, ([], .getfield 43, 3, 14, 3, 0, 0)),
  (92, ([], .iload_n 1, 1, 1, 0, 0, 0)),
  (93, ([], .iaload, 1, 0, 0, 0, 0)),
  (94, ([], .ireturn, 1, 0, 0, 0, 0)),
  (95, ([], .iload_n 2, 1, 2, 0, 0, 0)),
  (96, ([], .iconst 4, 1, 0, 0, 0, 4)),
  (97, ([], .if_icmp .ne 12, 3, 109, 0, 0, 0)),
  (100, ([], .aload_n 0, 1, 0, 0, 0, 0)),
  (101, ([], .getfield 46, 3, 15, 3, 0, 0)),
  (104, ([], .iload_n 1, 1, 1, 0, 0, 0)),
  (105, ([], .iaload, 1, 0, 0, 0, 0)),
  (106, ([], .goto 53, 3, 159, 0, 0, 0)),
  (109, ([], .iload_n 2, 1, 2, 0, 0, 0)),
  (110, ([], .iconst 5, 1, 0, 0, 0, 5)),
  (111, ([], .if_icmp .ne 12, 3, 123, 0, 0, 0)),
  (114, ([], .aload_n 0, 1, 0, 0, 0, 0)),
  (115, ([], .getfield 49, 3, 16, 3, 0, 0)),
  (118, ([], .iload_n 1, 1, 1, 0, 0, 0)),
  (119, ([], .iaload, 1, 0, 0, 0, 0)),
  (120, ([], .goto 39, 3, 159, 0, 0, 0)),
  (123, ([], .iload_n 2, 1, 2, 0, 0, 0)),
  (124, ([], .bipush 6, 2, 0, 0, 0, 6)),
  (126, ([], .if_icmp .ne 12, 3, 138, 0, 0, 0)),
  (129, ([], .aload_n 0, 1, 0, 0, 0, 0)),
  (130, ([], .getfield 52, 3, 17, 3, 0, 0)),
  (133, ([], .iload_n 1, 1, 1, 0, 0, 0)),
  (134, ([], .iaload, 1, 0, 0, 0, 0)),
  (135, ([], .goto 24, 3, 159, 0, 0, 0)),
  (138, ([], .iload_n 2, 1, 2, 0, 0, 0)),
  (139, ([], .bipush 7, 2, 0, 0, 0, 7)),
  (141, ([], .if_icmp .ne 12, 3, 153, 0, 0, 0)),
  (144, ([], .aload_n 0, 1, 0, 0, 0, 0)),
  (145, ([], .getfield 55, 3, 18, 3, 0, 0)),
  (148, ([], .iload_n 1, 1, 1, 0, 0, 0)),
  (149, ([], .iaload, 1, 0, 0, 0, 0)),
  (150, ([], .goto 9, 3, 159, 0, 0, 0)),
  (153, ([], .aload_n 0, 1, 0, 0, 0, 0)),
  (154, ([], .getfield 58, 3, 19, 3, 0, 0)),
  (157, ([], .iload_n 1, 1, 1, 0, 0, 0)),
  (158, ([], .iaload, 1, 0, 0, 0, 0)),
  (159, ([], .ireturn, 1, 0, 0, 0, 0))]
noncomputable def E_X7_rightOf : Kt := exL SKc SKn SKr CS (lkp T_X7_rightOf) [F_X7_isIn, F_X7_holds] [] []
noncomputable def F_X7_rightOf : Fn := fun as h => E_X7_rightOf 0 (pad 3 as) [] h
noncomputable def f_X7_rightOf_34 (x1 : Int32) (x2 : Int32) (s0 : Int32) (h : Hp) : Res := E_X7_rightOf 34 [.ref 227, .int x1, .int x2] [.int s0, .ref 227] h
set_option maxRecDepth 100000 in
set_option maxHeartbeats 4000000 in
theorem e_X7_rightOf_0 (x1 : Int32) (x2 : Int32) (h : Hp) : F_X7_rightOf [.ref 227, .int x1, .int x2] h = bI (F_X7_isIn [.int x1, .int 0, .int ((rd h 227 10) - 1)] h) (fun v2 h1 => if v2 = 0 then f_X7_rightOf_34 x1 x2 1 h1 else bI (F_X7_isIn [.int x2, .int 0, .int 8] h1) (fun v4 h3 => if v4 = 0 then f_X7_rightOf_34 x1 x2 2 h3 else f_X7_rightOf_34 x1 x2 0 h3) (hnk [])) (hnk []) :=
  (exL_it SKc SKn SKr CS (lkp T_X7_rightOf) [F_X7_isIn, F_X7_holds] [] [] [34] 16 0 [.ref 227, .int x1, .int x2] [] h).trans rfl
set_option maxRecDepth 100000 in
set_option maxHeartbeats 4000000 in
theorem e_X7_rightOf_34 (x1 : Int32) (x2 : Int32) (s0 : Int32) (h : Hp) : f_X7_rightOf_34 x1 x2 s0 h = bI (F_X7_holds [.ref 227, .int s0] h) (fun v2 h1 => if v2 = 0 then rtn (some (.int 0)) h1 else if x2 < 4 then if x2 = 0 then gd (inb x1 60) (rtn (some (.int (rd h1 236 x1.toNatClampNeg))) h1) else if x2 = 1 then gd (inb x1 60) (rtn (some (.int (rd h1 237 x1.toNatClampNeg))) h1) else if x2 = 2 then gd (inb x1 60) (rtn (some (.int (rd h1 238 x1.toNatClampNeg))) h1) else gd (inb x1 60) (rtn (some (.int (rd h1 239 x1.toNatClampNeg))) h1) else if x2 = 4 then gd (inb x1 60) (rtn (some (.int (rd h1 240 x1.toNatClampNeg))) h1) else if x2 = 5 then gd (inb x1 60) (rtn (some (.int (rd h1 241 x1.toNatClampNeg))) h1) else if x2 = 6 then gd (inb x1 60) (rtn (some (.int (rd h1 242 x1.toNatClampNeg))) h1) else if x2 = 7 then gd (inb x1 60) (rtn (some (.int (rd h1 243 x1.toNatClampNeg))) h1) else gd (inb x1 60) (rtn (some (.int (rd h1 244 x1.toNatClampNeg))) h1)) (hnk []) :=
  (exL_it SKc SKn SKr CS (lkp T_X7_rightOf) [F_X7_isIn, F_X7_holds] [] [] [34] 23 34 [.ref 227, .int x1, .int x2] [.int s0, .ref 227] h).trans rfl

def T_X7_isNew : List (Nat × Ent) := [(0, ([], .aload_n 0, 1, 0, 0, 0, 0)),
  (1, ([], .iload_n 1, 1, 1, 0, 0, 0)),
  (2, ([], .invokestatic 177, 3, 0, 5, 0, 0)),
  (5, ([], .ifCond .eq 14, 3, 19, 0, 0, 0)),
  (8, ([], .iload_n 2, 1, 2, 0, 0, 0)),
  (9, ([], .invokestatic 160, 3, 1, 5, 0, 0)),
  (12, ([], .ifCond .eq 7, 3, 19, 0, 0, 0)),
  (15, ([], .iconst 0, 1, 0, 0, 0, 0)),
  (16, ([], .goto 4, 3, 20, 0, 0, 0)),
  (19, ([false, false, false], .iconst 1, 1, 0, 0, 0, 1)),
  (20, ([false, false, false], .invokevirtual 170, 3, 2, 9, 0, 0)),
  (23, ([], .ifCond .eq 16, 3, 39, 0, 0, 0)),
  (26, ([], .aload_n 0, 1, 0, 0, 0, 0)),
  (27, ([], .iload_n 1, 1, 1, 0, 0, 0)),
  (28, ([], .iload_n 2, 1, 2, 0, 0, 0)),
  (29, ([], .invokevirtual 204, 3, 3, 13, 0, 0)),
  (32, ([], .ifCond .eq 7, 3, 39, 0, 0, 0)),
  (35, ([], .iconst 1, 1, 0, 0, 0, 1)),
  (36, ([], .goto 4, 3, 40, 0, 0, 0)),
  (39, ([], .iconst 0, 1, 0, 0, 0, 0)),
  (40, ([], .ireturn, 1, 0, 0, 0, 0))]
noncomputable def E_X7_isNew : Kt := exL SKc SKn SKr CS (lkp T_X7_isNew) [F_X7_isCarrier, F_X7_isAirport, F_X7_holds, F_X7_isNewAt] [] []
noncomputable def F_X7_isNew : Fn := fun as h => E_X7_isNew 0 (pad 3 as) [] h
noncomputable def f_X7_isNew_19 (x1 : Int32) (x2 : Int32) (h : Hp) : Res := E_X7_isNew 19 [.ref 227, .int x1, .int x2] [.ref 227] h
noncomputable def f_X7_isNew_20 (x1 : Int32) (x2 : Int32) (s0 : Int32) (h : Hp) : Res := E_X7_isNew 20 [.ref 227, .int x1, .int x2] [.int s0, .ref 227] h
set_option maxRecDepth 100000 in
set_option maxHeartbeats 4000000 in
theorem e_X7_isNew_0 (x1 : Int32) (x2 : Int32) (h : Hp) : F_X7_isNew [.ref 227, .int x1, .int x2] h = bI (F_X7_isCarrier [.int x1] h) (fun v2 h1 => if v2 = 0 then f_X7_isNew_19 x1 x2 h1 else bI (F_X7_isAirport [.int x2] h1) (fun v4 h3 => if v4 = 0 then f_X7_isNew_19 x1 x2 h3 else f_X7_isNew_20 x1 x2 0 h3) (hnk [])) (hnk []) :=
  (exL_it SKc SKn SKr CS (lkp T_X7_isNew) [F_X7_isCarrier, F_X7_isAirport, F_X7_holds, F_X7_isNewAt] [] [] [19, 20] 9 0 [.ref 227, .int x1, .int x2] [] h).trans rfl
set_option maxRecDepth 100000 in
set_option maxHeartbeats 4000000 in
theorem e_X7_isNew_19 (x1 : Int32) (x2 : Int32) (h : Hp) : f_X7_isNew_19 x1 x2 h = f_X7_isNew_20 x1 x2 1 h :=
  (exL_it SKc SKn SKr CS (lkp T_X7_isNew) [F_X7_isCarrier, F_X7_isAirport, F_X7_holds, F_X7_isNewAt] [] [] [19, 20] 1 19 [.ref 227, .int x1, .int x2] [.ref 227] h).trans rfl
set_option maxRecDepth 100000 in
set_option maxHeartbeats 4000000 in
theorem e_X7_isNew_20 (x1 : Int32) (x2 : Int32) (s0 : Int32) (h : Hp) : f_X7_isNew_20 x1 x2 s0 h = bI (F_X7_holds [.ref 227, .int s0] h) (fun v2 h1 => if v2 = 0 then rtn (some (.int 0)) h1 else bI (F_X7_isNewAt [.ref 227, .int x1, .int x2] h1) (fun v4 h3 => if v4 = 0 then rtn (some (.int 0)) h3 else rtn (some (.int 1)) h3) (hnk [])) (hnk []) :=
  (exL_it SKc SKn SKr CS (lkp T_X7_isNew) [F_X7_isCarrier, F_X7_isAirport, F_X7_holds, F_X7_isNewAt] [] [] [19, 20] 10 20 [.ref 227, .int x1, .int x2] [.int s0, .ref 227] h).trans rfl

def T_X7_count : List (Nat × Ent) := [(0, ([], .aload_n 0, 1, 0, 0, 0, 0)),
  (1, ([], .iload_n 1, 1, 1, 0, 0, 0)),
  (2, ([], .iconst 0, 1, 0, 0, 0, 0)),
  (3, ([], .iconst 5, 1, 0, 0, 0, 5)),
  (4, ([], .invokestatic 156, 3, 0, 13, 0, 0)),
  (7, ([], .ifCond .eq 7, 3, 14, 0, 0, 0)),
  (10, ([], .iconst 0, 1, 0, 0, 0, 0)),
  (11, ([], .goto 4, 3, 15, 0, 0, 0)),
  (14, ([], .iconst 1, 1, 0, 0, 0, 1)),
  (15, ([false, false, true, true], .invokevirtual 170, 3, 1, 9, 0, 0)),
  (18, ([], .ifCond .ne 5, 3, 23, 0, 0, 0)),
  (21, ([], .iconst 0, 1, 0, 0, 0, 0)),
  (22, ([], .ireturn, 1, 0, 0, 0, 0)),
  (23, ([], .iconst 0, 1, 0, 0, 0, 0)),
  (24, ([], .istore_n 2, 1, 2, 0, 0, 0)),
  (25, ([], .iconst 0, 1, 0, 0, 0, 0)),
  (26, ([], .istore_n 3, 1, 3, 0, 0, 0)),
  (27, ([false, false, false, false], .iload_n 3, 1, 3, 0, 0, 0)),
  (28, ([], .aload_n 0, 1, 0, 0, 0, 0)),
  (29, ([], .getfield 167, 3, 37, 2, 0, 0)),
  (32, ([], .if_icmp .ge 26, 3, 58, 0, 0, 0)),
  (35, ([], .iload_n 2, 1, 2, 0, 0, 0)),
  (36, ([], .aload_n 0, 1, 0, 0, 0, 0)),
  (37, ([], .getfield 142, 3, 50, 3, 0, 0)),
  (40, ([], .iload_n 3, 1, 3, 0, 0, 0)),
  (41, ([], .baload, 1, 0, 0, 0, 0)),
  (42, ([], .ifCond .eq 7, 3, 49, 0, 0, 0)),
  (45, ([], .iconst 1, 1, 0, 0, 0, 1)),
  (46, ([], .goto 4, 3, 50, 0, 0, 0)),
  (49, ([], .iconst 0, 1, 0, 0, 0, 0)),
  (50, ([false, false, true, false], .iadd, 1, 0, 0, 0, 0)),
  (51, ([], .istore_n 2, 1, 2, 0, 0, 0)),
  (52, ([], .iinc 3 1, 3, 3, 0, 0, 1)),
  (55, ([], .goto (-28), 3, 27, 0, 0, 0)),
  (58, ([], .iload_n 1, 1, 1, 0, 0, 0)),
  (59, ([], .ifCond .ne 10, 3, 69, 0, 0, 0)),
  (62, ([], .aload_n 0, 1, 0, 0, 0, 0)),
  (63, ([], .getfield 164, 3, 20, 2, 0, 0)),
  (66, ([], .goto 29, 3, 95, 0, 0, 0)),
  (69, ([], .iload_n 1, 1, 1, 0, 0, 0)),
  (70, ([], .iconst 4, 1, 0, 0, 0, 4)),
  (71, ([], .if_icmp .ge 11, 3, 82, 0, 0, 0)),
  (74, ([], .aload_n 0, 1, 0, 0, 0, 0)),
  (75, ([], .iload_n 1, 1, 1, 0, 0, 0)),
  (76, ([], .invokevirtual 252, 3, 2, 9, 0, 0)),
  (79, ([], .goto 16, 3, 95, 0, 0, 0)),
  (82, ([], .iload_n 1, 1, 1, 0, 0, 0)),
  (83, ([], .iconst 4, 1, 0, 0, 0, 4)),
  (84, ([], .if_icmp .ne 10, 3, 94, 0, 0, 0)),
  (87, ([], .aload_n 0, 1, 0, 0, 0, 0)),
  (88, ([], .getfield 167, 3, 37, 2, 0, 0)),
  (91, ([], .goto 4, 3, 95, 0, 0, 0)),
  (94, ([], .iload_n 2, 1, 2, 0, 0, 0)),
  (95, ([], .ireturn, 1, 0, 0, 0, 0))]
noncomputable def E_X7_count : Kt := exL SKc SKn SKr CS (lkp T_X7_count) [F_X7_isIn, F_X7_holds, F_X7_countOf] [] []
noncomputable def F_X7_count : Fn := fun as h => E_X7_count 0 (pad 4 as) [] h
noncomputable def f_X7_count_15 (x1 : Int32) (s0 : Int32) (h : Hp) : Res := E_X7_count 15 [.ref 227, .int x1, .retAddr 0, .retAddr 0] [.int s0, .ref 227] h
noncomputable def f_X7_count_27 (x1 : Int32) (x2 : Int32) (x3 : Int32) (h : Hp) : Res := E_X7_count 27 [.ref 227, .int x1, .int x2, .int x3] [] h
noncomputable def f_X7_count_50 (x1 : Int32) (x3 : Int32) (s0 : Int32) (s1 : Int32) (h : Hp) : Res := E_X7_count 50 [.ref 227, .int x1, .retAddr 0, .int x3] [.int s0, .int s1] h
set_option maxRecDepth 100000 in
set_option maxHeartbeats 4000000 in
theorem e_X7_count_0 (x1 : Int32) (h : Hp) : F_X7_count [.ref 227, .int x1] h = bI (F_X7_isIn [.int x1, .int 0, .int 5] h) (fun v2 h1 => if v2 = 0 then f_X7_count_15 x1 1 h1 else f_X7_count_15 x1 0 h1) (hnk []) :=
  (exL_it SKc SKn SKr CS (lkp T_X7_count) [F_X7_isIn, F_X7_holds, F_X7_countOf] [] [] [15, 27, 50] 8 0 [.ref 227, .int x1, .retAddr 0, .retAddr 0] [] h).trans rfl
set_option maxRecDepth 100000 in
set_option maxHeartbeats 4000000 in
theorem e_X7_count_15 (x1 : Int32) (s0 : Int32) (h : Hp) : f_X7_count_15 x1 s0 h = bI (F_X7_holds [.ref 227, .int s0] h) (fun v2 h1 => if v2 = 0 then rtn (some (.int 0)) h1 else f_X7_count_27 x1 0 0 h1) (hnk []) :=
  (exL_it SKc SKn SKr CS (lkp T_X7_count) [F_X7_isIn, F_X7_holds, F_X7_countOf] [] [] [15, 27, 50] 6 15 [.ref 227, .int x1, .retAddr 0, .retAddr 0] [.int s0, .ref 227] h).trans rfl
set_option maxRecDepth 100000 in
set_option maxHeartbeats 4000000 in
theorem e_X7_count_27 (x1 : Int32) (x2 : Int32) (x3 : Int32) (h : Hp) : f_X7_count_27 x1 x2 x3 h = if x3 < (rd h 227 37) then gd (inb x3 60) (if (rd h 272 x3.toNatClampNeg) = 0 then f_X7_count_50 x1 x3 0 x2 h else f_X7_count_50 x1 x3 1 x2 h) else if x1 = 0 then rtn (some (.int (rd h 227 20))) h else if x1 < 4 then bI (F_X7_countOf [.ref 227, .int x1] h) (fun v2 h1 => rtn (some (.int v2)) h1) (hnk []) else if x1 = 4 then rtn (some (.int (rd h 227 37))) h else rtn (some (.int x2)) h :=
  (exL_it SKc SKn SKr CS (lkp T_X7_count) [F_X7_isIn, F_X7_holds, F_X7_countOf] [] [] [15, 27, 50] 16 27 [.ref 227, .int x1, .int x2, .int x3] [] h).trans rfl
set_option maxRecDepth 100000 in
set_option maxHeartbeats 4000000 in
theorem e_X7_count_50 (x1 : Int32) (x3 : Int32) (s0 : Int32) (s1 : Int32) (h : Hp) : f_X7_count_50 x1 x3 s0 s1 h = f_X7_count_27 x1 (s1 + s0) (x3 + 1) h :=
  (exL_it SKc SKn SKr CS (lkp T_X7_count) [F_X7_isIn, F_X7_holds, F_X7_countOf] [] [] [15, 27, 50] 4 50 [.ref 227, .int x1, .retAddr 0, .int x3] [.int s0, .int s1] h).trans rfl
end
section
def T_L_declare : List (Nat × Ent) := [(0, ([], .aload 5, 2, 5, 0, 0, 0)),
  (2, ([], .iconst 0, 1, 0, 0, 0, 0)),
  (3, ([], .aload_n 0, 1, 0, 0, 0, 0)),
  (4, ([], .iload_n 1, 1, 1, 0, 0, 0)),
  (5, ([], .iload_n 2, 1, 2, 0, 0, 0)),
  (6, ([], .iload_n 3, 1, 3, 0, 0, 0)),
  (7, ([], .iload 4, 2, 4, 0, 0, 0)),
  (9, ([], .invokevirtual 7, 3, 0, 21, 0, 0)),
  (12, ([], .i2l, 1, 0, 0, 0, 0)),
  (13, ([], .lastore, 1, 0, 0, 0, 0)),
  (14, ([], .goto 15, 3, 29, 0, 0, 0)),
  (29, ([], .iconst 0, 1, 0, 0, 0, 0)),
  (30, ([], .ireturn, 1, 0, 0, 0, 0))]
def hn_L_declare : List (Nat × Int32) := [(0, 1), (1, 2), (2, 3)]
noncomputable def E_L_declare : Kt := exL SKc SKn SKr CS (lkp T_L_declare) [F_X6_declare] hn_L_declare []
noncomputable def F_L_declare : Fn := fun as h => E_L_declare 0 (pad 7 as) [] h
set_option maxRecDepth 100000 in
set_option maxHeartbeats 4000000 in
theorem e_L_declare_0 (x1 : Int32) (x2 : Int32) (x3 : Int32) (x4 : Int32) (h : Hp) : F_L_declare [.ref 0, .int x1, .int x2, .int x3, .int x4, .ref 275] h = bI (F_X6_declare [.ref 0, .int x1, .int x2, .int x3, .int x4] h) (fun v2 h1 => gd (inb 0 1) (rtn (some (.int 0)) (wrL h1 ((0 : Int32).toNatClampNeg) (Int32.toInt64 v2)))) (hnk hn_L_declare) :=
  (exL_it SKc SKn SKr CS (lkp T_L_declare) [F_X6_declare] hn_L_declare [] [] 13 0 [.ref 0, .int x1, .int x2, .int x3, .int x4, .ref 275, .retAddr 0] [] h).trans rfl

def T_L_revise : List (Nat × Ent) := [(0, ([], .aload 4, 2, 4, 0, 0, 0)),
  (2, ([], .iconst 0, 1, 0, 0, 0, 0)),
  (3, ([], .aload_n 0, 1, 0, 0, 0, 0)),
  (4, ([], .iload_n 1, 1, 1, 0, 0, 0)),
  (5, ([], .iload_n 2, 1, 2, 0, 0, 0)),
  (6, ([], .iload_n 3, 1, 3, 0, 0, 0)),
  (7, ([], .invokevirtual 19, 3, 0, 17, 0, 0)),
  (10, ([], .i2l, 1, 0, 0, 0, 0)),
  (11, ([], .lastore, 1, 0, 0, 0, 0)),
  (12, ([], .goto 11, 3, 23, 0, 0, 0)),
  (23, ([], .iconst 0, 1, 0, 0, 0, 0)),
  (24, ([], .ireturn, 1, 0, 0, 0, 0))]
def hn_L_revise : List (Nat × Int32) := [(0, 1), (1, 2)]
noncomputable def E_L_revise : Kt := exL SKc SKn SKr CS (lkp T_L_revise) [F_X6_revise] hn_L_revise []
noncomputable def F_L_revise : Fn := fun as h => E_L_revise 0 (pad 6 as) [] h
set_option maxRecDepth 100000 in
set_option maxHeartbeats 4000000 in
theorem e_L_revise_0 (x1 : Int32) (x2 : Int32) (x3 : Int32) (h : Hp) : F_L_revise [.ref 0, .int x1, .int x2, .int x3, .ref 275] h = bI (F_X6_revise [.ref 0, .int x1, .int x2, .int x3] h) (fun v2 h1 => gd (inb 0 1) (rtn (some (.int 0)) (wrL h1 ((0 : Int32).toNatClampNeg) (Int32.toInt64 v2)))) (hnk hn_L_revise) :=
  (exL_it SKc SKn SKr CS (lkp T_L_revise) [F_X6_revise] hn_L_revise [] [] 12 0 [.ref 0, .int x1, .int x2, .int x3, .ref 275, .retAddr 0] [] h).trans rfl

def T_L_curfew : List (Nat × Ent) := [(0, ([], .aload_n 0, 1, 0, 0, 0, 0)),
  (1, ([], .iload_n 1, 1, 1, 0, 0, 0)),
  (2, ([], .iload_n 2, 1, 2, 0, 0, 0)),
  (3, ([], .iload_n 3, 1, 3, 0, 0, 0)),
  (4, ([], .invokevirtual 23, 3, 0, 16, 0, 0)),
  (7, ([], .goto 11, 3, 18, 0, 0, 0)),
  (18, ([], .iconst 0, 1, 0, 0, 0, 0)),
  (19, ([], .ireturn, 1, 0, 0, 0, 0))]
def hn_L_curfew : List (Nat × Int32) := [(0, 1), (1, 2)]
noncomputable def E_L_curfew : Kt := exL SKc SKn SKr CS (lkp T_L_curfew) [F_X6_curfew] hn_L_curfew []
noncomputable def F_L_curfew : Fn := fun as h => E_L_curfew 0 (pad 5 as) [] h
set_option maxRecDepth 100000 in
set_option maxHeartbeats 4000000 in
theorem e_L_curfew_0 (x1 : Int32) (x2 : Int32) (x3 : Int32) (h : Hp) : F_L_curfew [.ref 0, .int x1, .int x2, .int x3] h = bV (F_X6_curfew [.ref 0, .int x1, .int x2, .int x3] h) (fun h1 => rtn (some (.int 0)) h1) (hnk hn_L_curfew) :=
  (exL_it SKc SKn SKr CS (lkp T_L_curfew) [F_X6_curfew] hn_L_curfew [] [] 8 0 [.ref 0, .int x1, .int x2, .int x3, .retAddr 0] [] h).trans rfl

def T_L_quota : List (Nat × Ent) := [(0, ([], .aload_n 3, 1, 3, 0, 0, 0)),
  (1, ([], .iconst 0, 1, 0, 0, 0, 0)),
  (2, ([], .aload_n 0, 1, 0, 0, 0, 0)),
  (3, ([], .iload_n 1, 1, 1, 0, 0, 0)),
  (4, ([], .iload_n 2, 1, 2, 0, 0, 0)),
  (5, ([], .invokevirtual 27, 3, 0, 13, 0, 0)),
  (8, ([], .i2l, 1, 0, 0, 0, 0)),
  (9, ([], .lastore, 1, 0, 0, 0, 0)),
  (10, ([], .goto 11, 3, 21, 0, 0, 0)),
  (21, ([], .iconst 0, 1, 0, 0, 0, 0)),
  (22, ([], .ireturn, 1, 0, 0, 0, 0))]
def hn_L_quota : List (Nat × Int32) := [(0, 1), (1, 2)]
noncomputable def E_L_quota : Kt := exL SKc SKn SKr CS (lkp T_L_quota) [F_X6_quota] hn_L_quota []
noncomputable def F_L_quota : Fn := fun as h => E_L_quota 0 (pad 5 as) [] h
set_option maxRecDepth 100000 in
set_option maxHeartbeats 4000000 in
theorem e_L_quota_0 (x1 : Int32) (x2 : Int32) (h : Hp) : F_L_quota [.ref 0, .int x1, .int x2, .ref 275] h = bI (F_X6_quota [.ref 0, .int x1, .int x2] h) (fun v2 h1 => gd (inb 0 1) (rtn (some (.int 0)) (wrL h1 ((0 : Int32).toNatClampNeg) (Int32.toInt64 v2)))) (hnk hn_L_quota) :=
  (exL_it SKc SKn SKr CS (lkp T_L_quota) [F_X6_quota] hn_L_quota [] [] 11 0 [.ref 0, .int x1, .int x2, .ref 275, .retAddr 0] [] h).trans rfl

def T_L_merge : List (Nat × Ent) := [(0, ([], .aload_n 3, 1, 3, 0, 0, 0)),
  (1, ([], .iconst 0, 1, 0, 0, 0, 0)),
  (2, ([], .aload_n 0, 1, 0, 0, 0, 0)),
  (3, ([], .iload_n 1, 1, 1, 0, 0, 0)),
  (4, ([], .iload_n 2, 1, 2, 0, 0, 0)),
  (5, ([], .invokevirtual 31, 3, 0, 13, 0, 0)),
  (8, ([], .i2l, 1, 0, 0, 0, 0)),
  (9, ([], .lastore, 1, 0, 0, 0, 0)),
  (10, ([], .goto 11, 3, 21, 0, 0, 0)),
  (21, ([], .iconst 0, 1, 0, 0, 0, 0)),
  (22, ([], .ireturn, 1, 0, 0, 0, 0))]
def hn_L_merge : List (Nat × Int32) := [(0, 1), (2, 2)]
noncomputable def E_L_merge : Kt := exL SKc SKn SKr CS (lkp T_L_merge) [F_X6_merge] hn_L_merge []
noncomputable def F_L_merge : Fn := fun as h => E_L_merge 0 (pad 5 as) [] h
set_option maxRecDepth 100000 in
set_option maxHeartbeats 4000000 in
theorem e_L_merge_0 (x1 : Int32) (x2 : Int32) (h : Hp) : F_L_merge [.ref 0, .int x1, .int x2, .ref 275] h = bI (F_X6_merge [.ref 0, .int x1, .int x2] h) (fun v2 h1 => gd (inb 0 1) (rtn (some (.int 0)) (wrL h1 ((0 : Int32).toNatClampNeg) (Int32.toInt64 v2)))) (hnk hn_L_merge) :=
  (exL_it SKc SKn SKr CS (lkp T_L_merge) [F_X6_merge] hn_L_merge [] [] 11 0 [.ref 0, .int x1, .int x2, .ref 275, .retAddr 0] [] h).trans rfl

def T_L_request : List (Nat × Ent) := [(0, ([], .aload 10, 2, 10, 0, 0, 0)),
  (2, ([], .iconst 0, 1, 0, 0, 0, 0)),
  (3, ([], .aload_n 0, 1, 0, 0, 0, 0)),
  (4, ([], .iload_n 1, 1, 1, 0, 0, 0)),
  (5, ([], .iload_n 2, 1, 2, 0, 0, 0)),
  (6, ([], .iload_n 3, 1, 3, 0, 0, 0)),
  (7, ([], .iload 4, 2, 4, 0, 0, 0)),
  (9, ([], .iload 5, 2, 5, 0, 0, 0)),
  (11, ([], .iload 6, 2, 6, 0, 0, 0)),
  (13, ([], .iload 7, 2, 7, 0, 0, 0)),
  (15, ([], .iload 8, 2, 8, 0, 0, 0)),
  (17, ([], .iload 9, 2, 9, 0, 0, 0)),
  (19, ([], .invokevirtual 34, 3, 0, 41, 0, 0)),
  (22, ([], .i2l, 1, 0, 0, 0, 0)),
  (23, ([], .lastore, 1, 0, 0, 0, 0)),
  (24, ([], .goto 15, 3, 39, 0, 0, 0)),
  (39, ([], .iconst 0, 1, 0, 0, 0, 0)),
  (40, ([], .ireturn, 1, 0, 0, 0, 0))]
def hn_L_request : List (Nat × Int32) := [(0, 1), (1, 2), (2, 3)]
noncomputable def E_L_request : Kt := exL SKc SKn SKr CS (lkp T_L_request) [F_X6_request] hn_L_request []
noncomputable def F_L_request : Fn := fun as h => E_L_request 0 (pad 12 as) [] h
set_option maxRecDepth 100000 in
set_option maxHeartbeats 4000000 in
theorem e_L_request_0 (x1 : Int32) (x2 : Int32) (x3 : Int32) (x4 : Int32) (x5 : Int32) (x6 : Int32) (x7 : Int32) (x8 : Int32) (x9 : Int32) (h : Hp) : F_L_request [.ref 0, .int x1, .int x2, .int x3, .int x4, .int x5, .int x6, .int x7, .int x8, .int x9, .ref 275] h = bI (F_X6_request [.ref 0, .int x1, .int x2, .int x3, .int x4, .int x5, .int x6, .int x7, .int x8, .int x9] h) (fun v2 h1 => gd (inb 0 1) (rtn (some (.int 0)) (wrL h1 ((0 : Int32).toNatClampNeg) (Int32.toInt64 v2)))) (hnk hn_L_request) :=
  (exL_it SKc SKn SKr CS (lkp T_L_request) [F_X6_request] hn_L_request [] [] 18 0 [.ref 0, .int x1, .int x2, .int x3, .int x4, .int x5, .int x6, .int x7, .int x8, .int x9, .ref 275, .retAddr 0] [] h).trans rfl

def T_L_link : List (Nat × Ent) := [(0, ([], .aload_n 0, 1, 0, 0, 0, 0)),
  (1, ([], .iload_n 1, 1, 1, 0, 0, 0)),
  (2, ([], .iload_n 2, 1, 2, 0, 0, 0)),
  (3, ([], .invokevirtual 38, 3, 0, 12, 0, 0)),
  (6, ([], .goto 12, 3, 18, 0, 0, 0)),
  (18, ([], .iconst 0, 1, 0, 0, 0, 0)),
  (19, ([], .ireturn, 1, 0, 0, 0, 0))]
def hn_L_link : List (Nat × Int32) := [(0, 1), (1, 2), (2, 3)]
noncomputable def E_L_link : Kt := exL SKc SKn SKr CS (lkp T_L_link) [F_X6_link] hn_L_link []
noncomputable def F_L_link : Fn := fun as h => E_L_link 0 (pad 4 as) [] h
set_option maxRecDepth 100000 in
set_option maxHeartbeats 4000000 in
theorem e_L_link_0 (x1 : Int32) (x2 : Int32) (h : Hp) : F_L_link [.ref 0, .int x1, .int x2] h = bV (F_X6_link [.ref 0, .int x1, .int x2] h) (fun h1 => rtn (some (.int 0)) h1) (hnk hn_L_link) :=
  (exL_it SKc SKn SKr CS (lkp T_L_link) [F_X6_link] hn_L_link [] [] 7 0 [.ref 0, .int x1, .int x2, .retAddr 0] [] h).trans rfl

def T_L_confer : List (Nat × Ent) := [(0, ([], .aload_n 1, 1, 1, 0, 0, 0)),
  (1, ([], .iconst 0, 1, 0, 0, 0, 0)),
  (2, ([], .aload_n 0, 1, 0, 0, 0, 0)),
  (3, ([], .invokevirtual 42, 3, 0, 5, 0, 0)),
  (6, ([], .i2l, 1, 0, 0, 0, 0)),
  (7, ([], .lastore, 1, 0, 0, 0, 0)),
  (8, ([], .goto 6, 3, 14, 0, 0, 0)),
  (14, ([], .iconst 0, 1, 0, 0, 0, 0)),
  (15, ([], .ireturn, 1, 0, 0, 0, 0))]
def hn_L_confer : List (Nat × Int32) := [(2, 1)]
noncomputable def E_L_confer : Kt := exL SKc SKn SKr CS (lkp T_L_confer) [F_X6_confer] hn_L_confer []
noncomputable def F_L_confer : Fn := fun as h => E_L_confer 0 (pad 3 as) [] h
set_option maxRecDepth 100000 in
set_option maxHeartbeats 4000000 in
theorem e_L_confer_0 (h : Hp) : F_L_confer [.ref 0, .ref 275] h = bI (F_X6_confer [.ref 0] h) (fun v2 h1 => gd (inb 0 1) (rtn (some (.int 0)) (wrL h1 ((0 : Int32).toNatClampNeg) (Int32.toInt64 v2)))) (hnk hn_L_confer) :=
  (exL_it SKc SKn SKr CS (lkp T_L_confer) [F_X6_confer] hn_L_confer [] [] 9 0 [.ref 0, .ref 275, .retAddr 0] [] h).trans rfl

def T_L_accept : List (Nat × Ent) := [(0, ([], .aload_n 2, 1, 2, 0, 0, 0)),
  (1, ([], .iconst 0, 1, 0, 0, 0, 0)),
  (2, ([], .aload_n 0, 1, 0, 0, 0, 0)),
  (3, ([], .iload_n 1, 1, 1, 0, 0, 0)),
  (4, ([], .invokevirtual 46, 3, 0, 9, 0, 0)),
  (7, ([], .ifCond .eq 7, 3, 14, 0, 0, 0)),
  (10, ([], .lconst 1, 1, 0, 0, 0, 0)),
  (11, ([], .goto 4, 3, 15, 0, 0, 0)),
  (14, ([], .lconst 0, 1, 0, 0, 0, 0)),
  (15, ([], .lastore, 1, 0, 0, 0, 0)),
  (16, ([], .goto 9, 3, 25, 0, 0, 0)),
  (25, ([], .iconst 0, 1, 0, 0, 0, 0)),
  (26, ([], .ireturn, 1, 0, 0, 0, 0))]
def hn_L_accept : List (Nat × Int32) := [(0, 1), (2, 2)]
noncomputable def E_L_accept : Kt := exL SKc SKn SKr CS (lkp T_L_accept) [F_X6_accept] hn_L_accept []
noncomputable def F_L_accept : Fn := fun as h => E_L_accept 0 (pad 4 as) [] h
set_option maxRecDepth 100000 in
set_option maxHeartbeats 4000000 in
theorem e_L_accept_0 (x1 : Int32) (h : Hp) : F_L_accept [.ref 0, .int x1, .ref 275] h = bI (F_X6_accept [.ref 0, .int x1] h) (fun v2 h1 => if v2 = 0 then gd (inb 0 1) (rtn (some (.int 0)) (wrL h1 ((0 : Int32).toNatClampNeg) (Int64.ofNat 0))) else gd (inb 0 1) (rtn (some (.int 0)) (wrL h1 ((0 : Int32).toNatClampNeg) (Int64.ofNat 1)))) (hnk hn_L_accept) :=
  (exL_it SKc SKn SKr CS (lkp T_L_accept) [F_X6_accept] hn_L_accept [] [] 12 0 [.ref 0, .int x1, .ref 275, .retAddr 0] [] h).trans rfl

def T_L_giveBack : List (Nat × Ent) := [(0, ([], .aload_n 3, 1, 3, 0, 0, 0)),
  (1, ([], .iconst 0, 1, 0, 0, 0, 0)),
  (2, ([], .aload_n 0, 1, 0, 0, 0, 0)),
  (3, ([], .iload_n 1, 1, 1, 0, 0, 0)),
  (4, ([], .iload_n 2, 1, 2, 0, 0, 0)),
  (5, ([], .invokevirtual 50, 3, 0, 13, 0, 0)),
  (8, ([], .i2l, 1, 0, 0, 0, 0)),
  (9, ([], .lastore, 1, 0, 0, 0, 0)),
  (10, ([], .goto 15, 3, 25, 0, 0, 0)),
  (25, ([], .iconst 0, 1, 0, 0, 0, 0)),
  (26, ([], .ireturn, 1, 0, 0, 0, 0))]
def hn_L_giveBack : List (Nat × Int32) := [(0, 1), (1, 2), (2, 3)]
noncomputable def E_L_giveBack : Kt := exL SKc SKn SKr CS (lkp T_L_giveBack) [F_X6_giveBack] hn_L_giveBack []
noncomputable def F_L_giveBack : Fn := fun as h => E_L_giveBack 0 (pad 5 as) [] h
set_option maxRecDepth 100000 in
set_option maxHeartbeats 4000000 in
theorem e_L_giveBack_0 (x1 : Int32) (x2 : Int32) (h : Hp) : F_L_giveBack [.ref 0, .int x1, .int x2, .ref 275] h = bI (F_X6_giveBack [.ref 0, .int x1, .int x2] h) (fun v2 h1 => gd (inb 0 1) (rtn (some (.int 0)) (wrL h1 ((0 : Int32).toNatClampNeg) (Int32.toInt64 v2)))) (hnk hn_L_giveBack) :=
  (exL_it SKc SKn SKr CS (lkp T_L_giveBack) [F_X6_giveBack] hn_L_giveBack [] [] 11 0 [.ref 0, .int x1, .int x2, .ref 275, .retAddr 0] [] h).trans rfl

def T_L_swap : List (Nat × Ent) := [(0, ([], .aload_n 0, 1, 0, 0, 0, 0)),
  (1, ([], .iload_n 1, 1, 1, 0, 0, 0)),
  (2, ([], .iload_n 2, 1, 2, 0, 0, 0)),
  (3, ([], .invokevirtual 53, 3, 0, 12, 0, 0)),
  (6, ([], .goto 12, 3, 18, 0, 0, 0)),
  (18, ([], .iconst 0, 1, 0, 0, 0, 0)),
  (19, ([], .ireturn, 1, 0, 0, 0, 0))]
def hn_L_swap : List (Nat × Int32) := [(0, 1), (1, 2), (2, 3)]
noncomputable def E_L_swap : Kt := exL SKc SKn SKr CS (lkp T_L_swap) [F_X6_swap] hn_L_swap []
noncomputable def F_L_swap : Fn := fun as h => E_L_swap 0 (pad 4 as) [] h
set_option maxRecDepth 100000 in
set_option maxHeartbeats 4000000 in
theorem e_L_swap_0 (x1 : Int32) (x2 : Int32) (h : Hp) : F_L_swap [.ref 0, .int x1, .int x2] h = bV (F_X6_swap [.ref 0, .int x1, .int x2] h) (fun h1 => rtn (some (.int 0)) h1) (hnk hn_L_swap) :=
  (exL_it SKc SKn SKr CS (lkp T_L_swap) [F_X6_swap] hn_L_swap [] [] 7 0 [.ref 0, .int x1, .int x2, .retAddr 0] [] h).trans rfl

def T_L_lease : List (Nat × Ent) := [(0, ([], .aload_n 3, 1, 3, 0, 0, 0)),
  (1, ([], .iconst 0, 1, 0, 0, 0, 0)),
  (2, ([], .aload_n 0, 1, 0, 0, 0, 0)),
  (3, ([], .iload_n 1, 1, 1, 0, 0, 0)),
  (4, ([], .iload_n 2, 1, 2, 0, 0, 0)),
  (5, ([], .invokevirtual 56, 3, 0, 13, 0, 0)),
  (8, ([], .i2l, 1, 0, 0, 0, 0)),
  (9, ([], .lastore, 1, 0, 0, 0, 0)),
  (10, ([], .goto 11, 3, 21, 0, 0, 0)),
  (21, ([], .iconst 0, 1, 0, 0, 0, 0)),
  (22, ([], .ireturn, 1, 0, 0, 0, 0))]
def hn_L_lease : List (Nat × Int32) := [(0, 1), (2, 2)]
noncomputable def E_L_lease : Kt := exL SKc SKn SKr CS (lkp T_L_lease) [F_X6_lease] hn_L_lease []
noncomputable def F_L_lease : Fn := fun as h => E_L_lease 0 (pad 5 as) [] h
set_option maxRecDepth 100000 in
set_option maxHeartbeats 4000000 in
theorem e_L_lease_0 (x1 : Int32) (x2 : Int32) (h : Hp) : F_L_lease [.ref 0, .int x1, .int x2, .ref 275] h = bI (F_X6_lease [.ref 0, .int x1, .int x2] h) (fun v2 h1 => gd (inb 0 1) (rtn (some (.int 0)) (wrL h1 ((0 : Int32).toNatClampNeg) (Int32.toInt64 v2)))) (hnk hn_L_lease) :=
  (exL_it SKc SKn SKr CS (lkp T_L_lease) [F_X6_lease] hn_L_lease [] [] 11 0 [.ref 0, .int x1, .int x2, .ref 275, .retAddr 0] [] h).trans rfl

def T_L_fly : List (Nat × Ent) := [(0, ([], .aload 4, 2, 4, 0, 0, 0)),
  (2, ([], .iconst 0, 1, 0, 0, 0, 0)),
  (3, ([], .aload_n 0, 1, 0, 0, 0, 0)),
  (4, ([], .iload_n 1, 1, 1, 0, 0, 0)),
  (5, ([], .iload_n 2, 1, 2, 0, 0, 0)),
  (6, ([], .iload_n 3, 1, 3, 0, 0, 0)),
  (7, ([], .invokevirtual 59, 3, 0, 17, 0, 0)),
  (10, ([], .i2l, 1, 0, 0, 0, 0)),
  (11, ([], .lastore, 1, 0, 0, 0, 0)),
  (12, ([], .goto 15, 3, 27, 0, 0, 0)),
  (27, ([], .iconst 0, 1, 0, 0, 0, 0)),
  (28, ([], .ireturn, 1, 0, 0, 0, 0))]
def hn_L_fly : List (Nat × Int32) := [(0, 1), (1, 2), (2, 3)]
noncomputable def E_L_fly : Kt := exL SKc SKn SKr CS (lkp T_L_fly) [F_X6_fly] hn_L_fly []
noncomputable def F_L_fly : Fn := fun as h => E_L_fly 0 (pad 6 as) [] h
set_option maxRecDepth 100000 in
set_option maxHeartbeats 4000000 in
theorem e_L_fly_0 (x1 : Int32) (x2 : Int32) (x3 : Int32) (h : Hp) : F_L_fly [.ref 0, .int x1, .int x2, .int x3, .ref 275] h = bI (F_X6_fly [.ref 0, .int x1, .int x2, .int x3] h) (fun v2 h1 => gd (inb 0 1) (rtn (some (.int 0)) (wrL h1 ((0 : Int32).toNatClampNeg) (Int32.toInt64 v2)))) (hnk hn_L_fly) :=
  (exL_it SKc SKn SKr CS (lkp T_L_fly) [F_X6_fly] hn_L_fly [] [] 12 0 [.ref 0, .int x1, .int x2, .int x3, .ref 275, .retAddr 0] [] h).trans rfl

def T_L_close : List (Nat × Ent) := [(0, ([], .aload 4, 2, 4, 0, 0, 0)),
  (2, ([], .iconst 0, 1, 0, 0, 0, 0)),
  (3, ([], .aload_n 0, 1, 0, 0, 0, 0)),
  (4, ([], .iload_n 1, 1, 1, 0, 0, 0)),
  (5, ([], .iload_n 2, 1, 2, 0, 0, 0)),
  (6, ([], .iload_n 3, 1, 3, 0, 0, 0)),
  (7, ([], .invokevirtual 62, 3, 0, 17, 0, 0)),
  (10, ([], .ifCond .eq 7, 3, 17, 0, 0, 0)),
  (13, ([], .lconst 1, 1, 0, 0, 0, 0)),
  (14, ([], .goto 4, 3, 18, 0, 0, 0)),
  (17, ([], .lconst 0, 1, 0, 0, 0, 0)),
  (18, ([], .lastore, 1, 0, 0, 0, 0)),
  (19, ([], .goto 11, 3, 30, 0, 0, 0)),
  (30, ([], .iconst 0, 1, 0, 0, 0, 0)),
  (31, ([], .ireturn, 1, 0, 0, 0, 0))]
def hn_L_close : List (Nat × Int32) := [(0, 1), (1, 2)]
noncomputable def E_L_close : Kt := exL SKc SKn SKr CS (lkp T_L_close) [F_X6_close] hn_L_close []
noncomputable def F_L_close : Fn := fun as h => E_L_close 0 (pad 6 as) [] h
set_option maxRecDepth 100000 in
set_option maxHeartbeats 4000000 in
theorem e_L_close_0 (x1 : Int32) (x2 : Int32) (x3 : Int32) (h : Hp) : F_L_close [.ref 0, .int x1, .int x2, .int x3, .ref 275] h = bI (F_X6_close [.ref 0, .int x1, .int x2, .int x3] h) (fun v2 h1 => if v2 = 0 then gd (inb 0 1) (rtn (some (.int 0)) (wrL h1 ((0 : Int32).toNatClampNeg) (Int64.ofNat 0))) else gd (inb 0 1) (rtn (some (.int 0)) (wrL h1 ((0 : Int32).toNatClampNeg) (Int64.ofNat 1)))) (hnk hn_L_close) :=
  (exL_it SKc SKn SKr CS (lkp T_L_close) [F_X6_close] hn_L_close [] [] 14 0 [.ref 0, .int x1, .int x2, .int x3, .ref 275, .retAddr 0] [] h).trans rfl

def T_L_end : List (Nat × Ent) := [(0, ([], .aload_n 1, 1, 1, 0, 0, 0)),
  (1, ([], .iconst 0, 1, 0, 0, 0, 0)),
  (2, ([], .aload_n 0, 1, 0, 0, 0, 0)),
  (3, ([], .invokevirtual 66, 3, 0, 5, 0, 0)),
  (6, ([], .i2l, 1, 0, 0, 0, 0)),
  (7, ([], .lastore, 1, 0, 0, 0, 0)),
  (8, ([], .goto 6, 3, 14, 0, 0, 0)),
  (14, ([], .iconst 0, 1, 0, 0, 0, 0)),
  (15, ([], .ireturn, 1, 0, 0, 0, 0))]
def hn_L_end : List (Nat × Int32) := [(2, 1)]
noncomputable def E_L_end : Kt := exL SKc SKn SKr CS (lkp T_L_end) [F_X6_end] hn_L_end []
noncomputable def F_L_end : Fn := fun as h => E_L_end 0 (pad 3 as) [] h
set_option maxRecDepth 100000 in
set_option maxHeartbeats 4000000 in
theorem e_L_end_0 (h : Hp) : F_L_end [.ref 0, .ref 275] h = bI (F_X6_end [.ref 0] h) (fun v2 h1 => gd (inb 0 1) (rtn (some (.int 0)) (wrL h1 ((0 : Int32).toNatClampNeg) (Int32.toInt64 v2)))) (hnk hn_L_end) :=
  (exL_it SKc SKn SKr CS (lkp T_L_end) [F_X6_end] hn_L_end [] [] 9 0 [.ref 0, .ref 275, .retAddr 0] [] h).trans rfl

def T_L_load : List (Nat × Ent) := [(0, ([], .aload 7, 2, 7, 0, 0, 0)),
  (2, ([], .iconst 0, 1, 0, 0, 0, 0)),
  (3, ([], .aload_n 0, 1, 0, 0, 0, 0)),
  (4, ([], .iload_n 1, 1, 1, 0, 0, 0)),
  (5, ([], .iload_n 2, 1, 2, 0, 0, 0)),
  (6, ([], .iload_n 3, 1, 3, 0, 0, 0)),
  (7, ([], .iload 4, 2, 4, 0, 0, 0)),
  (9, ([], .iload 5, 2, 5, 0, 0, 0)),
  (11, ([], .iload 6, 2, 6, 0, 0, 0)),
  (13, ([], .invokevirtual 69, 3, 0, 29, 0, 0)),
  (16, ([], .i2l, 1, 0, 0, 0, 0)),
  (17, ([], .lastore, 1, 0, 0, 0, 0)),
  (18, ([], .goto 11, 3, 29, 0, 0, 0)),
  (29, ([], .iconst 0, 1, 0, 0, 0, 0)),
  (30, ([], .ireturn, 1, 0, 0, 0, 0))]
def hn_L_load : List (Nat × Int32) := [(0, 1), (1, 2)]
noncomputable def E_L_load : Kt := exL SKc SKn SKr CS (lkp T_L_load) [F_X6_load] hn_L_load []
noncomputable def F_L_load : Fn := fun as h => E_L_load 0 (pad 9 as) [] h
set_option maxRecDepth 100000 in
set_option maxHeartbeats 4000000 in
theorem e_L_load_0 (x1 : Int32) (x2 : Int32) (x3 : Int32) (x4 : Int32) (x5 : Int32) (x6 : Int32) (h : Hp) : F_L_load [.ref 0, .int x1, .int x2, .int x3, .int x4, .int x5, .int x6, .ref 275] h = bI (F_X6_load [.ref 0, .int x1, .int x2, .int x3, .int x4, .int x5, .int x6] h) (fun v2 h1 => gd (inb 0 1) (rtn (some (.int 0)) (wrL h1 ((0 : Int32).toNatClampNeg) (Int32.toInt64 v2)))) (hnk hn_L_load) :=
  (exL_it SKc SKn SKr CS (lkp T_L_load) [F_X6_load] hn_L_load [] [] 15 0 [.ref 0, .int x1, .int x2, .int x3, .int x4, .int x5, .int x6, .ref 275, .retAddr 0] [] h).trans rfl

def T_L_worst : List (Nat × Ent) := [(0, ([], .aload 5, 2, 5, 0, 0, 0)),
  (2, ([], .iconst 0, 1, 0, 0, 0, 0)),
  (3, ([], .aload_n 0, 1, 0, 0, 0, 0)),
  (4, ([], .iload_n 1, 1, 1, 0, 0, 0)),
  (5, ([], .iload_n 2, 1, 2, 0, 0, 0)),
  (6, ([], .iload_n 3, 1, 3, 0, 0, 0)),
  (7, ([], .iload 4, 2, 4, 0, 0, 0)),
  (9, ([], .invokevirtual 73, 3, 0, 21, 0, 0)),
  (12, ([], .i2l, 1, 0, 0, 0, 0)),
  (13, ([], .lastore, 1, 0, 0, 0, 0)),
  (14, ([], .goto 11, 3, 25, 0, 0, 0)),
  (25, ([], .iconst 0, 1, 0, 0, 0, 0)),
  (26, ([], .ireturn, 1, 0, 0, 0, 0))]
def hn_L_worst : List (Nat × Int32) := [(0, 1), (1, 2)]
noncomputable def E_L_worst : Kt := exL SKc SKn SKr CS (lkp T_L_worst) [F_X6_worst] hn_L_worst []
noncomputable def F_L_worst : Fn := fun as h => E_L_worst 0 (pad 7 as) [] h
set_option maxRecDepth 100000 in
set_option maxHeartbeats 4000000 in
theorem e_L_worst_0 (x1 : Int32) (x2 : Int32) (x3 : Int32) (x4 : Int32) (h : Hp) : F_L_worst [.ref 0, .int x1, .int x2, .int x3, .int x4, .ref 275] h = bI (F_X6_worst [.ref 0, .int x1, .int x2, .int x3, .int x4] h) (fun v2 h1 => gd (inb 0 1) (rtn (some (.int 0)) (wrL h1 ((0 : Int32).toNatClampNeg) (Int32.toInt64 v2)))) (hnk hn_L_worst) :=
  (exL_it SKc SKn SKr CS (lkp T_L_worst) [F_X6_worst] hn_L_worst [] [] 13 0 [.ref 0, .int x1, .int x2, .int x3, .int x4, .ref 275, .retAddr 0] [] h).trans rfl

def T_L_noise : List (Nat × Ent) := [(0, ([], .aload_n 2, 1, 2, 0, 0, 0)),
  (1, ([], .iconst 0, 1, 0, 0, 0, 0)),
  (2, ([], .aload_n 0, 1, 0, 0, 0, 0)),
  (3, ([], .iload_n 1, 1, 1, 0, 0, 0)),
  (4, ([], .invokevirtual 76, 3, 0, 9, 0, 0)),
  (7, ([], .i2l, 1, 0, 0, 0, 0)),
  (8, ([], .lastore, 1, 0, 0, 0, 0)),
  (9, ([], .goto 6, 3, 15, 0, 0, 0)),
  (15, ([], .iconst 0, 1, 0, 0, 0, 0)),
  (16, ([], .ireturn, 1, 0, 0, 0, 0))]
def hn_L_noise : List (Nat × Int32) := [(0, 1)]
noncomputable def E_L_noise : Kt := exL SKc SKn SKr CS (lkp T_L_noise) [F_X6_noise] hn_L_noise []
noncomputable def F_L_noise : Fn := fun as h => E_L_noise 0 (pad 4 as) [] h
set_option maxRecDepth 100000 in
set_option maxHeartbeats 4000000 in
theorem e_L_noise_0 (x1 : Int32) (h : Hp) : F_L_noise [.ref 0, .int x1, .ref 275] h = bI (F_X6_noise [.ref 0, .int x1] h) (fun v2 h1 => gd (inb 0 1) (rtn (some (.int 0)) (wrL h1 ((0 : Int32).toNatClampNeg) (Int32.toInt64 v2)))) (hnk hn_L_noise) :=
  (exL_it SKc SKn SKr CS (lkp T_L_noise) [F_X6_noise] hn_L_noise [] [] 10 0 [.ref 0, .int x1, .ref 275, .retAddr 0] [] h).trans rfl

def T_L_requestOf : List (Nat × Ent) := [(0, ([], .aload_n 3, 1, 3, 0, 0, 0)),
  (1, ([], .iconst 0, 1, 0, 0, 0, 0)),
  (2, ([], .aload_n 0, 1, 0, 0, 0, 0)),
  (3, ([], .iload_n 1, 1, 1, 0, 0, 0)),
  (4, ([], .iload_n 2, 1, 2, 0, 0, 0)),
  (5, ([], .invokevirtual 80, 3, 0, 13, 0, 0)),
  (8, ([], .i2l, 1, 0, 0, 0, 0)),
  (9, ([], .lastore, 1, 0, 0, 0, 0)),
  (10, ([], .goto 11, 3, 21, 0, 0, 0)),
  (21, ([], .iconst 0, 1, 0, 0, 0, 0)),
  (22, ([], .ireturn, 1, 0, 0, 0, 0))]
def hn_L_requestOf : List (Nat × Int32) := [(0, 1), (1, 2)]
noncomputable def E_L_requestOf : Kt := exL SKc SKn SKr CS (lkp T_L_requestOf) [F_X6_requestOf] hn_L_requestOf []
noncomputable def F_L_requestOf : Fn := fun as h => E_L_requestOf 0 (pad 5 as) [] h
set_option maxRecDepth 100000 in
set_option maxHeartbeats 4000000 in
theorem e_L_requestOf_0 (x1 : Int32) (x2 : Int32) (h : Hp) : F_L_requestOf [.ref 0, .int x1, .int x2, .ref 275] h = bI (F_X6_requestOf [.ref 0, .int x1, .int x2] h) (fun v2 h1 => gd (inb 0 1) (rtn (some (.int 0)) (wrL h1 ((0 : Int32).toNatClampNeg) (Int32.toInt64 v2)))) (hnk hn_L_requestOf) :=
  (exL_it SKc SKn SKr CS (lkp T_L_requestOf) [F_X6_requestOf] hn_L_requestOf [] [] 11 0 [.ref 0, .int x1, .int x2, .ref 275, .retAddr 0] [] h).trans rfl

def T_L_ahead : List (Nat × Ent) := [(0, ([], .aload_n 2, 1, 2, 0, 0, 0)),
  (1, ([], .iconst 0, 1, 0, 0, 0, 0)),
  (2, ([], .aload_n 0, 1, 0, 0, 0, 0)),
  (3, ([], .iload_n 1, 1, 1, 0, 0, 0)),
  (4, ([], .invokevirtual 83, 3, 0, 9, 0, 0)),
  (7, ([], .i2l, 1, 0, 0, 0, 0)),
  (8, ([], .lastore, 1, 0, 0, 0, 0)),
  (9, ([], .goto 6, 3, 15, 0, 0, 0)),
  (15, ([], .iconst 0, 1, 0, 0, 0, 0)),
  (16, ([], .ireturn, 1, 0, 0, 0, 0))]
def hn_L_ahead : List (Nat × Int32) := [(0, 1)]
noncomputable def E_L_ahead : Kt := exL SKc SKn SKr CS (lkp T_L_ahead) [F_X6_ahead] hn_L_ahead []
noncomputable def F_L_ahead : Fn := fun as h => E_L_ahead 0 (pad 4 as) [] h
set_option maxRecDepth 100000 in
set_option maxHeartbeats 4000000 in
theorem e_L_ahead_0 (x1 : Int32) (h : Hp) : F_L_ahead [.ref 0, .int x1, .ref 275] h = bI (F_X6_ahead [.ref 0, .int x1] h) (fun v2 h1 => gd (inb 0 1) (rtn (some (.int 0)) (wrL h1 ((0 : Int32).toNatClampNeg) (Int32.toInt64 v2)))) (hnk hn_L_ahead) :=
  (exL_it SKc SKn SKr CS (lkp T_L_ahead) [F_X6_ahead] hn_L_ahead [] [] 10 0 [.ref 0, .int x1, .ref 275, .retAddr 0] [] h).trans rfl

def T_L_seriesOf : List (Nat × Ent) := [(0, ([], .aload_n 3, 1, 3, 0, 0, 0)),
  (1, ([], .iconst 0, 1, 0, 0, 0, 0)),
  (2, ([], .aload_n 0, 1, 0, 0, 0, 0)),
  (3, ([], .iload_n 1, 1, 1, 0, 0, 0)),
  (4, ([], .iload_n 2, 1, 2, 0, 0, 0)),
  (5, ([], .invokevirtual 86, 3, 0, 13, 0, 0)),
  (8, ([], .i2l, 1, 0, 0, 0, 0)),
  (9, ([], .lastore, 1, 0, 0, 0, 0)),
  (10, ([], .goto 11, 3, 21, 0, 0, 0)),
  (21, ([], .iconst 0, 1, 0, 0, 0, 0)),
  (22, ([], .ireturn, 1, 0, 0, 0, 0))]
def hn_L_seriesOf : List (Nat × Int32) := [(0, 1), (1, 2)]
noncomputable def E_L_seriesOf : Kt := exL SKc SKn SKr CS (lkp T_L_seriesOf) [F_X6_seriesOf] hn_L_seriesOf []
noncomputable def F_L_seriesOf : Fn := fun as h => E_L_seriesOf 0 (pad 5 as) [] h
set_option maxRecDepth 100000 in
set_option maxHeartbeats 4000000 in
theorem e_L_seriesOf_0 (x1 : Int32) (x2 : Int32) (h : Hp) : F_L_seriesOf [.ref 0, .int x1, .int x2, .ref 275] h = bI (F_X6_seriesOf [.ref 0, .int x1, .int x2] h) (fun v2 h1 => gd (inb 0 1) (rtn (some (.int 0)) (wrL h1 ((0 : Int32).toNatClampNeg) (Int32.toInt64 v2)))) (hnk hn_L_seriesOf) :=
  (exL_it SKc SKn SKr CS (lkp T_L_seriesOf) [F_X6_seriesOf] hn_L_seriesOf [] [] 11 0 [.ref 0, .int x1, .int x2, .ref 275, .retAddr 0] [] h).trans rfl

def T_L_earns : List (Nat × Ent) := [(0, ([], .aload_n 2, 1, 2, 0, 0, 0)),
  (1, ([], .iconst 0, 1, 0, 0, 0, 0)),
  (2, ([], .aload_n 0, 1, 0, 0, 0, 0)),
  (3, ([], .iload_n 1, 1, 1, 0, 0, 0)),
  (4, ([], .invokevirtual 89, 3, 0, 9, 0, 0)),
  (7, ([], .ifCond .eq 7, 3, 14, 0, 0, 0)),
  (10, ([], .lconst 1, 1, 0, 0, 0, 0)),
  (11, ([], .goto 4, 3, 15, 0, 0, 0)),
  (14, ([], .lconst 0, 1, 0, 0, 0, 0)),
  (15, ([], .lastore, 1, 0, 0, 0, 0)),
  (16, ([], .goto 6, 3, 22, 0, 0, 0)),
  (22, ([], .iconst 0, 1, 0, 0, 0, 0)),
  (23, ([], .ireturn, 1, 0, 0, 0, 0))]
def hn_L_earns : List (Nat × Int32) := [(0, 1)]
noncomputable def E_L_earns : Kt := exL SKc SKn SKr CS (lkp T_L_earns) [F_X6_earns] hn_L_earns []
noncomputable def F_L_earns : Fn := fun as h => E_L_earns 0 (pad 4 as) [] h
set_option maxRecDepth 100000 in
set_option maxHeartbeats 4000000 in
theorem e_L_earns_0 (x1 : Int32) (h : Hp) : F_L_earns [.ref 0, .int x1, .ref 275] h = bI (F_X6_earns [.ref 0, .int x1] h) (fun v2 h1 => if v2 = 0 then gd (inb 0 1) (rtn (some (.int 0)) (wrL h1 ((0 : Int32).toNatClampNeg) (Int64.ofNat 0))) else gd (inb 0 1) (rtn (some (.int 0)) (wrL h1 ((0 : Int32).toNatClampNeg) (Int64.ofNat 1)))) (hnk hn_L_earns) :=
  (exL_it SKc SKn SKr CS (lkp T_L_earns) [F_X6_earns] hn_L_earns [] [] 12 0 [.ref 0, .int x1, .ref 275, .retAddr 0] [] h).trans rfl

def T_L_rightOf : List (Nat × Ent) := [(0, ([], .aload_n 3, 1, 3, 0, 0, 0)),
  (1, ([], .iconst 0, 1, 0, 0, 0, 0)),
  (2, ([], .aload_n 0, 1, 0, 0, 0, 0)),
  (3, ([], .iload_n 1, 1, 1, 0, 0, 0)),
  (4, ([], .iload_n 2, 1, 2, 0, 0, 0)),
  (5, ([], .invokevirtual 92, 3, 0, 13, 0, 0)),
  (8, ([], .i2l, 1, 0, 0, 0, 0)),
  (9, ([], .lastore, 1, 0, 0, 0, 0)),
  (10, ([], .goto 11, 3, 21, 0, 0, 0)),
  (21, ([], .iconst 0, 1, 0, 0, 0, 0)),
  (22, ([], .ireturn, 1, 0, 0, 0, 0))]
def hn_L_rightOf : List (Nat × Int32) := [(0, 1), (1, 2)]
noncomputable def E_L_rightOf : Kt := exL SKc SKn SKr CS (lkp T_L_rightOf) [F_X6_rightOf] hn_L_rightOf []
noncomputable def F_L_rightOf : Fn := fun as h => E_L_rightOf 0 (pad 5 as) [] h
set_option maxRecDepth 100000 in
set_option maxHeartbeats 4000000 in
theorem e_L_rightOf_0 (x1 : Int32) (x2 : Int32) (h : Hp) : F_L_rightOf [.ref 0, .int x1, .int x2, .ref 275] h = bI (F_X6_rightOf [.ref 0, .int x1, .int x2] h) (fun v2 h1 => gd (inb 0 1) (rtn (some (.int 0)) (wrL h1 ((0 : Int32).toNatClampNeg) (Int32.toInt64 v2)))) (hnk hn_L_rightOf) :=
  (exL_it SKc SKn SKr CS (lkp T_L_rightOf) [F_X6_rightOf] hn_L_rightOf [] [] 11 0 [.ref 0, .int x1, .int x2, .ref 275, .retAddr 0] [] h).trans rfl

def T_L_isNew : List (Nat × Ent) := [(0, ([], .aload_n 3, 1, 3, 0, 0, 0)),
  (1, ([], .iconst 0, 1, 0, 0, 0, 0)),
  (2, ([], .aload_n 0, 1, 0, 0, 0, 0)),
  (3, ([], .iload_n 1, 1, 1, 0, 0, 0)),
  (4, ([], .iload_n 2, 1, 2, 0, 0, 0)),
  (5, ([], .invokevirtual 95, 3, 0, 13, 0, 0)),
  (8, ([], .ifCond .eq 7, 3, 15, 0, 0, 0)),
  (11, ([], .lconst 1, 1, 0, 0, 0, 0)),
  (12, ([], .goto 4, 3, 16, 0, 0, 0)),
  (15, ([], .lconst 0, 1, 0, 0, 0, 0)),
  (16, ([], .lastore, 1, 0, 0, 0, 0)),
  (17, ([], .goto 7, 3, 24, 0, 0, 0)),
  (24, ([], .iconst 0, 1, 0, 0, 0, 0)),
  (25, ([], .ireturn, 1, 0, 0, 0, 0))]
def hn_L_isNew : List (Nat × Int32) := [(0, 1)]
noncomputable def E_L_isNew : Kt := exL SKc SKn SKr CS (lkp T_L_isNew) [F_X6_isNew] hn_L_isNew []
noncomputable def F_L_isNew : Fn := fun as h => E_L_isNew 0 (pad 5 as) [] h
set_option maxRecDepth 100000 in
set_option maxHeartbeats 4000000 in
theorem e_L_isNew_0 (x1 : Int32) (x2 : Int32) (h : Hp) : F_L_isNew [.ref 0, .int x1, .int x2, .ref 275] h = bI (F_X6_isNew [.ref 0, .int x1, .int x2] h) (fun v2 h1 => if v2 = 0 then gd (inb 0 1) (rtn (some (.int 0)) (wrL h1 ((0 : Int32).toNatClampNeg) (Int64.ofNat 0))) else gd (inb 0 1) (rtn (some (.int 0)) (wrL h1 ((0 : Int32).toNatClampNeg) (Int64.ofNat 1)))) (hnk hn_L_isNew) :=
  (exL_it SKc SKn SKr CS (lkp T_L_isNew) [F_X6_isNew] hn_L_isNew [] [] 13 0 [.ref 0, .int x1, .int x2, .ref 275, .retAddr 0] [] h).trans rfl

def T_L_count : List (Nat × Ent) := [(0, ([], .aload_n 2, 1, 2, 0, 0, 0)),
  (1, ([], .iconst 0, 1, 0, 0, 0, 0)),
  (2, ([], .aload_n 0, 1, 0, 0, 0, 0)),
  (3, ([], .iload_n 1, 1, 1, 0, 0, 0)),
  (4, ([], .invokevirtual 99, 3, 0, 9, 0, 0)),
  (7, ([], .i2l, 1, 0, 0, 0, 0)),
  (8, ([], .lastore, 1, 0, 0, 0, 0)),
  (9, ([], .goto 6, 3, 15, 0, 0, 0)),
  (15, ([], .iconst 0, 1, 0, 0, 0, 0)),
  (16, ([], .ireturn, 1, 0, 0, 0, 0))]
def hn_L_count : List (Nat × Int32) := [(1, 1)]
noncomputable def E_L_count : Kt := exL SKc SKn SKr CS (lkp T_L_count) [F_X6_count] hn_L_count []
noncomputable def F_L_count : Fn := fun as h => E_L_count 0 (pad 4 as) [] h
set_option maxRecDepth 100000 in
set_option maxHeartbeats 4000000 in
theorem e_L_count_0 (x1 : Int32) (h : Hp) : F_L_count [.ref 0, .int x1, .ref 275] h = bI (F_X6_count [.ref 0, .int x1] h) (fun v2 h1 => gd (inb 0 1) (rtn (some (.int 0)) (wrL h1 ((0 : Int32).toNatClampNeg) (Int32.toInt64 v2)))) (hnk hn_L_count) :=
  (exL_it SKc SKn SKr CS (lkp T_L_count) [F_X6_count] hn_L_count [] [] 10 0 [.ref 0, .int x1, .ref 275, .retAddr 0] [] h).trans rfl
end
section
def T_L_law : List (Nat × Ent) := [(23, ([false, false, false, false, false, true, true], .iload 4, 2, 4, 0, 0, 0)),
  (25, ([], .aload_n 0, 1, 0, 0, 0, 0)),
  (26, ([], .arraylength, 1, 0, 0, 0, 0)),
  (27, ([], .bipush 10, 2, 0, 0, 0, 10)),
  (29, ([], .isub, 1, 0, 0, 0, 0)),
  (30, ([], .if_icmp .gt 1964, 3, 1994, 0, 0, 0)),
  (33, ([], .aload_n 0, 1, 0, 0, 0, 0)),
  (34, ([], .iload 4, 2, 4, 0, 0, 0)),
  (36, ([], .iaload, 1, 0, 0, 0, 0)),
  (37, ([], .bipush 31, 2, 0, 0, 0, 31)),
  (39, ([], .iand, 1, 0, 0, 0, 0)),
  (40, ([], .tableswitch 1948 0 26 #[124, 216, 296, 356, 424, 492, 652, 700, 744, 807, 875, 923, 991, 1071, 1158, 1202, 1215, 1333, 1425, 1481, 1549, 1605, 1673, 1736, 1749, 1817, 1892], 124, 1988, 0, 0, 0)),
  (164, ([], .aload_n 1, 1, 1, 0, 0, 0)),
  (165, ([], .aload_n 0, 1, 0, 0, 0, 0)),
  (166, ([], .iload 4, 2, 4, 0, 0, 0)),
  (168, ([], .iconst 1, 1, 0, 0, 0, 1)),
  (169, ([], .iadd, 1, 0, 0, 0, 0)),
  (170, ([], .iaload, 1, 0, 0, 0, 0)),
  (171, ([], .aload_n 0, 1, 0, 0, 0, 0)),
  (172, ([], .iload 4, 2, 4, 0, 0, 0)),
  (174, ([], .iconst 2, 1, 0, 0, 0, 2)),
  (175, ([], .iadd, 1, 0, 0, 0, 0)),
  (176, ([], .iaload, 1, 0, 0, 0, 0)),
  (177, ([], .aload_n 0, 1, 0, 0, 0, 0)),
  (178, ([], .iload 4, 2, 4, 0, 0, 0)),
  (180, ([], .iconst 3, 1, 0, 0, 0, 3)),
  (181, ([], .iadd, 1, 0, 0, 0, 0)),
  (182, ([], .iaload, 1, 0, 0, 0, 0)),
  (183, ([], .aload_n 0, 1, 0, 0, 0, 0)),
  (184, ([], .iload 4, 2, 4, 0, 0, 0)),
  (186, ([], .iconst 4, 1, 0, 0, 0, 4)),
  (187, ([], .iadd, 1, 0, 0, 0, 0)),
  (188, ([], .iaload, 1, 0, 0, 0, 0)),
  (189, ([], .aload_n 3, 1, 3, 0, 0, 0)),
  (190, ([], .invokestatic 106, 3, 53, 25, 0, 0)),
  (193, ([], .istore 5, 2, 5, 0, 0, 0)),
  (195, ([], .aload_n 2, 1, 2, 0, 0, 0)),
  (196, ([], .aload_n 0, 1, 0, 0, 0, 0)),
  (197, ([], .iload 4, 2, 4, 0, 0, 0)),
  (199, ([], .iconst 1, 1, 0, 0, 0, 1)),
  (200, ([], .iadd, 1, 0, 0, 0, 0)),
  (201, ([], .iaload, 1, 0, 0, 0, 0)),
  (202, ([], .aload_n 0, 1, 0, 0, 0, 0)),
  (203, ([], .iload 4, 2, 4, 0, 0, 0)),
  (205, ([], .iconst 2, 1, 0, 0, 0, 2)),
  (206, ([], .iadd, 1, 0, 0, 0, 0)),
  (207, ([], .iaload, 1, 0, 0, 0, 0)),
  (208, ([], .aload_n 0, 1, 0, 0, 0, 0)),
  (209, ([], .iload 4, 2, 4, 0, 0, 0)),
  (211, ([], .iconst 3, 1, 0, 0, 0, 3)),
  (212, ([], .iadd, 1, 0, 0, 0, 0)),
  (213, ([], .iaload, 1, 0, 0, 0, 0)),
  (214, ([], .aload_n 0, 1, 0, 0, 0, 0)),
  (215, ([], .iload 4, 2, 4, 0, 0, 0)),
  (217, ([], .iconst 4, 1, 0, 0, 0, 4)),
  (218, ([], .iadd, 1, 0, 0, 0, 0)),
  (219, ([], .iaload, 1, 0, 0, 0, 0)),
  (220, ([], .invokevirtual 111, 3, 54, 21, 0, 0)),
  (223, ([], .istore 6, 2, 6, 0, 0, 0)),
  (225, ([], .aload_n 2, 1, 2, 0, 0, 0)),
  (226, ([], .invokevirtual 112, 3, 2, 5, 0, 0)),
  (229, ([], .iload 5, 2, 5, 0, 0, 0)),
  (231, ([], .if_icmp .eq 5, 3, 236, 0, 0, 0)),
  (234, ([], .iconst 0, 1, 0, 0, 0, 0)),
  (235, ([], .ireturn, 1, 0, 0, 0, 0)),
  (236, ([], .iload 5, 2, 5, 0, 0, 0)),
  (238, ([], .ifCond .ne 15, 3, 253, 0, 0, 0)),
  (241, ([], .aload_n 3, 1, 3, 0, 0, 0)),
  (242, ([], .iconst 0, 1, 0, 0, 0, 0)),
  (243, ([], .laload, 1, 0, 0, 0, 0)),
  (244, ([], .iload 6, 2, 6, 0, 0, 0)),
  (246, ([], .i2l, 1, 0, 0, 0, 0)),
  (247, ([], .lcmp, 1, 0, 0, 0, 0)),
  (248, ([], .ifCond .eq 5, 3, 253, 0, 0, 0)),
  (251, ([], .iconst 0, 1, 0, 0, 0, 0)),
  (252, ([], .ireturn, 1, 0, 0, 0, 0)),
  (253, ([false, false, false, false, false, true, true], .goto 1735, 3, 1988, 0, 0, 0)),
  (256, ([], .aload_n 1, 1, 1, 0, 0, 0)),
  (257, ([], .aload_n 0, 1, 0, 0, 0, 0)),
  (258, ([], .iload 4, 2, 4, 0, 0, 0)),
  (260, ([], .iconst 1, 1, 0, 0, 0, 1)),
  (261, ([], .iadd, 1, 0, 0, 0, 0)),
  (262, ([], .iaload, 1, 0, 0, 0, 0)),
  (263, ([], .aload_n 0, 1, 0, 0, 0, 0)),
  (264, ([], .iload 4, 2, 4, 0, 0, 0)),
  (266, ([], .iconst 2, 1, 0, 0, 0, 2)),
  (267, ([], .iadd, 1, 0, 0, 0, 0)),
  (268, ([], .iaload, 1, 0, 0, 0, 0)),
  (269, ([], .aload_n 0, 1, 0, 0, 0, 0)),
  (270, ([], .iload 4, 2, 4, 0, 0, 0)),
  (272, ([], .iconst 3, 1, 0, 0, 0, 3)),
  (273, ([], .iadd, 1, 0, 0, 0, 0)),
  (274, ([], .iaload, 1, 0, 0, 0, 0)),
  (275, ([], .aload_n 3, 1, 3, 0, 0, 0)),
  (276, ([], .invokestatic 115, 3, 51, 21, 0, 0)),
  (279, ([], .istore 5, 2, 5, 0, 0, 0)),
  (281, ([], .aload_n 2, 1, 2, 0, 0, 0)),
  (282, ([], .aload_n 0, 1, 0, 0, 0, 0)),
  (283, ([], .iload 4, 2, 4, 0, 0, 0)),
  (285, ([], .iconst 1, 1, 0, 0, 0, 1)),
  (286, ([], .iadd, 1, 0, 0, 0, 0)),
  (287, ([], .iaload, 1, 0, 0, 0, 0)),
  (288, ([], .aload_n 0, 1, 0, 0, 0, 0)),
  (289, ([], .iload 4, 2, 4, 0, 0, 0)),
  (291, ([], .iconst 2, 1, 0, 0, 0, 2)),
  (292, ([], .iadd, 1, 0, 0, 0, 0)),
  (293, ([], .iaload, 1, 0, 0, 0, 0)),
  (294, ([], .aload_n 0, 1, 0, 0, 0, 0)),
  (295, ([], .iload 4, 2, 4, 0, 0, 0)),
  (297, ([], .iconst 3, 1, 0, 0, 0, 3)),
  (298, ([], .iadd, 1, 0, 0, 0, 0)),
  (299, ([], .iaload, 1, 0, 0, 0, 0)),
  (300, ([], .invokevirtual 118, 3, 52, 17, 0, 0)),
  (303, ([], .istore 6, 2, 6, 0, 0, 0)),
  (305, ([], .aload_n 2, 1, 2, 0, 0, 0)),
  (306, ([], .invokevirtual 112, 3, 2, 5, 0, 0)),
  (309, ([], .iload 5, 2, 5, 0, 0, 0)),
  (311, ([], .if_icmp .eq 5, 3, 316, 0, 0, 0)),
  (314, ([], .iconst 0, 1, 0, 0, 0, 0)),
  (315, ([], .ireturn, 1, 0, 0, 0, 0)),
  (316, ([], .iload 5, 2, 5, 0, 0, 0)),
  (318, ([], .ifCond .ne 15, 3, 333, 0, 0, 0)),
  (321, ([], .aload_n 3, 1, 3, 0, 0, 0)),
  (322, ([], .iconst 0, 1, 0, 0, 0, 0)),
  (323, ([], .laload, 1, 0, 0, 0, 0)),
  (324, ([], .iload 6, 2, 6, 0, 0, 0)),
  (326, ([], .i2l, 1, 0, 0, 0, 0)),
  (327, ([], .lcmp, 1, 0, 0, 0, 0)),
  (328, ([], .ifCond .eq 5, 3, 333, 0, 0, 0)),
  (331, ([], .iconst 0, 1, 0, 0, 0, 0)),
  (332, ([], .ireturn, 1, 0, 0, 0, 0)),
  (333, ([false, false, false, false, false, true, true], .goto 1655, 3, 1988, 0, 0, 0)),
  (336, ([], .aload_n 1, 1, 1, 0, 0, 0)),
  (337, ([], .aload_n 0, 1, 0, 0, 0, 0)),
  (338, ([], .iload 4, 2, 4, 0, 0, 0)),
  (340, ([], .iconst 1, 1, 0, 0, 0, 1)),
  (341, ([], .iadd, 1, 0, 0, 0, 0)),
  (342, ([], .iaload, 1, 0, 0, 0, 0)),
  (343, ([], .aload_n 0, 1, 0, 0, 0, 0)),
  (344, ([], .iload 4, 2, 4, 0, 0, 0)),
  (346, ([], .iconst 2, 1, 0, 0, 0, 2)),
  (347, ([], .iadd, 1, 0, 0, 0, 0)),
  (348, ([], .iaload, 1, 0, 0, 0, 0)),
  (349, ([], .aload_n 0, 1, 0, 0, 0, 0)),
  (350, ([], .iload 4, 2, 4, 0, 0, 0)),
  (352, ([], .iconst 3, 1, 0, 0, 0, 3)),
  (353, ([], .iadd, 1, 0, 0, 0, 0)),
  (354, ([], .iaload, 1, 0, 0, 0, 0)),
  (355, ([], .invokestatic 119, 3, 49, 17, 0, 0)),
  (358, ([], .istore 5, 2, 5, 0, 0, 0)),
  (360, ([], .aload_n 2, 1, 2, 0, 0, 0)),
  (361, ([], .aload_n 0, 1, 0, 0, 0, 0)),
  (362, ([], .iload 4, 2, 4, 0, 0, 0)),
  (364, ([], .iconst 1, 1, 0, 0, 0, 1)),
  (365, ([], .iadd, 1, 0, 0, 0, 0)),
  (366, ([], .iaload, 1, 0, 0, 0, 0)),
  (367, ([], .aload_n 0, 1, 0, 0, 0, 0)),
  (368, ([], .iload 4, 2, 4, 0, 0, 0)),
  (370, ([], .iconst 2, 1, 0, 0, 0, 2)),
  (371, ([], .iadd, 1, 0, 0, 0, 0)),
  (372, ([], .iaload, 1, 0, 0, 0, 0)),
  (373, ([], .aload_n 0, 1, 0, 0, 0, 0)),
  (374, ([], .iload 4, 2, 4, 0, 0, 0)),
  (376, ([], .iconst 3, 1, 0, 0, 0, 3)),
  (377, ([], .iadd, 1, 0, 0, 0, 0)),
  (378, ([], .iaload, 1, 0, 0, 0, 0)),
  (379, ([], .invokevirtual 122, 3, 50, 16, 0, 0)),
  (382, ([], .aload_n 2, 1, 2, 0, 0, 0)),
  (383, ([], .invokevirtual 112, 3, 2, 5, 0, 0)),
  (386, ([], .iload 5, 2, 5, 0, 0, 0)),
  (388, ([], .if_icmp .eq 5, 3, 393, 0, 0, 0)),
  (391, ([], .iconst 0, 1, 0, 0, 0, 0)),
  (392, ([], .ireturn, 1, 0, 0, 0, 0)),
  (393, ([], .goto 1595, 3, 1988, 0, 0, 0)),
  (396, ([], .aload_n 1, 1, 1, 0, 0, 0)),
  (397, ([], .aload_n 0, 1, 0, 0, 0, 0)),
  (398, ([], .iload 4, 2, 4, 0, 0, 0)),
  (400, ([], .iconst 1, 1, 0, 0, 0, 1)),
  (401, ([], .iadd, 1, 0, 0, 0, 0)),
  (402, ([], .iaload, 1, 0, 0, 0, 0)),
  (403, ([], .aload_n 0, 1, 0, 0, 0, 0)),
  (404, ([], .iload 4, 2, 4, 0, 0, 0)),
  (406, ([], .iconst 2, 1, 0, 0, 0, 2)),
  (407, ([], .iadd, 1, 0, 0, 0, 0)),
  (408, ([], .iaload, 1, 0, 0, 0, 0)),
  (409, ([], .aload_n 3, 1, 3, 0, 0, 0)),
  (410, ([], .invokestatic 123, 3, 47, 17, 0, 0)),
  (413, ([], .istore 5, 2, 5, 0, 0, 0)),
  (415, ([], .aload_n 2, 1, 2, 0, 0, 0)),
  (416, ([], .aload_n 0, 1, 0, 0, 0, 0)),
  (417, ([], .iload 4, 2, 4, 0, 0, 0)),
  (419, ([], .iconst 1, 1, 0, 0, 0, 1)),
  (420, ([], .iadd, 1, 0, 0, 0, 0)),
  (421, ([], .iaload, 1, 0, 0, 0, 0)),
  (422, ([], .aload_n 0, 1, 0, 0, 0, 0)),
  (423, ([], .iload 4, 2, 4, 0, 0, 0)),
  (425, ([], .iconst 2, 1, 0, 0, 0, 2)),
  (426, ([], .iadd, 1, 0, 0, 0, 0)),
  (427, ([], .iaload, 1, 0, 0, 0, 0)),
  (428, ([], .invokevirtual 126, 3, 48, 13, 0, 0)),
  (431, ([], .istore 6, 2, 6, 0, 0, 0)),
  (433, ([], .aload_n 2, 1, 2, 0, 0, 0)),
  (434, ([], .invokevirtual 112, 3, 2, 5, 0, 0)),
  (437, ([], .iload 5, 2, 5, 0, 0, 0)),
  (439, ([], .if_icmp .eq 5, 3, 444, 0, 0, 0)),
  (442, ([], .iconst 0, 1, 0, 0, 0, 0)),
  (443, ([], .ireturn, 1, 0, 0, 0, 0)),
  (444, ([], .iload 5, 2, 5, 0, 0, 0)),
  (446, ([], .ifCond .ne 15, 3, 461, 0, 0, 0)),
  (449, ([], .aload_n 3, 1, 3, 0, 0, 0)),
  (450, ([], .iconst 0, 1, 0, 0, 0, 0)),
  (451, ([], .laload, 1, 0, 0, 0, 0)),
  (452, ([], .iload 6, 2, 6, 0, 0, 0)),
  (454, ([], .i2l, 1, 0, 0, 0, 0)),
  (455, ([], .lcmp, 1, 0, 0, 0, 0)),
  (456, ([], .ifCond .eq 5, 3, 461, 0, 0, 0)),
  (459, ([], .iconst 0, 1, 0, 0, 0, 0)),
  (460, ([], .ireturn, 1, 0, 0, 0, 0)),
  (461, ([false, false, false, false, false, true, true], .goto 1527, 3, 1988, 0, 0, 0)),
  (464, ([], .aload_n 1, 1, 1, 0, 0, 0)),
  (465, ([], .aload_n 0, 1, 0, 0, 0, 0)),
  (466, ([], .iload 4, 2, 4, 0, 0, 0)),
  (468, ([], .iconst 1, 1, 0, 0, 0, 1)),
  (469, ([], .iadd, 1, 0, 0, 0, 0)),
  (470, ([], .iaload, 1, 0, 0, 0, 0)),
  (471, ([], .aload_n 0, 1, 0, 0, 0, 0)),
  (472, ([], .iload 4, 2, 4, 0, 0, 0)),
  (474, ([], .iconst 2, 1, 0, 0, 0, 2)),
  (475, ([], .iadd, 1, 0, 0, 0, 0)),
  (476, ([], .iaload, 1, 0, 0, 0, 0)),
  (477, ([], .aload_n 3, 1, 3, 0, 0, 0)),
  (478, ([], .invokestatic 127, 3, 45, 17, 0, 0)),
  (481, ([], .istore 5, 2, 5, 0, 0, 0)),
  (483, ([], .aload_n 2, 1, 2, 0, 0, 0)),
  (484, ([], .aload_n 0, 1, 0, 0, 0, 0)),
  (485, ([], .iload 4, 2, 4, 0, 0, 0)),
  (487, ([], .iconst 1, 1, 0, 0, 0, 1)),
  (488, ([], .iadd, 1, 0, 0, 0, 0)),
  (489, ([], .iaload, 1, 0, 0, 0, 0)),
  (490, ([], .aload_n 0, 1, 0, 0, 0, 0)),
  (491, ([], .iload 4, 2, 4, 0, 0, 0)),
  (493, ([], .iconst 2, 1, 0, 0, 0, 2)),
  (494, ([], .iadd, 1, 0, 0, 0, 0)),
  (495, ([], .iaload, 1, 0, 0, 0, 0)),
  (496, ([], .invokevirtual 129, 3, 46, 13, 0, 0)),
  (499, ([], .istore 6, 2, 6, 0, 0, 0)),
  (501, ([], .aload_n 2, 1, 2, 0, 0, 0)),
  (502, ([], .invokevirtual 112, 3, 2, 5, 0, 0)),
  (505, ([], .iload 5, 2, 5, 0, 0, 0)),
  (507, ([], .if_icmp .eq 5, 3, 512, 0, 0, 0)),
  (510, ([], .iconst 0, 1, 0, 0, 0, 0)),
  (511, ([], .ireturn, 1, 0, 0, 0, 0)),
  (512, ([], .iload 5, 2, 5, 0, 0, 0)),
  (514, ([], .ifCond .ne 15, 3, 529, 0, 0, 0)),
  (517, ([], .aload_n 3, 1, 3, 0, 0, 0)),
  (518, ([], .iconst 0, 1, 0, 0, 0, 0)),
  (519, ([], .laload, 1, 0, 0, 0, 0)),
  (520, ([], .iload 6, 2, 6, 0, 0, 0)),
  (522, ([], .i2l, 1, 0, 0, 0, 0)),
  (523, ([], .lcmp, 1, 0, 0, 0, 0)),
  (524, ([], .ifCond .eq 5, 3, 529, 0, 0, 0)),
  (527, ([], .iconst 0, 1, 0, 0, 0, 0)),
  (528, ([], .ireturn, 1, 0, 0, 0, 0)),
  (529, ([false, false, false, false, false, true, true], .goto 1459, 3, 1988, 0, 0, 0)),
  (532, ([], .aload_n 1, 1, 1, 0, 0, 0)),
  (533, ([], .aload_n 0, 1, 0, 0, 0, 0)),
  (534, ([], .iload 4, 2, 4, 0, 0, 0)),
  (536, ([], .iconst 1, 1, 0, 0, 0, 1)),
  (537, ([], .iadd, 1, 0, 0, 0, 0)),
  (538, ([], .iaload, 1, 0, 0, 0, 0)),
  (539, ([], .aload_n 0, 1, 0, 0, 0, 0)),
  (540, ([], .iload 4, 2, 4, 0, 0, 0)),
  (542, ([], .iconst 2, 1, 0, 0, 0, 2)),
  (543, ([], .iadd, 1, 0, 0, 0, 0)),
  (544, ([], .iaload, 1, 0, 0, 0, 0)),
  (545, ([], .aload_n 0, 1, 0, 0, 0, 0)),
  (546, ([], .iload 4, 2, 4, 0, 0, 0)),
  (548, ([], .iconst 3, 1, 0, 0, 0, 3)),
  (549, ([], .iadd, 1, 0, 0, 0, 0)),
  (550, ([], .iaload, 1, 0, 0, 0, 0)),
  (551, ([], .aload_n 0, 1, 0, 0, 0, 0)),
  (552, ([], .iload 4, 2, 4, 0, 0, 0)),
  (554, ([], .iconst 4, 1, 0, 0, 0, 4)),
  (555, ([], .iadd, 1, 0, 0, 0, 0)),
  (556, ([], .iaload, 1, 0, 0, 0, 0)),
  (557, ([], .aload_n 0, 1, 0, 0, 0, 0)),
  (558, ([], .iload 4, 2, 4, 0, 0, 0)),
  (560, ([], .iconst 5, 1, 0, 0, 0, 5)),
  (561, ([], .iadd, 1, 0, 0, 0, 0)),
  (562, ([], .iaload, 1, 0, 0, 0, 0)),
  (563, ([], .aload_n 0, 1, 0, 0, 0, 0)),
  (564, ([], .iload 4, 2, 4, 0, 0, 0)),
  (566, ([], .bipush 6, 2, 0, 0, 0, 6)),
  (568, ([], .iadd, 1, 0, 0, 0, 0)),
  (569, ([], .iaload, 1, 0, 0, 0, 0)),
  (570, ([], .aload_n 0, 1, 0, 0, 0, 0)),
  (571, ([], .iload 4, 2, 4, 0, 0, 0)),
  (573, ([], .bipush 7, 2, 0, 0, 0, 7)),
  (575, ([], .iadd, 1, 0, 0, 0, 0)),
  (576, ([], .iaload, 1, 0, 0, 0, 0)),
  (577, ([], .aload_n 0, 1, 0, 0, 0, 0)),
  (578, ([], .iload 4, 2, 4, 0, 0, 0)),
  (580, ([], .bipush 8, 2, 0, 0, 0, 8)),
  (582, ([], .iadd, 1, 0, 0, 0, 0)),
  (583, ([], .iaload, 1, 0, 0, 0, 0)),
  (584, ([], .aload_n 0, 1, 0, 0, 0, 0)),
  (585, ([], .iload 4, 2, 4, 0, 0, 0)),
  (587, ([], .bipush 9, 2, 0, 0, 0, 9)),
  (589, ([], .iadd, 1, 0, 0, 0, 0)),
  (590, ([], .iaload, 1, 0, 0, 0, 0)),
  (591, ([], .aload_n 3, 1, 3, 0, 0, 0)),
  (592, ([], .invokestatic 130, 3, 43, 45, 0, 0)),
  (595, ([], .istore 5, 2, 5, 0, 0, 0)),
  (597, ([], .aload_n 2, 1, 2, 0, 0, 0)),
  (598, ([], .aload_n 0, 1, 0, 0, 0, 0)),
  (599, ([], .iload 4, 2, 4, 0, 0, 0)),
  (601, ([], .iconst 1, 1, 0, 0, 0, 1)),
  (602, ([], .iadd, 1, 0, 0, 0, 0)),
  (603, ([], .iaload, 1, 0, 0, 0, 0)),
  (604, ([], .aload_n 0, 1, 0, 0, 0, 0)),
  (605, ([], .iload 4, 2, 4, 0, 0, 0)),
  (607, ([], .iconst 2, 1, 0, 0, 0, 2)),
  (608, ([], .iadd, 1, 0, 0, 0, 0)),
  (609, ([], .iaload, 1, 0, 0, 0, 0)),
  (610, ([], .aload_n 0, 1, 0, 0, 0, 0)),
  (611, ([], .iload 4, 2, 4, 0, 0, 0)),
  (613, ([], .iconst 3, 1, 0, 0, 0, 3)),
  (614, ([], .iadd, 1, 0, 0, 0, 0)),
  (615, ([], .iaload, 1, 0, 0, 0, 0)),
  (616, ([], .aload_n 0, 1, 0, 0, 0, 0)),
  (617, ([], .iload 4, 2, 4, 0, 0, 0)),
  (619, ([], .iconst 4, 1, 0, 0, 0, 4)),
  (620, ([], .iadd, 1, 0, 0, 0, 0)),
  (621, ([], .iaload, 1, 0, 0, 0, 0)),
  (622, ([], .aload_n 0, 1, 0, 0, 0, 0)),
  (623, ([], .iload 4, 2, 4, 0, 0, 0)),
  (625, ([], .iconst 5, 1, 0, 0, 0, 5)),
  (626, ([], .iadd, 1, 0, 0, 0, 0)),
  (627, ([], .iaload, 1, 0, 0, 0, 0)),
  (628, ([], .aload_n 0, 1, 0, 0, 0, 0)),
  (629, ([], .iload 4, 2, 4, 0, 0, 0)),
  (631, ([], .bipush 6, 2, 0, 0, 0, 6)),
  (633, ([], .iadd, 1, 0, 0, 0, 0)),
  (634, ([], .iaload, 1, 0, 0, 0, 0)),
  (635, ([], .aload_n 0, 1, 0, 0, 0, 0)),
  (636, ([], .iload 4, 2, 4, 0, 0, 0)),
  (638, ([], .bipush 7, 2, 0, 0, 0, 7)),
  (640, ([], .iadd, 1, 0, 0, 0, 0)),
  (641, ([], .iaload, 1, 0, 0, 0, 0)),
  (642, ([], .aload_n 0, 1, 0, 0, 0, 0)),
  (643, ([], .iload 4, 2, 4, 0, 0, 0)),
  (645, ([], .bipush 8, 2, 0, 0, 0, 8)),
  (647, ([], .iadd, 1, 0, 0, 0, 0)),
  (648, ([], .iaload, 1, 0, 0, 0, 0)),
  (649, ([], .aload_n 0, 1, 0, 0, 0, 0)),
  (650, ([], .iload 4, 2, 4, 0, 0, 0)),
  (652, ([], .bipush 9, 2, 0, 0, 0, 9)),
  (654, ([], .iadd, 1, 0, 0, 0, 0)),
  (655, ([], .iaload, 1, 0, 0, 0, 0)),
  (656, ([], .invokevirtual 133, 3, 44, 41, 0, 0)),
  (659, ([], .istore 6, 2, 6, 0, 0, 0)),
  (661, ([], .aload_n 2, 1, 2, 0, 0, 0)),
  (662, ([], .invokevirtual 112, 3, 2, 5, 0, 0)),
  (665, ([], .iload 5, 2, 5, 0, 0, 0)),
  (667, ([], .if_icmp .eq 5, 3, 672, 0, 0, 0)),
  (670, ([], .iconst 0, 1, 0, 0, 0, 0)),
  (671, ([], .ireturn, 1, 0, 0, 0, 0)),
  (672, ([], .iload 5, 2, 5, 0, 0, 0)),
  (674, ([], .ifCond .ne 15, 3, 689, 0, 0, 0)),
  (677, ([], .aload_n 3, 1, 3, 0, 0, 0)),
  (678, ([], .iconst 0, 1, 0, 0, 0, 0)),
  (679, ([], .laload, 1, 0, 0, 0, 0)),
  (680, ([], .iload 6, 2, 6, 0, 0, 0)),
  (682, ([], .i2l, 1, 0, 0, 0, 0)),
  (683, ([], .lcmp, 1, 0, 0, 0, 0)),
  (684, ([], .ifCond .eq 5, 3, 689, 0, 0, 0)),
  (687, ([], .iconst 0, 1, 0, 0, 0, 0)),
  (688, ([], .ireturn, 1, 0, 0, 0, 0)),
  (689, ([false, false, false, false, false, true, true], .goto 1299, 3, 1988, 0, 0, 0)),
  (692, ([], .aload_n 1, 1, 1, 0, 0, 0)),
  (693, ([], .aload_n 0, 1, 0, 0, 0, 0)),
  (694, ([], .iload 4, 2, 4, 0, 0, 0)),
  (696, ([], .iconst 1, 1, 0, 0, 0, 1)),
  (697, ([], .iadd, 1, 0, 0, 0, 0)),
  (698, ([], .iaload, 1, 0, 0, 0, 0)),
  (699, ([], .aload_n 0, 1, 0, 0, 0, 0)),
  (700, ([], .iload 4, 2, 4, 0, 0, 0)),
  (702, ([], .iconst 2, 1, 0, 0, 0, 2)),
  (703, ([], .iadd, 1, 0, 0, 0, 0)),
  (704, ([], .iaload, 1, 0, 0, 0, 0)),
  (705, ([], .invokestatic 134, 3, 41, 13, 0, 0)),
  (708, ([], .istore 5, 2, 5, 0, 0, 0)),
  (710, ([], .aload_n 2, 1, 2, 0, 0, 0)),
  (711, ([], .aload_n 0, 1, 0, 0, 0, 0)),
  (712, ([], .iload 4, 2, 4, 0, 0, 0)),
  (714, ([], .iconst 1, 1, 0, 0, 0, 1)),
  (715, ([], .iadd, 1, 0, 0, 0, 0)),
  (716, ([], .iaload, 1, 0, 0, 0, 0)),
  (717, ([], .aload_n 0, 1, 0, 0, 0, 0)),
  (718, ([], .iload 4, 2, 4, 0, 0, 0)),
  (720, ([], .iconst 2, 1, 0, 0, 0, 2)),
  (721, ([], .iadd, 1, 0, 0, 0, 0)),
  (722, ([], .iaload, 1, 0, 0, 0, 0)),
  (723, ([], .invokevirtual 137, 3, 42, 12, 0, 0)),
  (726, ([], .aload_n 2, 1, 2, 0, 0, 0)),
  (727, ([], .invokevirtual 112, 3, 2, 5, 0, 0)),
  (730, ([], .iload 5, 2, 5, 0, 0, 0)),
  (732, ([], .if_icmp .eq 5, 3, 737, 0, 0, 0)),
  (735, ([], .iconst 0, 1, 0, 0, 0, 0)),
  (736, ([], .ireturn, 1, 0, 0, 0, 0)),
  (737, ([], .goto 1251, 3, 1988, 0, 0, 0)),
  (740, ([], .aload_n 1, 1, 1, 0, 0, 0)),
  (741, ([], .aload_n 3, 1, 3, 0, 0, 0)),
  (742, ([], .invokestatic 138, 3, 39, 9, 0, 0)),
  (745, ([], .istore 5, 2, 5, 0, 0, 0)),
  (747, ([], .aload_n 2, 1, 2, 0, 0, 0)),
  (748, ([], .invokevirtual 141, 3, 40, 5, 0, 0)),
  (751, ([], .istore 6, 2, 6, 0, 0, 0)),
  (753, ([], .aload_n 2, 1, 2, 0, 0, 0)),
  (754, ([], .invokevirtual 112, 3, 2, 5, 0, 0)),
  (757, ([], .iload 5, 2, 5, 0, 0, 0)),
  (759, ([], .if_icmp .eq 5, 3, 764, 0, 0, 0)),
  (762, ([], .iconst 0, 1, 0, 0, 0, 0)),
  (763, ([], .ireturn, 1, 0, 0, 0, 0)),
  (764, ([], .iload 5, 2, 5, 0, 0, 0)),
  (766, ([], .ifCond .ne 15, 3, 781, 0, 0, 0)),
  (769, ([], .aload_n 3, 1, 3, 0, 0, 0)),
  (770, ([], .iconst 0, 1, 0, 0, 0, 0)),
  (771, ([], .laload, 1, 0, 0, 0, 0)),
  (772, ([], .iload 6, 2, 6, 0, 0, 0)),
  (774, ([], .i2l, 1, 0, 0, 0, 0)),
  (775, ([], .lcmp, 1, 0, 0, 0, 0)),
  (776, ([], .ifCond .eq 5, 3, 781, 0, 0, 0)),
  (779, ([], .iconst 0, 1, 0, 0, 0, 0)),
  (780, ([], .ireturn, 1, 0, 0, 0, 0)),
  (781, ([false, false, false, false, false, true, true], .goto 1207, 3, 1988, 0, 0, 0)),
  (784, ([], .aload_n 1, 1, 1, 0, 0, 0)),
  (785, ([], .aload_n 0, 1, 0, 0, 0, 0)),
  (786, ([], .iload 4, 2, 4, 0, 0, 0)),
  (788, ([], .iconst 1, 1, 0, 0, 0, 1)),
  (789, ([], .iadd, 1, 0, 0, 0, 0)),
  (790, ([], .iaload, 1, 0, 0, 0, 0)),
  (791, ([], .aload_n 3, 1, 3, 0, 0, 0)),
  (792, ([], .invokestatic 142, 3, 37, 13, 0, 0)),
  (795, ([], .istore 5, 2, 5, 0, 0, 0)),
  (797, ([], .aload_n 2, 1, 2, 0, 0, 0)),
  (798, ([], .aload_n 0, 1, 0, 0, 0, 0)),
  (799, ([], .iload 4, 2, 4, 0, 0, 0)),
  (801, ([], .iconst 1, 1, 0, 0, 0, 1)),
  (802, ([], .iadd, 1, 0, 0, 0, 0)),
  (803, ([], .iaload, 1, 0, 0, 0, 0)),
  (804, ([], .invokevirtual 145, 3, 38, 9, 0, 0)),
  (807, ([], .istore 6, 2, 6, 0, 0, 0)),
  (809, ([], .aload_n 2, 1, 2, 0, 0, 0)),
  (810, ([], .invokevirtual 112, 3, 2, 5, 0, 0)),
  (813, ([], .iload 5, 2, 5, 0, 0, 0)),
  (815, ([], .if_icmp .eq 5, 3, 820, 0, 0, 0)),
  (818, ([], .iconst 0, 1, 0, 0, 0, 0)),
  (819, ([], .ireturn, 1, 0, 0, 0, 0)),
  (820, ([], .iload 5, 2, 5, 0, 0, 0)),
  (822, ([], .ifCond .ne 22, 3, 844, 0, 0, 0)),
  (825, ([], .aload_n 3, 1, 3, 0, 0, 0)),
  (826, ([], .iconst 0, 1, 0, 0, 0, 0)),
  (827, ([], .laload, 1, 0, 0, 0, 0)),
  (828, ([], .iload 6, 2, 6, 0, 0, 0)),
  (830, ([], .ifCond .eq 7, 3, 837, 0, 0, 0)),
  (833, ([], .lconst 1, 1, 0, 0, 0, 0)),
  (834, ([], .goto 4, 3, 838, 0, 0, 0)),
  (837, ([], .lconst 0, 1, 0, 0, 0, 0)),
  (838, ([false, false, false, false, false, true, true], .lcmp, 1, 0, 0, 0, 0)),
  (839, ([], .ifCond .eq 5, 3, 844, 0, 0, 0)),
  (842, ([], .iconst 0, 1, 0, 0, 0, 0)),
  (843, ([], .ireturn, 1, 0, 0, 0, 0)),
  (844, ([false, false, false, false, false, true, true], .goto 1144, 3, 1988, 0, 0, 0)),
  (847, ([], .aload_n 1, 1, 1, 0, 0, 0)),
  (848, ([], .aload_n 0, 1, 0, 0, 0, 0)),
  (849, ([], .iload 4, 2, 4, 0, 0, 0)),
  (851, ([], .iconst 1, 1, 0, 0, 0, 1)),
  (852, ([], .iadd, 1, 0, 0, 0, 0)),
  (853, ([], .iaload, 1, 0, 0, 0, 0)),
  (854, ([], .aload_n 0, 1, 0, 0, 0, 0)),
  (855, ([], .iload 4, 2, 4, 0, 0, 0)),
  (857, ([], .iconst 2, 1, 0, 0, 0, 2)),
  (858, ([], .iadd, 1, 0, 0, 0, 0)),
  (859, ([], .iaload, 1, 0, 0, 0, 0)),
  (860, ([], .aload_n 3, 1, 3, 0, 0, 0)),
  (861, ([], .invokestatic 146, 3, 35, 17, 0, 0)),
  (864, ([], .istore 5, 2, 5, 0, 0, 0)),
  (866, ([], .aload_n 2, 1, 2, 0, 0, 0)),
  (867, ([], .aload_n 0, 1, 0, 0, 0, 0)),
  (868, ([], .iload 4, 2, 4, 0, 0, 0)),
  (870, ([], .iconst 1, 1, 0, 0, 0, 1)),
  (871, ([], .iadd, 1, 0, 0, 0, 0)),
  (872, ([], .iaload, 1, 0, 0, 0, 0)),
  (873, ([], .aload_n 0, 1, 0, 0, 0, 0)),
  (874, ([], .iload 4, 2, 4, 0, 0, 0)),
  (876, ([], .iconst 2, 1, 0, 0, 0, 2)),
  (877, ([], .iadd, 1, 0, 0, 0, 0)),
  (878, ([], .iaload, 1, 0, 0, 0, 0)),
  (879, ([], .invokevirtual 148, 3, 36, 13, 0, 0)),
  (882, ([], .istore 6, 2, 6, 0, 0, 0)),
  (884, ([], .aload_n 2, 1, 2, 0, 0, 0)),
  (885, ([], .invokevirtual 112, 3, 2, 5, 0, 0)),
  (888, ([], .iload 5, 2, 5, 0, 0, 0)),
  (890, ([], .if_icmp .eq 5, 3, 895, 0, 0, 0)),
  (893, ([], .iconst 0, 1, 0, 0, 0, 0)),
  (894, ([], .ireturn, 1, 0, 0, 0, 0)),
  (895, ([], .iload 5, 2, 5, 0, 0, 0)),
  (897, ([], .ifCond .ne 15, 3, 912, 0, 0, 0)),
  (900, ([], .aload_n 3, 1, 3, 0, 0, 0)),
  (901, ([], .iconst 0, 1, 0, 0, 0, 0)),
  (902, ([], .laload, 1, 0, 0, 0, 0)),
  (903, ([], .iload 6, 2, 6, 0, 0, 0)),
  (905, ([], .i2l, 1, 0, 0, 0, 0)),
  (906, ([], .lcmp, 1, 0, 0, 0, 0)),
  (907, ([], .ifCond .eq 5, 3, 912, 0, 0, 0)),
  (910, ([], .iconst 0, 1, 0, 0, 0, 0)),
  (911, ([], .ireturn, 1, 0, 0, 0, 0)),
  (912, ([false, false, false, false, false, true, true], .goto 1076, 3, 1988, 0, 0, 0)),
  (915, ([], .aload_n 1, 1, 1, 0, 0, 0)),
  (916, ([], .aload_n 0, 1, 0, 0, 0, 0)),
  (917, ([], .iload 4, 2, 4, 0, 0, 0)),
  (919, ([], .iconst 1, 1, 0, 0, 0, 1)),
  (920, ([], .iadd, 1, 0, 0, 0, 0)),
  (921, ([], .iaload, 1, 0, 0, 0, 0)),
  (922, ([], .aload_n 0, 1, 0, 0, 0, 0)),
  (923, ([], .iload 4, 2, 4, 0, 0, 0)),
  (925, ([], .iconst 2, 1, 0, 0, 0, 2)),
  (926, ([], .iadd, 1, 0, 0, 0, 0)),
  (927, ([], .iaload, 1, 0, 0, 0, 0)),
  (928, ([], .invokestatic 149, 3, 33, 13, 0, 0)),
  (931, ([], .istore 5, 2, 5, 0, 0, 0)),
  (933, ([], .aload_n 2, 1, 2, 0, 0, 0)),
  (934, ([], .aload_n 0, 1, 0, 0, 0, 0)),
  (935, ([], .iload 4, 2, 4, 0, 0, 0)),
  (937, ([], .iconst 1, 1, 0, 0, 0, 1)),
  (938, ([], .iadd, 1, 0, 0, 0, 0)),
  (939, ([], .iaload, 1, 0, 0, 0, 0)),
  (940, ([], .aload_n 0, 1, 0, 0, 0, 0)),
  (941, ([], .iload 4, 2, 4, 0, 0, 0)),
  (943, ([], .iconst 2, 1, 0, 0, 0, 2)),
  (944, ([], .iadd, 1, 0, 0, 0, 0)),
  (945, ([], .iaload, 1, 0, 0, 0, 0)),
  (946, ([], .invokevirtual 151, 3, 34, 12, 0, 0)),
  (949, ([], .aload_n 2, 1, 2, 0, 0, 0)),
  (950, ([], .invokevirtual 112, 3, 2, 5, 0, 0)),
  (953, ([], .iload 5, 2, 5, 0, 0, 0)),
  (955, ([], .if_icmp .eq 5, 3, 960, 0, 0, 0)),
  (958, ([], .iconst 0, 1, 0, 0, 0, 0)),
  (959, ([], .ireturn, 1, 0, 0, 0, 0)),
  (960, ([], .goto 1028, 3, 1988, 0, 0, 0)),
  (963, ([], .aload_n 1, 1, 1, 0, 0, 0)),
  (964, ([], .aload_n 0, 1, 0, 0, 0, 0)),
  (965, ([], .iload 4, 2, 4, 0, 0, 0)),
  (967, ([], .iconst 1, 1, 0, 0, 0, 1)),
  (968, ([], .iadd, 1, 0, 0, 0, 0)),
  (969, ([], .iaload, 1, 0, 0, 0, 0)),
  (970, ([], .aload_n 0, 1, 0, 0, 0, 0)),
  (971, ([], .iload 4, 2, 4, 0, 0, 0)),
  (973, ([], .iconst 2, 1, 0, 0, 0, 2)),
  (974, ([], .iadd, 1, 0, 0, 0, 0)),
  (975, ([], .iaload, 1, 0, 0, 0, 0)),
  (976, ([], .aload_n 3, 1, 3, 0, 0, 0)),
  (977, ([], .invokestatic 152, 3, 31, 17, 0, 0)),
  (980, ([], .istore 5, 2, 5, 0, 0, 0)),
  (982, ([], .aload_n 2, 1, 2, 0, 0, 0)),
  (983, ([], .aload_n 0, 1, 0, 0, 0, 0)),
  (984, ([], .iload 4, 2, 4, 0, 0, 0)),
  (986, ([], .iconst 1, 1, 0, 0, 0, 1)),
  (987, ([], .iadd, 1, 0, 0, 0, 0)),
  (988, ([], .iaload, 1, 0, 0, 0, 0)),
  (989, ([], .aload_n 0, 1, 0, 0, 0, 0)),
  (990, ([], .iload 4, 2, 4, 0, 0, 0)),
  (992, ([], .iconst 2, 1, 0, 0, 0, 2)),
  (993, ([], .iadd, 1, 0, 0, 0, 0)),
  (994, ([], .iaload, 1, 0, 0, 0, 0)),
  (995, ([], .invokevirtual 154, 3, 32, 13, 0, 0)),
  (998, ([], .istore 6, 2, 6, 0, 0, 0)),
  (1000, ([], .aload_n 2, 1, 2, 0, 0, 0)),
  (1001, ([], .invokevirtual 112, 3, 2, 5, 0, 0)),
  (1004, ([], .iload 5, 2, 5, 0, 0, 0)),
  (1006, ([], .if_icmp .eq 5, 3, 1011, 0, 0, 0)),
  (1009, ([], .iconst 0, 1, 0, 0, 0, 0)),
  (1010, ([], .ireturn, 1, 0, 0, 0, 0)),
  (1011, ([], .iload 5, 2, 5, 0, 0, 0)),
  (1013, ([], .ifCond .ne 15, 3, 1028, 0, 0, 0)),
  (1016, ([], .aload_n 3, 1, 3, 0, 0, 0)),
  (1017, ([], .iconst 0, 1, 0, 0, 0, 0)),
  (1018, ([], .laload, 1, 0, 0, 0, 0)),
  (1019, ([], .iload 6, 2, 6, 0, 0, 0)),
  (1021, ([], .i2l, 1, 0, 0, 0, 0)),
  (1022, ([], .lcmp, 1, 0, 0, 0, 0)),
  (1023, ([], .ifCond .eq 5, 3, 1028, 0, 0, 0)),
  (1026, ([], .iconst 0, 1, 0, 0, 0, 0)),
  (1027, ([], .ireturn, 1, 0, 0, 0, 0)),
  (1028, ([false, false, false, false, false, true, true], .goto 960, 3, 1988, 0, 0, 0)),
  (1031, ([], .aload_n 1, 1, 1, 0, 0, 0)),
  (1032, ([], .aload_n 0, 1, 0, 0, 0, 0)),
  (1033, ([], .iload 4, 2, 4, 0, 0, 0)),
  (1035, ([], .iconst 1, 1, 0, 0, 0, 1)),
  (1036, ([], .iadd, 1, 0, 0, 0, 0)),
  (1037, ([], .iaload, 1, 0, 0, 0, 0)),
  (1038, ([], .aload_n 0, 1, 0, 0, 0, 0)),
  (1039, ([], .iload 4, 2, 4, 0, 0, 0)),
  (1041, ([], .iconst 2, 1, 0, 0, 0, 2)),
  (1042, ([], .iadd, 1, 0, 0, 0, 0)),
  (1043, ([], .iaload, 1, 0, 0, 0, 0)),
  (1044, ([], .aload_n 0, 1, 0, 0, 0, 0)),
  (1045, ([], .iload 4, 2, 4, 0, 0, 0)),
  (1047, ([], .iconst 3, 1, 0, 0, 0, 3)),
  (1048, ([], .iadd, 1, 0, 0, 0, 0)),
  (1049, ([], .iaload, 1, 0, 0, 0, 0)),
  (1050, ([], .aload_n 3, 1, 3, 0, 0, 0)),
  (1051, ([], .invokestatic 155, 3, 29, 21, 0, 0)),
  (1054, ([], .istore 5, 2, 5, 0, 0, 0)),
  (1056, ([], .aload_n 2, 1, 2, 0, 0, 0)),
  (1057, ([], .aload_n 0, 1, 0, 0, 0, 0)),
  (1058, ([], .iload 4, 2, 4, 0, 0, 0)),
  (1060, ([], .iconst 1, 1, 0, 0, 0, 1)),
  (1061, ([], .iadd, 1, 0, 0, 0, 0)),
  (1062, ([], .iaload, 1, 0, 0, 0, 0)),
  (1063, ([], .aload_n 0, 1, 0, 0, 0, 0)),
  (1064, ([], .iload 4, 2, 4, 0, 0, 0)),
  (1066, ([], .iconst 2, 1, 0, 0, 0, 2)),
  (1067, ([], .iadd, 1, 0, 0, 0, 0)),
  (1068, ([], .iaload, 1, 0, 0, 0, 0)),
  (1069, ([], .aload_n 0, 1, 0, 0, 0, 0)),
  (1070, ([], .iload 4, 2, 4, 0, 0, 0)),
  (1072, ([], .iconst 3, 1, 0, 0, 0, 3)),
  (1073, ([], .iadd, 1, 0, 0, 0, 0)),
  (1074, ([], .iaload, 1, 0, 0, 0, 0)),
  (1075, ([], .invokevirtual 157, 3, 30, 17, 0, 0)),
  (1078, ([], .istore 6, 2, 6, 0, 0, 0)),
  (1080, ([], .aload_n 2, 1, 2, 0, 0, 0)),
  (1081, ([], .invokevirtual 112, 3, 2, 5, 0, 0)),
  (1084, ([], .iload 5, 2, 5, 0, 0, 0)),
  (1086, ([], .if_icmp .eq 5, 3, 1091, 0, 0, 0)),
  (1089, ([], .iconst 0, 1, 0, 0, 0, 0)),
  (1090, ([], .ireturn, 1, 0, 0, 0, 0)),
  (1091, ([], .iload 5, 2, 5, 0, 0, 0)),
  (1093, ([], .ifCond .ne 15, 3, 1108, 0, 0, 0)),
  (1096, ([], .aload_n 3, 1, 3, 0, 0, 0)),
  (1097, ([], .iconst 0, 1, 0, 0, 0, 0)),
  (1098, ([], .laload, 1, 0, 0, 0, 0)),
  (1099, ([], .iload 6, 2, 6, 0, 0, 0)),
  (1101, ([], .i2l, 1, 0, 0, 0, 0)),
  (1102, ([], .lcmp, 1, 0, 0, 0, 0)),
  (1103, ([], .ifCond .eq 5, 3, 1108, 0, 0, 0)),
  (1106, ([], .iconst 0, 1, 0, 0, 0, 0)),
  (1107, ([], .ireturn, 1, 0, 0, 0, 0)),
  (1108, ([false, false, false, false, false, true, true], .goto 880, 3, 1988, 0, 0, 0)),
  (1111, ([], .aload_n 1, 1, 1, 0, 0, 0)),
  (1112, ([], .aload_n 0, 1, 0, 0, 0, 0)),
  (1113, ([], .iload 4, 2, 4, 0, 0, 0)),
  (1115, ([], .iconst 1, 1, 0, 0, 0, 1)),
  (1116, ([], .iadd, 1, 0, 0, 0, 0)),
  (1117, ([], .iaload, 1, 0, 0, 0, 0)),
  (1118, ([], .aload_n 0, 1, 0, 0, 0, 0)),
  (1119, ([], .iload 4, 2, 4, 0, 0, 0)),
  (1121, ([], .iconst 2, 1, 0, 0, 0, 2)),
  (1122, ([], .iadd, 1, 0, 0, 0, 0)),
  (1123, ([], .iaload, 1, 0, 0, 0, 0)),
  (1124, ([], .aload_n 0, 1, 0, 0, 0, 0)),
  (1125, ([], .iload 4, 2, 4, 0, 0, 0)),
  (1127, ([], .iconst 3, 1, 0, 0, 0, 3)),
  (1128, ([], .iadd, 1, 0, 0, 0, 0)),
  (1129, ([], .iaload, 1, 0, 0, 0, 0)),
  (1130, ([], .aload_n 3, 1, 3, 0, 0, 0)),
  (1131, ([], .invokestatic 158, 3, 27, 21, 0, 0)),
  (1134, ([], .istore 5, 2, 5, 0, 0, 0)),
  (1136, ([], .aload_n 2, 1, 2, 0, 0, 0)),
  (1137, ([], .aload_n 0, 1, 0, 0, 0, 0)),
  (1138, ([], .iload 4, 2, 4, 0, 0, 0)),
  (1140, ([], .iconst 1, 1, 0, 0, 0, 1)),
  (1141, ([], .iadd, 1, 0, 0, 0, 0)),
  (1142, ([], .iaload, 1, 0, 0, 0, 0)),
  (1143, ([], .aload_n 0, 1, 0, 0, 0, 0)),
  (1144, ([], .iload 4, 2, 4, 0, 0, 0)),
  (1146, ([], .iconst 2, 1, 0, 0, 0, 2)),
  (1147, ([], .iadd, 1, 0, 0, 0, 0)),
  (1148, ([], .iaload, 1, 0, 0, 0, 0)),
  (1149, ([], .aload_n 0, 1, 0, 0, 0, 0)),
  (1150, ([], .iload 4, 2, 4, 0, 0, 0)),
  (1152, ([], .iconst 3, 1, 0, 0, 0, 3)),
  (1153, ([], .iadd, 1, 0, 0, 0, 0)),
  (1154, ([], .iaload, 1, 0, 0, 0, 0)),
  (1155, ([], .invokevirtual 160, 3, 28, 17, 0, 0)),
  (1158, ([], .istore 6, 2, 6, 0, 0, 0)),
  (1160, ([], .aload_n 2, 1, 2, 0, 0, 0)),
  (1161, ([], .invokevirtual 112, 3, 2, 5, 0, 0)),
  (1164, ([], .iload 5, 2, 5, 0, 0, 0)),
  (1166, ([], .if_icmp .eq 5, 3, 1171, 0, 0, 0)),
  (1169, ([], .iconst 0, 1, 0, 0, 0, 0)),
  (1170, ([], .ireturn, 1, 0, 0, 0, 0)),
  (1171, ([], .iload 5, 2, 5, 0, 0, 0)),
  (1173, ([], .ifCond .ne 22, 3, 1195, 0, 0, 0)),
  (1176, ([], .aload_n 3, 1, 3, 0, 0, 0)),
  (1177, ([], .iconst 0, 1, 0, 0, 0, 0)),
  (1178, ([], .laload, 1, 0, 0, 0, 0)),
  (1179, ([], .iload 6, 2, 6, 0, 0, 0)),
  (1181, ([], .ifCond .eq 7, 3, 1188, 0, 0, 0)),
  (1184, ([], .lconst 1, 1, 0, 0, 0, 0)),
  (1185, ([], .goto 4, 3, 1189, 0, 0, 0)),
  (1188, ([], .lconst 0, 1, 0, 0, 0, 0)),
  (1189, ([false, false, false, false, false, true, true], .lcmp, 1, 0, 0, 0, 0)),
  (1190, ([], .ifCond .eq 5, 3, 1195, 0, 0, 0)),
  (1193, ([], .iconst 0, 1, 0, 0, 0, 0)),
  (1194, ([], .ireturn, 1, 0, 0, 0, 0)),
  (1195, ([false, false, false, false, false, true, true], .goto 793, 3, 1988, 0, 0, 0)),
  (1198, ([], .aload_n 1, 1, 1, 0, 0, 0)),
  (1199, ([], .aload_n 3, 1, 3, 0, 0, 0)),
  (1200, ([], .invokestatic 161, 3, 25, 9, 0, 0)),
  (1203, ([], .istore 5, 2, 5, 0, 0, 0)),
  (1205, ([], .aload_n 2, 1, 2, 0, 0, 0)),
  (1206, ([], .invokevirtual 163, 3, 26, 5, 0, 0)),
  (1209, ([], .istore 6, 2, 6, 0, 0, 0)),
  (1211, ([], .aload_n 2, 1, 2, 0, 0, 0)),
  (1212, ([], .invokevirtual 112, 3, 2, 5, 0, 0)),
  (1215, ([], .iload 5, 2, 5, 0, 0, 0)),
  (1217, ([], .if_icmp .eq 5, 3, 1222, 0, 0, 0)),
  (1220, ([], .iconst 0, 1, 0, 0, 0, 0)),
  (1221, ([], .ireturn, 1, 0, 0, 0, 0)),
  (1222, ([], .iload 5, 2, 5, 0, 0, 0)),
  (1224, ([], .ifCond .ne 15, 3, 1239, 0, 0, 0)),
  (1227, ([], .aload_n 3, 1, 3, 0, 0, 0)),
  (1228, ([], .iconst 0, 1, 0, 0, 0, 0)),
  (1229, ([], .laload, 1, 0, 0, 0, 0)),
  (1230, ([], .iload 6, 2, 6, 0, 0, 0)),
  (1232, ([], .i2l, 1, 0, 0, 0, 0)),
  (1233, ([], .lcmp, 1, 0, 0, 0, 0)),
  (1234, ([], .ifCond .eq 5, 3, 1239, 0, 0, 0)),
  (1237, ([], .iconst 0, 1, 0, 0, 0, 0)),
  (1238, ([], .ireturn, 1, 0, 0, 0, 0)),
  (1239, ([false, false, false, false, false, true, true], .goto 749, 3, 1988, 0, 0, 0)),
  (1242, ([], .aload_n 1, 1, 1, 0, 0, 0)),
  (1243, ([], .invokevirtual 164, 3, 23, 5, 0, 0)),
  (1246, ([], .aload_n 2, 1, 2, 0, 0, 0)),
  (1247, ([], .invokevirtual 167, 3, 24, 5, 0, 0)),
  (1250, ([], .if_icmp .eq 738, 3, 1988, 0, 0, 0)),
  (1253, ([], .iconst 0, 1, 0, 0, 0, 0)),
  (1254, ([], .ireturn, 1, 0, 0, 0, 0)),
  (1255, ([], .aload_n 1, 1, 1, 0, 0, 0)),
  (1256, ([], .aload_n 0, 1, 0, 0, 0, 0)),
  (1257, ([], .iload 4, 2, 4, 0, 0, 0)),
  (1259, ([], .iconst 1, 1, 0, 0, 0, 1)),
  (1260, ([], .iadd, 1, 0, 0, 0, 0)),
  (1261, ([], .iaload, 1, 0, 0, 0, 0)),
  (1262, ([], .aload_n 0, 1, 0, 0, 0, 0)),
  (1263, ([], .iload 4, 2, 4, 0, 0, 0)),
  (1265, ([], .iconst 2, 1, 0, 0, 0, 2)),
  (1266, ([], .iadd, 1, 0, 0, 0, 0)),
  (1267, ([], .iaload, 1, 0, 0, 0, 0)),
  (1268, ([], .aload_n 0, 1, 0, 0, 0, 0)),
  (1269, ([], .iload 4, 2, 4, 0, 0, 0)),
  (1271, ([], .iconst 3, 1, 0, 0, 0, 3)),
  (1272, ([], .iadd, 1, 0, 0, 0, 0)),
  (1273, ([], .iaload, 1, 0, 0, 0, 0)),
  (1274, ([], .aload_n 0, 1, 0, 0, 0, 0)),
  (1275, ([], .iload 4, 2, 4, 0, 0, 0)),
  (1277, ([], .iconst 4, 1, 0, 0, 0, 4)),
  (1278, ([], .iadd, 1, 0, 0, 0, 0)),
  (1279, ([], .iaload, 1, 0, 0, 0, 0)),
  (1280, ([], .aload_n 0, 1, 0, 0, 0, 0)),
  (1281, ([], .iload 4, 2, 4, 0, 0, 0)),
  (1283, ([], .iconst 5, 1, 0, 0, 0, 5)),
  (1284, ([], .iadd, 1, 0, 0, 0, 0)),
  (1285, ([], .iaload, 1, 0, 0, 0, 0)),
  (1286, ([], .aload_n 0, 1, 0, 0, 0, 0)),
  (1287, ([], .iload 4, 2, 4, 0, 0, 0)),
  (1289, ([], .bipush 6, 2, 0, 0, 0, 6)),
  (1291, ([], .iadd, 1, 0, 0, 0, 0)),
  (1292, ([], .iaload, 1, 0, 0, 0, 0)),
  (1293, ([], .aload_n 3, 1, 3, 0, 0, 0)),
  (1294, ([], .invokestatic 168, 3, 21, 33, 0, 0)),
  (1297, ([], .istore 5, 2, 5, 0, 0, 0)),
  (1299, ([], .aload_n 2, 1, 2, 0, 0, 0)),
  (1300, ([], .aload_n 0, 1, 0, 0, 0, 0)),
  (1301, ([], .iload 4, 2, 4, 0, 0, 0)),
  (1303, ([], .iconst 1, 1, 0, 0, 0, 1)),
  (1304, ([], .iadd, 1, 0, 0, 0, 0)),
  (1305, ([], .iaload, 1, 0, 0, 0, 0)),
  (1306, ([], .aload_n 0, 1, 0, 0, 0, 0)),
  (1307, ([], .iload 4, 2, 4, 0, 0, 0)),
  (1309, ([], .iconst 2, 1, 0, 0, 0, 2)),
  (1310, ([], .iadd, 1, 0, 0, 0, 0)),
  (1311, ([], .iaload, 1, 0, 0, 0, 0)),
  (1312, ([], .aload_n 0, 1, 0, 0, 0, 0)),
  (1313, ([], .iload 4, 2, 4, 0, 0, 0)),
  (1315, ([], .iconst 3, 1, 0, 0, 0, 3)),
  (1316, ([], .iadd, 1, 0, 0, 0, 0)),
  (1317, ([], .iaload, 1, 0, 0, 0, 0)),
  (1318, ([], .aload_n 0, 1, 0, 0, 0, 0)),
  (1319, ([], .iload 4, 2, 4, 0, 0, 0)),
  (1321, ([], .iconst 4, 1, 0, 0, 0, 4)),
  (1322, ([], .iadd, 1, 0, 0, 0, 0)),
  (1323, ([], .iaload, 1, 0, 0, 0, 0)),
  (1324, ([], .aload_n 0, 1, 0, 0, 0, 0)),
  (1325, ([], .iload 4, 2, 4, 0, 0, 0)),
  (1327, ([], .iconst 5, 1, 0, 0, 0, 5)),
  (1328, ([], .iadd, 1, 0, 0, 0, 0)),
  (1329, ([], .iaload, 1, 0, 0, 0, 0)),
  (1330, ([], .aload_n 0, 1, 0, 0, 0, 0)),
  (1331, ([], .iload 4, 2, 4, 0, 0, 0)),
  (1333, ([], .bipush 6, 2, 0, 0, 0, 6)),
  (1335, ([], .iadd, 1, 0, 0, 0, 0)),
  (1336, ([], .iaload, 1, 0, 0, 0, 0)),
  (1337, ([], .invokevirtual 171, 3, 22, 29, 0, 0)),
  (1340, ([], .istore 6, 2, 6, 0, 0, 0)),
  (1342, ([], .aload_n 2, 1, 2, 0, 0, 0)),
  (1343, ([], .invokevirtual 112, 3, 2, 5, 0, 0)),
  (1346, ([], .iload 5, 2, 5, 0, 0, 0)),
  (1348, ([], .if_icmp .eq 5, 3, 1353, 0, 0, 0)),
  (1351, ([], .iconst 0, 1, 0, 0, 0, 0)),
  (1352, ([], .ireturn, 1, 0, 0, 0, 0)),
  (1353, ([], .iload 5, 2, 5, 0, 0, 0)),
  (1355, ([], .ifCond .ne 15, 3, 1370, 0, 0, 0)),
  (1358, ([], .aload_n 3, 1, 3, 0, 0, 0)),
  (1359, ([], .iconst 0, 1, 0, 0, 0, 0)),
  (1360, ([], .laload, 1, 0, 0, 0, 0)),
  (1361, ([], .iload 6, 2, 6, 0, 0, 0)),
  (1363, ([], .i2l, 1, 0, 0, 0, 0)),
  (1364, ([], .lcmp, 1, 0, 0, 0, 0)),
  (1365, ([], .ifCond .eq 5, 3, 1370, 0, 0, 0)),
  (1368, ([], .iconst 0, 1, 0, 0, 0, 0)),
  (1369, ([], .ireturn, 1, 0, 0, 0, 0)),
  (1370, ([false, false, false, false, false, true, true], .goto 618, 3, 1988, 0, 0, 0)),
  (1373, ([], .aload_n 1, 1, 1, 0, 0, 0)),
  (1374, ([], .aload_n 0, 1, 0, 0, 0, 0)),
  (1375, ([], .iload 4, 2, 4, 0, 0, 0)),
  (1377, ([], .iconst 1, 1, 0, 0, 0, 1)),
  (1378, ([], .iadd, 1, 0, 0, 0, 0)),
  (1379, ([], .iaload, 1, 0, 0, 0, 0)),
  (1380, ([], .aload_n 0, 1, 0, 0, 0, 0)),
  (1381, ([], .iload 4, 2, 4, 0, 0, 0)),
  (1383, ([], .iconst 2, 1, 0, 0, 0, 2)),
  (1384, ([], .iadd, 1, 0, 0, 0, 0)),
  (1385, ([], .iaload, 1, 0, 0, 0, 0)),
  (1386, ([], .aload_n 0, 1, 0, 0, 0, 0)),
  (1387, ([], .iload 4, 2, 4, 0, 0, 0)),
  (1389, ([], .iconst 3, 1, 0, 0, 0, 3)),
  (1390, ([], .iadd, 1, 0, 0, 0, 0)),
  (1391, ([], .iaload, 1, 0, 0, 0, 0)),
  (1392, ([], .aload_n 0, 1, 0, 0, 0, 0)),
  (1393, ([], .iload 4, 2, 4, 0, 0, 0)),
  (1395, ([], .iconst 4, 1, 0, 0, 0, 4)),
  (1396, ([], .iadd, 1, 0, 0, 0, 0)),
  (1397, ([], .iaload, 1, 0, 0, 0, 0)),
  (1398, ([], .aload_n 3, 1, 3, 0, 0, 0)),
  (1399, ([], .invokestatic 172, 3, 19, 25, 0, 0)),
  (1402, ([], .istore 5, 2, 5, 0, 0, 0)),
  (1404, ([], .aload_n 2, 1, 2, 0, 0, 0)),
  (1405, ([], .aload_n 0, 1, 0, 0, 0, 0)),
  (1406, ([], .iload 4, 2, 4, 0, 0, 0)),
  (1408, ([], .iconst 1, 1, 0, 0, 0, 1)),
  (1409, ([], .iadd, 1, 0, 0, 0, 0)),
  (1410, ([], .iaload, 1, 0, 0, 0, 0)),
  (1411, ([], .aload_n 0, 1, 0, 0, 0, 0)),
  (1412, ([], .iload 4, 2, 4, 0, 0, 0)),
  (1414, ([], .iconst 2, 1, 0, 0, 0, 2)),
  (1415, ([], .iadd, 1, 0, 0, 0, 0)),
  (1416, ([], .iaload, 1, 0, 0, 0, 0)),
  (1417, ([], .aload_n 0, 1, 0, 0, 0, 0)),
  (1418, ([], .iload 4, 2, 4, 0, 0, 0)),
  (1420, ([], .iconst 3, 1, 0, 0, 0, 3)),
  (1421, ([], .iadd, 1, 0, 0, 0, 0)),
  (1422, ([], .iaload, 1, 0, 0, 0, 0)),
  (1423, ([], .aload_n 0, 1, 0, 0, 0, 0)),
  (1424, ([], .iload 4, 2, 4, 0, 0, 0)),
  (1426, ([], .iconst 4, 1, 0, 0, 0, 4)),
  (1427, ([], .iadd, 1, 0, 0, 0, 0)),
  (1428, ([], .iaload, 1, 0, 0, 0, 0)),
  (1429, ([], .invokevirtual 174, 3, 20, 21, 0, 0)),
  (1432, ([], .istore 6, 2, 6, 0, 0, 0)),
  (1434, ([], .aload_n 2, 1, 2, 0, 0, 0)),
  (1435, ([], .invokevirtual 112, 3, 2, 5, 0, 0)),
  (1438, ([], .iload 5, 2, 5, 0, 0, 0)),
  (1440, ([], .if_icmp .eq 5, 3, 1445, 0, 0, 0)),
  (1443, ([], .iconst 0, 1, 0, 0, 0, 0)),
  (1444, ([], .ireturn, 1, 0, 0, 0, 0)),
  (1445, ([], .iload 5, 2, 5, 0, 0, 0)),
  (1447, ([], .ifCond .ne 15, 3, 1462, 0, 0, 0)),
  (1450, ([], .aload_n 3, 1, 3, 0, 0, 0)),
  (1451, ([], .iconst 0, 1, 0, 0, 0, 0)),
  (1452, ([], .laload, 1, 0, 0, 0, 0)),
  (1453, ([], .iload 6, 2, 6, 0, 0, 0)),
  (1455, ([], .i2l, 1, 0, 0, 0, 0)),
  (1456, ([], .lcmp, 1, 0, 0, 0, 0)),
  (1457, ([], .ifCond .eq 5, 3, 1462, 0, 0, 0)),
  (1460, ([], .iconst 0, 1, 0, 0, 0, 0)),
  (1461, ([], .ireturn, 1, 0, 0, 0, 0)),
  (1462, ([false, false, false, false, false, true, true], .goto 526, 3, 1988, 0, 0, 0)),
  (1465, ([], .aload_n 1, 1, 1, 0, 0, 0)),
  (1466, ([], .aload_n 0, 1, 0, 0, 0, 0)),
  (1467, ([], .iload 4, 2, 4, 0, 0, 0)),
  (1469, ([], .iconst 1, 1, 0, 0, 0, 1)),
  (1470, ([], .iadd, 1, 0, 0, 0, 0)),
  (1471, ([], .iaload, 1, 0, 0, 0, 0)),
  (1472, ([], .aload_n 3, 1, 3, 0, 0, 0)),
  (1473, ([], .invokestatic 175, 3, 17, 13, 0, 0)),
  (1476, ([], .istore 5, 2, 5, 0, 0, 0)),
  (1478, ([], .aload_n 2, 1, 2, 0, 0, 0)),
  (1479, ([], .aload_n 0, 1, 0, 0, 0, 0)),
  (1480, ([], .iload 4, 2, 4, 0, 0, 0)),
  (1482, ([], .iconst 1, 1, 0, 0, 0, 1)),
  (1483, ([], .iadd, 1, 0, 0, 0, 0)),
  (1484, ([], .iaload, 1, 0, 0, 0, 0)),
  (1485, ([], .invokevirtual 177, 3, 18, 9, 0, 0)),
  (1488, ([], .istore 6, 2, 6, 0, 0, 0)),
  (1490, ([], .aload_n 2, 1, 2, 0, 0, 0)),
  (1491, ([], .invokevirtual 112, 3, 2, 5, 0, 0)),
  (1494, ([], .iload 5, 2, 5, 0, 0, 0)),
  (1496, ([], .if_icmp .eq 5, 3, 1501, 0, 0, 0)),
  (1499, ([], .iconst 0, 1, 0, 0, 0, 0)),
  (1500, ([], .ireturn, 1, 0, 0, 0, 0)),
  (1501, ([], .iload 5, 2, 5, 0, 0, 0)),
  (1503, ([], .ifCond .ne 15, 3, 1518, 0, 0, 0)),
  (1506, ([], .aload_n 3, 1, 3, 0, 0, 0)),
  (1507, ([], .iconst 0, 1, 0, 0, 0, 0)),
  (1508, ([], .laload, 1, 0, 0, 0, 0)),
  (1509, ([], .iload 6, 2, 6, 0, 0, 0)),
  (1511, ([], .i2l, 1, 0, 0, 0, 0)),
  (1512, ([], .lcmp, 1, 0, 0, 0, 0)),
  (1513, ([], .ifCond .eq 5, 3, 1518, 0, 0, 0)),
  (1516, ([], .iconst 0, 1, 0, 0, 0, 0)),
  (1517, ([], .ireturn, 1, 0, 0, 0, 0)),
  (1518, ([false, false, false, false, false, true, true], .goto 470, 3, 1988, 0, 0, 0)),
  (1521, ([], .aload_n 1, 1, 1, 0, 0, 0)),
  (1522, ([], .aload_n 0, 1, 0, 0, 0, 0)),
  (1523, ([], .iload 4, 2, 4, 0, 0, 0)),
  (1525, ([], .iconst 1, 1, 0, 0, 0, 1)),
  (1526, ([], .iadd, 1, 0, 0, 0, 0)),
  (1527, ([], .iaload, 1, 0, 0, 0, 0)),
  (1528, ([], .aload_n 0, 1, 0, 0, 0, 0)),
  (1529, ([], .iload 4, 2, 4, 0, 0, 0)),
  (1531, ([], .iconst 2, 1, 0, 0, 0, 2)),
  (1532, ([], .iadd, 1, 0, 0, 0, 0)),
  (1533, ([], .iaload, 1, 0, 0, 0, 0)),
  (1534, ([], .aload_n 3, 1, 3, 0, 0, 0)),
  (1535, ([], .invokestatic 178, 3, 15, 17, 0, 0)),
  (1538, ([], .istore 5, 2, 5, 0, 0, 0)),
  (1540, ([], .aload_n 2, 1, 2, 0, 0, 0)),
  (1541, ([], .aload_n 0, 1, 0, 0, 0, 0)),
  (1542, ([], .iload 4, 2, 4, 0, 0, 0)),
  (1544, ([], .iconst 1, 1, 0, 0, 0, 1)),
  (1545, ([], .iadd, 1, 0, 0, 0, 0)),
  (1546, ([], .iaload, 1, 0, 0, 0, 0)),
  (1547, ([], .aload_n 0, 1, 0, 0, 0, 0)),
  (1548, ([], .iload 4, 2, 4, 0, 0, 0)),
  (1550, ([], .iconst 2, 1, 0, 0, 0, 2)),
  (1551, ([], .iadd, 1, 0, 0, 0, 0)),
  (1552, ([], .iaload, 1, 0, 0, 0, 0)),
  (1553, ([], .invokevirtual 180, 3, 16, 13, 0, 0)),
  (1556, ([], .istore 6, 2, 6, 0, 0, 0)),
  (1558, ([], .aload_n 2, 1, 2, 0, 0, 0)),
  (1559, ([], .invokevirtual 112, 3, 2, 5, 0, 0)),
  (1562, ([], .iload 5, 2, 5, 0, 0, 0)),
  (1564, ([], .if_icmp .eq 5, 3, 1569, 0, 0, 0)),
  (1567, ([], .iconst 0, 1, 0, 0, 0, 0)),
  (1568, ([], .ireturn, 1, 0, 0, 0, 0)),
  (1569, ([], .iload 5, 2, 5, 0, 0, 0)),
  (1571, ([], .ifCond .ne 15, 3, 1586, 0, 0, 0)),
  (1574, ([], .aload_n 3, 1, 3, 0, 0, 0)),
  (1575, ([], .iconst 0, 1, 0, 0, 0, 0)),
  (1576, ([], .laload, 1, 0, 0, 0, 0)),
  (1577, ([], .iload 6, 2, 6, 0, 0, 0)),
  (1579, ([], .i2l, 1, 0, 0, 0, 0)),
  (1580, ([], .lcmp, 1, 0, 0, 0, 0)),
  (1581, ([], .ifCond .eq 5, 3, 1586, 0, 0, 0)),
  (1584, ([], .iconst 0, 1, 0, 0, 0, 0)),
  (1585, ([], .ireturn, 1, 0, 0, 0, 0)),
  (1586, ([false, false, false, false, false, true, true], .goto 402, 3, 1988, 0, 0, 0)),
  (1589, ([], .aload_n 1, 1, 1, 0, 0, 0)),
  (1590, ([], .aload_n 0, 1, 0, 0, 0, 0)),
  (1591, ([], .iload 4, 2, 4, 0, 0, 0)),
  (1593, ([], .iconst 1, 1, 0, 0, 0, 1)),
  (1594, ([], .iadd, 1, 0, 0, 0, 0)),
  (1595, ([], .iaload, 1, 0, 0, 0, 0)),
  (1596, ([], .aload_n 3, 1, 3, 0, 0, 0)),
  (1597, ([], .invokestatic 181, 3, 13, 13, 0, 0)),
  (1600, ([], .istore 5, 2, 5, 0, 0, 0)),
  (1602, ([], .aload_n 2, 1, 2, 0, 0, 0)),
  (1603, ([], .aload_n 0, 1, 0, 0, 0, 0)),
  (1604, ([], .iload 4, 2, 4, 0, 0, 0)),
  (1606, ([], .iconst 1, 1, 0, 0, 0, 1)),
  (1607, ([], .iadd, 1, 0, 0, 0, 0)),
  (1608, ([], .iaload, 1, 0, 0, 0, 0)),
  (1609, ([], .invokevirtual 183, 3, 14, 9, 0, 0)),
  (1612, ([], .istore 6, 2, 6, 0, 0, 0)),
  (1614, ([], .aload_n 2, 1, 2, 0, 0, 0)),
  (1615, ([], .invokevirtual 112, 3, 2, 5, 0, 0)),
  (1618, ([], .iload 5, 2, 5, 0, 0, 0)),
  (1620, ([], .if_icmp .eq 5, 3, 1625, 0, 0, 0)),
  (1623, ([], .iconst 0, 1, 0, 0, 0, 0)),
  (1624, ([], .ireturn, 1, 0, 0, 0, 0)),
  (1625, ([], .iload 5, 2, 5, 0, 0, 0)),
  (1627, ([], .ifCond .ne 15, 3, 1642, 0, 0, 0)),
  (1630, ([], .aload_n 3, 1, 3, 0, 0, 0)),
  (1631, ([], .iconst 0, 1, 0, 0, 0, 0)),
  (1632, ([], .laload, 1, 0, 0, 0, 0)),
  (1633, ([], .iload 6, 2, 6, 0, 0, 0)),
  (1635, ([], .i2l, 1, 0, 0, 0, 0)),
  (1636, ([], .lcmp, 1, 0, 0, 0, 0)),
  (1637, ([], .ifCond .eq 5, 3, 1642, 0, 0, 0)),
  (1640, ([], .iconst 0, 1, 0, 0, 0, 0)),
  (1641, ([], .ireturn, 1, 0, 0, 0, 0)),
  (1642, ([false, false, false, false, false, true, true], .goto 346, 3, 1988, 0, 0, 0)),
  (1645, ([], .aload_n 1, 1, 1, 0, 0, 0)),
  (1646, ([], .aload_n 0, 1, 0, 0, 0, 0)),
  (1647, ([], .iload 4, 2, 4, 0, 0, 0)),
  (1649, ([], .iconst 1, 1, 0, 0, 0, 1)),
  (1650, ([], .iadd, 1, 0, 0, 0, 0)),
  (1651, ([], .iaload, 1, 0, 0, 0, 0)),
  (1652, ([], .aload_n 0, 1, 0, 0, 0, 0)),
  (1653, ([], .iload 4, 2, 4, 0, 0, 0)),
  (1655, ([], .iconst 2, 1, 0, 0, 0, 2)),
  (1656, ([], .iadd, 1, 0, 0, 0, 0)),
  (1657, ([], .iaload, 1, 0, 0, 0, 0)),
  (1658, ([], .aload_n 3, 1, 3, 0, 0, 0)),
  (1659, ([], .invokestatic 184, 3, 11, 17, 0, 0)),
  (1662, ([], .istore 5, 2, 5, 0, 0, 0)),
  (1664, ([], .aload_n 2, 1, 2, 0, 0, 0)),
  (1665, ([], .aload_n 0, 1, 0, 0, 0, 0)),
  (1666, ([], .iload 4, 2, 4, 0, 0, 0)),
  (1668, ([], .iconst 1, 1, 0, 0, 0, 1)),
  (1669, ([], .iadd, 1, 0, 0, 0, 0)),
  (1670, ([], .iaload, 1, 0, 0, 0, 0)),
  (1671, ([], .aload_n 0, 1, 0, 0, 0, 0)),
  (1672, ([], .iload 4, 2, 4, 0, 0, 0)),
  (1674, ([], .iconst 2, 1, 0, 0, 0, 2)),
  (1675, ([], .iadd, 1, 0, 0, 0, 0)),
  (1676, ([], .iaload, 1, 0, 0, 0, 0)),
  (1677, ([], .invokevirtual 186, 3, 12, 13, 0, 0)),
  (1680, ([], .istore 6, 2, 6, 0, 0, 0)),
  (1682, ([], .aload_n 2, 1, 2, 0, 0, 0)),
  (1683, ([], .invokevirtual 112, 3, 2, 5, 0, 0)),
  (1686, ([], .iload 5, 2, 5, 0, 0, 0)),
  (1688, ([], .if_icmp .eq 5, 3, 1693, 0, 0, 0)),
  (1691, ([], .iconst 0, 1, 0, 0, 0, 0)),
  (1692, ([], .ireturn, 1, 0, 0, 0, 0)),
  (1693, ([], .iload 5, 2, 5, 0, 0, 0)),
  (1695, ([], .ifCond .ne 15, 3, 1710, 0, 0, 0)),
  (1698, ([], .aload_n 3, 1, 3, 0, 0, 0)),
  (1699, ([], .iconst 0, 1, 0, 0, 0, 0)),
  (1700, ([], .laload, 1, 0, 0, 0, 0)),
  (1701, ([], .iload 6, 2, 6, 0, 0, 0)),
  (1703, ([], .i2l, 1, 0, 0, 0, 0)),
  (1704, ([], .lcmp, 1, 0, 0, 0, 0)),
  (1705, ([], .ifCond .eq 5, 3, 1710, 0, 0, 0)),
  (1708, ([], .iconst 0, 1, 0, 0, 0, 0)),
  (1709, ([], .ireturn, 1, 0, 0, 0, 0)),
  (1710, ([false, false, false, false, false, true, true], .goto 278, 3, 1988, 0, 0, 0)),
  (1713, ([], .aload_n 1, 1, 1, 0, 0, 0)),
  (1714, ([], .aload_n 0, 1, 0, 0, 0, 0)),
  (1715, ([], .iload 4, 2, 4, 0, 0, 0)),
  (1717, ([], .iconst 1, 1, 0, 0, 0, 1)),
  (1718, ([], .iadd, 1, 0, 0, 0, 0)),
  (1719, ([], .iaload, 1, 0, 0, 0, 0)),
  (1720, ([], .aload_n 3, 1, 3, 0, 0, 0)),
  (1721, ([], .invokestatic 187, 3, 9, 13, 0, 0)),
  (1724, ([], .istore 5, 2, 5, 0, 0, 0)),
  (1726, ([], .aload_n 2, 1, 2, 0, 0, 0)),
  (1727, ([], .aload_n 0, 1, 0, 0, 0, 0)),
  (1728, ([], .iload 4, 2, 4, 0, 0, 0)),
  (1730, ([], .iconst 1, 1, 0, 0, 0, 1)),
  (1731, ([], .iadd, 1, 0, 0, 0, 0)),
  (1732, ([], .iaload, 1, 0, 0, 0, 0)),
  (1733, ([], .invokevirtual 189, 3, 10, 9, 0, 0)),
  (1736, ([], .istore 6, 2, 6, 0, 0, 0)),
  (1738, ([], .aload_n 2, 1, 2, 0, 0, 0)),
  (1739, ([], .invokevirtual 112, 3, 2, 5, 0, 0)),
  (1742, ([], .iload 5, 2, 5, 0, 0, 0)),
  (1744, ([], .if_icmp .eq 5, 3, 1749, 0, 0, 0)),
  (1747, ([], .iconst 0, 1, 0, 0, 0, 0)),
  (1748, ([], .ireturn, 1, 0, 0, 0, 0)),
  (1749, ([], .iload 5, 2, 5, 0, 0, 0)),
  (1751, ([], .ifCond .ne 22, 3, 1773, 0, 0, 0)),
  (1754, ([], .aload_n 3, 1, 3, 0, 0, 0)),
  (1755, ([], .iconst 0, 1, 0, 0, 0, 0)),
  (1756, ([], .laload, 1, 0, 0, 0, 0)),
  (1757, ([], .iload 6, 2, 6, 0, 0, 0)),
  (1759, ([], .ifCond .eq 7, 3, 1766, 0, 0, 0)),
  (1762, ([], .lconst 1, 1, 0, 0, 0, 0)),
  (1763, ([], .goto 4, 3, 1767, 0, 0, 0)),
  (1766, ([], .lconst 0, 1, 0, 0, 0, 0)),
  (1767, ([false, false, false, false, false, true, true], .lcmp, 1, 0, 0, 0, 0)),
  (1768, ([], .ifCond .eq 5, 3, 1773, 0, 0, 0)),
  (1771, ([], .iconst 0, 1, 0, 0, 0, 0)),
  (1772, ([], .ireturn, 1, 0, 0, 0, 0)),
  (1773, ([false, false, false, false, false, true, true], .goto 215, 3, 1988, 0, 0, 0)),
  (1776, ([], .aload_n 1, 1, 1, 0, 0, 0)),
  (1777, ([], .invokevirtual 190, 3, 7, 5, 0, 0)),
  (1780, ([], .aload_n 2, 1, 2, 0, 0, 0)),
  (1781, ([], .invokevirtual 193, 3, 8, 5, 0, 0)),
  (1784, ([], .if_icmp .eq 204, 3, 1988, 0, 0, 0)),
  (1787, ([], .iconst 0, 1, 0, 0, 0, 0)),
  (1788, ([], .ireturn, 1, 0, 0, 0, 0)),
  (1789, ([], .aload_n 1, 1, 1, 0, 0, 0)),
  (1790, ([], .aload_n 0, 1, 0, 0, 0, 0)),
  (1791, ([], .iload 4, 2, 4, 0, 0, 0)),
  (1793, ([], .iconst 1, 1, 0, 0, 0, 1)),
  (1794, ([], .iadd, 1, 0, 0, 0, 0)),
  (1795, ([], .iaload, 1, 0, 0, 0, 0)),
  (1796, ([], .aload_n 0, 1, 0, 0, 0, 0)),
  (1797, ([], .iload 4, 2, 4, 0, 0, 0)),
  (1799, ([], .iconst 2, 1, 0, 0, 0, 2)),
  (1800, ([], .iadd, 1, 0, 0, 0, 0)),
  (1801, ([], .iaload, 1, 0, 0, 0, 0)),
  (1802, ([], .aload_n 3, 1, 3, 0, 0, 0)),
  (1803, ([], .invokestatic 194, 3, 5, 17, 0, 0)),
  (1806, ([], .istore 5, 2, 5, 0, 0, 0)),
  (1808, ([], .aload_n 2, 1, 2, 0, 0, 0)),
  (1809, ([], .aload_n 0, 1, 0, 0, 0, 0)),
  (1810, ([], .iload 4, 2, 4, 0, 0, 0)),
  (1812, ([], .iconst 1, 1, 0, 0, 0, 1)),
  (1813, ([], .iadd, 1, 0, 0, 0, 0)),
  (1814, ([], .iaload, 1, 0, 0, 0, 0)),
  (1815, ([], .aload_n 0, 1, 0, 0, 0, 0)),
  (1816, ([], .iload 4, 2, 4, 0, 0, 0)),
  (1818, ([], .iconst 2, 1, 0, 0, 0, 2)),
  (1819, ([], .iadd, 1, 0, 0, 0, 0)),
  (1820, ([], .iaload, 1, 0, 0, 0, 0)),
  (1821, ([], .invokevirtual 196, 3, 6, 13, 0, 0)),
  (1824, ([], .istore 6, 2, 6, 0, 0, 0)),
  (1826, ([], .aload_n 2, 1, 2, 0, 0, 0)),
  (1827, ([], .invokevirtual 112, 3, 2, 5, 0, 0)),
  (1830, ([], .iload 5, 2, 5, 0, 0, 0)),
  (1832, ([], .if_icmp .eq 5, 3, 1837, 0, 0, 0)),
  (1835, ([], .iconst 0, 1, 0, 0, 0, 0)),
  (1836, ([], .ireturn, 1, 0, 0, 0, 0)),
  (1837, ([], .iload 5, 2, 5, 0, 0, 0)),
  (1839, ([], .ifCond .ne 15, 3, 1854, 0, 0, 0)),
  (1842, ([], .aload_n 3, 1, 3, 0, 0, 0)),
  (1843, ([], .iconst 0, 1, 0, 0, 0, 0)),
  (1844, ([], .laload, 1, 0, 0, 0, 0)),
  (1845, ([], .iload 6, 2, 6, 0, 0, 0)),
  (1847, ([], .i2l, 1, 0, 0, 0, 0)),
  (1848, ([], .lcmp, 1, 0, 0, 0, 0)),
  (1849, ([], .ifCond .eq 5, 3, 1854, 0, 0, 0)),
  (1852, ([], .iconst 0, 1, 0, 0, 0, 0)),
  (1853, ([], .ireturn, 1, 0, 0, 0, 0)),
  (1854, ([false, false, false, false, false, true, true], .goto 134, 3, 1988, 0, 0, 0)),
  (1857, ([], .aload_n 1, 1, 1, 0, 0, 0)),
  (1858, ([], .aload_n 0, 1, 0, 0, 0, 0)),
  (1859, ([], .iload 4, 2, 4, 0, 0, 0)),
  (1861, ([], .iconst 1, 1, 0, 0, 0, 1)),
  (1862, ([], .iadd, 1, 0, 0, 0, 0)),
  (1863, ([], .iaload, 1, 0, 0, 0, 0)),
  (1864, ([], .aload_n 0, 1, 0, 0, 0, 0)),
  (1865, ([], .iload 4, 2, 4, 0, 0, 0)),
  (1867, ([], .iconst 2, 1, 0, 0, 0, 2)),
  (1868, ([], .iadd, 1, 0, 0, 0, 0)),
  (1869, ([], .iaload, 1, 0, 0, 0, 0)),
  (1870, ([], .aload_n 3, 1, 3, 0, 0, 0)),
  (1871, ([], .invokestatic 197, 3, 3, 17, 0, 0)),
  (1874, ([], .istore 5, 2, 5, 0, 0, 0)),
  (1876, ([], .aload_n 2, 1, 2, 0, 0, 0)),
  (1877, ([], .aload_n 0, 1, 0, 0, 0, 0)),
  (1878, ([], .iload 4, 2, 4, 0, 0, 0)),
  (1880, ([], .iconst 1, 1, 0, 0, 0, 1)),
  (1881, ([], .iadd, 1, 0, 0, 0, 0)),
  (1882, ([], .iaload, 1, 0, 0, 0, 0)),
  (1883, ([], .aload_n 0, 1, 0, 0, 0, 0)),
  (1884, ([], .iload 4, 2, 4, 0, 0, 0)),
  (1886, ([], .iconst 2, 1, 0, 0, 0, 2)),
  (1887, ([], .iadd, 1, 0, 0, 0, 0)),
  (1888, ([], .iaload, 1, 0, 0, 0, 0)),
  (1889, ([], .invokevirtual 199, 3, 4, 13, 0, 0)),
  (1892, ([], .istore 6, 2, 6, 0, 0, 0)),
  (1894, ([], .aload_n 2, 1, 2, 0, 0, 0)),
  (1895, ([], .invokevirtual 112, 3, 2, 5, 0, 0)),
  (1898, ([], .iload 5, 2, 5, 0, 0, 0)),
  (1900, ([], .if_icmp .eq 5, 3, 1905, 0, 0, 0)),
  (1903, ([], .iconst 0, 1, 0, 0, 0, 0)),
  (1904, ([], .ireturn, 1, 0, 0, 0, 0)),
  (1905, ([], .iload 5, 2, 5, 0, 0, 0)),
  (1907, ([], .ifCond .ne 22, 3, 1929, 0, 0, 0)),
  (1910, ([], .aload_n 3, 1, 3, 0, 0, 0)),
  (1911, ([], .iconst 0, 1, 0, 0, 0, 0)),
  (1912, ([], .laload, 1, 0, 0, 0, 0)),
  (1913, ([], .iload 6, 2, 6, 0, 0, 0)),
  (1915, ([], .ifCond .eq 7, 3, 1922, 0, 0, 0)),
  (1918, ([], .lconst 1, 1, 0, 0, 0, 0)),
  (1919, ([], .goto 4, 3, 1923, 0, 0, 0)),
  (1922, ([], .lconst 0, 1, 0, 0, 0, 0)),
  (1923, ([false, false, false, false, false, true, true], .lcmp, 1, 0, 0, 0, 0)),
  (1924, ([], .ifCond .eq 5, 3, 1929, 0, 0, 0)),
  (1927, ([], .iconst 0, 1, 0, 0, 0, 0)),
  (1928, ([], .ireturn, 1, 0, 0, 0, 0)),
  (1929, ([false, false, false, false, false, true, true], .goto 59, 3, 1988, 0, 0, 0)),
  (1932, ([], .aload_n 1, 1, 1, 0, 0, 0)),
  (1933, ([], .aload_n 0, 1, 0, 0, 0, 0)),
  (1934, ([], .iload 4, 2, 4, 0, 0, 0)),
  (1936, ([], .iconst 1, 1, 0, 0, 0, 1)),
  (1937, ([], .iadd, 1, 0, 0, 0, 0)),
  (1938, ([], .iaload, 1, 0, 0, 0, 0)),
  (1939, ([], .aload_n 3, 1, 3, 0, 0, 0)),
  (1940, ([], .invokestatic 200, 3, 0, 13, 0, 0)),
  (1943, ([], .istore 5, 2, 5, 0, 0, 0)),
  (1945, ([], .aload_n 2, 1, 2, 0, 0, 0)),
  (1946, ([], .aload_n 0, 1, 0, 0, 0, 0)),
  (1947, ([], .iload 4, 2, 4, 0, 0, 0)),
  (1949, ([], .iconst 1, 1, 0, 0, 0, 1)),
  (1950, ([], .iadd, 1, 0, 0, 0, 0)),
  (1951, ([], .iaload, 1, 0, 0, 0, 0)),
  (1952, ([], .invokevirtual 202, 3, 1, 9, 0, 0)),
  (1955, ([], .istore 6, 2, 6, 0, 0, 0)),
  (1957, ([], .aload_n 2, 1, 2, 0, 0, 0)),
  (1958, ([], .invokevirtual 112, 3, 2, 5, 0, 0)),
  (1961, ([], .iload 5, 2, 5, 0, 0, 0)),
  (1963, ([], .if_icmp .eq 5, 3, 1968, 0, 0, 0)),
  (1966, ([], .iconst 0, 1, 0, 0, 0, 0)),
  (1967, ([], .ireturn, 1, 0, 0, 0, 0)),
  (1968, ([], .iload 5, 2, 5, 0, 0, 0)),
  (1970, ([], .ifCond .ne 15, 3, 1985, 0, 0, 0)),
  (1973, ([], .aload_n 3, 1, 3, 0, 0, 0)),
  (1974, ([], .iconst 0, 1, 0, 0, 0, 0)),
  (1975, ([], .laload, 1, 0, 0, 0, 0)),
  (1976, ([], .iload 6, 2, 6, 0, 0, 0)),
  (1978, ([], .i2l, 1, 0, 0, 0, 0)),
  (1979, ([], .lcmp, 1, 0, 0, 0, 0)),
  (1980, ([], .ifCond .eq 5, 3, 1985, 0, 0, 0)),
  (1983, ([], .iconst 0, 1, 0, 0, 0, 0)),
  (1984, ([], .ireturn, 1, 0, 0, 0, 0)),
  (1985, ([false, false, false, false, false, true, true], .goto 3, 3, 1988, 0, 0, 0)),
  (1988, ([false, false, false, false, false, true, true], .iinc 4 10, 3, 4, 0, 0, 10)),
  (1991, ([], .goto (-1968), 3, 23, 0, 0, 0)),
  (1994, ([], .iconst 1, 1, 0, 0, 0, 1)),
  (1995, ([], .ireturn, 1, 0, 0, 0, 0))]
noncomputable def E_L_law : Kt := exL SKc SKn SKr CS (lkp T_L_law) [F_L_count, F_X7_count, F_X7_thrown, F_L_isNew, F_X7_isNew, F_L_rightOf, F_X7_rightOf, F_X6_rights, F_X7_rights, F_L_earns, F_X7_earns, F_L_seriesOf, F_X7_seriesOf, F_L_ahead, F_X7_ahead, F_L_requestOf, F_X7_requestOf, F_L_noise, F_X7_noise, F_L_worst, F_X7_worst, F_L_load, F_X7_load, F_X6_season, F_X7_season, F_L_end, F_X7_end, F_L_close, F_X7_close, F_L_fly, F_X7_fly, F_L_lease, F_X7_lease, F_L_swap, F_X7_swap, F_L_giveBack, F_X7_giveBack, F_L_accept, F_X7_accept, F_L_confer, F_X7_confer, F_L_link, F_X7_link, F_L_request, F_X7_request, F_L_merge, F_X7_merge, F_L_quota, F_X7_quota, F_L_curfew, F_X7_curfew, F_L_revise, F_X7_revise, F_L_declare, F_X7_declare] [] [[164, 256, 336, 396, 464, 532, 692, 740, 784, 847, 915, 963, 1031, 1111, 1198, 1242, 1255, 1373, 1465, 1521, 1589, 1645, 1713, 1776, 1789, 1857, 1932]]
noncomputable def F_L_law : Fn := fun as h => E_L_law 0 (pad 7 as) [] h
noncomputable def f_L_law_23 (x4 : Int32) (h : Hp) : Res := E_L_law 23 [.ref 1000, .ref 0, .ref 227, .ref 275, .int x4, .retAddr 0, .retAddr 0] [] h
noncomputable def f_L_law_253 (x4 : Int32) (h : Hp) : Res := E_L_law 253 [.ref 1000, .ref 0, .ref 227, .ref 275, .int x4, .retAddr 0, .retAddr 0] [] h
noncomputable def f_L_law_333 (x4 : Int32) (h : Hp) : Res := E_L_law 333 [.ref 1000, .ref 0, .ref 227, .ref 275, .int x4, .retAddr 0, .retAddr 0] [] h
noncomputable def f_L_law_461 (x4 : Int32) (h : Hp) : Res := E_L_law 461 [.ref 1000, .ref 0, .ref 227, .ref 275, .int x4, .retAddr 0, .retAddr 0] [] h
noncomputable def f_L_law_529 (x4 : Int32) (h : Hp) : Res := E_L_law 529 [.ref 1000, .ref 0, .ref 227, .ref 275, .int x4, .retAddr 0, .retAddr 0] [] h
noncomputable def f_L_law_689 (x4 : Int32) (h : Hp) : Res := E_L_law 689 [.ref 1000, .ref 0, .ref 227, .ref 275, .int x4, .retAddr 0, .retAddr 0] [] h
noncomputable def f_L_law_781 (x4 : Int32) (h : Hp) : Res := E_L_law 781 [.ref 1000, .ref 0, .ref 227, .ref 275, .int x4, .retAddr 0, .retAddr 0] [] h
noncomputable def f_L_law_838 (x4 : Int32) (s0 : Int64) (s1 : Int64) (h : Hp) : Res := E_L_law 838 [.ref 1000, .ref 0, .ref 227, .ref 275, .int x4, .retAddr 0, .retAddr 0] [.long (s0), .long (s1)] h
noncomputable def f_L_law_844 (x4 : Int32) (h : Hp) : Res := E_L_law 844 [.ref 1000, .ref 0, .ref 227, .ref 275, .int x4, .retAddr 0, .retAddr 0] [] h
noncomputable def f_L_law_912 (x4 : Int32) (h : Hp) : Res := E_L_law 912 [.ref 1000, .ref 0, .ref 227, .ref 275, .int x4, .retAddr 0, .retAddr 0] [] h
noncomputable def f_L_law_1028 (x4 : Int32) (h : Hp) : Res := E_L_law 1028 [.ref 1000, .ref 0, .ref 227, .ref 275, .int x4, .retAddr 0, .retAddr 0] [] h
noncomputable def f_L_law_1108 (x4 : Int32) (h : Hp) : Res := E_L_law 1108 [.ref 1000, .ref 0, .ref 227, .ref 275, .int x4, .retAddr 0, .retAddr 0] [] h
noncomputable def f_L_law_1189 (x4 : Int32) (s0 : Int64) (s1 : Int64) (h : Hp) : Res := E_L_law 1189 [.ref 1000, .ref 0, .ref 227, .ref 275, .int x4, .retAddr 0, .retAddr 0] [.long (s0), .long (s1)] h
noncomputable def f_L_law_1195 (x4 : Int32) (h : Hp) : Res := E_L_law 1195 [.ref 1000, .ref 0, .ref 227, .ref 275, .int x4, .retAddr 0, .retAddr 0] [] h
noncomputable def f_L_law_1239 (x4 : Int32) (h : Hp) : Res := E_L_law 1239 [.ref 1000, .ref 0, .ref 227, .ref 275, .int x4, .retAddr 0, .retAddr 0] [] h
noncomputable def f_L_law_1370 (x4 : Int32) (h : Hp) : Res := E_L_law 1370 [.ref 1000, .ref 0, .ref 227, .ref 275, .int x4, .retAddr 0, .retAddr 0] [] h
noncomputable def f_L_law_1462 (x4 : Int32) (h : Hp) : Res := E_L_law 1462 [.ref 1000, .ref 0, .ref 227, .ref 275, .int x4, .retAddr 0, .retAddr 0] [] h
noncomputable def f_L_law_1518 (x4 : Int32) (h : Hp) : Res := E_L_law 1518 [.ref 1000, .ref 0, .ref 227, .ref 275, .int x4, .retAddr 0, .retAddr 0] [] h
noncomputable def f_L_law_1586 (x4 : Int32) (h : Hp) : Res := E_L_law 1586 [.ref 1000, .ref 0, .ref 227, .ref 275, .int x4, .retAddr 0, .retAddr 0] [] h
noncomputable def f_L_law_1642 (x4 : Int32) (h : Hp) : Res := E_L_law 1642 [.ref 1000, .ref 0, .ref 227, .ref 275, .int x4, .retAddr 0, .retAddr 0] [] h
noncomputable def f_L_law_1710 (x4 : Int32) (h : Hp) : Res := E_L_law 1710 [.ref 1000, .ref 0, .ref 227, .ref 275, .int x4, .retAddr 0, .retAddr 0] [] h
noncomputable def f_L_law_1767 (x4 : Int32) (s0 : Int64) (s1 : Int64) (h : Hp) : Res := E_L_law 1767 [.ref 1000, .ref 0, .ref 227, .ref 275, .int x4, .retAddr 0, .retAddr 0] [.long (s0), .long (s1)] h
noncomputable def f_L_law_1773 (x4 : Int32) (h : Hp) : Res := E_L_law 1773 [.ref 1000, .ref 0, .ref 227, .ref 275, .int x4, .retAddr 0, .retAddr 0] [] h
noncomputable def f_L_law_1854 (x4 : Int32) (h : Hp) : Res := E_L_law 1854 [.ref 1000, .ref 0, .ref 227, .ref 275, .int x4, .retAddr 0, .retAddr 0] [] h
noncomputable def f_L_law_1923 (x4 : Int32) (s0 : Int64) (s1 : Int64) (h : Hp) : Res := E_L_law 1923 [.ref 1000, .ref 0, .ref 227, .ref 275, .int x4, .retAddr 0, .retAddr 0] [.long (s0), .long (s1)] h
noncomputable def f_L_law_1929 (x4 : Int32) (h : Hp) : Res := E_L_law 1929 [.ref 1000, .ref 0, .ref 227, .ref 275, .int x4, .retAddr 0, .retAddr 0] [] h
noncomputable def f_L_law_1985 (x4 : Int32) (h : Hp) : Res := E_L_law 1985 [.ref 1000, .ref 0, .ref 227, .ref 275, .int x4, .retAddr 0, .retAddr 0] [] h
noncomputable def f_L_law_1988 (x4 : Int32) (h : Hp) : Res := E_L_law 1988 [.ref 1000, .ref 0, .ref 227, .ref 275, .int x4, .retAddr 0, .retAddr 0] [] h
set_option maxRecDepth 100000 in
set_option maxHeartbeats 4000000 in
theorem e_L_law_23 (x4 : Int32) (h : Hp) : f_L_law_23 x4 h = if ((Int32.ofNat (rd h SCRB 0).toNatClampNeg) - 10) < x4 then rtn (some (.int 1)) h else gd (inb x4 (rd h SCRB 0).toNatClampNeg) (if ((rd h SCRA x4.toNatClampNeg) &&& 31) = Int32.ofNat 0 then gd (inb (x4 + 1) (rd h SCRB 0).toNatClampNeg) (gd (inb (x4 + 2) (rd h SCRB 0).toNatClampNeg) (gd (inb (x4 + 3) (rd h SCRB 0).toNatClampNeg) (gd (inb (x4 + 4) (rd h SCRB 0).toNatClampNeg) (bI (F_L_declare [.ref 0, .int (rd h SCRA (x4 + 1).toNatClampNeg), .int (rd h SCRA (x4 + 2).toNatClampNeg), .int (rd h SCRA (x4 + 3).toNatClampNeg), .int (rd h SCRA (x4 + 4).toNatClampNeg), .ref 275] h) (fun v151 h150 => gd (inb (x4 + 1) (rd h150 SCRB 0).toNatClampNeg) (gd (inb (x4 + 2) (rd h150 SCRB 0).toNatClampNeg) (gd (inb (x4 + 3) (rd h150 SCRB 0).toNatClampNeg) (gd (inb (x4 + 4) (rd h150 SCRB 0).toNatClampNeg) (bI (F_X7_declare [.ref 227, .int (rd h150 SCRA (x4 + 1).toNatClampNeg), .int (rd h150 SCRA (x4 + 2).toNatClampNeg), .int (rd h150 SCRA (x4 + 3).toNatClampNeg), .int (rd h150 SCRA (x4 + 4).toNatClampNeg)] h150) (fun v153 h152 => bI (F_X7_thrown [.ref 227] h152) (fun v155 h154 => if v155 = v151 then if v151 = 0 then gd (inb 0 1) (if (lg_cmp (rdL h154 (0 : Int32).toNatClampNeg) (Int32.toInt64 v153)) = 0 then f_L_law_253 x4 h154 else rtn (some (.int 0)) h154) else f_L_law_253 x4 h154 else rtn (some (.int 0)) h154) (hnk [])) (hnk [])))))) (hnk []))))) else if ((rd h SCRA x4.toNatClampNeg) &&& 31) = Int32.ofNat 1 then gd (inb (x4 + 1) (rd h SCRB 0).toNatClampNeg) (gd (inb (x4 + 2) (rd h SCRB 0).toNatClampNeg) (gd (inb (x4 + 3) (rd h SCRB 0).toNatClampNeg) (bI (F_L_revise [.ref 0, .int (rd h SCRA (x4 + 1).toNatClampNeg), .int (rd h SCRA (x4 + 2).toNatClampNeg), .int (rd h SCRA (x4 + 3).toNatClampNeg), .ref 275] h) (fun v145 h144 => gd (inb (x4 + 1) (rd h144 SCRB 0).toNatClampNeg) (gd (inb (x4 + 2) (rd h144 SCRB 0).toNatClampNeg) (gd (inb (x4 + 3) (rd h144 SCRB 0).toNatClampNeg) (bI (F_X7_revise [.ref 227, .int (rd h144 SCRA (x4 + 1).toNatClampNeg), .int (rd h144 SCRA (x4 + 2).toNatClampNeg), .int (rd h144 SCRA (x4 + 3).toNatClampNeg)] h144) (fun v147 h146 => bI (F_X7_thrown [.ref 227] h146) (fun v149 h148 => if v149 = v145 then if v145 = 0 then gd (inb 0 1) (if (lg_cmp (rdL h148 (0 : Int32).toNatClampNeg) (Int32.toInt64 v147)) = 0 then f_L_law_333 x4 h148 else rtn (some (.int 0)) h148) else f_L_law_333 x4 h148 else rtn (some (.int 0)) h148) (hnk [])) (hnk []))))) (hnk [])))) else if ((rd h SCRA x4.toNatClampNeg) &&& 31) = Int32.ofNat 2 then gd (inb (x4 + 1) (rd h SCRB 0).toNatClampNeg) (gd (inb (x4 + 2) (rd h SCRB 0).toNatClampNeg) (gd (inb (x4 + 3) (rd h SCRB 0).toNatClampNeg) (bI (F_L_curfew [.ref 0, .int (rd h SCRA (x4 + 1).toNatClampNeg), .int (rd h SCRA (x4 + 2).toNatClampNeg), .int (rd h SCRA (x4 + 3).toNatClampNeg)] h) (fun v140 h139 => gd (inb (x4 + 1) (rd h139 SCRB 0).toNatClampNeg) (gd (inb (x4 + 2) (rd h139 SCRB 0).toNatClampNeg) (gd (inb (x4 + 3) (rd h139 SCRB 0).toNatClampNeg) (bV (F_X7_curfew [.ref 227, .int (rd h139 SCRA (x4 + 1).toNatClampNeg), .int (rd h139 SCRA (x4 + 2).toNatClampNeg), .int (rd h139 SCRA (x4 + 3).toNatClampNeg)] h139) (fun h141 => bI (F_X7_thrown [.ref 227] h141) (fun v143 h142 => if v143 = v140 then f_L_law_1988 x4 h142 else rtn (some (.int 0)) h142) (hnk [])) (hnk []))))) (hnk [])))) else if ((rd h SCRA x4.toNatClampNeg) &&& 31) = Int32.ofNat 3 then gd (inb (x4 + 1) (rd h SCRB 0).toNatClampNeg) (gd (inb (x4 + 2) (rd h SCRB 0).toNatClampNeg) (bI (F_L_quota [.ref 0, .int (rd h SCRA (x4 + 1).toNatClampNeg), .int (rd h SCRA (x4 + 2).toNatClampNeg), .ref 275] h) (fun v134 h133 => gd (inb (x4 + 1) (rd h133 SCRB 0).toNatClampNeg) (gd (inb (x4 + 2) (rd h133 SCRB 0).toNatClampNeg) (bI (F_X7_quota [.ref 227, .int (rd h133 SCRA (x4 + 1).toNatClampNeg), .int (rd h133 SCRA (x4 + 2).toNatClampNeg)] h133) (fun v136 h135 => bI (F_X7_thrown [.ref 227] h135) (fun v138 h137 => if v138 = v134 then if v134 = 0 then gd (inb 0 1) (if (lg_cmp (rdL h137 (0 : Int32).toNatClampNeg) (Int32.toInt64 v136)) = 0 then f_L_law_461 x4 h137 else rtn (some (.int 0)) h137) else f_L_law_461 x4 h137 else rtn (some (.int 0)) h137) (hnk [])) (hnk [])))) (hnk []))) else if ((rd h SCRA x4.toNatClampNeg) &&& 31) = Int32.ofNat 4 then gd (inb (x4 + 1) (rd h SCRB 0).toNatClampNeg) (gd (inb (x4 + 2) (rd h SCRB 0).toNatClampNeg) (bI (F_L_merge [.ref 0, .int (rd h SCRA (x4 + 1).toNatClampNeg), .int (rd h SCRA (x4 + 2).toNatClampNeg), .ref 275] h) (fun v128 h127 => gd (inb (x4 + 1) (rd h127 SCRB 0).toNatClampNeg) (gd (inb (x4 + 2) (rd h127 SCRB 0).toNatClampNeg) (bI (F_X7_merge [.ref 227, .int (rd h127 SCRA (x4 + 1).toNatClampNeg), .int (rd h127 SCRA (x4 + 2).toNatClampNeg)] h127) (fun v130 h129 => bI (F_X7_thrown [.ref 227] h129) (fun v132 h131 => if v132 = v128 then if v128 = 0 then gd (inb 0 1) (if (lg_cmp (rdL h131 (0 : Int32).toNatClampNeg) (Int32.toInt64 v130)) = 0 then f_L_law_529 x4 h131 else rtn (some (.int 0)) h131) else f_L_law_529 x4 h131 else rtn (some (.int 0)) h131) (hnk [])) (hnk [])))) (hnk []))) else if ((rd h SCRA x4.toNatClampNeg) &&& 31) = Int32.ofNat 5 then gd (inb (x4 + 1) (rd h SCRB 0).toNatClampNeg) (gd (inb (x4 + 2) (rd h SCRB 0).toNatClampNeg) (gd (inb (x4 + 3) (rd h SCRB 0).toNatClampNeg) (gd (inb (x4 + 4) (rd h SCRB 0).toNatClampNeg) (gd (inb (x4 + 5) (rd h SCRB 0).toNatClampNeg) (gd (inb (x4 + 6) (rd h SCRB 0).toNatClampNeg) (gd (inb (x4 + 7) (rd h SCRB 0).toNatClampNeg) (gd (inb (x4 + 8) (rd h SCRB 0).toNatClampNeg) (gd (inb (x4 + 9) (rd h SCRB 0).toNatClampNeg) (bI (F_L_request [.ref 0, .int (rd h SCRA (x4 + 1).toNatClampNeg), .int (rd h SCRA (x4 + 2).toNatClampNeg), .int (rd h SCRA (x4 + 3).toNatClampNeg), .int (rd h SCRA (x4 + 4).toNatClampNeg), .int (rd h SCRA (x4 + 5).toNatClampNeg), .int (rd h SCRA (x4 + 6).toNatClampNeg), .int (rd h SCRA (x4 + 7).toNatClampNeg), .int (rd h SCRA (x4 + 8).toNatClampNeg), .int (rd h SCRA (x4 + 9).toNatClampNeg), .ref 275] h) (fun v122 h121 => gd (inb (x4 + 1) (rd h121 SCRB 0).toNatClampNeg) (gd (inb (x4 + 2) (rd h121 SCRB 0).toNatClampNeg) (gd (inb (x4 + 3) (rd h121 SCRB 0).toNatClampNeg) (gd (inb (x4 + 4) (rd h121 SCRB 0).toNatClampNeg) (gd (inb (x4 + 5) (rd h121 SCRB 0).toNatClampNeg) (gd (inb (x4 + 6) (rd h121 SCRB 0).toNatClampNeg) (gd (inb (x4 + 7) (rd h121 SCRB 0).toNatClampNeg) (gd (inb (x4 + 8) (rd h121 SCRB 0).toNatClampNeg) (gd (inb (x4 + 9) (rd h121 SCRB 0).toNatClampNeg) (bI (F_X7_request [.ref 227, .int (rd h121 SCRA (x4 + 1).toNatClampNeg), .int (rd h121 SCRA (x4 + 2).toNatClampNeg), .int (rd h121 SCRA (x4 + 3).toNatClampNeg), .int (rd h121 SCRA (x4 + 4).toNatClampNeg), .int (rd h121 SCRA (x4 + 5).toNatClampNeg), .int (rd h121 SCRA (x4 + 6).toNatClampNeg), .int (rd h121 SCRA (x4 + 7).toNatClampNeg), .int (rd h121 SCRA (x4 + 8).toNatClampNeg), .int (rd h121 SCRA (x4 + 9).toNatClampNeg)] h121) (fun v124 h123 => bI (F_X7_thrown [.ref 227] h123) (fun v126 h125 => if v126 = v122 then if v122 = 0 then gd (inb 0 1) (if (lg_cmp (rdL h125 (0 : Int32).toNatClampNeg) (Int32.toInt64 v124)) = 0 then f_L_law_689 x4 h125 else rtn (some (.int 0)) h125) else f_L_law_689 x4 h125 else rtn (some (.int 0)) h125) (hnk [])) (hnk []))))))))))) (hnk [])))))))))) else if ((rd h SCRA x4.toNatClampNeg) &&& 31) = Int32.ofNat 6 then gd (inb (x4 + 1) (rd h SCRB 0).toNatClampNeg) (gd (inb (x4 + 2) (rd h SCRB 0).toNatClampNeg) (bI (F_L_link [.ref 0, .int (rd h SCRA (x4 + 1).toNatClampNeg), .int (rd h SCRA (x4 + 2).toNatClampNeg)] h) (fun v117 h116 => gd (inb (x4 + 1) (rd h116 SCRB 0).toNatClampNeg) (gd (inb (x4 + 2) (rd h116 SCRB 0).toNatClampNeg) (bV (F_X7_link [.ref 227, .int (rd h116 SCRA (x4 + 1).toNatClampNeg), .int (rd h116 SCRA (x4 + 2).toNatClampNeg)] h116) (fun h118 => bI (F_X7_thrown [.ref 227] h118) (fun v120 h119 => if v120 = v117 then f_L_law_1988 x4 h119 else rtn (some (.int 0)) h119) (hnk [])) (hnk [])))) (hnk []))) else if ((rd h SCRA x4.toNatClampNeg) &&& 31) = Int32.ofNat 7 then bI (F_L_confer [.ref 0, .ref 275] h) (fun v111 h110 => bI (F_X7_confer [.ref 227] h110) (fun v113 h112 => bI (F_X7_thrown [.ref 227] h112) (fun v115 h114 => if v115 = v111 then if v111 = 0 then gd (inb 0 1) (if (lg_cmp (rdL h114 (0 : Int32).toNatClampNeg) (Int32.toInt64 v113)) = 0 then f_L_law_781 x4 h114 else rtn (some (.int 0)) h114) else f_L_law_781 x4 h114 else rtn (some (.int 0)) h114) (hnk [])) (hnk [])) (hnk []) else if ((rd h SCRA x4.toNatClampNeg) &&& 31) = Int32.ofNat 8 then gd (inb (x4 + 1) (rd h SCRB 0).toNatClampNeg) (bI (F_L_accept [.ref 0, .int (rd h SCRA (x4 + 1).toNatClampNeg), .ref 275] h) (fun v105 h104 => gd (inb (x4 + 1) (rd h104 SCRB 0).toNatClampNeg) (bI (F_X7_accept [.ref 227, .int (rd h104 SCRA (x4 + 1).toNatClampNeg)] h104) (fun v107 h106 => bI (F_X7_thrown [.ref 227] h106) (fun v109 h108 => if v109 = v105 then if v105 = 0 then gd (inb 0 1) (if v107 = 0 then f_L_law_838 x4 (Int64.ofNat 0) (rdL h108 (0 : Int32).toNatClampNeg) h108 else f_L_law_838 x4 (Int64.ofNat 1) (rdL h108 (0 : Int32).toNatClampNeg) h108) else f_L_law_844 x4 h108 else rtn (some (.int 0)) h108) (hnk [])) (hnk []))) (hnk [])) else if ((rd h SCRA x4.toNatClampNeg) &&& 31) = Int32.ofNat 9 then gd (inb (x4 + 1) (rd h SCRB 0).toNatClampNeg) (gd (inb (x4 + 2) (rd h SCRB 0).toNatClampNeg) (bI (F_L_giveBack [.ref 0, .int (rd h SCRA (x4 + 1).toNatClampNeg), .int (rd h SCRA (x4 + 2).toNatClampNeg), .ref 275] h) (fun v99 h98 => gd (inb (x4 + 1) (rd h98 SCRB 0).toNatClampNeg) (gd (inb (x4 + 2) (rd h98 SCRB 0).toNatClampNeg) (bI (F_X7_giveBack [.ref 227, .int (rd h98 SCRA (x4 + 1).toNatClampNeg), .int (rd h98 SCRA (x4 + 2).toNatClampNeg)] h98) (fun v101 h100 => bI (F_X7_thrown [.ref 227] h100) (fun v103 h102 => if v103 = v99 then if v99 = 0 then gd (inb 0 1) (if (lg_cmp (rdL h102 (0 : Int32).toNatClampNeg) (Int32.toInt64 v101)) = 0 then f_L_law_912 x4 h102 else rtn (some (.int 0)) h102) else f_L_law_912 x4 h102 else rtn (some (.int 0)) h102) (hnk [])) (hnk [])))) (hnk []))) else if ((rd h SCRA x4.toNatClampNeg) &&& 31) = Int32.ofNat 10 then gd (inb (x4 + 1) (rd h SCRB 0).toNatClampNeg) (gd (inb (x4 + 2) (rd h SCRB 0).toNatClampNeg) (bI (F_L_swap [.ref 0, .int (rd h SCRA (x4 + 1).toNatClampNeg), .int (rd h SCRA (x4 + 2).toNatClampNeg)] h) (fun v94 h93 => gd (inb (x4 + 1) (rd h93 SCRB 0).toNatClampNeg) (gd (inb (x4 + 2) (rd h93 SCRB 0).toNatClampNeg) (bV (F_X7_swap [.ref 227, .int (rd h93 SCRA (x4 + 1).toNatClampNeg), .int (rd h93 SCRA (x4 + 2).toNatClampNeg)] h93) (fun h95 => bI (F_X7_thrown [.ref 227] h95) (fun v97 h96 => if v97 = v94 then f_L_law_1988 x4 h96 else rtn (some (.int 0)) h96) (hnk [])) (hnk [])))) (hnk []))) else if ((rd h SCRA x4.toNatClampNeg) &&& 31) = Int32.ofNat 11 then gd (inb (x4 + 1) (rd h SCRB 0).toNatClampNeg) (gd (inb (x4 + 2) (rd h SCRB 0).toNatClampNeg) (bI (F_L_lease [.ref 0, .int (rd h SCRA (x4 + 1).toNatClampNeg), .int (rd h SCRA (x4 + 2).toNatClampNeg), .ref 275] h) (fun v88 h87 => gd (inb (x4 + 1) (rd h87 SCRB 0).toNatClampNeg) (gd (inb (x4 + 2) (rd h87 SCRB 0).toNatClampNeg) (bI (F_X7_lease [.ref 227, .int (rd h87 SCRA (x4 + 1).toNatClampNeg), .int (rd h87 SCRA (x4 + 2).toNatClampNeg)] h87) (fun v90 h89 => bI (F_X7_thrown [.ref 227] h89) (fun v92 h91 => if v92 = v88 then if v88 = 0 then gd (inb 0 1) (if (lg_cmp (rdL h91 (0 : Int32).toNatClampNeg) (Int32.toInt64 v90)) = 0 then f_L_law_1028 x4 h91 else rtn (some (.int 0)) h91) else f_L_law_1028 x4 h91 else rtn (some (.int 0)) h91) (hnk [])) (hnk [])))) (hnk []))) else if ((rd h SCRA x4.toNatClampNeg) &&& 31) = Int32.ofNat 12 then gd (inb (x4 + 1) (rd h SCRB 0).toNatClampNeg) (gd (inb (x4 + 2) (rd h SCRB 0).toNatClampNeg) (gd (inb (x4 + 3) (rd h SCRB 0).toNatClampNeg) (bI (F_L_fly [.ref 0, .int (rd h SCRA (x4 + 1).toNatClampNeg), .int (rd h SCRA (x4 + 2).toNatClampNeg), .int (rd h SCRA (x4 + 3).toNatClampNeg), .ref 275] h) (fun v82 h81 => gd (inb (x4 + 1) (rd h81 SCRB 0).toNatClampNeg) (gd (inb (x4 + 2) (rd h81 SCRB 0).toNatClampNeg) (gd (inb (x4 + 3) (rd h81 SCRB 0).toNatClampNeg) (bI (F_X7_fly [.ref 227, .int (rd h81 SCRA (x4 + 1).toNatClampNeg), .int (rd h81 SCRA (x4 + 2).toNatClampNeg), .int (rd h81 SCRA (x4 + 3).toNatClampNeg)] h81) (fun v84 h83 => bI (F_X7_thrown [.ref 227] h83) (fun v86 h85 => if v86 = v82 then if v82 = 0 then gd (inb 0 1) (if (lg_cmp (rdL h85 (0 : Int32).toNatClampNeg) (Int32.toInt64 v84)) = 0 then f_L_law_1108 x4 h85 else rtn (some (.int 0)) h85) else f_L_law_1108 x4 h85 else rtn (some (.int 0)) h85) (hnk [])) (hnk []))))) (hnk [])))) else if ((rd h SCRA x4.toNatClampNeg) &&& 31) = Int32.ofNat 13 then gd (inb (x4 + 1) (rd h SCRB 0).toNatClampNeg) (gd (inb (x4 + 2) (rd h SCRB 0).toNatClampNeg) (gd (inb (x4 + 3) (rd h SCRB 0).toNatClampNeg) (bI (F_L_close [.ref 0, .int (rd h SCRA (x4 + 1).toNatClampNeg), .int (rd h SCRA (x4 + 2).toNatClampNeg), .int (rd h SCRA (x4 + 3).toNatClampNeg), .ref 275] h) (fun v76 h75 => gd (inb (x4 + 1) (rd h75 SCRB 0).toNatClampNeg) (gd (inb (x4 + 2) (rd h75 SCRB 0).toNatClampNeg) (gd (inb (x4 + 3) (rd h75 SCRB 0).toNatClampNeg) (bI (F_X7_close [.ref 227, .int (rd h75 SCRA (x4 + 1).toNatClampNeg), .int (rd h75 SCRA (x4 + 2).toNatClampNeg), .int (rd h75 SCRA (x4 + 3).toNatClampNeg)] h75) (fun v78 h77 => bI (F_X7_thrown [.ref 227] h77) (fun v80 h79 => if v80 = v76 then if v76 = 0 then gd (inb 0 1) (if v78 = 0 then f_L_law_1189 x4 (Int64.ofNat 0) (rdL h79 (0 : Int32).toNatClampNeg) h79 else f_L_law_1189 x4 (Int64.ofNat 1) (rdL h79 (0 : Int32).toNatClampNeg) h79) else f_L_law_1195 x4 h79 else rtn (some (.int 0)) h79) (hnk [])) (hnk []))))) (hnk [])))) else if ((rd h SCRA x4.toNatClampNeg) &&& 31) = Int32.ofNat 14 then bI (F_L_end [.ref 0, .ref 275] h) (fun v70 h69 => bI (F_X7_end [.ref 227] h69) (fun v72 h71 => bI (F_X7_thrown [.ref 227] h71) (fun v74 h73 => if v74 = v70 then if v70 = 0 then gd (inb 0 1) (if (lg_cmp (rdL h73 (0 : Int32).toNatClampNeg) (Int32.toInt64 v72)) = 0 then f_L_law_1239 x4 h73 else rtn (some (.int 0)) h73) else f_L_law_1239 x4 h73 else rtn (some (.int 0)) h73) (hnk [])) (hnk [])) (hnk []) else if ((rd h SCRA x4.toNatClampNeg) &&& 31) = Int32.ofNat 15 then bI (F_X6_season [.ref 0] h) (fun v66 h65 => bI (F_X7_season [.ref 227] h65) (fun v68 h67 => if v66 = v68 then f_L_law_1988 x4 h67 else rtn (some (.int 0)) h67) (hnk [])) (hnk []) else if ((rd h SCRA x4.toNatClampNeg) &&& 31) = Int32.ofNat 16 then gd (inb (x4 + 1) (rd h SCRB 0).toNatClampNeg) (gd (inb (x4 + 2) (rd h SCRB 0).toNatClampNeg) (gd (inb (x4 + 3) (rd h SCRB 0).toNatClampNeg) (gd (inb (x4 + 4) (rd h SCRB 0).toNatClampNeg) (gd (inb (x4 + 5) (rd h SCRB 0).toNatClampNeg) (gd (inb (x4 + 6) (rd h SCRB 0).toNatClampNeg) (bI (F_L_load [.ref 0, .int (rd h SCRA (x4 + 1).toNatClampNeg), .int (rd h SCRA (x4 + 2).toNatClampNeg), .int (rd h SCRA (x4 + 3).toNatClampNeg), .int (rd h SCRA (x4 + 4).toNatClampNeg), .int (rd h SCRA (x4 + 5).toNatClampNeg), .int (rd h SCRA (x4 + 6).toNatClampNeg), .ref 275] h) (fun v60 h59 => gd (inb (x4 + 1) (rd h59 SCRB 0).toNatClampNeg) (gd (inb (x4 + 2) (rd h59 SCRB 0).toNatClampNeg) (gd (inb (x4 + 3) (rd h59 SCRB 0).toNatClampNeg) (gd (inb (x4 + 4) (rd h59 SCRB 0).toNatClampNeg) (gd (inb (x4 + 5) (rd h59 SCRB 0).toNatClampNeg) (gd (inb (x4 + 6) (rd h59 SCRB 0).toNatClampNeg) (bI (F_X7_load [.ref 227, .int (rd h59 SCRA (x4 + 1).toNatClampNeg), .int (rd h59 SCRA (x4 + 2).toNatClampNeg), .int (rd h59 SCRA (x4 + 3).toNatClampNeg), .int (rd h59 SCRA (x4 + 4).toNatClampNeg), .int (rd h59 SCRA (x4 + 5).toNatClampNeg), .int (rd h59 SCRA (x4 + 6).toNatClampNeg)] h59) (fun v62 h61 => bI (F_X7_thrown [.ref 227] h61) (fun v64 h63 => if v64 = v60 then if v60 = 0 then gd (inb 0 1) (if (lg_cmp (rdL h63 (0 : Int32).toNatClampNeg) (Int32.toInt64 v62)) = 0 then f_L_law_1370 x4 h63 else rtn (some (.int 0)) h63) else f_L_law_1370 x4 h63 else rtn (some (.int 0)) h63) (hnk [])) (hnk [])))))))) (hnk []))))))) else if ((rd h SCRA x4.toNatClampNeg) &&& 31) = Int32.ofNat 17 then gd (inb (x4 + 1) (rd h SCRB 0).toNatClampNeg) (gd (inb (x4 + 2) (rd h SCRB 0).toNatClampNeg) (gd (inb (x4 + 3) (rd h SCRB 0).toNatClampNeg) (gd (inb (x4 + 4) (rd h SCRB 0).toNatClampNeg) (bI (F_L_worst [.ref 0, .int (rd h SCRA (x4 + 1).toNatClampNeg), .int (rd h SCRA (x4 + 2).toNatClampNeg), .int (rd h SCRA (x4 + 3).toNatClampNeg), .int (rd h SCRA (x4 + 4).toNatClampNeg), .ref 275] h) (fun v54 h53 => gd (inb (x4 + 1) (rd h53 SCRB 0).toNatClampNeg) (gd (inb (x4 + 2) (rd h53 SCRB 0).toNatClampNeg) (gd (inb (x4 + 3) (rd h53 SCRB 0).toNatClampNeg) (gd (inb (x4 + 4) (rd h53 SCRB 0).toNatClampNeg) (bI (F_X7_worst [.ref 227, .int (rd h53 SCRA (x4 + 1).toNatClampNeg), .int (rd h53 SCRA (x4 + 2).toNatClampNeg), .int (rd h53 SCRA (x4 + 3).toNatClampNeg), .int (rd h53 SCRA (x4 + 4).toNatClampNeg)] h53) (fun v56 h55 => bI (F_X7_thrown [.ref 227] h55) (fun v58 h57 => if v58 = v54 then if v54 = 0 then gd (inb 0 1) (if (lg_cmp (rdL h57 (0 : Int32).toNatClampNeg) (Int32.toInt64 v56)) = 0 then f_L_law_1462 x4 h57 else rtn (some (.int 0)) h57) else f_L_law_1462 x4 h57 else rtn (some (.int 0)) h57) (hnk [])) (hnk [])))))) (hnk []))))) else if ((rd h SCRA x4.toNatClampNeg) &&& 31) = Int32.ofNat 18 then gd (inb (x4 + 1) (rd h SCRB 0).toNatClampNeg) (bI (F_L_noise [.ref 0, .int (rd h SCRA (x4 + 1).toNatClampNeg), .ref 275] h) (fun v48 h47 => gd (inb (x4 + 1) (rd h47 SCRB 0).toNatClampNeg) (bI (F_X7_noise [.ref 227, .int (rd h47 SCRA (x4 + 1).toNatClampNeg)] h47) (fun v50 h49 => bI (F_X7_thrown [.ref 227] h49) (fun v52 h51 => if v52 = v48 then if v48 = 0 then gd (inb 0 1) (if (lg_cmp (rdL h51 (0 : Int32).toNatClampNeg) (Int32.toInt64 v50)) = 0 then f_L_law_1518 x4 h51 else rtn (some (.int 0)) h51) else f_L_law_1518 x4 h51 else rtn (some (.int 0)) h51) (hnk [])) (hnk []))) (hnk [])) else if ((rd h SCRA x4.toNatClampNeg) &&& 31) = Int32.ofNat 19 then gd (inb (x4 + 1) (rd h SCRB 0).toNatClampNeg) (gd (inb (x4 + 2) (rd h SCRB 0).toNatClampNeg) (bI (F_L_requestOf [.ref 0, .int (rd h SCRA (x4 + 1).toNatClampNeg), .int (rd h SCRA (x4 + 2).toNatClampNeg), .ref 275] h) (fun v42 h41 => gd (inb (x4 + 1) (rd h41 SCRB 0).toNatClampNeg) (gd (inb (x4 + 2) (rd h41 SCRB 0).toNatClampNeg) (bI (F_X7_requestOf [.ref 227, .int (rd h41 SCRA (x4 + 1).toNatClampNeg), .int (rd h41 SCRA (x4 + 2).toNatClampNeg)] h41) (fun v44 h43 => bI (F_X7_thrown [.ref 227] h43) (fun v46 h45 => if v46 = v42 then if v42 = 0 then gd (inb 0 1) (if (lg_cmp (rdL h45 (0 : Int32).toNatClampNeg) (Int32.toInt64 v44)) = 0 then f_L_law_1586 x4 h45 else rtn (some (.int 0)) h45) else f_L_law_1586 x4 h45 else rtn (some (.int 0)) h45) (hnk [])) (hnk [])))) (hnk []))) else if ((rd h SCRA x4.toNatClampNeg) &&& 31) = Int32.ofNat 20 then gd (inb (x4 + 1) (rd h SCRB 0).toNatClampNeg) (bI (F_L_ahead [.ref 0, .int (rd h SCRA (x4 + 1).toNatClampNeg), .ref 275] h) (fun v36 h35 => gd (inb (x4 + 1) (rd h35 SCRB 0).toNatClampNeg) (bI (F_X7_ahead [.ref 227, .int (rd h35 SCRA (x4 + 1).toNatClampNeg)] h35) (fun v38 h37 => bI (F_X7_thrown [.ref 227] h37) (fun v40 h39 => if v40 = v36 then if v36 = 0 then gd (inb 0 1) (if (lg_cmp (rdL h39 (0 : Int32).toNatClampNeg) (Int32.toInt64 v38)) = 0 then f_L_law_1642 x4 h39 else rtn (some (.int 0)) h39) else f_L_law_1642 x4 h39 else rtn (some (.int 0)) h39) (hnk [])) (hnk []))) (hnk [])) else if ((rd h SCRA x4.toNatClampNeg) &&& 31) = Int32.ofNat 21 then gd (inb (x4 + 1) (rd h SCRB 0).toNatClampNeg) (gd (inb (x4 + 2) (rd h SCRB 0).toNatClampNeg) (bI (F_L_seriesOf [.ref 0, .int (rd h SCRA (x4 + 1).toNatClampNeg), .int (rd h SCRA (x4 + 2).toNatClampNeg), .ref 275] h) (fun v30 h29 => gd (inb (x4 + 1) (rd h29 SCRB 0).toNatClampNeg) (gd (inb (x4 + 2) (rd h29 SCRB 0).toNatClampNeg) (bI (F_X7_seriesOf [.ref 227, .int (rd h29 SCRA (x4 + 1).toNatClampNeg), .int (rd h29 SCRA (x4 + 2).toNatClampNeg)] h29) (fun v32 h31 => bI (F_X7_thrown [.ref 227] h31) (fun v34 h33 => if v34 = v30 then if v30 = 0 then gd (inb 0 1) (if (lg_cmp (rdL h33 (0 : Int32).toNatClampNeg) (Int32.toInt64 v32)) = 0 then f_L_law_1710 x4 h33 else rtn (some (.int 0)) h33) else f_L_law_1710 x4 h33 else rtn (some (.int 0)) h33) (hnk [])) (hnk [])))) (hnk []))) else if ((rd h SCRA x4.toNatClampNeg) &&& 31) = Int32.ofNat 22 then gd (inb (x4 + 1) (rd h SCRB 0).toNatClampNeg) (bI (F_L_earns [.ref 0, .int (rd h SCRA (x4 + 1).toNatClampNeg), .ref 275] h) (fun v24 h23 => gd (inb (x4 + 1) (rd h23 SCRB 0).toNatClampNeg) (bI (F_X7_earns [.ref 227, .int (rd h23 SCRA (x4 + 1).toNatClampNeg)] h23) (fun v26 h25 => bI (F_X7_thrown [.ref 227] h25) (fun v28 h27 => if v28 = v24 then if v24 = 0 then gd (inb 0 1) (if v26 = 0 then f_L_law_1767 x4 (Int64.ofNat 0) (rdL h27 (0 : Int32).toNatClampNeg) h27 else f_L_law_1767 x4 (Int64.ofNat 1) (rdL h27 (0 : Int32).toNatClampNeg) h27) else f_L_law_1773 x4 h27 else rtn (some (.int 0)) h27) (hnk [])) (hnk []))) (hnk [])) else if ((rd h SCRA x4.toNatClampNeg) &&& 31) = Int32.ofNat 23 then bI (F_X6_rights [.ref 0] h) (fun v20 h19 => bI (F_X7_rights [.ref 227] h19) (fun v22 h21 => if v20 = v22 then f_L_law_1988 x4 h21 else rtn (some (.int 0)) h21) (hnk [])) (hnk []) else if ((rd h SCRA x4.toNatClampNeg) &&& 31) = Int32.ofNat 24 then gd (inb (x4 + 1) (rd h SCRB 0).toNatClampNeg) (gd (inb (x4 + 2) (rd h SCRB 0).toNatClampNeg) (bI (F_L_rightOf [.ref 0, .int (rd h SCRA (x4 + 1).toNatClampNeg), .int (rd h SCRA (x4 + 2).toNatClampNeg), .ref 275] h) (fun v14 h13 => gd (inb (x4 + 1) (rd h13 SCRB 0).toNatClampNeg) (gd (inb (x4 + 2) (rd h13 SCRB 0).toNatClampNeg) (bI (F_X7_rightOf [.ref 227, .int (rd h13 SCRA (x4 + 1).toNatClampNeg), .int (rd h13 SCRA (x4 + 2).toNatClampNeg)] h13) (fun v16 h15 => bI (F_X7_thrown [.ref 227] h15) (fun v18 h17 => if v18 = v14 then if v14 = 0 then gd (inb 0 1) (if (lg_cmp (rdL h17 (0 : Int32).toNatClampNeg) (Int32.toInt64 v16)) = 0 then f_L_law_1854 x4 h17 else rtn (some (.int 0)) h17) else f_L_law_1854 x4 h17 else rtn (some (.int 0)) h17) (hnk [])) (hnk [])))) (hnk []))) else if ((rd h SCRA x4.toNatClampNeg) &&& 31) = Int32.ofNat 25 then gd (inb (x4 + 1) (rd h SCRB 0).toNatClampNeg) (gd (inb (x4 + 2) (rd h SCRB 0).toNatClampNeg) (bI (F_L_isNew [.ref 0, .int (rd h SCRA (x4 + 1).toNatClampNeg), .int (rd h SCRA (x4 + 2).toNatClampNeg), .ref 275] h) (fun v8 h7 => gd (inb (x4 + 1) (rd h7 SCRB 0).toNatClampNeg) (gd (inb (x4 + 2) (rd h7 SCRB 0).toNatClampNeg) (bI (F_X7_isNew [.ref 227, .int (rd h7 SCRA (x4 + 1).toNatClampNeg), .int (rd h7 SCRA (x4 + 2).toNatClampNeg)] h7) (fun v10 h9 => bI (F_X7_thrown [.ref 227] h9) (fun v12 h11 => if v12 = v8 then if v8 = 0 then gd (inb 0 1) (if v10 = 0 then f_L_law_1923 x4 (Int64.ofNat 0) (rdL h11 (0 : Int32).toNatClampNeg) h11 else f_L_law_1923 x4 (Int64.ofNat 1) (rdL h11 (0 : Int32).toNatClampNeg) h11) else f_L_law_1929 x4 h11 else rtn (some (.int 0)) h11) (hnk [])) (hnk [])))) (hnk []))) else if ((rd h SCRA x4.toNatClampNeg) &&& 31) = Int32.ofNat 26 then gd (inb (x4 + 1) (rd h SCRB 0).toNatClampNeg) (bI (F_L_count [.ref 0, .int (rd h SCRA (x4 + 1).toNatClampNeg), .ref 275] h) (fun v2 h1 => gd (inb (x4 + 1) (rd h1 SCRB 0).toNatClampNeg) (bI (F_X7_count [.ref 227, .int (rd h1 SCRA (x4 + 1).toNatClampNeg)] h1) (fun v4 h3 => bI (F_X7_thrown [.ref 227] h3) (fun v6 h5 => if v6 = v2 then if v2 = 0 then gd (inb 0 1) (if (lg_cmp (rdL h5 (0 : Int32).toNatClampNeg) (Int32.toInt64 v4)) = 0 then f_L_law_1985 x4 h5 else rtn (some (.int 0)) h5) else f_L_law_1985 x4 h5 else rtn (some (.int 0)) h5) (hnk [])) (hnk []))) (hnk [])) else f_L_law_1988 x4 h) :=
  (exL_it SKc SKn SKr CS (lkp T_L_law) [F_L_count, F_X7_count, F_X7_thrown, F_L_isNew, F_X7_isNew, F_L_rightOf, F_X7_rightOf, F_X6_rights, F_X7_rights, F_L_earns, F_X7_earns, F_L_seriesOf, F_X7_seriesOf, F_L_ahead, F_X7_ahead, F_L_requestOf, F_X7_requestOf, F_L_noise, F_X7_noise, F_L_worst, F_X7_worst, F_L_load, F_X7_load, F_X6_season, F_X7_season, F_L_end, F_X7_end, F_L_close, F_X7_close, F_L_fly, F_X7_fly, F_L_lease, F_X7_lease, F_L_swap, F_X7_swap, F_L_giveBack, F_X7_giveBack, F_L_accept, F_X7_accept, F_L_confer, F_X7_confer, F_L_link, F_X7_link, F_L_request, F_X7_request, F_L_merge, F_X7_merge, F_L_quota, F_X7_quota, F_L_curfew, F_X7_curfew, F_L_revise, F_X7_revise, F_L_declare, F_X7_declare] [] [[164, 256, 336, 396, 464, 532, 692, 740, 784, 847, 915, 963, 1031, 1111, 1198, 1242, 1255, 1373, 1465, 1521, 1589, 1645, 1713, 1776, 1789, 1857, 1932]] [23, 253, 333, 461, 529, 689, 781, 838, 844, 912, 1028, 1108, 1189, 1195, 1239, 1370, 1462, 1518, 1586, 1642, 1710, 1767, 1773, 1854, 1923, 1929, 1985, 1988] 124 23 [.ref 1000, .ref 0, .ref 227, .ref 275, .int x4, .retAddr 0, .retAddr 0] [] h).trans rfl
set_option maxRecDepth 100000 in
set_option maxHeartbeats 4000000 in
theorem e_L_law_253 (x4 : Int32) (h : Hp) : f_L_law_253 x4 h = f_L_law_1988 x4 h :=
  (exL_it SKc SKn SKr CS (lkp T_L_law) [F_L_count, F_X7_count, F_X7_thrown, F_L_isNew, F_X7_isNew, F_L_rightOf, F_X7_rightOf, F_X6_rights, F_X7_rights, F_L_earns, F_X7_earns, F_L_seriesOf, F_X7_seriesOf, F_L_ahead, F_X7_ahead, F_L_requestOf, F_X7_requestOf, F_L_noise, F_X7_noise, F_L_worst, F_X7_worst, F_L_load, F_X7_load, F_X6_season, F_X7_season, F_L_end, F_X7_end, F_L_close, F_X7_close, F_L_fly, F_X7_fly, F_L_lease, F_X7_lease, F_L_swap, F_X7_swap, F_L_giveBack, F_X7_giveBack, F_L_accept, F_X7_accept, F_L_confer, F_X7_confer, F_L_link, F_X7_link, F_L_request, F_X7_request, F_L_merge, F_X7_merge, F_L_quota, F_X7_quota, F_L_curfew, F_X7_curfew, F_L_revise, F_X7_revise, F_L_declare, F_X7_declare] [] [[164, 256, 336, 396, 464, 532, 692, 740, 784, 847, 915, 963, 1031, 1111, 1198, 1242, 1255, 1373, 1465, 1521, 1589, 1645, 1713, 1776, 1789, 1857, 1932]] [23, 253, 333, 461, 529, 689, 781, 838, 844, 912, 1028, 1108, 1189, 1195, 1239, 1370, 1462, 1518, 1586, 1642, 1710, 1767, 1773, 1854, 1923, 1929, 1985, 1988] 1 253 [.ref 1000, .ref 0, .ref 227, .ref 275, .int x4, .retAddr 0, .retAddr 0] [] h).trans rfl
set_option maxRecDepth 100000 in
set_option maxHeartbeats 4000000 in
theorem e_L_law_333 (x4 : Int32) (h : Hp) : f_L_law_333 x4 h = f_L_law_1988 x4 h :=
  (exL_it SKc SKn SKr CS (lkp T_L_law) [F_L_count, F_X7_count, F_X7_thrown, F_L_isNew, F_X7_isNew, F_L_rightOf, F_X7_rightOf, F_X6_rights, F_X7_rights, F_L_earns, F_X7_earns, F_L_seriesOf, F_X7_seriesOf, F_L_ahead, F_X7_ahead, F_L_requestOf, F_X7_requestOf, F_L_noise, F_X7_noise, F_L_worst, F_X7_worst, F_L_load, F_X7_load, F_X6_season, F_X7_season, F_L_end, F_X7_end, F_L_close, F_X7_close, F_L_fly, F_X7_fly, F_L_lease, F_X7_lease, F_L_swap, F_X7_swap, F_L_giveBack, F_X7_giveBack, F_L_accept, F_X7_accept, F_L_confer, F_X7_confer, F_L_link, F_X7_link, F_L_request, F_X7_request, F_L_merge, F_X7_merge, F_L_quota, F_X7_quota, F_L_curfew, F_X7_curfew, F_L_revise, F_X7_revise, F_L_declare, F_X7_declare] [] [[164, 256, 336, 396, 464, 532, 692, 740, 784, 847, 915, 963, 1031, 1111, 1198, 1242, 1255, 1373, 1465, 1521, 1589, 1645, 1713, 1776, 1789, 1857, 1932]] [23, 253, 333, 461, 529, 689, 781, 838, 844, 912, 1028, 1108, 1189, 1195, 1239, 1370, 1462, 1518, 1586, 1642, 1710, 1767, 1773, 1854, 1923, 1929, 1985, 1988] 1 333 [.ref 1000, .ref 0, .ref 227, .ref 275, .int x4, .retAddr 0, .retAddr 0] [] h).trans rfl
set_option maxRecDepth 100000 in
set_option maxHeartbeats 4000000 in
theorem e_L_law_461 (x4 : Int32) (h : Hp) : f_L_law_461 x4 h = f_L_law_1988 x4 h :=
  (exL_it SKc SKn SKr CS (lkp T_L_law) [F_L_count, F_X7_count, F_X7_thrown, F_L_isNew, F_X7_isNew, F_L_rightOf, F_X7_rightOf, F_X6_rights, F_X7_rights, F_L_earns, F_X7_earns, F_L_seriesOf, F_X7_seriesOf, F_L_ahead, F_X7_ahead, F_L_requestOf, F_X7_requestOf, F_L_noise, F_X7_noise, F_L_worst, F_X7_worst, F_L_load, F_X7_load, F_X6_season, F_X7_season, F_L_end, F_X7_end, F_L_close, F_X7_close, F_L_fly, F_X7_fly, F_L_lease, F_X7_lease, F_L_swap, F_X7_swap, F_L_giveBack, F_X7_giveBack, F_L_accept, F_X7_accept, F_L_confer, F_X7_confer, F_L_link, F_X7_link, F_L_request, F_X7_request, F_L_merge, F_X7_merge, F_L_quota, F_X7_quota, F_L_curfew, F_X7_curfew, F_L_revise, F_X7_revise, F_L_declare, F_X7_declare] [] [[164, 256, 336, 396, 464, 532, 692, 740, 784, 847, 915, 963, 1031, 1111, 1198, 1242, 1255, 1373, 1465, 1521, 1589, 1645, 1713, 1776, 1789, 1857, 1932]] [23, 253, 333, 461, 529, 689, 781, 838, 844, 912, 1028, 1108, 1189, 1195, 1239, 1370, 1462, 1518, 1586, 1642, 1710, 1767, 1773, 1854, 1923, 1929, 1985, 1988] 1 461 [.ref 1000, .ref 0, .ref 227, .ref 275, .int x4, .retAddr 0, .retAddr 0] [] h).trans rfl
set_option maxRecDepth 100000 in
set_option maxHeartbeats 4000000 in
theorem e_L_law_529 (x4 : Int32) (h : Hp) : f_L_law_529 x4 h = f_L_law_1988 x4 h :=
  (exL_it SKc SKn SKr CS (lkp T_L_law) [F_L_count, F_X7_count, F_X7_thrown, F_L_isNew, F_X7_isNew, F_L_rightOf, F_X7_rightOf, F_X6_rights, F_X7_rights, F_L_earns, F_X7_earns, F_L_seriesOf, F_X7_seriesOf, F_L_ahead, F_X7_ahead, F_L_requestOf, F_X7_requestOf, F_L_noise, F_X7_noise, F_L_worst, F_X7_worst, F_L_load, F_X7_load, F_X6_season, F_X7_season, F_L_end, F_X7_end, F_L_close, F_X7_close, F_L_fly, F_X7_fly, F_L_lease, F_X7_lease, F_L_swap, F_X7_swap, F_L_giveBack, F_X7_giveBack, F_L_accept, F_X7_accept, F_L_confer, F_X7_confer, F_L_link, F_X7_link, F_L_request, F_X7_request, F_L_merge, F_X7_merge, F_L_quota, F_X7_quota, F_L_curfew, F_X7_curfew, F_L_revise, F_X7_revise, F_L_declare, F_X7_declare] [] [[164, 256, 336, 396, 464, 532, 692, 740, 784, 847, 915, 963, 1031, 1111, 1198, 1242, 1255, 1373, 1465, 1521, 1589, 1645, 1713, 1776, 1789, 1857, 1932]] [23, 253, 333, 461, 529, 689, 781, 838, 844, 912, 1028, 1108, 1189, 1195, 1239, 1370, 1462, 1518, 1586, 1642, 1710, 1767, 1773, 1854, 1923, 1929, 1985, 1988] 1 529 [.ref 1000, .ref 0, .ref 227, .ref 275, .int x4, .retAddr 0, .retAddr 0] [] h).trans rfl
set_option maxRecDepth 100000 in
set_option maxHeartbeats 4000000 in
theorem e_L_law_689 (x4 : Int32) (h : Hp) : f_L_law_689 x4 h = f_L_law_1988 x4 h :=
  (exL_it SKc SKn SKr CS (lkp T_L_law) [F_L_count, F_X7_count, F_X7_thrown, F_L_isNew, F_X7_isNew, F_L_rightOf, F_X7_rightOf, F_X6_rights, F_X7_rights, F_L_earns, F_X7_earns, F_L_seriesOf, F_X7_seriesOf, F_L_ahead, F_X7_ahead, F_L_requestOf, F_X7_requestOf, F_L_noise, F_X7_noise, F_L_worst, F_X7_worst, F_L_load, F_X7_load, F_X6_season, F_X7_season, F_L_end, F_X7_end, F_L_close, F_X7_close, F_L_fly, F_X7_fly, F_L_lease, F_X7_lease, F_L_swap, F_X7_swap, F_L_giveBack, F_X7_giveBack, F_L_accept, F_X7_accept, F_L_confer, F_X7_confer, F_L_link, F_X7_link, F_L_request, F_X7_request, F_L_merge, F_X7_merge, F_L_quota, F_X7_quota, F_L_curfew, F_X7_curfew, F_L_revise, F_X7_revise, F_L_declare, F_X7_declare] [] [[164, 256, 336, 396, 464, 532, 692, 740, 784, 847, 915, 963, 1031, 1111, 1198, 1242, 1255, 1373, 1465, 1521, 1589, 1645, 1713, 1776, 1789, 1857, 1932]] [23, 253, 333, 461, 529, 689, 781, 838, 844, 912, 1028, 1108, 1189, 1195, 1239, 1370, 1462, 1518, 1586, 1642, 1710, 1767, 1773, 1854, 1923, 1929, 1985, 1988] 1 689 [.ref 1000, .ref 0, .ref 227, .ref 275, .int x4, .retAddr 0, .retAddr 0] [] h).trans rfl
set_option maxRecDepth 100000 in
set_option maxHeartbeats 4000000 in
theorem e_L_law_781 (x4 : Int32) (h : Hp) : f_L_law_781 x4 h = f_L_law_1988 x4 h :=
  (exL_it SKc SKn SKr CS (lkp T_L_law) [F_L_count, F_X7_count, F_X7_thrown, F_L_isNew, F_X7_isNew, F_L_rightOf, F_X7_rightOf, F_X6_rights, F_X7_rights, F_L_earns, F_X7_earns, F_L_seriesOf, F_X7_seriesOf, F_L_ahead, F_X7_ahead, F_L_requestOf, F_X7_requestOf, F_L_noise, F_X7_noise, F_L_worst, F_X7_worst, F_L_load, F_X7_load, F_X6_season, F_X7_season, F_L_end, F_X7_end, F_L_close, F_X7_close, F_L_fly, F_X7_fly, F_L_lease, F_X7_lease, F_L_swap, F_X7_swap, F_L_giveBack, F_X7_giveBack, F_L_accept, F_X7_accept, F_L_confer, F_X7_confer, F_L_link, F_X7_link, F_L_request, F_X7_request, F_L_merge, F_X7_merge, F_L_quota, F_X7_quota, F_L_curfew, F_X7_curfew, F_L_revise, F_X7_revise, F_L_declare, F_X7_declare] [] [[164, 256, 336, 396, 464, 532, 692, 740, 784, 847, 915, 963, 1031, 1111, 1198, 1242, 1255, 1373, 1465, 1521, 1589, 1645, 1713, 1776, 1789, 1857, 1932]] [23, 253, 333, 461, 529, 689, 781, 838, 844, 912, 1028, 1108, 1189, 1195, 1239, 1370, 1462, 1518, 1586, 1642, 1710, 1767, 1773, 1854, 1923, 1929, 1985, 1988] 1 781 [.ref 1000, .ref 0, .ref 227, .ref 275, .int x4, .retAddr 0, .retAddr 0] [] h).trans rfl
set_option maxRecDepth 100000 in
set_option maxHeartbeats 4000000 in
theorem e_L_law_838 (x4 : Int32) (s0 : Int64) (s1 : Int64) (h : Hp) : f_L_law_838 x4 s0 s1 h = if (lg_cmp (s1) (s0)) = 0 then f_L_law_844 x4 h else rtn (some (.int 0)) h :=
  (exL_it SKc SKn SKr CS (lkp T_L_law) [F_L_count, F_X7_count, F_X7_thrown, F_L_isNew, F_X7_isNew, F_L_rightOf, F_X7_rightOf, F_X6_rights, F_X7_rights, F_L_earns, F_X7_earns, F_L_seriesOf, F_X7_seriesOf, F_L_ahead, F_X7_ahead, F_L_requestOf, F_X7_requestOf, F_L_noise, F_X7_noise, F_L_worst, F_X7_worst, F_L_load, F_X7_load, F_X6_season, F_X7_season, F_L_end, F_X7_end, F_L_close, F_X7_close, F_L_fly, F_X7_fly, F_L_lease, F_X7_lease, F_L_swap, F_X7_swap, F_L_giveBack, F_X7_giveBack, F_L_accept, F_X7_accept, F_L_confer, F_X7_confer, F_L_link, F_X7_link, F_L_request, F_X7_request, F_L_merge, F_X7_merge, F_L_quota, F_X7_quota, F_L_curfew, F_X7_curfew, F_L_revise, F_X7_revise, F_L_declare, F_X7_declare] [] [[164, 256, 336, 396, 464, 532, 692, 740, 784, 847, 915, 963, 1031, 1111, 1198, 1242, 1255, 1373, 1465, 1521, 1589, 1645, 1713, 1776, 1789, 1857, 1932]] [23, 253, 333, 461, 529, 689, 781, 838, 844, 912, 1028, 1108, 1189, 1195, 1239, 1370, 1462, 1518, 1586, 1642, 1710, 1767, 1773, 1854, 1923, 1929, 1985, 1988] 4 838 [.ref 1000, .ref 0, .ref 227, .ref 275, .int x4, .retAddr 0, .retAddr 0] [.long (s0), .long (s1)] h).trans rfl
set_option maxRecDepth 100000 in
set_option maxHeartbeats 4000000 in
theorem e_L_law_844 (x4 : Int32) (h : Hp) : f_L_law_844 x4 h = f_L_law_1988 x4 h :=
  (exL_it SKc SKn SKr CS (lkp T_L_law) [F_L_count, F_X7_count, F_X7_thrown, F_L_isNew, F_X7_isNew, F_L_rightOf, F_X7_rightOf, F_X6_rights, F_X7_rights, F_L_earns, F_X7_earns, F_L_seriesOf, F_X7_seriesOf, F_L_ahead, F_X7_ahead, F_L_requestOf, F_X7_requestOf, F_L_noise, F_X7_noise, F_L_worst, F_X7_worst, F_L_load, F_X7_load, F_X6_season, F_X7_season, F_L_end, F_X7_end, F_L_close, F_X7_close, F_L_fly, F_X7_fly, F_L_lease, F_X7_lease, F_L_swap, F_X7_swap, F_L_giveBack, F_X7_giveBack, F_L_accept, F_X7_accept, F_L_confer, F_X7_confer, F_L_link, F_X7_link, F_L_request, F_X7_request, F_L_merge, F_X7_merge, F_L_quota, F_X7_quota, F_L_curfew, F_X7_curfew, F_L_revise, F_X7_revise, F_L_declare, F_X7_declare] [] [[164, 256, 336, 396, 464, 532, 692, 740, 784, 847, 915, 963, 1031, 1111, 1198, 1242, 1255, 1373, 1465, 1521, 1589, 1645, 1713, 1776, 1789, 1857, 1932]] [23, 253, 333, 461, 529, 689, 781, 838, 844, 912, 1028, 1108, 1189, 1195, 1239, 1370, 1462, 1518, 1586, 1642, 1710, 1767, 1773, 1854, 1923, 1929, 1985, 1988] 1 844 [.ref 1000, .ref 0, .ref 227, .ref 275, .int x4, .retAddr 0, .retAddr 0] [] h).trans rfl
set_option maxRecDepth 100000 in
set_option maxHeartbeats 4000000 in
theorem e_L_law_912 (x4 : Int32) (h : Hp) : f_L_law_912 x4 h = f_L_law_1988 x4 h :=
  (exL_it SKc SKn SKr CS (lkp T_L_law) [F_L_count, F_X7_count, F_X7_thrown, F_L_isNew, F_X7_isNew, F_L_rightOf, F_X7_rightOf, F_X6_rights, F_X7_rights, F_L_earns, F_X7_earns, F_L_seriesOf, F_X7_seriesOf, F_L_ahead, F_X7_ahead, F_L_requestOf, F_X7_requestOf, F_L_noise, F_X7_noise, F_L_worst, F_X7_worst, F_L_load, F_X7_load, F_X6_season, F_X7_season, F_L_end, F_X7_end, F_L_close, F_X7_close, F_L_fly, F_X7_fly, F_L_lease, F_X7_lease, F_L_swap, F_X7_swap, F_L_giveBack, F_X7_giveBack, F_L_accept, F_X7_accept, F_L_confer, F_X7_confer, F_L_link, F_X7_link, F_L_request, F_X7_request, F_L_merge, F_X7_merge, F_L_quota, F_X7_quota, F_L_curfew, F_X7_curfew, F_L_revise, F_X7_revise, F_L_declare, F_X7_declare] [] [[164, 256, 336, 396, 464, 532, 692, 740, 784, 847, 915, 963, 1031, 1111, 1198, 1242, 1255, 1373, 1465, 1521, 1589, 1645, 1713, 1776, 1789, 1857, 1932]] [23, 253, 333, 461, 529, 689, 781, 838, 844, 912, 1028, 1108, 1189, 1195, 1239, 1370, 1462, 1518, 1586, 1642, 1710, 1767, 1773, 1854, 1923, 1929, 1985, 1988] 1 912 [.ref 1000, .ref 0, .ref 227, .ref 275, .int x4, .retAddr 0, .retAddr 0] [] h).trans rfl
set_option maxRecDepth 100000 in
set_option maxHeartbeats 4000000 in
theorem e_L_law_1028 (x4 : Int32) (h : Hp) : f_L_law_1028 x4 h = f_L_law_1988 x4 h :=
  (exL_it SKc SKn SKr CS (lkp T_L_law) [F_L_count, F_X7_count, F_X7_thrown, F_L_isNew, F_X7_isNew, F_L_rightOf, F_X7_rightOf, F_X6_rights, F_X7_rights, F_L_earns, F_X7_earns, F_L_seriesOf, F_X7_seriesOf, F_L_ahead, F_X7_ahead, F_L_requestOf, F_X7_requestOf, F_L_noise, F_X7_noise, F_L_worst, F_X7_worst, F_L_load, F_X7_load, F_X6_season, F_X7_season, F_L_end, F_X7_end, F_L_close, F_X7_close, F_L_fly, F_X7_fly, F_L_lease, F_X7_lease, F_L_swap, F_X7_swap, F_L_giveBack, F_X7_giveBack, F_L_accept, F_X7_accept, F_L_confer, F_X7_confer, F_L_link, F_X7_link, F_L_request, F_X7_request, F_L_merge, F_X7_merge, F_L_quota, F_X7_quota, F_L_curfew, F_X7_curfew, F_L_revise, F_X7_revise, F_L_declare, F_X7_declare] [] [[164, 256, 336, 396, 464, 532, 692, 740, 784, 847, 915, 963, 1031, 1111, 1198, 1242, 1255, 1373, 1465, 1521, 1589, 1645, 1713, 1776, 1789, 1857, 1932]] [23, 253, 333, 461, 529, 689, 781, 838, 844, 912, 1028, 1108, 1189, 1195, 1239, 1370, 1462, 1518, 1586, 1642, 1710, 1767, 1773, 1854, 1923, 1929, 1985, 1988] 1 1028 [.ref 1000, .ref 0, .ref 227, .ref 275, .int x4, .retAddr 0, .retAddr 0] [] h).trans rfl
set_option maxRecDepth 100000 in
set_option maxHeartbeats 4000000 in
theorem e_L_law_1108 (x4 : Int32) (h : Hp) : f_L_law_1108 x4 h = f_L_law_1988 x4 h :=
  (exL_it SKc SKn SKr CS (lkp T_L_law) [F_L_count, F_X7_count, F_X7_thrown, F_L_isNew, F_X7_isNew, F_L_rightOf, F_X7_rightOf, F_X6_rights, F_X7_rights, F_L_earns, F_X7_earns, F_L_seriesOf, F_X7_seriesOf, F_L_ahead, F_X7_ahead, F_L_requestOf, F_X7_requestOf, F_L_noise, F_X7_noise, F_L_worst, F_X7_worst, F_L_load, F_X7_load, F_X6_season, F_X7_season, F_L_end, F_X7_end, F_L_close, F_X7_close, F_L_fly, F_X7_fly, F_L_lease, F_X7_lease, F_L_swap, F_X7_swap, F_L_giveBack, F_X7_giveBack, F_L_accept, F_X7_accept, F_L_confer, F_X7_confer, F_L_link, F_X7_link, F_L_request, F_X7_request, F_L_merge, F_X7_merge, F_L_quota, F_X7_quota, F_L_curfew, F_X7_curfew, F_L_revise, F_X7_revise, F_L_declare, F_X7_declare] [] [[164, 256, 336, 396, 464, 532, 692, 740, 784, 847, 915, 963, 1031, 1111, 1198, 1242, 1255, 1373, 1465, 1521, 1589, 1645, 1713, 1776, 1789, 1857, 1932]] [23, 253, 333, 461, 529, 689, 781, 838, 844, 912, 1028, 1108, 1189, 1195, 1239, 1370, 1462, 1518, 1586, 1642, 1710, 1767, 1773, 1854, 1923, 1929, 1985, 1988] 1 1108 [.ref 1000, .ref 0, .ref 227, .ref 275, .int x4, .retAddr 0, .retAddr 0] [] h).trans rfl
set_option maxRecDepth 100000 in
set_option maxHeartbeats 4000000 in
theorem e_L_law_1189 (x4 : Int32) (s0 : Int64) (s1 : Int64) (h : Hp) : f_L_law_1189 x4 s0 s1 h = if (lg_cmp (s1) (s0)) = 0 then f_L_law_1195 x4 h else rtn (some (.int 0)) h :=
  (exL_it SKc SKn SKr CS (lkp T_L_law) [F_L_count, F_X7_count, F_X7_thrown, F_L_isNew, F_X7_isNew, F_L_rightOf, F_X7_rightOf, F_X6_rights, F_X7_rights, F_L_earns, F_X7_earns, F_L_seriesOf, F_X7_seriesOf, F_L_ahead, F_X7_ahead, F_L_requestOf, F_X7_requestOf, F_L_noise, F_X7_noise, F_L_worst, F_X7_worst, F_L_load, F_X7_load, F_X6_season, F_X7_season, F_L_end, F_X7_end, F_L_close, F_X7_close, F_L_fly, F_X7_fly, F_L_lease, F_X7_lease, F_L_swap, F_X7_swap, F_L_giveBack, F_X7_giveBack, F_L_accept, F_X7_accept, F_L_confer, F_X7_confer, F_L_link, F_X7_link, F_L_request, F_X7_request, F_L_merge, F_X7_merge, F_L_quota, F_X7_quota, F_L_curfew, F_X7_curfew, F_L_revise, F_X7_revise, F_L_declare, F_X7_declare] [] [[164, 256, 336, 396, 464, 532, 692, 740, 784, 847, 915, 963, 1031, 1111, 1198, 1242, 1255, 1373, 1465, 1521, 1589, 1645, 1713, 1776, 1789, 1857, 1932]] [23, 253, 333, 461, 529, 689, 781, 838, 844, 912, 1028, 1108, 1189, 1195, 1239, 1370, 1462, 1518, 1586, 1642, 1710, 1767, 1773, 1854, 1923, 1929, 1985, 1988] 4 1189 [.ref 1000, .ref 0, .ref 227, .ref 275, .int x4, .retAddr 0, .retAddr 0] [.long (s0), .long (s1)] h).trans rfl
set_option maxRecDepth 100000 in
set_option maxHeartbeats 4000000 in
theorem e_L_law_1195 (x4 : Int32) (h : Hp) : f_L_law_1195 x4 h = f_L_law_1988 x4 h :=
  (exL_it SKc SKn SKr CS (lkp T_L_law) [F_L_count, F_X7_count, F_X7_thrown, F_L_isNew, F_X7_isNew, F_L_rightOf, F_X7_rightOf, F_X6_rights, F_X7_rights, F_L_earns, F_X7_earns, F_L_seriesOf, F_X7_seriesOf, F_L_ahead, F_X7_ahead, F_L_requestOf, F_X7_requestOf, F_L_noise, F_X7_noise, F_L_worst, F_X7_worst, F_L_load, F_X7_load, F_X6_season, F_X7_season, F_L_end, F_X7_end, F_L_close, F_X7_close, F_L_fly, F_X7_fly, F_L_lease, F_X7_lease, F_L_swap, F_X7_swap, F_L_giveBack, F_X7_giveBack, F_L_accept, F_X7_accept, F_L_confer, F_X7_confer, F_L_link, F_X7_link, F_L_request, F_X7_request, F_L_merge, F_X7_merge, F_L_quota, F_X7_quota, F_L_curfew, F_X7_curfew, F_L_revise, F_X7_revise, F_L_declare, F_X7_declare] [] [[164, 256, 336, 396, 464, 532, 692, 740, 784, 847, 915, 963, 1031, 1111, 1198, 1242, 1255, 1373, 1465, 1521, 1589, 1645, 1713, 1776, 1789, 1857, 1932]] [23, 253, 333, 461, 529, 689, 781, 838, 844, 912, 1028, 1108, 1189, 1195, 1239, 1370, 1462, 1518, 1586, 1642, 1710, 1767, 1773, 1854, 1923, 1929, 1985, 1988] 1 1195 [.ref 1000, .ref 0, .ref 227, .ref 275, .int x4, .retAddr 0, .retAddr 0] [] h).trans rfl
set_option maxRecDepth 100000 in
set_option maxHeartbeats 4000000 in
theorem e_L_law_1239 (x4 : Int32) (h : Hp) : f_L_law_1239 x4 h = f_L_law_1988 x4 h :=
  (exL_it SKc SKn SKr CS (lkp T_L_law) [F_L_count, F_X7_count, F_X7_thrown, F_L_isNew, F_X7_isNew, F_L_rightOf, F_X7_rightOf, F_X6_rights, F_X7_rights, F_L_earns, F_X7_earns, F_L_seriesOf, F_X7_seriesOf, F_L_ahead, F_X7_ahead, F_L_requestOf, F_X7_requestOf, F_L_noise, F_X7_noise, F_L_worst, F_X7_worst, F_L_load, F_X7_load, F_X6_season, F_X7_season, F_L_end, F_X7_end, F_L_close, F_X7_close, F_L_fly, F_X7_fly, F_L_lease, F_X7_lease, F_L_swap, F_X7_swap, F_L_giveBack, F_X7_giveBack, F_L_accept, F_X7_accept, F_L_confer, F_X7_confer, F_L_link, F_X7_link, F_L_request, F_X7_request, F_L_merge, F_X7_merge, F_L_quota, F_X7_quota, F_L_curfew, F_X7_curfew, F_L_revise, F_X7_revise, F_L_declare, F_X7_declare] [] [[164, 256, 336, 396, 464, 532, 692, 740, 784, 847, 915, 963, 1031, 1111, 1198, 1242, 1255, 1373, 1465, 1521, 1589, 1645, 1713, 1776, 1789, 1857, 1932]] [23, 253, 333, 461, 529, 689, 781, 838, 844, 912, 1028, 1108, 1189, 1195, 1239, 1370, 1462, 1518, 1586, 1642, 1710, 1767, 1773, 1854, 1923, 1929, 1985, 1988] 1 1239 [.ref 1000, .ref 0, .ref 227, .ref 275, .int x4, .retAddr 0, .retAddr 0] [] h).trans rfl
set_option maxRecDepth 100000 in
set_option maxHeartbeats 4000000 in
theorem e_L_law_1370 (x4 : Int32) (h : Hp) : f_L_law_1370 x4 h = f_L_law_1988 x4 h :=
  (exL_it SKc SKn SKr CS (lkp T_L_law) [F_L_count, F_X7_count, F_X7_thrown, F_L_isNew, F_X7_isNew, F_L_rightOf, F_X7_rightOf, F_X6_rights, F_X7_rights, F_L_earns, F_X7_earns, F_L_seriesOf, F_X7_seriesOf, F_L_ahead, F_X7_ahead, F_L_requestOf, F_X7_requestOf, F_L_noise, F_X7_noise, F_L_worst, F_X7_worst, F_L_load, F_X7_load, F_X6_season, F_X7_season, F_L_end, F_X7_end, F_L_close, F_X7_close, F_L_fly, F_X7_fly, F_L_lease, F_X7_lease, F_L_swap, F_X7_swap, F_L_giveBack, F_X7_giveBack, F_L_accept, F_X7_accept, F_L_confer, F_X7_confer, F_L_link, F_X7_link, F_L_request, F_X7_request, F_L_merge, F_X7_merge, F_L_quota, F_X7_quota, F_L_curfew, F_X7_curfew, F_L_revise, F_X7_revise, F_L_declare, F_X7_declare] [] [[164, 256, 336, 396, 464, 532, 692, 740, 784, 847, 915, 963, 1031, 1111, 1198, 1242, 1255, 1373, 1465, 1521, 1589, 1645, 1713, 1776, 1789, 1857, 1932]] [23, 253, 333, 461, 529, 689, 781, 838, 844, 912, 1028, 1108, 1189, 1195, 1239, 1370, 1462, 1518, 1586, 1642, 1710, 1767, 1773, 1854, 1923, 1929, 1985, 1988] 1 1370 [.ref 1000, .ref 0, .ref 227, .ref 275, .int x4, .retAddr 0, .retAddr 0] [] h).trans rfl
set_option maxRecDepth 100000 in
set_option maxHeartbeats 4000000 in
theorem e_L_law_1462 (x4 : Int32) (h : Hp) : f_L_law_1462 x4 h = f_L_law_1988 x4 h :=
  (exL_it SKc SKn SKr CS (lkp T_L_law) [F_L_count, F_X7_count, F_X7_thrown, F_L_isNew, F_X7_isNew, F_L_rightOf, F_X7_rightOf, F_X6_rights, F_X7_rights, F_L_earns, F_X7_earns, F_L_seriesOf, F_X7_seriesOf, F_L_ahead, F_X7_ahead, F_L_requestOf, F_X7_requestOf, F_L_noise, F_X7_noise, F_L_worst, F_X7_worst, F_L_load, F_X7_load, F_X6_season, F_X7_season, F_L_end, F_X7_end, F_L_close, F_X7_close, F_L_fly, F_X7_fly, F_L_lease, F_X7_lease, F_L_swap, F_X7_swap, F_L_giveBack, F_X7_giveBack, F_L_accept, F_X7_accept, F_L_confer, F_X7_confer, F_L_link, F_X7_link, F_L_request, F_X7_request, F_L_merge, F_X7_merge, F_L_quota, F_X7_quota, F_L_curfew, F_X7_curfew, F_L_revise, F_X7_revise, F_L_declare, F_X7_declare] [] [[164, 256, 336, 396, 464, 532, 692, 740, 784, 847, 915, 963, 1031, 1111, 1198, 1242, 1255, 1373, 1465, 1521, 1589, 1645, 1713, 1776, 1789, 1857, 1932]] [23, 253, 333, 461, 529, 689, 781, 838, 844, 912, 1028, 1108, 1189, 1195, 1239, 1370, 1462, 1518, 1586, 1642, 1710, 1767, 1773, 1854, 1923, 1929, 1985, 1988] 1 1462 [.ref 1000, .ref 0, .ref 227, .ref 275, .int x4, .retAddr 0, .retAddr 0] [] h).trans rfl
set_option maxRecDepth 100000 in
set_option maxHeartbeats 4000000 in
theorem e_L_law_1518 (x4 : Int32) (h : Hp) : f_L_law_1518 x4 h = f_L_law_1988 x4 h :=
  (exL_it SKc SKn SKr CS (lkp T_L_law) [F_L_count, F_X7_count, F_X7_thrown, F_L_isNew, F_X7_isNew, F_L_rightOf, F_X7_rightOf, F_X6_rights, F_X7_rights, F_L_earns, F_X7_earns, F_L_seriesOf, F_X7_seriesOf, F_L_ahead, F_X7_ahead, F_L_requestOf, F_X7_requestOf, F_L_noise, F_X7_noise, F_L_worst, F_X7_worst, F_L_load, F_X7_load, F_X6_season, F_X7_season, F_L_end, F_X7_end, F_L_close, F_X7_close, F_L_fly, F_X7_fly, F_L_lease, F_X7_lease, F_L_swap, F_X7_swap, F_L_giveBack, F_X7_giveBack, F_L_accept, F_X7_accept, F_L_confer, F_X7_confer, F_L_link, F_X7_link, F_L_request, F_X7_request, F_L_merge, F_X7_merge, F_L_quota, F_X7_quota, F_L_curfew, F_X7_curfew, F_L_revise, F_X7_revise, F_L_declare, F_X7_declare] [] [[164, 256, 336, 396, 464, 532, 692, 740, 784, 847, 915, 963, 1031, 1111, 1198, 1242, 1255, 1373, 1465, 1521, 1589, 1645, 1713, 1776, 1789, 1857, 1932]] [23, 253, 333, 461, 529, 689, 781, 838, 844, 912, 1028, 1108, 1189, 1195, 1239, 1370, 1462, 1518, 1586, 1642, 1710, 1767, 1773, 1854, 1923, 1929, 1985, 1988] 1 1518 [.ref 1000, .ref 0, .ref 227, .ref 275, .int x4, .retAddr 0, .retAddr 0] [] h).trans rfl
set_option maxRecDepth 100000 in
set_option maxHeartbeats 4000000 in
theorem e_L_law_1586 (x4 : Int32) (h : Hp) : f_L_law_1586 x4 h = f_L_law_1988 x4 h :=
  (exL_it SKc SKn SKr CS (lkp T_L_law) [F_L_count, F_X7_count, F_X7_thrown, F_L_isNew, F_X7_isNew, F_L_rightOf, F_X7_rightOf, F_X6_rights, F_X7_rights, F_L_earns, F_X7_earns, F_L_seriesOf, F_X7_seriesOf, F_L_ahead, F_X7_ahead, F_L_requestOf, F_X7_requestOf, F_L_noise, F_X7_noise, F_L_worst, F_X7_worst, F_L_load, F_X7_load, F_X6_season, F_X7_season, F_L_end, F_X7_end, F_L_close, F_X7_close, F_L_fly, F_X7_fly, F_L_lease, F_X7_lease, F_L_swap, F_X7_swap, F_L_giveBack, F_X7_giveBack, F_L_accept, F_X7_accept, F_L_confer, F_X7_confer, F_L_link, F_X7_link, F_L_request, F_X7_request, F_L_merge, F_X7_merge, F_L_quota, F_X7_quota, F_L_curfew, F_X7_curfew, F_L_revise, F_X7_revise, F_L_declare, F_X7_declare] [] [[164, 256, 336, 396, 464, 532, 692, 740, 784, 847, 915, 963, 1031, 1111, 1198, 1242, 1255, 1373, 1465, 1521, 1589, 1645, 1713, 1776, 1789, 1857, 1932]] [23, 253, 333, 461, 529, 689, 781, 838, 844, 912, 1028, 1108, 1189, 1195, 1239, 1370, 1462, 1518, 1586, 1642, 1710, 1767, 1773, 1854, 1923, 1929, 1985, 1988] 1 1586 [.ref 1000, .ref 0, .ref 227, .ref 275, .int x4, .retAddr 0, .retAddr 0] [] h).trans rfl
set_option maxRecDepth 100000 in
set_option maxHeartbeats 4000000 in
theorem e_L_law_1642 (x4 : Int32) (h : Hp) : f_L_law_1642 x4 h = f_L_law_1988 x4 h :=
  (exL_it SKc SKn SKr CS (lkp T_L_law) [F_L_count, F_X7_count, F_X7_thrown, F_L_isNew, F_X7_isNew, F_L_rightOf, F_X7_rightOf, F_X6_rights, F_X7_rights, F_L_earns, F_X7_earns, F_L_seriesOf, F_X7_seriesOf, F_L_ahead, F_X7_ahead, F_L_requestOf, F_X7_requestOf, F_L_noise, F_X7_noise, F_L_worst, F_X7_worst, F_L_load, F_X7_load, F_X6_season, F_X7_season, F_L_end, F_X7_end, F_L_close, F_X7_close, F_L_fly, F_X7_fly, F_L_lease, F_X7_lease, F_L_swap, F_X7_swap, F_L_giveBack, F_X7_giveBack, F_L_accept, F_X7_accept, F_L_confer, F_X7_confer, F_L_link, F_X7_link, F_L_request, F_X7_request, F_L_merge, F_X7_merge, F_L_quota, F_X7_quota, F_L_curfew, F_X7_curfew, F_L_revise, F_X7_revise, F_L_declare, F_X7_declare] [] [[164, 256, 336, 396, 464, 532, 692, 740, 784, 847, 915, 963, 1031, 1111, 1198, 1242, 1255, 1373, 1465, 1521, 1589, 1645, 1713, 1776, 1789, 1857, 1932]] [23, 253, 333, 461, 529, 689, 781, 838, 844, 912, 1028, 1108, 1189, 1195, 1239, 1370, 1462, 1518, 1586, 1642, 1710, 1767, 1773, 1854, 1923, 1929, 1985, 1988] 1 1642 [.ref 1000, .ref 0, .ref 227, .ref 275, .int x4, .retAddr 0, .retAddr 0] [] h).trans rfl
set_option maxRecDepth 100000 in
set_option maxHeartbeats 4000000 in
theorem e_L_law_1710 (x4 : Int32) (h : Hp) : f_L_law_1710 x4 h = f_L_law_1988 x4 h :=
  (exL_it SKc SKn SKr CS (lkp T_L_law) [F_L_count, F_X7_count, F_X7_thrown, F_L_isNew, F_X7_isNew, F_L_rightOf, F_X7_rightOf, F_X6_rights, F_X7_rights, F_L_earns, F_X7_earns, F_L_seriesOf, F_X7_seriesOf, F_L_ahead, F_X7_ahead, F_L_requestOf, F_X7_requestOf, F_L_noise, F_X7_noise, F_L_worst, F_X7_worst, F_L_load, F_X7_load, F_X6_season, F_X7_season, F_L_end, F_X7_end, F_L_close, F_X7_close, F_L_fly, F_X7_fly, F_L_lease, F_X7_lease, F_L_swap, F_X7_swap, F_L_giveBack, F_X7_giveBack, F_L_accept, F_X7_accept, F_L_confer, F_X7_confer, F_L_link, F_X7_link, F_L_request, F_X7_request, F_L_merge, F_X7_merge, F_L_quota, F_X7_quota, F_L_curfew, F_X7_curfew, F_L_revise, F_X7_revise, F_L_declare, F_X7_declare] [] [[164, 256, 336, 396, 464, 532, 692, 740, 784, 847, 915, 963, 1031, 1111, 1198, 1242, 1255, 1373, 1465, 1521, 1589, 1645, 1713, 1776, 1789, 1857, 1932]] [23, 253, 333, 461, 529, 689, 781, 838, 844, 912, 1028, 1108, 1189, 1195, 1239, 1370, 1462, 1518, 1586, 1642, 1710, 1767, 1773, 1854, 1923, 1929, 1985, 1988] 1 1710 [.ref 1000, .ref 0, .ref 227, .ref 275, .int x4, .retAddr 0, .retAddr 0] [] h).trans rfl
set_option maxRecDepth 100000 in
set_option maxHeartbeats 4000000 in
theorem e_L_law_1767 (x4 : Int32) (s0 : Int64) (s1 : Int64) (h : Hp) : f_L_law_1767 x4 s0 s1 h = if (lg_cmp (s1) (s0)) = 0 then f_L_law_1773 x4 h else rtn (some (.int 0)) h :=
  (exL_it SKc SKn SKr CS (lkp T_L_law) [F_L_count, F_X7_count, F_X7_thrown, F_L_isNew, F_X7_isNew, F_L_rightOf, F_X7_rightOf, F_X6_rights, F_X7_rights, F_L_earns, F_X7_earns, F_L_seriesOf, F_X7_seriesOf, F_L_ahead, F_X7_ahead, F_L_requestOf, F_X7_requestOf, F_L_noise, F_X7_noise, F_L_worst, F_X7_worst, F_L_load, F_X7_load, F_X6_season, F_X7_season, F_L_end, F_X7_end, F_L_close, F_X7_close, F_L_fly, F_X7_fly, F_L_lease, F_X7_lease, F_L_swap, F_X7_swap, F_L_giveBack, F_X7_giveBack, F_L_accept, F_X7_accept, F_L_confer, F_X7_confer, F_L_link, F_X7_link, F_L_request, F_X7_request, F_L_merge, F_X7_merge, F_L_quota, F_X7_quota, F_L_curfew, F_X7_curfew, F_L_revise, F_X7_revise, F_L_declare, F_X7_declare] [] [[164, 256, 336, 396, 464, 532, 692, 740, 784, 847, 915, 963, 1031, 1111, 1198, 1242, 1255, 1373, 1465, 1521, 1589, 1645, 1713, 1776, 1789, 1857, 1932]] [23, 253, 333, 461, 529, 689, 781, 838, 844, 912, 1028, 1108, 1189, 1195, 1239, 1370, 1462, 1518, 1586, 1642, 1710, 1767, 1773, 1854, 1923, 1929, 1985, 1988] 4 1767 [.ref 1000, .ref 0, .ref 227, .ref 275, .int x4, .retAddr 0, .retAddr 0] [.long (s0), .long (s1)] h).trans rfl
set_option maxRecDepth 100000 in
set_option maxHeartbeats 4000000 in
theorem e_L_law_1773 (x4 : Int32) (h : Hp) : f_L_law_1773 x4 h = f_L_law_1988 x4 h :=
  (exL_it SKc SKn SKr CS (lkp T_L_law) [F_L_count, F_X7_count, F_X7_thrown, F_L_isNew, F_X7_isNew, F_L_rightOf, F_X7_rightOf, F_X6_rights, F_X7_rights, F_L_earns, F_X7_earns, F_L_seriesOf, F_X7_seriesOf, F_L_ahead, F_X7_ahead, F_L_requestOf, F_X7_requestOf, F_L_noise, F_X7_noise, F_L_worst, F_X7_worst, F_L_load, F_X7_load, F_X6_season, F_X7_season, F_L_end, F_X7_end, F_L_close, F_X7_close, F_L_fly, F_X7_fly, F_L_lease, F_X7_lease, F_L_swap, F_X7_swap, F_L_giveBack, F_X7_giveBack, F_L_accept, F_X7_accept, F_L_confer, F_X7_confer, F_L_link, F_X7_link, F_L_request, F_X7_request, F_L_merge, F_X7_merge, F_L_quota, F_X7_quota, F_L_curfew, F_X7_curfew, F_L_revise, F_X7_revise, F_L_declare, F_X7_declare] [] [[164, 256, 336, 396, 464, 532, 692, 740, 784, 847, 915, 963, 1031, 1111, 1198, 1242, 1255, 1373, 1465, 1521, 1589, 1645, 1713, 1776, 1789, 1857, 1932]] [23, 253, 333, 461, 529, 689, 781, 838, 844, 912, 1028, 1108, 1189, 1195, 1239, 1370, 1462, 1518, 1586, 1642, 1710, 1767, 1773, 1854, 1923, 1929, 1985, 1988] 1 1773 [.ref 1000, .ref 0, .ref 227, .ref 275, .int x4, .retAddr 0, .retAddr 0] [] h).trans rfl
set_option maxRecDepth 100000 in
set_option maxHeartbeats 4000000 in
theorem e_L_law_1854 (x4 : Int32) (h : Hp) : f_L_law_1854 x4 h = f_L_law_1988 x4 h :=
  (exL_it SKc SKn SKr CS (lkp T_L_law) [F_L_count, F_X7_count, F_X7_thrown, F_L_isNew, F_X7_isNew, F_L_rightOf, F_X7_rightOf, F_X6_rights, F_X7_rights, F_L_earns, F_X7_earns, F_L_seriesOf, F_X7_seriesOf, F_L_ahead, F_X7_ahead, F_L_requestOf, F_X7_requestOf, F_L_noise, F_X7_noise, F_L_worst, F_X7_worst, F_L_load, F_X7_load, F_X6_season, F_X7_season, F_L_end, F_X7_end, F_L_close, F_X7_close, F_L_fly, F_X7_fly, F_L_lease, F_X7_lease, F_L_swap, F_X7_swap, F_L_giveBack, F_X7_giveBack, F_L_accept, F_X7_accept, F_L_confer, F_X7_confer, F_L_link, F_X7_link, F_L_request, F_X7_request, F_L_merge, F_X7_merge, F_L_quota, F_X7_quota, F_L_curfew, F_X7_curfew, F_L_revise, F_X7_revise, F_L_declare, F_X7_declare] [] [[164, 256, 336, 396, 464, 532, 692, 740, 784, 847, 915, 963, 1031, 1111, 1198, 1242, 1255, 1373, 1465, 1521, 1589, 1645, 1713, 1776, 1789, 1857, 1932]] [23, 253, 333, 461, 529, 689, 781, 838, 844, 912, 1028, 1108, 1189, 1195, 1239, 1370, 1462, 1518, 1586, 1642, 1710, 1767, 1773, 1854, 1923, 1929, 1985, 1988] 1 1854 [.ref 1000, .ref 0, .ref 227, .ref 275, .int x4, .retAddr 0, .retAddr 0] [] h).trans rfl
set_option maxRecDepth 100000 in
set_option maxHeartbeats 4000000 in
theorem e_L_law_1923 (x4 : Int32) (s0 : Int64) (s1 : Int64) (h : Hp) : f_L_law_1923 x4 s0 s1 h = if (lg_cmp (s1) (s0)) = 0 then f_L_law_1929 x4 h else rtn (some (.int 0)) h :=
  (exL_it SKc SKn SKr CS (lkp T_L_law) [F_L_count, F_X7_count, F_X7_thrown, F_L_isNew, F_X7_isNew, F_L_rightOf, F_X7_rightOf, F_X6_rights, F_X7_rights, F_L_earns, F_X7_earns, F_L_seriesOf, F_X7_seriesOf, F_L_ahead, F_X7_ahead, F_L_requestOf, F_X7_requestOf, F_L_noise, F_X7_noise, F_L_worst, F_X7_worst, F_L_load, F_X7_load, F_X6_season, F_X7_season, F_L_end, F_X7_end, F_L_close, F_X7_close, F_L_fly, F_X7_fly, F_L_lease, F_X7_lease, F_L_swap, F_X7_swap, F_L_giveBack, F_X7_giveBack, F_L_accept, F_X7_accept, F_L_confer, F_X7_confer, F_L_link, F_X7_link, F_L_request, F_X7_request, F_L_merge, F_X7_merge, F_L_quota, F_X7_quota, F_L_curfew, F_X7_curfew, F_L_revise, F_X7_revise, F_L_declare, F_X7_declare] [] [[164, 256, 336, 396, 464, 532, 692, 740, 784, 847, 915, 963, 1031, 1111, 1198, 1242, 1255, 1373, 1465, 1521, 1589, 1645, 1713, 1776, 1789, 1857, 1932]] [23, 253, 333, 461, 529, 689, 781, 838, 844, 912, 1028, 1108, 1189, 1195, 1239, 1370, 1462, 1518, 1586, 1642, 1710, 1767, 1773, 1854, 1923, 1929, 1985, 1988] 4 1923 [.ref 1000, .ref 0, .ref 227, .ref 275, .int x4, .retAddr 0, .retAddr 0] [.long (s0), .long (s1)] h).trans rfl
set_option maxRecDepth 100000 in
set_option maxHeartbeats 4000000 in
theorem e_L_law_1929 (x4 : Int32) (h : Hp) : f_L_law_1929 x4 h = f_L_law_1988 x4 h :=
  (exL_it SKc SKn SKr CS (lkp T_L_law) [F_L_count, F_X7_count, F_X7_thrown, F_L_isNew, F_X7_isNew, F_L_rightOf, F_X7_rightOf, F_X6_rights, F_X7_rights, F_L_earns, F_X7_earns, F_L_seriesOf, F_X7_seriesOf, F_L_ahead, F_X7_ahead, F_L_requestOf, F_X7_requestOf, F_L_noise, F_X7_noise, F_L_worst, F_X7_worst, F_L_load, F_X7_load, F_X6_season, F_X7_season, F_L_end, F_X7_end, F_L_close, F_X7_close, F_L_fly, F_X7_fly, F_L_lease, F_X7_lease, F_L_swap, F_X7_swap, F_L_giveBack, F_X7_giveBack, F_L_accept, F_X7_accept, F_L_confer, F_X7_confer, F_L_link, F_X7_link, F_L_request, F_X7_request, F_L_merge, F_X7_merge, F_L_quota, F_X7_quota, F_L_curfew, F_X7_curfew, F_L_revise, F_X7_revise, F_L_declare, F_X7_declare] [] [[164, 256, 336, 396, 464, 532, 692, 740, 784, 847, 915, 963, 1031, 1111, 1198, 1242, 1255, 1373, 1465, 1521, 1589, 1645, 1713, 1776, 1789, 1857, 1932]] [23, 253, 333, 461, 529, 689, 781, 838, 844, 912, 1028, 1108, 1189, 1195, 1239, 1370, 1462, 1518, 1586, 1642, 1710, 1767, 1773, 1854, 1923, 1929, 1985, 1988] 1 1929 [.ref 1000, .ref 0, .ref 227, .ref 275, .int x4, .retAddr 0, .retAddr 0] [] h).trans rfl
set_option maxRecDepth 100000 in
set_option maxHeartbeats 4000000 in
theorem e_L_law_1985 (x4 : Int32) (h : Hp) : f_L_law_1985 x4 h = f_L_law_1988 x4 h :=
  (exL_it SKc SKn SKr CS (lkp T_L_law) [F_L_count, F_X7_count, F_X7_thrown, F_L_isNew, F_X7_isNew, F_L_rightOf, F_X7_rightOf, F_X6_rights, F_X7_rights, F_L_earns, F_X7_earns, F_L_seriesOf, F_X7_seriesOf, F_L_ahead, F_X7_ahead, F_L_requestOf, F_X7_requestOf, F_L_noise, F_X7_noise, F_L_worst, F_X7_worst, F_L_load, F_X7_load, F_X6_season, F_X7_season, F_L_end, F_X7_end, F_L_close, F_X7_close, F_L_fly, F_X7_fly, F_L_lease, F_X7_lease, F_L_swap, F_X7_swap, F_L_giveBack, F_X7_giveBack, F_L_accept, F_X7_accept, F_L_confer, F_X7_confer, F_L_link, F_X7_link, F_L_request, F_X7_request, F_L_merge, F_X7_merge, F_L_quota, F_X7_quota, F_L_curfew, F_X7_curfew, F_L_revise, F_X7_revise, F_L_declare, F_X7_declare] [] [[164, 256, 336, 396, 464, 532, 692, 740, 784, 847, 915, 963, 1031, 1111, 1198, 1242, 1255, 1373, 1465, 1521, 1589, 1645, 1713, 1776, 1789, 1857, 1932]] [23, 253, 333, 461, 529, 689, 781, 838, 844, 912, 1028, 1108, 1189, 1195, 1239, 1370, 1462, 1518, 1586, 1642, 1710, 1767, 1773, 1854, 1923, 1929, 1985, 1988] 1 1985 [.ref 1000, .ref 0, .ref 227, .ref 275, .int x4, .retAddr 0, .retAddr 0] [] h).trans rfl
set_option maxRecDepth 100000 in
set_option maxHeartbeats 4000000 in
theorem e_L_law_1988 (x4 : Int32) (h : Hp) : f_L_law_1988 x4 h = f_L_law_23 (x4 + 10) h :=
  (exL_it SKc SKn SKr CS (lkp T_L_law) [F_L_count, F_X7_count, F_X7_thrown, F_L_isNew, F_X7_isNew, F_L_rightOf, F_X7_rightOf, F_X6_rights, F_X7_rights, F_L_earns, F_X7_earns, F_L_seriesOf, F_X7_seriesOf, F_L_ahead, F_X7_ahead, F_L_requestOf, F_X7_requestOf, F_L_noise, F_X7_noise, F_L_worst, F_X7_worst, F_L_load, F_X7_load, F_X6_season, F_X7_season, F_L_end, F_X7_end, F_L_close, F_X7_close, F_L_fly, F_X7_fly, F_L_lease, F_X7_lease, F_L_swap, F_X7_swap, F_L_giveBack, F_X7_giveBack, F_L_accept, F_X7_accept, F_L_confer, F_X7_confer, F_L_link, F_X7_link, F_L_request, F_X7_request, F_L_merge, F_X7_merge, F_L_quota, F_X7_quota, F_L_curfew, F_X7_curfew, F_L_revise, F_X7_revise, F_L_declare, F_X7_declare] [] [[164, 256, 336, 396, 464, 532, 692, 740, 784, 847, 915, 963, 1031, 1111, 1198, 1242, 1255, 1373, 1465, 1521, 1589, 1645, 1713, 1776, 1789, 1857, 1932]] [23, 253, 333, 461, 529, 689, 781, 838, 844, 912, 1028, 1108, 1189, 1195, 1239, 1370, 1462, 1518, 1586, 1642, 1710, 1767, 1773, 1854, 1923, 1929, 1985, 1988] 2 1988 [.ref 1000, .ref 0, .ref 227, .ref 275, .int x4, .retAddr 0, .retAddr 0] [] h).trans rfl
end
