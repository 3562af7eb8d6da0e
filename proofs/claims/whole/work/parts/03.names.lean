-- begun with the kit's SKELETON (PART A) and the printed NAMES
-- ===== PART A: goes FIRST, ahead of the names: the tables' words, and 'selects' of the private methods out of them =====
/-- a private method of a class that the tables say can be made, by its rows of tables_1 -/
def lw_okq (q : MethodName × Nat) : Prop := (q.1.cls ≠ "java/lang/invoke/MethodHandle" ∧ q.1.cls ≠ "java/lang/invoke/VarHandle") ∧ Cond.instantiable q.1.cls q.2 ∈ tables_1 ∧ Cond.privateMethod q.1 ∈ tables_1 ∧ Cond.instanceMethod q.1 ∈ tables_1
theorem lw_p0 : lw_okq (⟨"SecondOboe", "layText", "()Z"⟩, 17) := ⟨⟨by decide +kernel, by decide +kernel⟩, List.mem_of_getElem? (i := 16) (by decide +kernel), List.mem_of_getElem? (i := 229) (by decide +kernel), List.mem_of_getElem? (i := 230) (by decide +kernel)⟩
theorem lw_p1 : lw_okq (⟨"SecondOboe$Reader", "endOfItem", "(I)I"⟩, 4) := ⟨⟨by decide +kernel, by decide +kernel⟩, List.mem_of_getElem? (i := 24) (by decide +kernel), List.mem_of_getElem? (i := 241) (by decide +kernel), List.mem_of_getElem? (i := 242) (by decide +kernel)⟩
theorem lw_p2 : lw_okq (⟨"SecondOboe$Reader", "figuresAt", "(I)I"⟩, 4) := ⟨⟨by decide +kernel, by decide +kernel⟩, List.mem_of_getElem? (i := 24) (by decide +kernel), List.mem_of_getElem? (i := 248) (by decide +kernel), List.mem_of_getElem? (i := 249) (by decide +kernel)⟩
theorem lw_p3 : lw_okq (⟨"SecondOboe$Reader", "letterAt", "(I)C"⟩, 4) := ⟨⟨by decide +kernel, by decide +kernel⟩, List.mem_of_getElem? (i := 24) (by decide +kernel), List.mem_of_getElem? (i := 252) (by decide +kernel), List.mem_of_getElem? (i := 253) (by decide +kernel)⟩
theorem lw_p4 : lw_okq (⟨"SecondOboe$Reader", "numberAt", "(II)I"⟩, 4) := ⟨⟨by decide +kernel, by decide +kernel⟩, List.mem_of_getElem? (i := 24) (by decide +kernel), List.mem_of_getElem? (i := 259) (by decide +kernel), List.mem_of_getElem? (i := 260) (by decide +kernel)⟩
theorem lw_p5 : lw_okq (⟨"SecondOboe$Reader", "takeItem", "(I)Z"⟩, 4) := ⟨⟨by decide +kernel, by decide +kernel⟩, List.mem_of_getElem? (i := 24) (by decide +kernel), List.mem_of_getElem? (i := 263) (by decide +kernel), List.mem_of_getElem? (i := 264) (by decide +kernel)⟩
theorem lw_p6 : lw_okq (⟨"SecondOboe$Band", "toldSet", "()I"⟩, 9) := ⟨⟨by decide +kernel, by decide +kernel⟩, List.mem_of_getElem? (i := 30) (by decide +kernel), List.mem_of_getElem? (i := 279) (by decide +kernel), List.mem_of_getElem? (i := 280) (by decide +kernel)⟩
theorem lw_p7 : lw_okq (⟨"SecondOboe", "settle", "()V"⟩, 17) := ⟨⟨by decide +kernel, by decide +kernel⟩, List.mem_of_getElem? (i := 16) (by decide +kernel), List.mem_of_getElem? (i := 302) (by decide +kernel), List.mem_of_getElem? (i := 303) (by decide +kernel)⟩
theorem lw_p8 : lw_okq (⟨"SecondOboe$Evening", "lookAround", "(I[II)V"⟩, 4) := ⟨⟨by decide +kernel, by decide +kernel⟩, List.mem_of_getElem? (i := 98) (by decide +kernel), List.mem_of_getElem? (i := 310) (by decide +kernel), List.mem_of_getElem? (i := 311) (by decide +kernel)⟩
theorem lw_p9 : lw_okq (⟨"SecondOboe$Evening", "comeAnyway", "(LSecondOboe$Band;I)I"⟩, 4) := ⟨⟨by decide +kernel, by decide +kernel⟩, List.mem_of_getElem? (i := 98) (by decide +kernel), List.mem_of_getElem? (i := 314) (by decide +kernel), List.mem_of_getElem? (i := 315) (by decide +kernel)⟩
theorem lw_p10 : lw_okq (⟨"SecondOboe$Evening", "comeAfter", "(LSecondOboe$Band;II)I"⟩, 4) := ⟨⟨by decide +kernel, by decide +kernel⟩, List.mem_of_getElem? (i := 98) (by decide +kernel), List.mem_of_getElem? (i := 318) (by decide +kernel), List.mem_of_getElem? (i := 319) (by decide +kernel)⟩
theorem lw_p11 : lw_okq (⟨"SecondOboe", "isInstrument", "(I)Z"⟩, 17) := ⟨⟨by decide +kernel, by decide +kernel⟩, List.mem_of_getElem? (i := 16) (by decide +kernel), List.mem_of_getElem? (i := 401) (by decide +kernel), List.mem_of_getElem? (i := 402) (by decide +kernel)⟩
theorem lw_p12 : lw_okq (⟨"SecondOboe", "seatOf", "(I)I"⟩, 17) := ⟨⟨by decide +kernel, by decide +kernel⟩, List.mem_of_getElem? (i := 16) (by decide +kernel), List.mem_of_getElem? (i := 405) (by decide +kernel), List.mem_of_getElem? (i := 406) (by decide +kernel)⟩
theorem lw_p13 : lw_okq (⟨"SecondOboe", "isBar", "(I)Z"⟩, 17) := ⟨⟨by decide +kernel, by decide +kernel⟩, List.mem_of_getElem? (i := 16) (by decide +kernel), List.mem_of_getElem? (i := 417) (by decide +kernel), List.mem_of_getElem? (i := 418) (by decide +kernel)⟩
theorem lw_p14 : lw_okq (⟨"SecondOboe", "missingIn", "(I)I"⟩, 17) := ⟨⟨by decide +kernel, by decide +kernel⟩, List.mem_of_getElem? (i := 16) (by decide +kernel), List.mem_of_getElem? (i := 429) (by decide +kernel), List.mem_of_getElem? (i := 430) (by decide +kernel)⟩
theorem lw_p15 : lw_okq (⟨"SecondOboe", "remember", "(I)V"⟩, 17) := ⟨⟨by decide +kernel, by decide +kernel⟩, List.mem_of_getElem? (i := 16) (by decide +kernel), List.mem_of_getElem? (i := 445) (by decide +kernel), List.mem_of_getElem? (i := 446) (by decide +kernel)⟩
def lw_privs_1 : List (MethodName × Nat) := [(⟨"SecondOboe", "layText", "()Z"⟩, 17), (⟨"SecondOboe$Reader", "endOfItem", "(I)I"⟩, 4), (⟨"SecondOboe$Reader", "figuresAt", "(I)I"⟩, 4), (⟨"SecondOboe$Reader", "letterAt", "(I)C"⟩, 4), (⟨"SecondOboe$Reader", "numberAt", "(II)I"⟩, 4), (⟨"SecondOboe$Reader", "takeItem", "(I)Z"⟩, 4), (⟨"SecondOboe$Band", "toldSet", "()I"⟩, 9), (⟨"SecondOboe", "settle", "()V"⟩, 17), (⟨"SecondOboe$Evening", "lookAround", "(I[II)V"⟩, 4), (⟨"SecondOboe$Evening", "comeAnyway", "(LSecondOboe$Band;I)I"⟩, 4), (⟨"SecondOboe$Evening", "comeAfter", "(LSecondOboe$Band;II)I"⟩, 4), (⟨"SecondOboe", "isInstrument", "(I)Z"⟩, 17), (⟨"SecondOboe", "seatOf", "(I)I"⟩, 17), (⟨"SecondOboe", "isBar", "(I)Z"⟩, 17), (⟨"SecondOboe", "missingIn", "(I)I"⟩, 17), (⟨"SecondOboe", "remember", "(I)V"⟩, 17)]
theorem lw_r1 : ∀ q ∈ lw_privs_1, lw_okq q := List.forall_mem_cons.mpr ⟨lw_p0, List.forall_mem_cons.mpr ⟨lw_p1, List.forall_mem_cons.mpr ⟨lw_p2, List.forall_mem_cons.mpr ⟨lw_p3, List.forall_mem_cons.mpr ⟨lw_p4, List.forall_mem_cons.mpr ⟨lw_p5, List.forall_mem_cons.mpr ⟨lw_p6, List.forall_mem_cons.mpr ⟨lw_p7, List.forall_mem_cons.mpr ⟨lw_p8, List.forall_mem_cons.mpr ⟨lw_p9, List.forall_mem_cons.mpr ⟨lw_p10, List.forall_mem_cons.mpr ⟨lw_p11, List.forall_mem_cons.mpr ⟨lw_p12, List.forall_mem_cons.mpr ⟨lw_p13, List.forall_mem_cons.mpr ⟨lw_p14, List.forall_mem_cons.mpr ⟨lw_p15, fun _ h => absurd h List.not_mem_nil⟩⟩⟩⟩⟩⟩⟩⟩⟩⟩⟩⟩⟩⟩⟩⟩
theorem lw_p16 : lw_okq (⟨"SecondOboe", "priceOf", "(I)I"⟩, 17) := ⟨⟨by decide +kernel, by decide +kernel⟩, List.mem_of_getElem? (i := 16) (by decide +kernel), List.mem_of_getElem? (i := 457) (by decide +kernel), List.mem_of_getElem? (i := 458) (by decide +kernel)⟩
theorem lw_p17 : lw_okq (⟨"SecondOboe", "surveyed", "()LSecondOboe$Survey;"⟩, 17) := ⟨⟨by decide +kernel, by decide +kernel⟩, List.mem_of_getElem? (i := 16) (by decide +kernel), List.mem_of_getElem? (i := 469) (by decide +kernel), List.mem_of_getElem? (i := 470) (by decide +kernel)⟩
theorem lw_p18 : lw_okq (⟨"SecondOboe$Survey", "begin", "(I[I)V"⟩, 11) := ⟨⟨by decide +kernel, by decide +kernel⟩, List.mem_of_getElem? (i := 124) (by decide +kernel), List.mem_of_getElem? (i := 477) (by decide +kernel), List.mem_of_getElem? (i := 478) (by decide +kernel)⟩
theorem lw_p19 : lw_okq (⟨"SecondOboe$Survey", "changesToTrial", "(I)I"⟩, 11) := ⟨⟨by decide +kernel, by decide +kernel⟩, List.mem_of_getElem? (i := 124) (by decide +kernel), List.mem_of_getElem? (i := 486) (by decide +kernel), List.mem_of_getElem? (i := 487) (by decide +kernel)⟩
theorem lw_p20 : lw_okq (⟨"SecondOboe$Survey", "soundsAlike", "(ILSecondOboe$Evening;)Z"⟩, 11) := ⟨⟨by decide +kernel, by decide +kernel⟩, List.mem_of_getElem? (i := 124) (by decide +kernel), List.mem_of_getElem? (i := 493) (by decide +kernel), List.mem_of_getElem? (i := 494) (by decide +kernel)⟩
theorem lw_p21 : lw_okq (⟨"SecondOboe$Survey", "goToNextSeating", "(I)V"⟩, 11) := ⟨⟨by decide +kernel, by decide +kernel⟩, List.mem_of_getElem? (i := 124) (by decide +kernel), List.mem_of_getElem? (i := 497) (by decide +kernel), List.mem_of_getElem? (i := 498) (by decide +kernel)⟩
theorem lw_p22 : lw_okq (⟨"SecondOboe", "agreesWithHeard", "(ILSecondOboe$Evening;)Z"⟩, 17) := ⟨⟨by decide +kernel, by decide +kernel⟩, List.mem_of_getElem? (i := 16) (by decide +kernel), List.mem_of_getElem? (i := 550) (by decide +kernel), List.mem_of_getElem? (i := 551) (by decide +kernel)⟩
theorem lw_p23 : lw_okq (⟨"SecondOboeModel", "begins", "()V"⟩, 21) := ⟨⟨by decide +kernel, by decide +kernel⟩, List.mem_of_getElem? (i := 584) (by decide +kernel), List.mem_of_getElem? (i := 590) (by decide +kernel), List.mem_of_getElem? (i := 591) (by decide +kernel)⟩
theorem lw_p24 : lw_okq (⟨"SecondOboeModel", "adds", "(III)V"⟩, 21) := ⟨⟨by decide +kernel, by decide +kernel⟩, List.mem_of_getElem? (i := 584) (by decide +kernel), List.mem_of_getElem? (i := 594) (by decide +kernel), List.mem_of_getElem? (i := 595) (by decide +kernel)⟩
theorem lw_p25 : lw_okq (⟨"SecondOboeModel", "sits", "(I)V"⟩, 21) := ⟨⟨by decide +kernel, by decide +kernel⟩, List.mem_of_getElem? (i := 584) (by decide +kernel), List.mem_of_getElem? (i := 598) (by decide +kernel), List.mem_of_getElem? (i := 599) (by decide +kernel)⟩
theorem lw_p26 : lw_okq (⟨"SecondOboeModel", "lays", "()V"⟩, 21) := ⟨⟨by decide +kernel, by decide +kernel⟩, List.mem_of_getElem? (i := 584) (by decide +kernel), List.mem_of_getElem? (i := 602) (by decide +kernel), List.mem_of_getElem? (i := 603) (by decide +kernel)⟩
theorem lw_p27 : lw_okq (⟨"SecondOboeModel", "reads", "()I"⟩, 21) := ⟨⟨by decide +kernel, by decide +kernel⟩, List.mem_of_getElem? (i := 584) (by decide +kernel), List.mem_of_getElem? (i := 685) (by decide +kernel), List.mem_of_getElem? (i := 686) (by decide +kernel)⟩
theorem lw_p28 : lw_okq (⟨"SecondOboeModel", "readsItem", "(I)Z"⟩, 21) := ⟨⟨by decide +kernel, by decide +kernel⟩, List.mem_of_getElem? (i := 584) (by decide +kernel), List.mem_of_getElem? (i := 689) (by decide +kernel), List.mem_of_getElem? (i := 690) (by decide +kernel)⟩
theorem lw_p29 : lw_okq (⟨"SecondOboeModel", "number", "(II)I"⟩, 21) := ⟨⟨by decide +kernel, by decide +kernel⟩, List.mem_of_getElem? (i := 584) (by decide +kernel), List.mem_of_getElem? (i := 693) (by decide +kernel), List.mem_of_getElem? (i := 694) (by decide +kernel)⟩
theorem lw_p30 : lw_okq (⟨"SecondOboeModel", "letterAt", "(I)I"⟩, 21) := ⟨⟨by decide +kernel, by decide +kernel⟩, List.mem_of_getElem? (i := 584) (by decide +kernel), List.mem_of_getElem? (i := 697) (by decide +kernel), List.mem_of_getElem? (i := 698) (by decide +kernel)⟩
theorem lw_p31 : lw_okq (⟨"SecondOboeModel", "isOne", "(I)Z"⟩, 21) := ⟨⟨by decide +kernel, by decide +kernel⟩, List.mem_of_getElem? (i := 584) (by decide +kernel), List.mem_of_getElem? (i := 712) (by decide +kernel), List.mem_of_getElem? (i := 713) (by decide +kernel)⟩
def lw_privs_2 : List (MethodName × Nat) := [(⟨"SecondOboe", "priceOf", "(I)I"⟩, 17), (⟨"SecondOboe", "surveyed", "()LSecondOboe$Survey;"⟩, 17), (⟨"SecondOboe$Survey", "begin", "(I[I)V"⟩, 11), (⟨"SecondOboe$Survey", "changesToTrial", "(I)I"⟩, 11), (⟨"SecondOboe$Survey", "soundsAlike", "(ILSecondOboe$Evening;)Z"⟩, 11), (⟨"SecondOboe$Survey", "goToNextSeating", "(I)V"⟩, 11), (⟨"SecondOboe", "agreesWithHeard", "(ILSecondOboe$Evening;)Z"⟩, 17), (⟨"SecondOboeModel", "begins", "()V"⟩, 21), (⟨"SecondOboeModel", "adds", "(III)V"⟩, 21), (⟨"SecondOboeModel", "sits", "(I)V"⟩, 21), (⟨"SecondOboeModel", "lays", "()V"⟩, 21), (⟨"SecondOboeModel", "reads", "()I"⟩, 21), (⟨"SecondOboeModel", "readsItem", "(I)Z"⟩, 21), (⟨"SecondOboeModel", "number", "(II)I"⟩, 21), (⟨"SecondOboeModel", "letterAt", "(I)I"⟩, 21), (⟨"SecondOboeModel", "isOne", "(I)Z"⟩, 21)]
theorem lw_r2 : ∀ q ∈ lw_privs_2, lw_okq q := List.forall_mem_cons.mpr ⟨lw_p16, List.forall_mem_cons.mpr ⟨lw_p17, List.forall_mem_cons.mpr ⟨lw_p18, List.forall_mem_cons.mpr ⟨lw_p19, List.forall_mem_cons.mpr ⟨lw_p20, List.forall_mem_cons.mpr ⟨lw_p21, List.forall_mem_cons.mpr ⟨lw_p22, List.forall_mem_cons.mpr ⟨lw_p23, List.forall_mem_cons.mpr ⟨lw_p24, List.forall_mem_cons.mpr ⟨lw_p25, List.forall_mem_cons.mpr ⟨lw_p26, List.forall_mem_cons.mpr ⟨lw_p27, List.forall_mem_cons.mpr ⟨lw_p28, List.forall_mem_cons.mpr ⟨lw_p29, List.forall_mem_cons.mpr ⟨lw_p30, List.forall_mem_cons.mpr ⟨lw_p31, fun _ h => absurd h List.not_mem_nil⟩⟩⟩⟩⟩⟩⟩⟩⟩⟩⟩⟩⟩⟩⟩⟩
theorem lw_p32 : lw_okq (⟨"SecondOboeModel", "asItIs", "()V"⟩, 21) := ⟨⟨by decide +kernel, by decide +kernel⟩, List.mem_of_getElem? (i := 584) (by decide +kernel), List.mem_of_getElem? (i := 716) (by decide +kernel), List.mem_of_getElem? (i := 717) (by decide +kernel)⟩
theorem lw_p33 : lw_okq (⟨"SecondOboeModel", "goes", "()I"⟩, 21) := ⟨⟨by decide +kernel, by decide +kernel⟩, List.mem_of_getElem? (i := 584) (by decide +kernel), List.mem_of_getElem? (i := 720) (by decide +kernel), List.mem_of_getElem? (i := 721) (by decide +kernel)⟩
theorem lw_p34 : lw_okq (⟨"SecondOboeModel", "askedIn", "(I)I"⟩, 21) := ⟨⟨by decide +kernel, by decide +kernel⟩, List.mem_of_getElem? (i := 584) (by decide +kernel), List.mem_of_getElem? (i := 724) (by decide +kernel), List.mem_of_getElem? (i := 725) (by decide +kernel)⟩
theorem lw_p35 : lw_okq (⟨"SecondOboeModel", "wants", "(III)Z"⟩, 21) := ⟨⟨by decide +kernel, by decide +kernel⟩, List.mem_of_getElem? (i := 584) (by decide +kernel), List.mem_of_getElem? (i := 728) (by decide +kernel), List.mem_of_getElem? (i := 729) (by decide +kernel)⟩
theorem lw_p36 : lw_okq (⟨"SecondOboeModel", "seatOf", "(I)I"⟩, 21) := ⟨⟨by decide +kernel, by decide +kernel⟩, List.mem_of_getElem? (i := 584) (by decide +kernel), List.mem_of_getElem? (i := 735) (by decide +kernel), List.mem_of_getElem? (i := 736) (by decide +kernel)⟩
theorem lw_p37 : lw_okq (⟨"SecondOboeModel", "isBar", "(I)Z"⟩, 21) := ⟨⟨by decide +kernel, by decide +kernel⟩, List.mem_of_getElem? (i := 584) (by decide +kernel), List.mem_of_getElem? (i := 747) (by decide +kernel), List.mem_of_getElem? (i := 748) (by decide +kernel)⟩
theorem lw_p38 : lw_okq (⟨"SecondOboeModel", "keeps", "()V"⟩, 21) := ⟨⟨by decide +kernel, by decide +kernel⟩, List.mem_of_getElem? (i := 584) (by decide +kernel), List.mem_of_getElem? (i := 772) (by decide +kernel), List.mem_of_getElem? (i := 773) (by decide +kernel)⟩
theorem lw_p39 : lw_okq (⟨"SecondOboeModel", "costOf", "(I)I"⟩, 21) := ⟨⟨by decide +kernel, by decide +kernel⟩, List.mem_of_getElem? (i := 584) (by decide +kernel), List.mem_of_getElem? (i := 780) (by decide +kernel), List.mem_of_getElem? (i := 781) (by decide +kernel)⟩
theorem lw_p40 : lw_okq (⟨"SecondOboeModel", "firstSeating", "()V"⟩, 21) := ⟨⟨by decide +kernel, by decide +kernel⟩, List.mem_of_getElem? (i := 584) (by decide +kernel), List.mem_of_getElem? (i := 792) (by decide +kernel), List.mem_of_getElem? (i := 793) (by decide +kernel)⟩
theorem lw_p41 : lw_okq (⟨"SecondOboeModel", "nextSeating", "()Z"⟩, 21) := ⟨⟨by decide +kernel, by decide +kernel⟩, List.mem_of_getElem? (i := 584) (by decide +kernel), List.mem_of_getElem? (i := 796) (by decide +kernel), List.mem_of_getElem? (i := 797) (by decide +kernel)⟩
theorem lw_p42 : lw_okq (⟨"SecondOboeModel", "swaps", "(II)V"⟩, 21) := ⟨⟨by decide +kernel, by decide +kernel⟩, List.mem_of_getElem? (i := 584) (by decide +kernel), List.mem_of_getElem? (i := 800) (by decide +kernel), List.mem_of_getElem? (i := 801) (by decide +kernel)⟩
theorem lw_p43 : lw_okq (⟨"SecondOboeModel", "far", "()I"⟩, 21) := ⟨⟨by decide +kernel, by decide +kernel⟩, List.mem_of_getElem? (i := 584) (by decide +kernel), List.mem_of_getElem? (i := 808) (by decide +kernel), List.mem_of_getElem? (i := 809) (by decide +kernel)⟩
theorem lw_p44 : lw_okq (⟨"SecondOboeModel", "share", "(II)I"⟩, 21) := ⟨⟨by decide +kernel, by decide +kernel⟩, List.mem_of_getElem? (i := 584) (by decide +kernel), List.mem_of_getElem? (i := 836) (by decide +kernel), List.mem_of_getElem? (i := 837) (by decide +kernel)⟩
def lw_privs_3 : List (MethodName × Nat) := [(⟨"SecondOboeModel", "asItIs", "()V"⟩, 21), (⟨"SecondOboeModel", "goes", "()I"⟩, 21), (⟨"SecondOboeModel", "askedIn", "(I)I"⟩, 21), (⟨"SecondOboeModel", "wants", "(III)Z"⟩, 21), (⟨"SecondOboeModel", "seatOf", "(I)I"⟩, 21), (⟨"SecondOboeModel", "isBar", "(I)Z"⟩, 21), (⟨"SecondOboeModel", "keeps", "()V"⟩, 21), (⟨"SecondOboeModel", "costOf", "(I)I"⟩, 21), (⟨"SecondOboeModel", "firstSeating", "()V"⟩, 21), (⟨"SecondOboeModel", "nextSeating", "()Z"⟩, 21), (⟨"SecondOboeModel", "swaps", "(II)V"⟩, 21), (⟨"SecondOboeModel", "far", "()I"⟩, 21), (⟨"SecondOboeModel", "share", "(II)I"⟩, 21)]
theorem lw_r3 : ∀ q ∈ lw_privs_3, lw_okq q := List.forall_mem_cons.mpr ⟨lw_p32, List.forall_mem_cons.mpr ⟨lw_p33, List.forall_mem_cons.mpr ⟨lw_p34, List.forall_mem_cons.mpr ⟨lw_p35, List.forall_mem_cons.mpr ⟨lw_p36, List.forall_mem_cons.mpr ⟨lw_p37, List.forall_mem_cons.mpr ⟨lw_p38, List.forall_mem_cons.mpr ⟨lw_p39, List.forall_mem_cons.mpr ⟨lw_p40, List.forall_mem_cons.mpr ⟨lw_p41, List.forall_mem_cons.mpr ⟨lw_p42, List.forall_mem_cons.mpr ⟨lw_p43, List.forall_mem_cons.mpr ⟨lw_p44, fun _ h => absurd h List.not_mem_nil⟩⟩⟩⟩⟩⟩⟩⟩⟩⟩⟩⟩⟩
def lw_privs : List (MethodName × Nat) := lw_privs_1 ++ (lw_privs_2 ++ (lw_privs_3))
def lw_tbl : List Cond := k2_sels lw_privs ++ tables_1
theorem lw_privs_ok : ∀ q ∈ lw_privs, lw_okq q := by
  show ∀ q ∈ lw_privs_1 ++ (lw_privs_2 ++ (lw_privs_3)), lw_okq q
  exact List.forall_mem_append.mpr ⟨lw_r1, List.forall_mem_append.mpr ⟨lw_r2, lw_r3⟩⟩
def RX0 : String := "SecondOboe$Band"
def TX0 : u_T := fun k => match k with
  | 0 => ("SecondOboe$Band", "kind", "[I", true)
  | 1 => ("SecondOboe$Band", "minds", "[I", true)
  | 2 => ("SecondOboe$Band", "price", "[I", true)
  | 3 => ("SecondOboe$Band", "size", "I", false)
  | 4 => ("SecondOboe$Band", "asks", "[I", true)
  | 5 => ("SecondOboe$Band", "bars", "I", false)
  | 6 => ("SecondOboe$Band", "toldToSit", "[I", true)
  | 7 => ("SecondOboe$Band", "toldSeats", "I", false)
  | _ => ("SecondOboe$Band", "gaps", "I", false)
def tyX0 : Nat → FieldType := fun k => match k with
  | 0 => .array .int
  | 1 => .array .int
  | 2 => .array .int
  | 3 => .int
  | 4 => .array .int
  | 5 => .int
  | 6 => .array .int
  | 7 => .int
  | _ => .int
abbrev wsX00 : List Cond := u_ws RX0 TX0 9
theorem nmX0 : ∀ a, a < 9 → ∀ b, b < 9 → a ≠ b → (TX0 a).2.1 ≠ (TX0 b).2.1 := by decide +kernel
theorem tyX0_ok : ∀ k, k < 9 → parseFieldDescriptor (TX0 k).2.2.1 = some (tyX0 k) := by decide +kernel
abbrev cX0_init : ByteArray := prog_2_method_1_code
def yX0_init : MethodName := ⟨RX0, "<init>", "()V"⟩
abbrev cX0_clear : ByteArray := prog_2_method_2_code
def yX0_clear : MethodName := ⟨RX0, "clear", "()V"⟩
abbrev cX0_copyFrom : ByteArray := prog_2_method_3_code
def yX0_copyFrom : MethodName := ⟨RX0, "copyFrom", "(LSecondOboe$Band;)V"⟩
abbrev cX0_addInstrument : ByteArray := prog_2_method_4_code
def yX0_addInstrument : MethodName := ⟨RX0, "addInstrument", "(III)Z"⟩
abbrev cX0_addBar : ByteArray := prog_2_method_5_code
def yX0_addBar : MethodName := ⟨RX0, "addBar", "(II)Z"⟩
abbrev cX0_addSeat : ByteArray := prog_2_method_6_code
def yX0_addSeat : MethodName := ⟨RX0, "addSeat", "(I)Z"⟩
abbrev cX0_addGap : ByteArray := prog_2_method_7_code
def yX0_addGap : MethodName := ⟨RX0, "addGap", "(I)Z"⟩
abbrev cX0_hasAllItNames : ByteArray := prog_2_method_8_code
def yX0_hasAllItNames : MethodName := ⟨RX0, "hasAllItNames", "()Z"⟩
abbrev cX0_seatAll : ByteArray := prog_2_method_9_code
def yX0_seatAll : MethodName := ⟨RX0, "seatAll", "([I)V"⟩
abbrev cX0_toldSet : ByteArray := prog_2_method_10_code
def yX0_toldSet : MethodName := ⟨RX0, "toldSet", "()I"⟩
def RX1 : String := "SecondOboe$Evening"
def TX1 : u_T := fun k => match k with
  | 0 => ("SecondOboe$Evening", "beside", "[I", true)
  | 1 => ("SecondOboe$Evening", "played", "[I", true)
  | 2 => ("SecondOboe$Evening", "sounded", "I", false)
  | _ => ("SecondOboe$Evening", "wholeBars", "I", false)
def tyX1 : Nat → FieldType := fun k => match k with
  | 0 => .array .int
  | 1 => .array .int
  | 2 => .int
  | _ => .int
abbrev wsX10 : List Cond := u_ws RX1 TX1 4
theorem nmX1 : ∀ a, a < 4 → ∀ b, b < 4 → a ≠ b → (TX1 a).2.1 ≠ (TX1 b).2.1 := by decide +kernel
theorem tyX1_ok : ∀ k, k < 4 → parseFieldDescriptor (TX1 k).2.2.1 = some (tyX1 k) := by decide +kernel
abbrev cX1_init : ByteArray := prog_3_method_1_code
def yX1_init : MethodName := ⟨RX1, "<init>", "()V"⟩
abbrev cX1_playAll : ByteArray := prog_3_method_2_code
def yX1_playAll : MethodName := ⟨RX1, "playAll", "(LSecondOboe$Band;[IIII)V"⟩
abbrev cX1_lookAround : ByteArray := prog_3_method_3_code
def yX1_lookAround : MethodName := ⟨RX1, "lookAround", "(I[II)V"⟩
abbrev cX1_comeAnyway : ByteArray := prog_3_method_4_code
def yX1_comeAnyway : MethodName := ⟨RX1, "comeAnyway", "(LSecondOboe$Band;I)I"⟩
abbrev cX1_comeAfter : ByteArray := prog_3_method_5_code
def yX1_comeAfter : MethodName := ⟨RX1, "comeAfter", "(LSecondOboe$Band;II)I"⟩
def RX2 : String := "SecondOboe$Reader"
def TX2 : u_T := fun k => match k with
  | 0 => ("SecondOboe$Reader", "draft", "LSecondOboe$Band;", true)
  | 1 => ("SecondOboe$Reader", "length", "I", false)
  | 2 => ("SecondOboe$Reader", "letters", "[C", true)
  | _ => ("SecondOboe$Reader", "numbers", "[I", true)
def tyX2 : Nat → FieldType := fun k => match k with
  | 0 => .object "SecondOboe$Band"
  | 1 => .int
  | 2 => .array .char
  | _ => .array .int
abbrev wsX20 : List Cond := u_ws RX2 TX2 4
theorem nmX2 : ∀ a, a < 4 → ∀ b, b < 4 → a ≠ b → (TX2 a).2.1 ≠ (TX2 b).2.1 := by decide +kernel
theorem tyX2_ok : ∀ k, k < 4 → parseFieldDescriptor (TX2 k).2.2.1 = some (tyX2 k) := by decide +kernel
abbrev cX2_init : ByteArray := prog_4_method_1_code
def yX2_init : MethodName := ⟨RX2, "<init>", "()V"⟩
abbrev cX2_append : ByteArray := prog_4_method_2_code
def yX2_append : MethodName := ⟨RX2, "append", "(C)Z"⟩
abbrev cX2_readAll : ByteArray := prog_4_method_3_code
def yX2_readAll : MethodName := ⟨RX2, "readAll", "()I"⟩
abbrev cX2_endOfItem : ByteArray := prog_4_method_4_code
def yX2_endOfItem : MethodName := ⟨RX2, "endOfItem", "(I)I"⟩
abbrev cX2_takeItem : ByteArray := prog_4_method_5_code
def yX2_takeItem : MethodName := ⟨RX2, "takeItem", "(I)Z"⟩
abbrev cX2_numbersBehind : ByteArray := prog_4_method_6_code
def yX2_numbersBehind : MethodName := ⟨RX2, "numbersBehind", "(I)I"⟩
abbrev cX2_figuresAt : ByteArray := prog_4_method_7_code
def yX2_figuresAt : MethodName := ⟨RX2, "figuresAt", "(I)I"⟩
abbrev cX2_numberAt : ByteArray := prog_4_method_8_code
def yX2_numberAt : MethodName := ⟨RX2, "numberAt", "(II)I"⟩
abbrev cX2_isFigure : ByteArray := prog_4_method_9_code
def yX2_isFigure : MethodName := ⟨RX2, "isFigure", "(C)Z"⟩
abbrev cX2_letterAt : ByteArray := prog_4_method_10_code
def yX2_letterAt : MethodName := ⟨RX2, "letterAt", "(I)C"⟩
def RX3 : String := "SecondOboe$Survey"
def TX3 : u_T := fun k => match k with
  | 0 => ("SecondOboe$Survey", "fresh", "Z", false)
  | 1 => ("SecondOboe$Survey", "seatings", "I", false)
  | 2 => ("SecondOboe$Survey", "wholeSeatings", "I", false)
  | 3 => ("SecondOboe$Survey", "alikeSeatings", "I", false)
  | 4 => ("SecondOboe$Survey", "fewestChanges", "I", false)
  | 5 => ("SecondOboe$Survey", "mostSounded", "I", false)
  | 6 => ("SecondOboe$Survey", "bestSitting", "[I", true)
  | 7 => ("SecondOboe$Survey", "seatingsBySounded", "[I", true)
  | 8 => ("SecondOboe$Survey", "trial", "[I", true)
  | 9 => ("SecondOboe$Survey", "seatNow", "[I", true)
  | _ => ("SecondOboe$Survey", "there", "LSecondOboe$Evening;", true)
def tyX3 : Nat → FieldType := fun k => match k with
  | 0 => .boolean
  | 1 => .int
  | 2 => .int
  | 3 => .int
  | 4 => .int
  | 5 => .int
  | 6 => .array .int
  | 7 => .array .int
  | 8 => .array .int
  | 9 => .array .int
  | _ => .object "SecondOboe$Evening"
abbrev wsX30 : List Cond := u_ws RX3 TX3 11
theorem nmX3 : ∀ a, a < 11 → ∀ b, b < 11 → a ≠ b → (TX3 a).2.1 ≠ (TX3 b).2.1 := by decide +kernel
theorem tyX3_ok : ∀ k, k < 11 → parseFieldDescriptor (TX3 k).2.2.1 = some (tyX3 k) := by decide +kernel
abbrev cX3_init : ByteArray := prog_5_method_1_code
def yX3_init : MethodName := ⟨RX3, "<init>", "()V"⟩
abbrev cX3_lookAtAll : ByteArray := prog_5_method_2_code
def yX3_lookAtAll : MethodName := ⟨RX3, "lookAtAll", "(LSecondOboe$Band;[IILSecondOboe$Evening;)V"⟩
abbrev cX3_begin : ByteArray := prog_5_method_3_code
def yX3_begin : MethodName := ⟨RX3, "begin", "(I[I)V"⟩
abbrev cX3_soundsAlike : ByteArray := prog_5_method_4_code
def yX3_soundsAlike : MethodName := ⟨RX3, "soundsAlike", "(ILSecondOboe$Evening;)Z"⟩
abbrev cX3_changesToTrial : ByteArray := prog_5_method_5_code
def yX3_changesToTrial : MethodName := ⟨RX3, "changesToTrial", "(I)I"⟩
abbrev cX3_goToNextSeating : ByteArray := prog_5_method_6_code
def yX3_goToNextSeating : MethodName := ⟨RX3, "goToNextSeating", "(I)V"⟩
def RX4 : String := "SecondOboe"
def TX4 : u_T := fun k => match k with
  | 0 => ("SecondOboe", "reader", "LSecondOboe$Reader;", true)
  | 1 => ("SecondOboe", "band", "LSecondOboe$Band;", true)
  | 2 => ("SecondOboe", "sitting", "[I", true)
  | 3 => ("SecondOboe", "bribed", "I", false)
  | 4 => ("SecondOboe", "now", "LSecondOboe$Evening;", true)
  | 5 => ("SecondOboe", "survey", "LSecondOboe$Survey;", true)
  | 6 => ("SecondOboe", "trial", "[I", true)
  | 7 => ("SecondOboe", "other", "LSecondOboe$Evening;", true)
  | 8 => ("SecondOboe", "latest", "[I", true)
  | 9 => ("SecondOboe", "undoable", "I", false)
  | 10 => ("SecondOboe", "heardWho", "[I", true)
  | 11 => ("SecondOboe", "heardBar", "[I", true)
  | 12 => ("SecondOboe", "heardPlayed", "[I", true)
  | 13 => ("SecondOboe", "heardCount", "I", false)
  | 14 => ("SecondOboe", "keptSitting", "[[I", true)
  | 15 => ("SecondOboe", "keptBribed", "[I", true)
  | _ => ("SecondOboe", "keptCount", "I", false)
def tyX4 : Nat → FieldType := fun k => match k with
  | 0 => .object "SecondOboe$Reader"
  | 1 => .object "SecondOboe$Band"
  | 2 => .array .int
  | 3 => .int
  | 4 => .object "SecondOboe$Evening"
  | 5 => .object "SecondOboe$Survey"
  | 6 => .array .int
  | 7 => .object "SecondOboe$Evening"
  | 8 => .array .int
  | 9 => .int
  | 10 => .array .int
  | 11 => .array .int
  | 12 => .array .int
  | 13 => .int
  | 14 => .array (.array .int)
  | 15 => .array .int
  | _ => .int
abbrev wsX40 : List Cond := u_ws RX4 TX4 17
theorem nmX4 : ∀ a, a < 17 → ∀ b, b < 17 → a ≠ b → (TX4 a).2.1 ≠ (TX4 b).2.1 := by decide +kernel
theorem tyX4_ok : ∀ k, k < 17 → parseFieldDescriptor (TX4 k).2.2.1 = some (tyX4 k) := by decide +kernel
abbrev cX4_init : ByteArray := prog_1_method_1_code
def yX4_init : MethodName := ⟨RX4, "<init>", "()V"⟩
abbrev cX4_write : ByteArray := prog_1_method_2_code
def yX4_write : MethodName := ⟨RX4, "write", "(I)I"⟩
abbrev cX4_wipe : ByteArray := prog_1_method_3_code
def yX4_wipe : MethodName := ⟨RX4, "wipe", "()I"⟩
abbrev cX4_fault : ByteArray := prog_1_method_4_code
def yX4_fault : MethodName := ⟨RX4, "fault", "()I"⟩
abbrev cX4_lay : ByteArray := prog_1_method_5_code
def yX4_lay : MethodName := ⟨RX4, "lay", "()I"⟩
abbrev cX4_instrument : ByteArray := prog_1_method_6_code
def yX4_instrument : MethodName := ⟨RX4, "instrument", "(II)I"⟩
abbrev cX4_seat : ByteArray := prog_1_method_7_code
def yX4_seat : MethodName := ⟨RX4, "seat", "(I)I"⟩
abbrev cX4_asked : ByteArray := prog_1_method_8_code
def yX4_asked : MethodName := ⟨RX4, "asked", "(I)I"⟩
abbrev cX4_plays : ByteArray := prog_1_method_9_code
def yX4_plays : MethodName := ⟨RX4, "plays", "(I)I"⟩
abbrev cX4_missing : ByteArray := prog_1_method_10_code
def yX4_missing : MethodName := ⟨RX4, "missing", "(I)I"⟩
abbrev cX4_first : ByteArray := prog_1_method_11_code
def yX4_first : MethodName := ⟨RX4, "first", "()I"⟩
abbrev cX4_notes : ByteArray := prog_1_method_12_code
def yX4_notes : MethodName := ⟨RX4, "notes", "(I)I"⟩
abbrev cX4_change : ByteArray := prog_1_method_13_code
def yX4_change : MethodName := ⟨RX4, "change", "(II)I"⟩
abbrev cX4_bribe : ByteArray := prog_1_method_14_code
def yX4_bribe : MethodName := ⟨RX4, "bribe", "(I)I"⟩
abbrev cX4_undo : ByteArray := prog_1_method_15_code
def yX4_undo : MethodName := ⟨RX4, "undo", "()I"⟩
abbrev cX4_best : ByteArray := prog_1_method_16_code
def yX4_best : MethodName := ⟨RX4, "best", "(I)I"⟩
abbrev cX4_changes : ByteArray := prog_1_method_17_code
def yX4_changes : MethodName := ⟨RX4, "changes", "()I"⟩
abbrev cX4_help : ByteArray := prog_1_method_18_code
def yX4_help : MethodName := ⟨RX4, "help", "(I)I"⟩
abbrev cX4_bribes : ByteArray := prog_1_method_19_code
def yX4_bribes : MethodName := ⟨RX4, "bribes", "(I)I"⟩
abbrev cX4_rests : ByteArray := prog_1_method_20_code
def yX4_rests : MethodName := ⟨RX4, "rests", "()I"⟩
abbrev cX4_silence : ByteArray := prog_1_method_21_code
def yX4_silence : MethodName := ⟨RX4, "silence", "(I)I"⟩
abbrev cX4_alike : ByteArray := prog_1_method_22_code
def yX4_alike : MethodName := ⟨RX4, "alike", "()I"⟩
abbrev cX4_odds : ByteArray := prog_1_method_23_code
def yX4_odds : MethodName := ⟨RX4, "odds", "(I)I"⟩
abbrev cX4_atLeast : ByteArray := prog_1_method_24_code
def yX4_atLeast : MethodName := ⟨RX4, "atLeast", "(II)I"⟩
abbrev cX4_heard : ByteArray := prog_1_method_25_code
def yX4_heard : MethodName := ⟨RX4, "heard", "(III)I"⟩
abbrev cX4_forget : ByteArray := prog_1_method_26_code
def yX4_forget : MethodName := ⟨RX4, "forget", "()I"⟩
abbrev cX4_kinds : ByteArray := prog_1_method_27_code
def yX4_kinds : MethodName := ⟨RX4, "kinds", "(I)I"⟩
abbrev cX4_hall : ByteArray := prog_1_method_28_code
def yX4_hall : MethodName := ⟨RX4, "hall", "(I)I"⟩
abbrev cX4_tour : ByteArray := prog_1_method_29_code
def yX4_tour : MethodName := ⟨RX4, "tour", "(III)I"⟩
abbrev cX4_keep : ByteArray := prog_1_method_30_code
def yX4_keep : MethodName := ⟨RX4, "keep", "()I"⟩
abbrev cX4_back : ByteArray := prog_1_method_31_code
def yX4_back : MethodName := ⟨RX4, "back", "()I"⟩
abbrev cX4_count : ByteArray := prog_1_method_32_code
def yX4_count : MethodName := ⟨RX4, "count", "(I)I"⟩
abbrev cX4_layText : ByteArray := prog_1_method_33_code
def yX4_layText : MethodName := ⟨RX4, "layText", "()Z"⟩
abbrev cX4_settle : ByteArray := prog_1_method_34_code
def yX4_settle : MethodName := ⟨RX4, "settle", "()V"⟩
abbrev cX4_surveyed : ByteArray := prog_1_method_35_code
def yX4_surveyed : MethodName := ⟨RX4, "surveyed", "()LSecondOboe$Survey;"⟩
abbrev cX4_remember : ByteArray := prog_1_method_36_code
def yX4_remember : MethodName := ⟨RX4, "remember", "(I)V"⟩
abbrev cX4_isInstrument : ByteArray := prog_1_method_37_code
def yX4_isInstrument : MethodName := ⟨RX4, "isInstrument", "(I)Z"⟩
abbrev cX4_isBar : ByteArray := prog_1_method_38_code
def yX4_isBar : MethodName := ⟨RX4, "isBar", "(I)Z"⟩
abbrev cX4_seatOf : ByteArray := prog_1_method_39_code
def yX4_seatOf : MethodName := ⟨RX4, "seatOf", "(I)I"⟩
abbrev cX4_missingIn : ByteArray := prog_1_method_40_code
def yX4_missingIn : MethodName := ⟨RX4, "missingIn", "(I)I"⟩
abbrev cX4_priceOf : ByteArray := prog_1_method_41_code
def yX4_priceOf : MethodName := ⟨RX4, "priceOf", "(I)I"⟩
abbrev cX4_agreesWithHeard : ByteArray := prog_1_method_42_code
def yX4_agreesWithHeard : MethodName := ⟨RX4, "agreesWithHeard", "(ILSecondOboe$Evening;)Z"⟩
abbrev cX4_draw : ByteArray := prog_1_method_43_code
def yX4_draw : MethodName := ⟨RX4, "draw", "(II)I"⟩
abbrev cX4_swapSeats : ByteArray := prog_1_method_44_code
def yX4_swapSeats : MethodName := ⟨RX4, "swapSeats", "([III)V"⟩
abbrev cX4_inLowestTerms : ByteArray := prog_1_method_45_code
def yX4_inLowestTerms : MethodName := ⟨RX4, "inLowestTerms", "(III)I"⟩
def RX5 : String := "SecondOboeModel"
def TX5 : u_T := fun k => match k with
  | 0 => ("SecondOboeModel", "text", "[I", true)
  | 1 => ("SecondOboeModel", "typed", "I", false)
  | 2 => ("SecondOboeModel", "told", "[I", true)
  | 3 => ("SecondOboeModel", "draft", "[I", true)
  | 4 => ("SecondOboeModel", "s", "[I", true)
  | 5 => ("SecondOboeModel", "past", "[I", true)
  | 6 => ("SecondOboeModel", "known", "I", false)
  | 7 => ("SecondOboeModel", "images", "[I", true)
  | 8 => ("SecondOboeModel", "kept", "I", false)
  | 9 => ("SecondOboeModel", "heard", "[I", true)
  | 10 => ("SecondOboeModel", "hears", "I", false)
  | 11 => ("SecondOboeModel", "at", "I", false)
  | 12 => ("SecondOboeModel", "sat", "[I", true)
  | 13 => ("SecondOboeModel", "beside", "[I", true)
  | 14 => ("SecondOboeModel", "kinds", "[I", true)
  | 15 => ("SecondOboeModel", "played", "[I", true)
  | 16 => ("SecondOboeModel", "bribed", "I", false)
  | 17 => ("SecondOboeModel", "gaps", "I", false)
  | 18 => ("SecondOboeModel", "mute", "I", false)
  | 19 => ("SecondOboeModel", "notes", "I", false)
  | _ => ("SecondOboeModel", "heardNow", "[I", true)
def tyX5 : Nat → FieldType := fun k => match k with
  | 0 => .array .int
  | 1 => .int
  | 2 => .array .int
  | 3 => .array .int
  | 4 => .array .int
  | 5 => .array .int
  | 6 => .int
  | 7 => .array .int
  | 8 => .int
  | 9 => .array .int
  | 10 => .int
  | 11 => .int
  | 12 => .array .int
  | 13 => .array .int
  | 14 => .array .int
  | 15 => .array .int
  | 16 => .int
  | 17 => .int
  | 18 => .int
  | 19 => .int
  | _ => .array .int
abbrev wsX50 : List Cond := u_ws RX5 TX5 21
theorem nmX5 : ∀ a, a < 21 → ∀ b, b < 21 → a ≠ b → (TX5 a).2.1 ≠ (TX5 b).2.1 := by decide +kernel
theorem tyX5_ok : ∀ k, k < 21 → parseFieldDescriptor (TX5 k).2.2.1 = some (tyX5 k) := by decide +kernel
abbrev cX5_init : ByteArray := prog_7_method_1_code
def yX5_init : MethodName := ⟨RX5, "<init>", "()V"⟩
abbrev cX5_in : ByteArray := prog_7_method_3_code
def yX5_in : MethodName := ⟨RX5, "in", "(III)Z"⟩
abbrev cX5_isOne : ByteArray := prog_7_method_4_code
def yX5_isOne : MethodName := ⟨RX5, "isOne", "(I)Z"⟩
abbrev cX5_isBar : ByteArray := prog_7_method_5_code
def yX5_isBar : MethodName := ⟨RX5, "isBar", "(I)Z"⟩
abbrev cX5_ones : ByteArray := prog_7_method_6_code
def yX5_ones : MethodName := ⟨RX5, "ones", "(I)I"⟩
abbrev cX5_write : ByteArray := prog_7_method_7_code
def yX5_write : MethodName := ⟨RX5, "write", "(I)I"⟩
abbrev cX5_wipe : ByteArray := prog_7_method_8_code
def yX5_wipe : MethodName := ⟨RX5, "wipe", "()I"⟩
abbrev cX5_letterAt : ByteArray := prog_7_method_9_code
def yX5_letterAt : MethodName := ⟨RX5, "letterAt", "(I)I"⟩
abbrev cX5_isFigure : ByteArray := prog_7_method_10_code
def yX5_isFigure : MethodName := ⟨RX5, "isFigure", "(I)Z"⟩
abbrev cX5_number : ByteArray := prog_7_method_11_code
def yX5_number : MethodName := ⟨RX5, "number", "(II)I"⟩
abbrev cX5_begins : ByteArray := prog_7_method_12_code
def yX5_begins : MethodName := ⟨RX5, "begins", "()V"⟩
abbrev cX5_adds : ByteArray := prog_7_method_13_code
def yX5_adds : MethodName := ⟨RX5, "adds", "(III)V"⟩
abbrev cX5_sits : ByteArray := prog_7_method_14_code
def yX5_sits : MethodName := ⟨RX5, "sits", "(I)V"⟩
abbrev cX5_readsItem : ByteArray := prog_7_method_15_code
def yX5_readsItem : MethodName := ⟨RX5, "readsItem", "(I)Z"⟩
abbrev cX5_reads : ByteArray := prog_7_method_16_code
def yX5_reads : MethodName := ⟨RX5, "reads", "()I"⟩
abbrev cX5_fault : ByteArray := prog_7_method_17_code
def yX5_fault : MethodName := ⟨RX5, "fault", "()I"⟩
abbrev cX5_lays : ByteArray := prog_7_method_18_code
def yX5_lays : MethodName := ⟨RX5, "lays", "()V"⟩
abbrev cX5_lay : ByteArray := prog_7_method_19_code
def yX5_lay : MethodName := ⟨RX5, "lay", "()I"⟩
abbrev cX5_asItIs : ByteArray := prog_7_method_20_code
def yX5_asItIs : MethodName := ⟨RX5, "asItIs", "()V"⟩
abbrev cX5_wants : ByteArray := prog_7_method_21_code
def yX5_wants : MethodName := ⟨RX5, "wants", "(III)Z"⟩
abbrev cX5_askedIn : ByteArray := prog_7_method_22_code
def yX5_askedIn : MethodName := ⟨RX5, "askedIn", "(I)I"⟩
abbrev cX5_goes : ByteArray := prog_7_method_23_code
def yX5_goes : MethodName := ⟨RX5, "goes", "()I"⟩
abbrev cX5_seatOf : ByteArray := prog_7_method_24_code
def yX5_seatOf : MethodName := ⟨RX5, "seatOf", "(I)I"⟩
abbrev cX5_instrument : ByteArray := prog_7_method_25_code
def yX5_instrument : MethodName := ⟨RX5, "instrument", "(II)I"⟩
abbrev cX5_seat : ByteArray := prog_7_method_26_code
def yX5_seat : MethodName := ⟨RX5, "seat", "(I)I"⟩
abbrev cX5_asked : ByteArray := prog_7_method_27_code
def yX5_asked : MethodName := ⟨RX5, "asked", "(I)I"⟩
abbrev cX5_plays : ByteArray := prog_7_method_28_code
def yX5_plays : MethodName := ⟨RX5, "plays", "(I)I"⟩
abbrev cX5_missing : ByteArray := prog_7_method_29_code
def yX5_missing : MethodName := ⟨RX5, "missing", "(I)I"⟩
abbrev cX5_first : ByteArray := prog_7_method_30_code
def yX5_first : MethodName := ⟨RX5, "first", "()I"⟩
abbrev cX5_notes : ByteArray := prog_7_method_31_code
def yX5_notes : MethodName := ⟨RX5, "notes", "(I)I"⟩
abbrev cX5_keeps : ByteArray := prog_7_method_32_code
def yX5_keeps : MethodName := ⟨RX5, "keeps", "()V"⟩
abbrev cX5_change : ByteArray := prog_7_method_33_code
def yX5_change : MethodName := ⟨RX5, "change", "(II)I"⟩
abbrev cX5_costOf : ByteArray := prog_7_method_34_code
def yX5_costOf : MethodName := ⟨RX5, "costOf", "(I)I"⟩
abbrev cX5_bribe : ByteArray := prog_7_method_35_code
def yX5_bribe : MethodName := ⟨RX5, "bribe", "(I)I"⟩
abbrev cX5_undo : ByteArray := prog_7_method_36_code
def yX5_undo : MethodName := ⟨RX5, "undo", "()I"⟩
abbrev cX5_firstSeating : ByteArray := prog_7_method_37_code
def yX5_firstSeating : MethodName := ⟨RX5, "firstSeating", "()V"⟩
abbrev cX5_nextSeating : ByteArray := prog_7_method_38_code
def yX5_nextSeating : MethodName := ⟨RX5, "nextSeating", "()Z"⟩
abbrev cX5_swaps : ByteArray := prog_7_method_39_code
def yX5_swaps : MethodName := ⟨RX5, "swaps", "(II)V"⟩
abbrev cX5_best : ByteArray := prog_7_method_40_code
def yX5_best : MethodName := ⟨RX5, "best", "(I)I"⟩
abbrev cX5_far : ByteArray := prog_7_method_41_code
def yX5_far : MethodName := ⟨RX5, "far", "()I"⟩
abbrev cX5_changes : ByteArray := prog_7_method_42_code
def yX5_changes : MethodName := ⟨RX5, "changes", "()I"⟩
abbrev cX5_help : ByteArray := prog_7_method_43_code
def yX5_help : MethodName := ⟨RX5, "help", "(I)I"⟩
abbrev cX5_bribes : ByteArray := prog_7_method_44_code
def yX5_bribes : MethodName := ⟨RX5, "bribes", "(I)I"⟩
abbrev cX5_rests : ByteArray := prog_7_method_45_code
def yX5_rests : MethodName := ⟨RX5, "rests", "()I"⟩
abbrev cX5_silence : ByteArray := prog_7_method_46_code
def yX5_silence : MethodName := ⟨RX5, "silence", "(I)I"⟩
abbrev cX5_alike : ByteArray := prog_7_method_47_code
def yX5_alike : MethodName := ⟨RX5, "alike", "()I"⟩
abbrev cX5_share : ByteArray := prog_7_method_48_code
def yX5_share : MethodName := ⟨RX5, "share", "(II)I"⟩
abbrev cX5_odds : ByteArray := prog_7_method_49_code
def yX5_odds : MethodName := ⟨RX5, "odds", "(I)I"⟩
abbrev cX5_atLeast : ByteArray := prog_7_method_50_code
def yX5_atLeast : MethodName := ⟨RX5, "atLeast", "(II)I"⟩
abbrev cX5_heard : ByteArray := prog_7_method_51_code
def yX5_heard : MethodName := ⟨RX5, "heard", "(III)I"⟩
abbrev cX5_forget : ByteArray := prog_7_method_52_code
def yX5_forget : MethodName := ⟨RX5, "forget", "()I"⟩
abbrev cX5_kinds : ByteArray := prog_7_method_53_code
def yX5_kinds : MethodName := ⟨RX5, "kinds", "(I)I"⟩
abbrev cX5_hall : ByteArray := prog_7_method_54_code
def yX5_hall : MethodName := ⟨RX5, "hall", "(I)I"⟩
abbrev cX5_tour : ByteArray := prog_7_method_55_code
def yX5_tour : MethodName := ⟨RX5, "tour", "(III)I"⟩
abbrev cX5_keep : ByteArray := prog_7_method_56_code
def yX5_keep : MethodName := ⟨RX5, "keep", "()I"⟩
abbrev cX5_back : ByteArray := prog_7_method_57_code
def yX5_back : MethodName := ⟨RX5, "back", "()I"⟩
abbrev cX5_count : ByteArray := prog_7_method_58_code
def yX5_count : MethodName := ⟨RX5, "count", "(I)I"⟩
def RJx145de : String := "java/io/Serializable"
def TJx145de : u_T := fun k => match k with
  | _ => ("", "", "", false)
def tyJx145de : Nat → FieldType := fun k => match k with
  | _ => .int
abbrev wsJx145de0 : List Cond := u_ws RJx145de TJx145de 0
theorem nmJx145de : ∀ a, a < 0 → ∀ b, b < 0 → a ≠ b → (TJx145de a).2.1 ≠ (TJx145de b).2.1 := by decide +kernel
theorem tyJx145de_ok : ∀ k, k < 0 → parseFieldDescriptor (TJx145de k).2.2.1 = some (tyJx145de k) := by decide +kernel
def RJx9f9b0 : String := "java/lang/CharSequence"
def TJx9f9b0 : u_T := fun k => match k with
  | _ => ("", "", "", false)
def tyJx9f9b0 : Nat → FieldType := fun k => match k with
  | _ => .int
abbrev wsJx9f9b00 : List Cond := u_ws RJx9f9b0 TJx9f9b0 0
theorem nmJx9f9b0 : ∀ a, a < 0 → ∀ b, b < 0 → a ≠ b → (TJx9f9b0 a).2.1 ≠ (TJx9f9b0 b).2.1 := by decide +kernel
theorem tyJx9f9b0_ok : ∀ k, k < 0 → parseFieldDescriptor (TJx9f9b0 k).2.2.1 = some (tyJx9f9b0 k) := by decide +kernel
def RJxb160c : String := "java/lang/Comparable"
def TJxb160c : u_T := fun k => match k with
  | _ => ("", "", "", false)
def tyJxb160c : Nat → FieldType := fun k => match k with
  | _ => .int
abbrev wsJxb160c0 : List Cond := u_ws RJxb160c TJxb160c 0
theorem nmJxb160c : ∀ a, a < 0 → ∀ b, b < 0 → a ≠ b → (TJxb160c a).2.1 ≠ (TJxb160c b).2.1 := by decide +kernel
theorem tyJxb160c_ok : ∀ k, k < 0 → parseFieldDescriptor (TJxb160c k).2.2.1 = some (tyJxb160c k) := by decide +kernel
def RJ6 : String := "java/lang/Integer"
def TJ6 : u_T := fun k => match k with
  | _ => ("", "", "", false)
def tyJ6 : Nat → FieldType := fun k => match k with
  | _ => .int
abbrev wsJ60 : List Cond := u_ws RJ6 TJ6 0
theorem nmJ6 : ∀ a, a < 0 → ∀ b, b < 0 → a ≠ b → (TJ6 a).2.1 ≠ (TJ6 b).2.1 := by decide +kernel
theorem tyJ6_ok : ∀ k, k < 0 → parseFieldDescriptor (TJ6 k).2.2.1 = some (tyJ6 k) := by decide +kernel
abbrev cJ6_bitCount_0f7a4 : ByteArray := prog_8_method_49_code
def yJ6_bitCount_0f7a4 : MethodName := ⟨RJ6, "bitCount", "(I)I"⟩
def RJ9 : String := "java/lang/Math"
def TJ9 : u_T := fun k => match k with
  | _ => ("", "", "", false)
def tyJ9 : Nat → FieldType := fun k => match k with
  | _ => .int
abbrev wsJ90 : List Cond := u_ws RJ9 TJ9 0
theorem nmJ9 : ∀ a, a < 0 → ∀ b, b < 0 → a ≠ b → (TJ9 a).2.1 ≠ (TJ9 b).2.1 := by decide +kernel
theorem tyJ9_ok : ∀ k, k < 0 → parseFieldDescriptor (TJ9 k).2.2.1 = some (tyJ9 k) := by decide +kernel
abbrev cJ9_max_7cf53 : ByteArray := prog_9_method_65_code
def yJ9_max_7cf53 : MethodName := ⟨RJ9, "max", "(II)I"⟩
abbrev cJ9_min_7cf53 : ByteArray := prog_9_method_69_code
def yJ9_min_7cf53 : MethodName := ⟨RJ9, "min", "(II)I"⟩
def RJ0 : String := "java/lang/String"
def TJ0 : u_T := fun k => match k with
  | _ => ("", "", "", false)
def tyJ0 : Nat → FieldType := fun k => match k with
  | _ => .int
abbrev wsJ00 : List Cond := u_ws RJ0 TJ0 0
theorem nmJ0 : ∀ a, a < 0 → ∀ b, b < 0 → a ≠ b → (TJ0 a).2.1 ≠ (TJ0 b).2.1 := by decide +kernel
theorem tyJ0_ok : ∀ k, k < 0 → parseFieldDescriptor (TJ0 k).2.2.1 = some (tyJ0 k) := by decide +kernel
abbrev cJ0_length_8abf5 : ByteArray := prog_10_method_54_code
def yJ0_length_8abf5 : MethodName := ⟨RJ0, "length", "()I"⟩
abbrev cJ0_charAt_5068e : ByteArray := prog_10_method_56_code
def yJ0_charAt_5068e : MethodName := ⟨RJ0, "charAt", "(I)C"⟩
abbrev cJ0_coder_7d493 : ByteArray := prog_10_method_152_code
def yJ0_coder_7d493 : MethodName := ⟨RJ0, "coder", "()B"⟩
abbrev cJ0_isLatin1_aae02 : ByteArray := prog_10_method_154_code
def yJ0_isLatin1_aae02 : MethodName := ⟨RJ0, "isLatin1", "()Z"⟩
abbrev cJ0_checkIndex_df160 : ByteArray := prog_10_method_155_code
def yJ0_checkIndex_df160 : MethodName := ⟨RJ0, "checkIndex", "(II)V"⟩
def RJ1 : String := "java/lang/StringLatin1"
def TJ1 : u_T := fun k => match k with
  | _ => ("", "", "", false)
def tyJ1 : Nat → FieldType := fun k => match k with
  | _ => .int
abbrev wsJ10 : List Cond := u_ws RJ1 TJ1 0
theorem nmJ1 : ∀ a, a < 0 → ∀ b, b < 0 → a ≠ b → (TJ1 a).2.1 ≠ (TJ1 b).2.1 := by decide +kernel
theorem tyJ1_ok : ∀ k, k < 0 → parseFieldDescriptor (TJ1 k).2.2.1 = some (tyJ1 k) := by decide +kernel
abbrev cJ1_charAt_3b067 : ByteArray := prog_11_method_2_code
def yJ1_charAt_3b067 : MethodName := ⟨RJ1, "charAt", "([BI)C"⟩
def RJ2 : String := "java/lang/StringUTF16"
def TJ2 : u_T := fun k => match k with
  | _ => ("", "", "", false)
def tyJ2 : Nat → FieldType := fun k => match k with
  | _ => .int
abbrev wsJ20 : List Cond := u_ws RJ2 TJ2 0
theorem nmJ2 : ∀ a, a < 0 → ∀ b, b < 0 → a ≠ b → (TJ2 a).2.1 ≠ (TJ2 b).2.1 := by decide +kernel
theorem tyJ2_ok : ∀ k, k < 0 → parseFieldDescriptor (TJ2 k).2.2.1 = some (tyJ2 k) := by decide +kernel
abbrev cJ2_getChar_3b067 : ByteArray := prog_12_method_5_code
def yJ2_getChar_3b067 : MethodName := ⟨RJ2, "getChar", "([BI)C"⟩
abbrev cJ2_length_9d52b : ByteArray := prog_12_method_6_code
def yJ2_length_9d52b : MethodName := ⟨RJ2, "length", "([B)I"⟩
abbrev cJ2_charAt_3b067 : ByteArray := prog_12_method_83_code
def yJ2_charAt_3b067 : MethodName := ⟨RJ2, "charAt", "([BI)C"⟩
abbrev cJ2_checkIndex_2214a : ByteArray := prog_12_method_91_code
def yJ2_checkIndex_2214a : MethodName := ⟨RJ2, "checkIndex", "(I[B)V"⟩
def RJ10 : String := "java/lang/System"
def TJ10 : u_T := fun k => match k with
  | _ => ("", "", "", false)
def tyJ10 : Nat → FieldType := fun k => match k with
  | _ => .int
abbrev wsJ100 : List Cond := u_ws RJ10 TJ10 0
theorem nmJ10 : ∀ a, a < 0 → ∀ b, b < 0 → a ≠ b → (TJ10 a).2.1 ≠ (TJ10 b).2.1 := by decide +kernel
theorem tyJ10_ok : ∀ k, k < 0 → parseFieldDescriptor (TJ10 k).2.2.1 = some (tyJ10 k) := by decide +kernel
def RJxfd54e : String := "java/lang/constant/Constable"
def TJxfd54e : u_T := fun k => match k with
  | _ => ("", "", "", false)
def tyJxfd54e : Nat → FieldType := fun k => match k with
  | _ => .int
abbrev wsJxfd54e0 : List Cond := u_ws RJxfd54e TJxfd54e 0
theorem nmJxfd54e : ∀ a, a < 0 → ∀ b, b < 0 → a ≠ b → (TJxfd54e a).2.1 ≠ (TJxfd54e b).2.1 := by decide +kernel
theorem tyJxfd54e_ok : ∀ k, k < 0 → parseFieldDescriptor (TJxfd54e k).2.2.1 = some (tyJxfd54e k) := by decide +kernel
def RJx3cf43 : String := "java/lang/constant/ConstantDesc"
def TJx3cf43 : u_T := fun k => match k with
  | _ => ("", "", "", false)
def tyJx3cf43 : Nat → FieldType := fun k => match k with
  | _ => .int
abbrev wsJx3cf430 : List Cond := u_ws RJx3cf43 TJx3cf43 0
theorem nmJx3cf43 : ∀ a, a < 0 → ∀ b, b < 0 → a ≠ b → (TJx3cf43 a).2.1 ≠ (TJx3cf43 b).2.1 := by decide +kernel
theorem tyJx3cf43_ok : ∀ k, k < 0 → parseFieldDescriptor (TJx3cf43 k).2.2.1 = some (tyJx3cf43 k) := by decide +kernel
def RJ7 : String := "java/util/Arrays"
def TJ7 : u_T := fun k => match k with
  | _ => ("", "", "", false)
def tyJ7 : Nat → FieldType := fun k => match k with
  | _ => .int
abbrev wsJ70 : List Cond := u_ws RJ7 TJ7 0
theorem nmJ7 : ∀ a, a < 0 → ∀ b, b < 0 → a ≠ b → (TJ7 a).2.1 ≠ (TJ7 b).2.1 := by decide +kernel
theorem tyJ7_ok : ∀ k, k < 0 → parseFieldDescriptor (TJ7 k).2.2.1 = some (tyJ7 k) := by decide +kernel
abbrev cJ7_fill_53178 : ByteArray := prog_14_method_103_code
def yJ7_fill_53178 : MethodName := ⟨RJ7, "fill", "([II)V"⟩
def RJ3 : String := "jdk/internal/util/Preconditions"
def TJ3 : u_T := fun k => match k with
  | _ => ("", "", "", false)
def tyJ3 : Nat → FieldType := fun k => match k with
  | _ => .int
abbrev wsJ30 : List Cond := u_ws RJ3 TJ3 0
theorem nmJ3 : ∀ a, a < 0 → ∀ b, b < 0 → a ≠ b → (TJ3 a).2.1 ≠ (TJ3 b).2.1 := by decide +kernel
theorem tyJ3_ok : ∀ k, k < 0 → parseFieldDescriptor (TJ3 k).2.2.1 = some (tyJ3 k) := by decide +kernel
abbrev cJ3_checkIndex_8e157 : ByteArray := prog_15_method_11_code
def yJ3_checkIndex_8e157 : MethodName := ⟨RJ3, "checkIndex", "(IILjava/util/function/BiFunction;)I"⟩
def RL : String := "SecondOboeLaw"
abbrev cL_law : ByteArray := code
def yL_law : MethodName := ⟨RL, "law", "([I)Z"⟩
theorem dX0_init_0 : decode cX0_init 0 = .ok (.aload_n 0, 1) := by decide +kernel
theorem dX0_init_1 : decode cX0_init 1 = .ok (.invokespecial 3, 3) := by decide +kernel
theorem dX0_init_4 : decode cX0_init 4 = .ok (.aload_n 0, 1) := by decide +kernel
theorem dX0_init_5 : decode cX0_init 5 = .ok (.bipush 7, 2) := by decide +kernel
theorem dX0_init_7 : decode cX0_init 7 = .ok (.newarray .int, 2) := by decide +kernel
theorem dX0_init_9 : decode cX0_init 9 = .ok (.putfield 9, 3) := by decide +kernel
theorem dX0_init_12 : decode cX0_init 12 = .ok (.aload_n 0, 1) := by decide +kernel
theorem dX0_init_13 : decode cX0_init 13 = .ok (.bipush 7, 2) := by decide +kernel
theorem dX0_init_15 : decode cX0_init 15 = .ok (.newarray .int, 2) := by decide +kernel
theorem dX0_init_17 : decode cX0_init 17 = .ok (.putfield 15, 3) := by decide +kernel
theorem dX0_init_20 : decode cX0_init 20 = .ok (.aload_n 0, 1) := by decide +kernel
theorem dX0_init_21 : decode cX0_init 21 = .ok (.bipush 7, 2) := by decide +kernel
theorem dX0_init_23 : decode cX0_init 23 = .ok (.newarray .int, 2) := by decide +kernel
theorem dX0_init_25 : decode cX0_init 25 = .ok (.putfield 18, 3) := by decide +kernel
theorem dX0_init_28 : decode cX0_init 28 = .ok (.aload_n 0, 1) := by decide +kernel
theorem dX0_init_29 : decode cX0_init 29 = .ok (.bipush 8, 2) := by decide +kernel
theorem dX0_init_31 : decode cX0_init 31 = .ok (.newarray .int, 2) := by decide +kernel
theorem dX0_init_33 : decode cX0_init 33 = .ok (.putfield 21, 3) := by decide +kernel
theorem dX0_init_36 : decode cX0_init 36 = .ok (.aload_n 0, 1) := by decide +kernel
theorem dX0_init_37 : decode cX0_init 37 = .ok (.bipush 7, 2) := by decide +kernel
theorem dX0_init_39 : decode cX0_init 39 = .ok (.newarray .int, 2) := by decide +kernel
theorem dX0_init_41 : decode cX0_init 41 = .ok (.putfield 24, 3) := by decide +kernel
theorem dX0_init_44 : decode cX0_init 44 = .ok (.return_, 1) := by decide +kernel
theorem dX0_clear_0 : decode cX0_clear 0 = .ok (.aload_n 0, 1) := by decide +kernel
theorem dX0_clear_1 : decode cX0_clear 1 = .ok (.iconst 0, 1) := by decide +kernel
theorem dX0_clear_2 : decode cX0_clear 2 = .ok (.putfield 27, 3) := by decide +kernel
theorem dX0_clear_5 : decode cX0_clear 5 = .ok (.aload_n 0, 1) := by decide +kernel
theorem dX0_clear_6 : decode cX0_clear 6 = .ok (.iconst 0, 1) := by decide +kernel
theorem dX0_clear_7 : decode cX0_clear 7 = .ok (.putfield 31, 3) := by decide +kernel
theorem dX0_clear_10 : decode cX0_clear 10 = .ok (.aload_n 0, 1) := by decide +kernel
theorem dX0_clear_11 : decode cX0_clear 11 = .ok (.iconst 0, 1) := by decide +kernel
theorem dX0_clear_12 : decode cX0_clear 12 = .ok (.putfield 34, 3) := by decide +kernel
theorem dX0_clear_15 : decode cX0_clear 15 = .ok (.aload_n 0, 1) := by decide +kernel
theorem dX0_clear_16 : decode cX0_clear 16 = .ok (.iconst 0, 1) := by decide +kernel
theorem dX0_clear_17 : decode cX0_clear 17 = .ok (.putfield 37, 3) := by decide +kernel
theorem dX0_clear_20 : decode cX0_clear 20 = .ok (.return_, 1) := by decide +kernel
theorem dX0_copyFrom_0 : decode cX0_copyFrom 0 = .ok (.aload_n 1, 1) := by decide +kernel
theorem dX0_copyFrom_1 : decode cX0_copyFrom 1 = .ok (.getfield 9, 3) := by decide +kernel
theorem dX0_copyFrom_4 : decode cX0_copyFrom 4 = .ok (.iconst 0, 1) := by decide +kernel
theorem dX0_copyFrom_5 : decode cX0_copyFrom 5 = .ok (.aload_n 0, 1) := by decide +kernel
theorem dX0_copyFrom_6 : decode cX0_copyFrom 6 = .ok (.getfield 9, 3) := by decide +kernel
theorem dX0_copyFrom_9 : decode cX0_copyFrom 9 = .ok (.iconst 0, 1) := by decide +kernel
theorem dX0_copyFrom_10 : decode cX0_copyFrom 10 = .ok (.aload_n 0, 1) := by decide +kernel
theorem dX0_copyFrom_11 : decode cX0_copyFrom 11 = .ok (.getfield 9, 3) := by decide +kernel
theorem dX0_copyFrom_14 : decode cX0_copyFrom 14 = .ok (.arraylength, 1) := by decide +kernel
theorem dX0_copyFrom_15 : decode cX0_copyFrom 15 = .ok (.invokestatic 40, 3) := by decide +kernel
theorem dX0_copyFrom_18 : decode cX0_copyFrom 18 = .ok (.aload_n 1, 1) := by decide +kernel
theorem dX0_copyFrom_19 : decode cX0_copyFrom 19 = .ok (.getfield 15, 3) := by decide +kernel
theorem dX0_copyFrom_22 : decode cX0_copyFrom 22 = .ok (.iconst 0, 1) := by decide +kernel
theorem dX0_copyFrom_23 : decode cX0_copyFrom 23 = .ok (.aload_n 0, 1) := by decide +kernel
theorem dX0_copyFrom_24 : decode cX0_copyFrom 24 = .ok (.getfield 15, 3) := by decide +kernel
theorem dX0_copyFrom_27 : decode cX0_copyFrom 27 = .ok (.iconst 0, 1) := by decide +kernel
theorem dX0_copyFrom_28 : decode cX0_copyFrom 28 = .ok (.aload_n 0, 1) := by decide +kernel
theorem dX0_copyFrom_29 : decode cX0_copyFrom 29 = .ok (.getfield 15, 3) := by decide +kernel
theorem dX0_copyFrom_32 : decode cX0_copyFrom 32 = .ok (.arraylength, 1) := by decide +kernel
theorem dX0_copyFrom_33 : decode cX0_copyFrom 33 = .ok (.invokestatic 40, 3) := by decide +kernel
theorem dX0_copyFrom_36 : decode cX0_copyFrom 36 = .ok (.aload_n 1, 1) := by decide +kernel
theorem dX0_copyFrom_37 : decode cX0_copyFrom 37 = .ok (.getfield 18, 3) := by decide +kernel
theorem dX0_copyFrom_40 : decode cX0_copyFrom 40 = .ok (.iconst 0, 1) := by decide +kernel
theorem dX0_copyFrom_41 : decode cX0_copyFrom 41 = .ok (.aload_n 0, 1) := by decide +kernel
theorem dX0_copyFrom_42 : decode cX0_copyFrom 42 = .ok (.getfield 18, 3) := by decide +kernel
theorem dX0_copyFrom_45 : decode cX0_copyFrom 45 = .ok (.iconst 0, 1) := by decide +kernel
theorem dX0_copyFrom_46 : decode cX0_copyFrom 46 = .ok (.aload_n 0, 1) := by decide +kernel
theorem dX0_copyFrom_47 : decode cX0_copyFrom 47 = .ok (.getfield 18, 3) := by decide +kernel
theorem dX0_copyFrom_50 : decode cX0_copyFrom 50 = .ok (.arraylength, 1) := by decide +kernel
theorem dX0_copyFrom_51 : decode cX0_copyFrom 51 = .ok (.invokestatic 40, 3) := by decide +kernel
theorem dX0_copyFrom_54 : decode cX0_copyFrom 54 = .ok (.aload_n 1, 1) := by decide +kernel
theorem dX0_copyFrom_55 : decode cX0_copyFrom 55 = .ok (.getfield 21, 3) := by decide +kernel
theorem dX0_copyFrom_58 : decode cX0_copyFrom 58 = .ok (.iconst 0, 1) := by decide +kernel
theorem dX0_copyFrom_59 : decode cX0_copyFrom 59 = .ok (.aload_n 0, 1) := by decide +kernel
theorem dX0_copyFrom_60 : decode cX0_copyFrom 60 = .ok (.getfield 21, 3) := by decide +kernel
theorem dX0_copyFrom_63 : decode cX0_copyFrom 63 = .ok (.iconst 0, 1) := by decide +kernel
theorem dX0_copyFrom_64 : decode cX0_copyFrom 64 = .ok (.aload_n 0, 1) := by decide +kernel
theorem dX0_copyFrom_65 : decode cX0_copyFrom 65 = .ok (.getfield 21, 3) := by decide +kernel
theorem dX0_copyFrom_68 : decode cX0_copyFrom 68 = .ok (.arraylength, 1) := by decide +kernel
theorem dX0_copyFrom_69 : decode cX0_copyFrom 69 = .ok (.invokestatic 40, 3) := by decide +kernel
theorem dX0_copyFrom_72 : decode cX0_copyFrom 72 = .ok (.aload_n 1, 1) := by decide +kernel
theorem dX0_copyFrom_73 : decode cX0_copyFrom 73 = .ok (.getfield 24, 3) := by decide +kernel
theorem dX0_copyFrom_76 : decode cX0_copyFrom 76 = .ok (.iconst 0, 1) := by decide +kernel
theorem dX0_copyFrom_77 : decode cX0_copyFrom 77 = .ok (.aload_n 0, 1) := by decide +kernel
theorem dX0_copyFrom_78 : decode cX0_copyFrom 78 = .ok (.getfield 24, 3) := by decide +kernel
theorem dX0_copyFrom_81 : decode cX0_copyFrom 81 = .ok (.iconst 0, 1) := by decide +kernel
theorem dX0_copyFrom_82 : decode cX0_copyFrom 82 = .ok (.aload_n 0, 1) := by decide +kernel
theorem dX0_copyFrom_83 : decode cX0_copyFrom 83 = .ok (.getfield 24, 3) := by decide +kernel
theorem dX0_copyFrom_86 : decode cX0_copyFrom 86 = .ok (.arraylength, 1) := by decide +kernel
theorem dX0_copyFrom_87 : decode cX0_copyFrom 87 = .ok (.invokestatic 40, 3) := by decide +kernel
theorem dX0_copyFrom_90 : decode cX0_copyFrom 90 = .ok (.aload_n 0, 1) := by decide +kernel
theorem dX0_copyFrom_91 : decode cX0_copyFrom 91 = .ok (.aload_n 1, 1) := by decide +kernel
theorem dX0_copyFrom_92 : decode cX0_copyFrom 92 = .ok (.getfield 27, 3) := by decide +kernel
theorem dX0_copyFrom_95 : decode cX0_copyFrom 95 = .ok (.putfield 27, 3) := by decide +kernel
theorem dX0_copyFrom_98 : decode cX0_copyFrom 98 = .ok (.aload_n 0, 1) := by decide +kernel
theorem dX0_copyFrom_99 : decode cX0_copyFrom 99 = .ok (.aload_n 1, 1) := by decide +kernel
theorem dX0_copyFrom_100 : decode cX0_copyFrom 100 = .ok (.getfield 31, 3) := by decide +kernel
theorem dX0_copyFrom_103 : decode cX0_copyFrom 103 = .ok (.putfield 31, 3) := by decide +kernel
theorem dX0_copyFrom_106 : decode cX0_copyFrom 106 = .ok (.aload_n 0, 1) := by decide +kernel
theorem dX0_copyFrom_107 : decode cX0_copyFrom 107 = .ok (.aload_n 1, 1) := by decide +kernel
theorem dX0_copyFrom_108 : decode cX0_copyFrom 108 = .ok (.getfield 34, 3) := by decide +kernel
theorem dX0_copyFrom_111 : decode cX0_copyFrom 111 = .ok (.putfield 34, 3) := by decide +kernel
theorem dX0_copyFrom_114 : decode cX0_copyFrom 114 = .ok (.aload_n 0, 1) := by decide +kernel
theorem dX0_copyFrom_115 : decode cX0_copyFrom 115 = .ok (.aload_n 1, 1) := by decide +kernel
theorem dX0_copyFrom_116 : decode cX0_copyFrom 116 = .ok (.getfield 37, 3) := by decide +kernel
theorem dX0_copyFrom_119 : decode cX0_copyFrom 119 = .ok (.putfield 37, 3) := by decide +kernel
theorem dX0_copyFrom_122 : decode cX0_copyFrom 122 = .ok (.return_, 1) := by decide +kernel
theorem dX0_addInstrument_0 : decode cX0_addInstrument 0 = .ok (.aload_n 0, 1) := by decide +kernel
theorem dX0_addInstrument_1 : decode cX0_addInstrument 1 = .ok (.getfield 27, 3) := by decide +kernel
theorem dX0_addInstrument_4 : decode cX0_addInstrument 4 = .ok (.bipush 7, 2) := by decide +kernel
theorem dX0_addInstrument_6 : decode cX0_addInstrument 6 = .ok (.if_icmp .ge 20, 3) := by decide +kernel
theorem dX0_addInstrument_9 : decode cX0_addInstrument 9 = .ok (.iload_n 1, 1) := by decide +kernel
theorem dX0_addInstrument_10 : decode cX0_addInstrument 10 = .ok (.iconst 4, 1) := by decide +kernel
theorem dX0_addInstrument_11 : decode cX0_addInstrument 11 = .ok (.if_icmp .ge 15, 3) := by decide +kernel
theorem dX0_addInstrument_14 : decode cX0_addInstrument 14 = .ok (.iload_n 2, 1) := by decide +kernel
theorem dX0_addInstrument_15 : decode cX0_addInstrument 15 = .ok (.bipush 7, 2) := by decide +kernel
theorem dX0_addInstrument_17 : decode cX0_addInstrument 17 = .ok (.if_icmp .ge 9, 3) := by decide +kernel
theorem dX0_addInstrument_20 : decode cX0_addInstrument 20 = .ok (.iload_n 3, 1) := by decide +kernel
theorem dX0_addInstrument_21 : decode cX0_addInstrument 21 = .ok (.bipush 30, 2) := by decide +kernel
theorem dX0_addInstrument_23 : decode cX0_addInstrument 23 = .ok (.if_icmp .le 5, 3) := by decide +kernel
theorem dX0_addInstrument_26 : decode cX0_addInstrument 26 = .ok (.iconst 0, 1) := by decide +kernel
theorem dX0_addInstrument_27 : decode cX0_addInstrument 27 = .ok (.ireturn, 1) := by decide +kernel
theorem dX0_addInstrument_28 : decode cX0_addInstrument 28 = .ok (.aload_n 0, 1) := by decide +kernel
theorem dX0_addInstrument_29 : decode cX0_addInstrument 29 = .ok (.getfield 9, 3) := by decide +kernel
theorem dX0_addInstrument_32 : decode cX0_addInstrument 32 = .ok (.aload_n 0, 1) := by decide +kernel
theorem dX0_addInstrument_33 : decode cX0_addInstrument 33 = .ok (.getfield 27, 3) := by decide +kernel
theorem dX0_addInstrument_36 : decode cX0_addInstrument 36 = .ok (.iload_n 1, 1) := by decide +kernel
theorem dX0_addInstrument_37 : decode cX0_addInstrument 37 = .ok (.iastore, 1) := by decide +kernel
theorem dX0_addInstrument_38 : decode cX0_addInstrument 38 = .ok (.aload_n 0, 1) := by decide +kernel
theorem dX0_addInstrument_39 : decode cX0_addInstrument 39 = .ok (.getfield 15, 3) := by decide +kernel
theorem dX0_addInstrument_42 : decode cX0_addInstrument 42 = .ok (.aload_n 0, 1) := by decide +kernel
theorem dX0_addInstrument_43 : decode cX0_addInstrument 43 = .ok (.getfield 27, 3) := by decide +kernel
theorem dX0_addInstrument_46 : decode cX0_addInstrument 46 = .ok (.iload_n 2, 1) := by decide +kernel
theorem dX0_addInstrument_47 : decode cX0_addInstrument 47 = .ok (.iastore, 1) := by decide +kernel
theorem dX0_addInstrument_48 : decode cX0_addInstrument 48 = .ok (.aload_n 0, 1) := by decide +kernel
theorem dX0_addInstrument_49 : decode cX0_addInstrument 49 = .ok (.getfield 18, 3) := by decide +kernel
theorem dX0_addInstrument_52 : decode cX0_addInstrument 52 = .ok (.aload_n 0, 1) := by decide +kernel
theorem dX0_addInstrument_53 : decode cX0_addInstrument 53 = .ok (.getfield 27, 3) := by decide +kernel
theorem dX0_addInstrument_56 : decode cX0_addInstrument 56 = .ok (.iload_n 3, 1) := by decide +kernel
theorem dX0_addInstrument_57 : decode cX0_addInstrument 57 = .ok (.iastore, 1) := by decide +kernel
theorem dX0_addInstrument_58 : decode cX0_addInstrument 58 = .ok (.aload_n 0, 1) := by decide +kernel
theorem dX0_addInstrument_59 : decode cX0_addInstrument 59 = .ok (.dup, 1) := by decide +kernel
theorem dX0_addInstrument_60 : decode cX0_addInstrument 60 = .ok (.getfield 27, 3) := by decide +kernel
theorem dX0_addInstrument_63 : decode cX0_addInstrument 63 = .ok (.iconst 1, 1) := by decide +kernel
theorem dX0_addInstrument_64 : decode cX0_addInstrument 64 = .ok (.iadd, 1) := by decide +kernel
theorem dX0_addInstrument_65 : decode cX0_addInstrument 65 = .ok (.putfield 27, 3) := by decide +kernel
theorem dX0_addInstrument_68 : decode cX0_addInstrument 68 = .ok (.iconst 1, 1) := by decide +kernel
theorem dX0_addInstrument_69 : decode cX0_addInstrument 69 = .ok (.ireturn, 1) := by decide +kernel
theorem dX0_addBar_0 : decode cX0_addBar 0 = .ok (.aload_n 0, 1) := by decide +kernel
theorem dX0_addBar_1 : decode cX0_addBar 1 = .ok (.getfield 31, 3) := by decide +kernel
theorem dX0_addBar_4 : decode cX0_addBar 4 = .ok (.bipush 8, 2) := by decide +kernel
theorem dX0_addBar_6 : decode cX0_addBar 6 = .ok (.if_icmp .ge 15, 3) := by decide +kernel
theorem dX0_addBar_9 : decode cX0_addBar 9 = .ok (.iload_n 1, 1) := by decide +kernel
theorem dX0_addBar_10 : decode cX0_addBar 10 = .ok (.bipush 15, 2) := by decide +kernel
theorem dX0_addBar_12 : decode cX0_addBar 12 = .ok (.if_icmp .gt 9, 3) := by decide +kernel
theorem dX0_addBar_15 : decode cX0_addBar 15 = .ok (.iload_n 2, 1) := by decide +kernel
theorem dX0_addBar_16 : decode cX0_addBar 16 = .ok (.bipush 7, 2) := by decide +kernel
theorem dX0_addBar_18 : decode cX0_addBar 18 = .ok (.if_icmp .le 5, 3) := by decide +kernel
theorem dX0_addBar_21 : decode cX0_addBar 21 = .ok (.iconst 0, 1) := by decide +kernel
theorem dX0_addBar_22 : decode cX0_addBar 22 = .ok (.ireturn, 1) := by decide +kernel
theorem dX0_addBar_23 : decode cX0_addBar 23 = .ok (.aload_n 0, 1) := by decide +kernel
theorem dX0_addBar_24 : decode cX0_addBar 24 = .ok (.getfield 21, 3) := by decide +kernel
theorem dX0_addBar_27 : decode cX0_addBar 27 = .ok (.aload_n 0, 1) := by decide +kernel
theorem dX0_addBar_28 : decode cX0_addBar 28 = .ok (.getfield 31, 3) := by decide +kernel
theorem dX0_addBar_31 : decode cX0_addBar 31 = .ok (.iload_n 1, 1) := by decide +kernel
theorem dX0_addBar_32 : decode cX0_addBar 32 = .ok (.iload_n 2, 1) := by decide +kernel
theorem dX0_addBar_33 : decode cX0_addBar 33 = .ok (.iconst 4, 1) := by decide +kernel
theorem dX0_addBar_34 : decode cX0_addBar 34 = .ok (.ishl, 1) := by decide +kernel
theorem dX0_addBar_35 : decode cX0_addBar 35 = .ok (.ior, 1) := by decide +kernel
theorem dX0_addBar_36 : decode cX0_addBar 36 = .ok (.iastore, 1) := by decide +kernel
theorem dX0_addBar_37 : decode cX0_addBar 37 = .ok (.aload_n 0, 1) := by decide +kernel
theorem dX0_addBar_38 : decode cX0_addBar 38 = .ok (.dup, 1) := by decide +kernel
theorem dX0_addBar_39 : decode cX0_addBar 39 = .ok (.getfield 31, 3) := by decide +kernel
theorem dX0_addBar_42 : decode cX0_addBar 42 = .ok (.iconst 1, 1) := by decide +kernel
theorem dX0_addBar_43 : decode cX0_addBar 43 = .ok (.iadd, 1) := by decide +kernel
theorem dX0_addBar_44 : decode cX0_addBar 44 = .ok (.putfield 31, 3) := by decide +kernel
theorem dX0_addBar_47 : decode cX0_addBar 47 = .ok (.iconst 1, 1) := by decide +kernel
theorem dX0_addBar_48 : decode cX0_addBar 48 = .ok (.ireturn, 1) := by decide +kernel
theorem dX0_addSeat_0 : decode cX0_addSeat 0 = .ok (.iload_n 1, 1) := by decide +kernel
theorem dX0_addSeat_1 : decode cX0_addSeat 1 = .ok (.aload_n 0, 1) := by decide +kernel
theorem dX0_addSeat_2 : decode cX0_addSeat 2 = .ok (.getfield 27, 3) := by decide +kernel
theorem dX0_addSeat_5 : decode cX0_addSeat 5 = .ok (.if_icmp .lt 5, 3) := by decide +kernel
theorem dX0_addSeat_8 : decode cX0_addSeat 8 = .ok (.iconst 0, 1) := by decide +kernel
theorem dX0_addSeat_9 : decode cX0_addSeat 9 = .ok (.ireturn, 1) := by decide +kernel
theorem dX0_addSeat_10 : decode cX0_addSeat 10 = .ok (.aload_n 0, 1) := by decide +kernel
theorem dX0_addSeat_11 : decode cX0_addSeat 11 = .ok (.invokevirtual 46, 3) := by decide +kernel
theorem dX0_addSeat_14 : decode cX0_addSeat 14 = .ok (.iload_n 1, 1) := by decide +kernel
theorem dX0_addSeat_15 : decode cX0_addSeat 15 = .ok (.ishr, 1) := by decide +kernel
theorem dX0_addSeat_16 : decode cX0_addSeat 16 = .ok (.iconst 1, 1) := by decide +kernel
theorem dX0_addSeat_17 : decode cX0_addSeat 17 = .ok (.iand, 1) := by decide +kernel
theorem dX0_addSeat_18 : decode cX0_addSeat 18 = .ok (.ifCond .ne 32, 3) := by decide +kernel
theorem dX0_addSeat_21 : decode cX0_addSeat 21 = .ok (.aload_n 0, 1) := by decide +kernel
theorem dX0_addSeat_22 : decode cX0_addSeat 22 = .ok (.getfield 34, 3) := by decide +kernel
theorem dX0_addSeat_25 : decode cX0_addSeat 25 = .ok (.bipush 7, 2) := by decide +kernel
theorem dX0_addSeat_27 : decode cX0_addSeat 27 = .ok (.if_icmp .ge 23, 3) := by decide +kernel
theorem dX0_addSeat_30 : decode cX0_addSeat 30 = .ok (.aload_n 0, 1) := by decide +kernel
theorem dX0_addSeat_31 : decode cX0_addSeat 31 = .ok (.getfield 24, 3) := by decide +kernel
theorem dX0_addSeat_34 : decode cX0_addSeat 34 = .ok (.aload_n 0, 1) := by decide +kernel
theorem dX0_addSeat_35 : decode cX0_addSeat 35 = .ok (.getfield 34, 3) := by decide +kernel
theorem dX0_addSeat_38 : decode cX0_addSeat 38 = .ok (.iload_n 1, 1) := by decide +kernel
theorem dX0_addSeat_39 : decode cX0_addSeat 39 = .ok (.iastore, 1) := by decide +kernel
theorem dX0_addSeat_40 : decode cX0_addSeat 40 = .ok (.aload_n 0, 1) := by decide +kernel
theorem dX0_addSeat_41 : decode cX0_addSeat 41 = .ok (.dup, 1) := by decide +kernel
theorem dX0_addSeat_42 : decode cX0_addSeat 42 = .ok (.getfield 34, 3) := by decide +kernel
theorem dX0_addSeat_45 : decode cX0_addSeat 45 = .ok (.iconst 1, 1) := by decide +kernel
theorem dX0_addSeat_46 : decode cX0_addSeat 46 = .ok (.iadd, 1) := by decide +kernel
theorem dX0_addSeat_47 : decode cX0_addSeat 47 = .ok (.putfield 34, 3) := by decide +kernel
theorem dX0_addSeat_50 : decode cX0_addSeat 50 = .ok (.iconst 1, 1) := by decide +kernel
theorem dX0_addSeat_51 : decode cX0_addSeat 51 = .ok (.ireturn, 1) := by decide +kernel
theorem dX0_addGap_0 : decode cX0_addGap 0 = .ok (.iload_n 1, 1) := by decide +kernel
theorem dX0_addGap_1 : decode cX0_addGap 1 = .ok (.iconst 5, 1) := by decide +kernel
theorem dX0_addGap_2 : decode cX0_addGap 2 = .ok (.if_icmp .le 5, 3) := by decide +kernel
theorem dX0_addGap_5 : decode cX0_addGap 5 = .ok (.iconst 0, 1) := by decide +kernel
theorem dX0_addGap_6 : decode cX0_addGap 6 = .ok (.ireturn, 1) := by decide +kernel
theorem dX0_addGap_7 : decode cX0_addGap 7 = .ok (.aload_n 0, 1) := by decide +kernel
theorem dX0_addGap_8 : decode cX0_addGap 8 = .ok (.dup, 1) := by decide +kernel
theorem dX0_addGap_9 : decode cX0_addGap 9 = .ok (.getfield 37, 3) := by decide +kernel
theorem dX0_addGap_12 : decode cX0_addGap 12 = .ok (.iconst 1, 1) := by decide +kernel
theorem dX0_addGap_13 : decode cX0_addGap 13 = .ok (.iload_n 1, 1) := by decide +kernel
theorem dX0_addGap_14 : decode cX0_addGap 14 = .ok (.ishl, 1) := by decide +kernel
theorem dX0_addGap_15 : decode cX0_addGap 15 = .ok (.ior, 1) := by decide +kernel
theorem dX0_addGap_16 : decode cX0_addGap 16 = .ok (.putfield 37, 3) := by decide +kernel
theorem dX0_addGap_19 : decode cX0_addGap 19 = .ok (.iconst 1, 1) := by decide +kernel
theorem dX0_addGap_20 : decode cX0_addGap 20 = .ok (.ireturn, 1) := by decide +kernel
theorem dX0_hasAllItNames_0 : decode cX0_hasAllItNames 0 = .ok (.iconst 0, 1) := by decide +kernel
theorem dX0_hasAllItNames_1 : decode cX0_hasAllItNames 1 = .ok (.istore_n 1, 1) := by decide +kernel
theorem dX0_hasAllItNames_2 : decode cX0_hasAllItNames 2 = .ok (.iload_n 1, 1) := by decide +kernel
theorem dX0_hasAllItNames_3 : decode cX0_hasAllItNames 3 = .ok (.aload_n 0, 1) := by decide +kernel
theorem dX0_hasAllItNames_4 : decode cX0_hasAllItNames 4 = .ok (.getfield 27, 3) := by decide +kernel
theorem dX0_hasAllItNames_7 : decode cX0_hasAllItNames 7 = .ok (.if_icmp .ge 24, 3) := by decide +kernel
theorem dX0_hasAllItNames_10 : decode cX0_hasAllItNames 10 = .ok (.aload_n 0, 1) := by decide +kernel
theorem dX0_hasAllItNames_11 : decode cX0_hasAllItNames 11 = .ok (.getfield 15, 3) := by decide +kernel
theorem dX0_hasAllItNames_14 : decode cX0_hasAllItNames 14 = .ok (.iload_n 1, 1) := by decide +kernel
theorem dX0_hasAllItNames_15 : decode cX0_hasAllItNames 15 = .ok (.iaload, 1) := by decide +kernel
theorem dX0_hasAllItNames_16 : decode cX0_hasAllItNames 16 = .ok (.aload_n 0, 1) := by decide +kernel
theorem dX0_hasAllItNames_17 : decode cX0_hasAllItNames 17 = .ok (.getfield 27, 3) := by decide +kernel
theorem dX0_hasAllItNames_20 : decode cX0_hasAllItNames 20 = .ok (.if_icmp .lt 5, 3) := by decide +kernel
theorem dX0_hasAllItNames_23 : decode cX0_hasAllItNames 23 = .ok (.iconst 0, 1) := by decide +kernel
theorem dX0_hasAllItNames_24 : decode cX0_hasAllItNames 24 = .ok (.ireturn, 1) := by decide +kernel
theorem dX0_hasAllItNames_25 : decode cX0_hasAllItNames 25 = .ok (.iinc 1 1, 3) := by decide +kernel
theorem dX0_hasAllItNames_28 : decode cX0_hasAllItNames 28 = .ok (.goto (-26), 3) := by decide +kernel
theorem dX0_hasAllItNames_31 : decode cX0_hasAllItNames 31 = .ok (.iconst 0, 1) := by decide +kernel
theorem dX0_hasAllItNames_32 : decode cX0_hasAllItNames 32 = .ok (.istore_n 1, 1) := by decide +kernel
theorem dX0_hasAllItNames_33 : decode cX0_hasAllItNames 33 = .ok (.iload_n 1, 1) := by decide +kernel
theorem dX0_hasAllItNames_34 : decode cX0_hasAllItNames 34 = .ok (.aload_n 0, 1) := by decide +kernel
theorem dX0_hasAllItNames_35 : decode cX0_hasAllItNames 35 = .ok (.getfield 31, 3) := by decide +kernel
theorem dX0_hasAllItNames_38 : decode cX0_hasAllItNames 38 = .ok (.if_icmp .ge 25, 3) := by decide +kernel
theorem dX0_hasAllItNames_41 : decode cX0_hasAllItNames 41 = .ok (.aload_n 0, 1) := by decide +kernel
theorem dX0_hasAllItNames_42 : decode cX0_hasAllItNames 42 = .ok (.getfield 21, 3) := by decide +kernel
theorem dX0_hasAllItNames_45 : decode cX0_hasAllItNames 45 = .ok (.iload_n 1, 1) := by decide +kernel
theorem dX0_hasAllItNames_46 : decode cX0_hasAllItNames 46 = .ok (.iaload, 1) := by decide +kernel
theorem dX0_hasAllItNames_47 : decode cX0_hasAllItNames 47 = .ok (.aload_n 0, 1) := by decide +kernel
theorem dX0_hasAllItNames_48 : decode cX0_hasAllItNames 48 = .ok (.getfield 27, 3) := by decide +kernel
theorem dX0_hasAllItNames_51 : decode cX0_hasAllItNames 51 = .ok (.ishr, 1) := by decide +kernel
theorem dX0_hasAllItNames_52 : decode cX0_hasAllItNames 52 = .ok (.ifCond .eq 5, 3) := by decide +kernel
theorem dX0_hasAllItNames_55 : decode cX0_hasAllItNames 55 = .ok (.iconst 0, 1) := by decide +kernel
theorem dX0_hasAllItNames_56 : decode cX0_hasAllItNames 56 = .ok (.ireturn, 1) := by decide +kernel
theorem dX0_hasAllItNames_57 : decode cX0_hasAllItNames 57 = .ok (.iinc 1 1, 3) := by decide +kernel
theorem dX0_hasAllItNames_60 : decode cX0_hasAllItNames 60 = .ok (.goto (-27), 3) := by decide +kernel
theorem dX0_hasAllItNames_63 : decode cX0_hasAllItNames 63 = .ok (.aload_n 0, 1) := by decide +kernel
theorem dX0_hasAllItNames_64 : decode cX0_hasAllItNames 64 = .ok (.getfield 27, 3) := by decide +kernel
theorem dX0_hasAllItNames_67 : decode cX0_hasAllItNames 67 = .ok (.ifCond .le 7, 3) := by decide +kernel
theorem dX0_hasAllItNames_70 : decode cX0_hasAllItNames 70 = .ok (.iconst 1, 1) := by decide +kernel
theorem dX0_hasAllItNames_71 : decode cX0_hasAllItNames 71 = .ok (.goto 4, 3) := by decide +kernel
theorem dX0_hasAllItNames_74 : decode cX0_hasAllItNames 74 = .ok (.iconst 0, 1) := by decide +kernel
theorem dX0_hasAllItNames_75 : decode cX0_hasAllItNames 75 = .ok (.ireturn, 1) := by decide +kernel
theorem dX0_seatAll_0 : decode cX0_seatAll 0 = .ok (.aload_n 0, 1) := by decide +kernel
theorem dX0_seatAll_1 : decode cX0_seatAll 1 = .ok (.invokevirtual 46, 3) := by decide +kernel
theorem dX0_seatAll_4 : decode cX0_seatAll 4 = .ok (.istore_n 2, 1) := by decide +kernel
theorem dX0_seatAll_5 : decode cX0_seatAll 5 = .ok (.aload_n 0, 1) := by decide +kernel
theorem dX0_seatAll_6 : decode cX0_seatAll 6 = .ok (.getfield 34, 3) := by decide +kernel
theorem dX0_seatAll_9 : decode cX0_seatAll 9 = .ok (.istore_n 3, 1) := by decide +kernel
theorem dX0_seatAll_10 : decode cX0_seatAll 10 = .ok (.aload_n 0, 1) := by decide +kernel
theorem dX0_seatAll_11 : decode cX0_seatAll 11 = .ok (.getfield 24, 3) := by decide +kernel
theorem dX0_seatAll_14 : decode cX0_seatAll 14 = .ok (.iconst 0, 1) := by decide +kernel
theorem dX0_seatAll_15 : decode cX0_seatAll 15 = .ok (.aload_n 1, 1) := by decide +kernel
theorem dX0_seatAll_16 : decode cX0_seatAll 16 = .ok (.iconst 0, 1) := by decide +kernel
theorem dX0_seatAll_17 : decode cX0_seatAll 17 = .ok (.aload_n 1, 1) := by decide +kernel
theorem dX0_seatAll_18 : decode cX0_seatAll 18 = .ok (.arraylength, 1) := by decide +kernel
theorem dX0_seatAll_19 : decode cX0_seatAll 19 = .ok (.invokestatic 40, 3) := by decide +kernel
theorem dX0_seatAll_22 : decode cX0_seatAll 22 = .ok (.iconst 0, 1) := by decide +kernel
theorem dX0_seatAll_23 : decode cX0_seatAll 23 = .ok (.istore 4, 2) := by decide +kernel
theorem dX0_seatAll_25 : decode cX0_seatAll 25 = .ok (.iload 4, 2) := by decide +kernel
theorem dX0_seatAll_27 : decode cX0_seatAll 27 = .ok (.aload_n 0, 1) := by decide +kernel
theorem dX0_seatAll_28 : decode cX0_seatAll 28 = .ok (.getfield 27, 3) := by decide +kernel
theorem dX0_seatAll_31 : decode cX0_seatAll 31 = .ok (.if_icmp .ge 32, 3) := by decide +kernel
theorem dX0_seatAll_34 : decode cX0_seatAll 34 = .ok (.iload_n 3, 1) := by decide +kernel
theorem dX0_seatAll_35 : decode cX0_seatAll 35 = .ok (.aload_n 1, 1) := by decide +kernel
theorem dX0_seatAll_36 : decode cX0_seatAll 36 = .ok (.arraylength, 1) := by decide +kernel
theorem dX0_seatAll_37 : decode cX0_seatAll 37 = .ok (.if_icmp .ge 26, 3) := by decide +kernel
theorem dX0_seatAll_40 : decode cX0_seatAll 40 = .ok (.iload_n 2, 1) := by decide +kernel
theorem dX0_seatAll_41 : decode cX0_seatAll 41 = .ok (.iload 4, 2) := by decide +kernel
theorem dX0_seatAll_43 : decode cX0_seatAll 43 = .ok (.ishr, 1) := by decide +kernel
theorem dX0_seatAll_44 : decode cX0_seatAll 44 = .ok (.iconst 1, 1) := by decide +kernel
theorem dX0_seatAll_45 : decode cX0_seatAll 45 = .ok (.iand, 1) := by decide +kernel
theorem dX0_seatAll_46 : decode cX0_seatAll 46 = .ok (.ifCond .ne 11, 3) := by decide +kernel
theorem dX0_seatAll_49 : decode cX0_seatAll 49 = .ok (.aload_n 1, 1) := by decide +kernel
theorem dX0_seatAll_50 : decode cX0_seatAll 50 = .ok (.iload_n 3, 1) := by decide +kernel
theorem dX0_seatAll_51 : decode cX0_seatAll 51 = .ok (.iload 4, 2) := by decide +kernel
theorem dX0_seatAll_53 : decode cX0_seatAll 53 = .ok (.iastore, 1) := by decide +kernel
theorem dX0_seatAll_54 : decode cX0_seatAll 54 = .ok (.iinc 3 1, 3) := by decide +kernel
theorem dX0_seatAll_57 : decode cX0_seatAll 57 = .ok (.iinc 4 1, 3) := by decide +kernel
theorem dX0_seatAll_60 : decode cX0_seatAll 60 = .ok (.goto (-35), 3) := by decide +kernel
theorem dX0_seatAll_63 : decode cX0_seatAll 63 = .ok (.return_, 1) := by decide +kernel
theorem dX0_toldSet_0 : decode cX0_toldSet 0 = .ok (.iconst 0, 1) := by decide +kernel
theorem dX0_toldSet_1 : decode cX0_toldSet 1 = .ok (.istore_n 1, 1) := by decide +kernel
theorem dX0_toldSet_2 : decode cX0_toldSet 2 = .ok (.iconst 0, 1) := by decide +kernel
theorem dX0_toldSet_3 : decode cX0_toldSet 3 = .ok (.istore_n 2, 1) := by decide +kernel
theorem dX0_toldSet_4 : decode cX0_toldSet 4 = .ok (.iload_n 2, 1) := by decide +kernel
theorem dX0_toldSet_5 : decode cX0_toldSet 5 = .ok (.aload_n 0, 1) := by decide +kernel
theorem dX0_toldSet_6 : decode cX0_toldSet 6 = .ok (.getfield 34, 3) := by decide +kernel
theorem dX0_toldSet_9 : decode cX0_toldSet 9 = .ok (.if_icmp .ge 20, 3) := by decide +kernel
theorem dX0_toldSet_12 : decode cX0_toldSet 12 = .ok (.iload_n 1, 1) := by decide +kernel
theorem dX0_toldSet_13 : decode cX0_toldSet 13 = .ok (.iconst 1, 1) := by decide +kernel
theorem dX0_toldSet_14 : decode cX0_toldSet 14 = .ok (.aload_n 0, 1) := by decide +kernel
theorem dX0_toldSet_15 : decode cX0_toldSet 15 = .ok (.getfield 24, 3) := by decide +kernel
theorem dX0_toldSet_18 : decode cX0_toldSet 18 = .ok (.iload_n 2, 1) := by decide +kernel
theorem dX0_toldSet_19 : decode cX0_toldSet 19 = .ok (.iaload, 1) := by decide +kernel
theorem dX0_toldSet_20 : decode cX0_toldSet 20 = .ok (.ishl, 1) := by decide +kernel
theorem dX0_toldSet_21 : decode cX0_toldSet 21 = .ok (.ior, 1) := by decide +kernel
theorem dX0_toldSet_22 : decode cX0_toldSet 22 = .ok (.istore_n 1, 1) := by decide +kernel
theorem dX0_toldSet_23 : decode cX0_toldSet 23 = .ok (.iinc 2 1, 3) := by decide +kernel
theorem dX0_toldSet_26 : decode cX0_toldSet 26 = .ok (.goto (-22), 3) := by decide +kernel
theorem dX0_toldSet_29 : decode cX0_toldSet 29 = .ok (.iload_n 1, 1) := by decide +kernel
theorem dX0_toldSet_30 : decode cX0_toldSet 30 = .ok (.ireturn, 1) := by decide +kernel
theorem dX1_init_0 : decode cX1_init 0 = .ok (.aload_n 0, 1) := by decide +kernel
theorem dX1_init_1 : decode cX1_init 1 = .ok (.invokespecial 3, 3) := by decide +kernel
theorem dX1_init_4 : decode cX1_init 4 = .ok (.aload_n 0, 1) := by decide +kernel
theorem dX1_init_5 : decode cX1_init 5 = .ok (.bipush 7, 2) := by decide +kernel
theorem dX1_init_7 : decode cX1_init 7 = .ok (.newarray .int, 2) := by decide +kernel
theorem dX1_init_9 : decode cX1_init 9 = .ok (.putfield 9, 3) := by decide +kernel
theorem dX1_init_12 : decode cX1_init 12 = .ok (.aload_n 0, 1) := by decide +kernel
theorem dX1_init_13 : decode cX1_init 13 = .ok (.bipush 8, 2) := by decide +kernel
theorem dX1_init_15 : decode cX1_init 15 = .ok (.newarray .int, 2) := by decide +kernel
theorem dX1_init_17 : decode cX1_init 17 = .ok (.putfield 15, 3) := by decide +kernel
theorem dX1_init_20 : decode cX1_init 20 = .ok (.return_, 1) := by decide +kernel
theorem dX1_playAll_0 : decode cX1_playAll 0 = .ok (.aload_n 0, 1) := by decide +kernel
theorem dX1_playAll_1 : decode cX1_playAll 1 = .ok (.aload_n 1, 1) := by decide +kernel
theorem dX1_playAll_2 : decode cX1_playAll 2 = .ok (.getfield 18, 3) := by decide +kernel
theorem dX1_playAll_5 : decode cX1_playAll 5 = .ok (.aload_n 2, 1) := by decide +kernel
theorem dX1_playAll_6 : decode cX1_playAll 6 = .ok (.iload_n 3, 1) := by decide +kernel
theorem dX1_playAll_7 : decode cX1_playAll 7 = .ok (.invokevirtual 24, 3) := by decide +kernel
theorem dX1_playAll_10 : decode cX1_playAll 10 = .ok (.aload_n 0, 1) := by decide +kernel
theorem dX1_playAll_11 : decode cX1_playAll 11 = .ok (.aload_n 1, 1) := by decide +kernel
theorem dX1_playAll_12 : decode cX1_playAll 12 = .ok (.iload 4, 2) := by decide +kernel
theorem dX1_playAll_14 : decode cX1_playAll 14 = .ok (.invokevirtual 28, 3) := by decide +kernel
theorem dX1_playAll_17 : decode cX1_playAll 17 = .ok (.istore 6, 2) := by decide +kernel
theorem dX1_playAll_19 : decode cX1_playAll 19 = .ok (.iconst 0, 1) := by decide +kernel
theorem dX1_playAll_20 : decode cX1_playAll 20 = .ok (.istore 7, 2) := by decide +kernel
theorem dX1_playAll_22 : decode cX1_playAll 22 = .ok (.aload_n 0, 1) := by decide +kernel
theorem dX1_playAll_23 : decode cX1_playAll 23 = .ok (.iconst 0, 1) := by decide +kernel
theorem dX1_playAll_24 : decode cX1_playAll 24 = .ok (.putfield 32, 3) := by decide +kernel
theorem dX1_playAll_27 : decode cX1_playAll 27 = .ok (.aload_n 0, 1) := by decide +kernel
theorem dX1_playAll_28 : decode cX1_playAll 28 = .ok (.iconst 0, 1) := by decide +kernel
theorem dX1_playAll_29 : decode cX1_playAll 29 = .ok (.putfield 35, 3) := by decide +kernel
theorem dX1_playAll_32 : decode cX1_playAll 32 = .ok (.iconst 0, 1) := by decide +kernel
theorem dX1_playAll_33 : decode cX1_playAll 33 = .ok (.istore 8, 2) := by decide +kernel
theorem dX1_playAll_35 : decode cX1_playAll 35 = .ok (.iload 8, 2) := by decide +kernel
theorem dX1_playAll_37 : decode cX1_playAll 37 = .ok (.aload_n 1, 1) := by decide +kernel
theorem dX1_playAll_38 : decode cX1_playAll 38 = .ok (.getfield 38, 3) := by decide +kernel
theorem dX1_playAll_41 : decode cX1_playAll 41 = .ok (.if_icmp .ge 82, 3) := by decide +kernel
theorem dX1_playAll_44 : decode cX1_playAll 44 = .ok (.aload_n 1, 1) := by decide +kernel
theorem dX1_playAll_45 : decode cX1_playAll 45 = .ok (.getfield 41, 3) := by decide +kernel
theorem dX1_playAll_48 : decode cX1_playAll 48 = .ok (.iload 8, 2) := by decide +kernel
theorem dX1_playAll_50 : decode cX1_playAll 50 = .ok (.iaload, 1) := by decide +kernel
theorem dX1_playAll_51 : decode cX1_playAll 51 = .ok (.iload 5, 2) := by decide +kernel
theorem dX1_playAll_53 : decode cX1_playAll 53 = .ok (.iand, 1) := by decide +kernel
theorem dX1_playAll_54 : decode cX1_playAll 54 = .ok (.istore 9, 2) := by decide +kernel
theorem dX1_playAll_56 : decode cX1_playAll 56 = .ok (.iload 9, 2) := by decide +kernel
theorem dX1_playAll_58 : decode cX1_playAll 58 = .ok (.iload 6, 2) := by decide +kernel
theorem dX1_playAll_60 : decode cX1_playAll 60 = .ok (.aload_n 0, 1) := by decide +kernel
theorem dX1_playAll_61 : decode cX1_playAll 61 = .ok (.aload_n 1, 1) := by decide +kernel
theorem dX1_playAll_62 : decode cX1_playAll 62 = .ok (.iload 8, 2) := by decide +kernel
theorem dX1_playAll_64 : decode cX1_playAll 64 = .ok (.iload 7, 2) := by decide +kernel
theorem dX1_playAll_66 : decode cX1_playAll 66 = .ok (.invokevirtual 44, 3) := by decide +kernel
theorem dX1_playAll_69 : decode cX1_playAll 69 = .ok (.ior, 1) := by decide +kernel
theorem dX1_playAll_70 : decode cX1_playAll 70 = .ok (.iand, 1) := by decide +kernel
theorem dX1_playAll_71 : decode cX1_playAll 71 = .ok (.istore 7, 2) := by decide +kernel
theorem dX1_playAll_73 : decode cX1_playAll 73 = .ok (.aload_n 0, 1) := by decide +kernel
theorem dX1_playAll_74 : decode cX1_playAll 74 = .ok (.getfield 15, 3) := by decide +kernel
theorem dX1_playAll_77 : decode cX1_playAll 77 = .ok (.iload 8, 2) := by decide +kernel
theorem dX1_playAll_79 : decode cX1_playAll 79 = .ok (.iload 7, 2) := by decide +kernel
theorem dX1_playAll_81 : decode cX1_playAll 81 = .ok (.iastore, 1) := by decide +kernel
theorem dX1_playAll_82 : decode cX1_playAll 82 = .ok (.aload_n 0, 1) := by decide +kernel
theorem dX1_playAll_83 : decode cX1_playAll 83 = .ok (.dup, 1) := by decide +kernel
theorem dX1_playAll_84 : decode cX1_playAll 84 = .ok (.getfield 32, 3) := by decide +kernel
theorem dX1_playAll_87 : decode cX1_playAll 87 = .ok (.iload 7, 2) := by decide +kernel
theorem dX1_playAll_89 : decode cX1_playAll 89 = .ok (.invokestatic 48, 3) := by decide +kernel
theorem dX1_playAll_92 : decode cX1_playAll 92 = .ok (.iadd, 1) := by decide +kernel
theorem dX1_playAll_93 : decode cX1_playAll 93 = .ok (.putfield 32, 3) := by decide +kernel
theorem dX1_playAll_96 : decode cX1_playAll 96 = .ok (.aload_n 0, 1) := by decide +kernel
theorem dX1_playAll_97 : decode cX1_playAll 97 = .ok (.dup, 1) := by decide +kernel
theorem dX1_playAll_98 : decode cX1_playAll 98 = .ok (.getfield 35, 3) := by decide +kernel
theorem dX1_playAll_101 : decode cX1_playAll 101 = .ok (.iload 7, 2) := by decide +kernel
theorem dX1_playAll_103 : decode cX1_playAll 103 = .ok (.iload 9, 2) := by decide +kernel
theorem dX1_playAll_105 : decode cX1_playAll 105 = .ok (.if_icmp .ne 7, 3) := by decide +kernel
theorem dX1_playAll_108 : decode cX1_playAll 108 = .ok (.iconst 1, 1) := by decide +kernel
theorem dX1_playAll_109 : decode cX1_playAll 109 = .ok (.goto 4, 3) := by decide +kernel
theorem dX1_playAll_112 : decode cX1_playAll 112 = .ok (.iconst 0, 1) := by decide +kernel
theorem dX1_playAll_113 : decode cX1_playAll 113 = .ok (.iadd, 1) := by decide +kernel
theorem dX1_playAll_114 : decode cX1_playAll 114 = .ok (.putfield 35, 3) := by decide +kernel
theorem dX1_playAll_117 : decode cX1_playAll 117 = .ok (.iinc 8 1, 3) := by decide +kernel
theorem dX1_playAll_120 : decode cX1_playAll 120 = .ok (.goto (-85), 3) := by decide +kernel
theorem dX1_playAll_123 : decode cX1_playAll 123 = .ok (.return_, 1) := by decide +kernel
theorem dX1_lookAround_0 : decode cX1_lookAround 0 = .ok (.iconst 0, 1) := by decide +kernel
theorem dX1_lookAround_1 : decode cX1_lookAround 1 = .ok (.istore 4, 2) := by decide +kernel
theorem dX1_lookAround_3 : decode cX1_lookAround 3 = .ok (.iload 4, 2) := by decide +kernel
theorem dX1_lookAround_5 : decode cX1_lookAround 5 = .ok (.iload_n 1, 1) := by decide +kernel
theorem dX1_lookAround_6 : decode cX1_lookAround 6 = .ok (.if_icmp .ge 100, 3) := by decide +kernel
theorem dX1_lookAround_9 : decode cX1_lookAround 9 = .ok (.iload 4, 2) := by decide +kernel
theorem dX1_lookAround_11 : decode cX1_lookAround 11 = .ok (.ifCond .le 18, 3) := by decide +kernel
theorem dX1_lookAround_14 : decode cX1_lookAround 14 = .ok (.iload_n 3, 1) := by decide +kernel
theorem dX1_lookAround_15 : decode cX1_lookAround 15 = .ok (.iload 4, 2) := by decide +kernel
theorem dX1_lookAround_17 : decode cX1_lookAround 17 = .ok (.iconst 1, 1) := by decide +kernel
theorem dX1_lookAround_18 : decode cX1_lookAround 18 = .ok (.isub, 1) := by decide +kernel
theorem dX1_lookAround_19 : decode cX1_lookAround 19 = .ok (.ishr, 1) := by decide +kernel
theorem dX1_lookAround_20 : decode cX1_lookAround 20 = .ok (.iconst 1, 1) := by decide +kernel
theorem dX1_lookAround_21 : decode cX1_lookAround 21 = .ok (.iand, 1) := by decide +kernel
theorem dX1_lookAround_22 : decode cX1_lookAround 22 = .ok (.ifCond .ne 7, 3) := by decide +kernel
theorem dX1_lookAround_25 : decode cX1_lookAround 25 = .ok (.iconst 1, 1) := by decide +kernel
theorem dX1_lookAround_26 : decode cX1_lookAround 26 = .ok (.goto 4, 3) := by decide +kernel
theorem dX1_lookAround_29 : decode cX1_lookAround 29 = .ok (.iconst 0, 1) := by decide +kernel
theorem dX1_lookAround_30 : decode cX1_lookAround 30 = .ok (.istore 5, 2) := by decide +kernel
theorem dX1_lookAround_32 : decode cX1_lookAround 32 = .ok (.iload 4, 2) := by decide +kernel
theorem dX1_lookAround_34 : decode cX1_lookAround 34 = .ok (.iconst 1, 1) := by decide +kernel
theorem dX1_lookAround_35 : decode cX1_lookAround 35 = .ok (.iadd, 1) := by decide +kernel
theorem dX1_lookAround_36 : decode cX1_lookAround 36 = .ok (.iload_n 1, 1) := by decide +kernel
theorem dX1_lookAround_37 : decode cX1_lookAround 37 = .ok (.if_icmp .ge 16, 3) := by decide +kernel
theorem dX1_lookAround_40 : decode cX1_lookAround 40 = .ok (.iload_n 3, 1) := by decide +kernel
theorem dX1_lookAround_41 : decode cX1_lookAround 41 = .ok (.iload 4, 2) := by decide +kernel
theorem dX1_lookAround_43 : decode cX1_lookAround 43 = .ok (.ishr, 1) := by decide +kernel
theorem dX1_lookAround_44 : decode cX1_lookAround 44 = .ok (.iconst 1, 1) := by decide +kernel
theorem dX1_lookAround_45 : decode cX1_lookAround 45 = .ok (.iand, 1) := by decide +kernel
theorem dX1_lookAround_46 : decode cX1_lookAround 46 = .ok (.ifCond .ne 7, 3) := by decide +kernel
theorem dX1_lookAround_49 : decode cX1_lookAround 49 = .ok (.iconst 1, 1) := by decide +kernel
theorem dX1_lookAround_50 : decode cX1_lookAround 50 = .ok (.goto 4, 3) := by decide +kernel
theorem dX1_lookAround_53 : decode cX1_lookAround 53 = .ok (.iconst 0, 1) := by decide +kernel
theorem dX1_lookAround_54 : decode cX1_lookAround 54 = .ok (.istore 6, 2) := by decide +kernel
theorem dX1_lookAround_56 : decode cX1_lookAround 56 = .ok (.aload_n 0, 1) := by decide +kernel
theorem dX1_lookAround_57 : decode cX1_lookAround 57 = .ok (.getfield 9, 3) := by decide +kernel
theorem dX1_lookAround_60 : decode cX1_lookAround 60 = .ok (.aload_n 2, 1) := by decide +kernel
theorem dX1_lookAround_61 : decode cX1_lookAround 61 = .ok (.iload 4, 2) := by decide +kernel
theorem dX1_lookAround_63 : decode cX1_lookAround 63 = .ok (.iaload, 1) := by decide +kernel
theorem dX1_lookAround_64 : decode cX1_lookAround 64 = .ok (.iload 5, 2) := by decide +kernel
theorem dX1_lookAround_66 : decode cX1_lookAround 66 = .ok (.ifCond .eq 14, 3) := by decide +kernel
theorem dX1_lookAround_69 : decode cX1_lookAround 69 = .ok (.iconst 1, 1) := by decide +kernel
theorem dX1_lookAround_70 : decode cX1_lookAround 70 = .ok (.aload_n 2, 1) := by decide +kernel
theorem dX1_lookAround_71 : decode cX1_lookAround 71 = .ok (.iload 4, 2) := by decide +kernel
theorem dX1_lookAround_73 : decode cX1_lookAround 73 = .ok (.iconst 1, 1) := by decide +kernel
theorem dX1_lookAround_74 : decode cX1_lookAround 74 = .ok (.isub, 1) := by decide +kernel
theorem dX1_lookAround_75 : decode cX1_lookAround 75 = .ok (.iaload, 1) := by decide +kernel
theorem dX1_lookAround_76 : decode cX1_lookAround 76 = .ok (.ishl, 1) := by decide +kernel
theorem dX1_lookAround_77 : decode cX1_lookAround 77 = .ok (.goto 4, 3) := by decide +kernel
theorem dX1_lookAround_80 : decode cX1_lookAround 80 = .ok (.iconst 0, 1) := by decide +kernel
theorem dX1_lookAround_81 : decode cX1_lookAround 81 = .ok (.iload 6, 2) := by decide +kernel
theorem dX1_lookAround_83 : decode cX1_lookAround 83 = .ok (.ifCond .eq 14, 3) := by decide +kernel
theorem dX1_lookAround_86 : decode cX1_lookAround 86 = .ok (.iconst 1, 1) := by decide +kernel
theorem dX1_lookAround_87 : decode cX1_lookAround 87 = .ok (.aload_n 2, 1) := by decide +kernel
theorem dX1_lookAround_88 : decode cX1_lookAround 88 = .ok (.iload 4, 2) := by decide +kernel
theorem dX1_lookAround_90 : decode cX1_lookAround 90 = .ok (.iconst 1, 1) := by decide +kernel
theorem dX1_lookAround_91 : decode cX1_lookAround 91 = .ok (.iadd, 1) := by decide +kernel
theorem dX1_lookAround_92 : decode cX1_lookAround 92 = .ok (.iaload, 1) := by decide +kernel
theorem dX1_lookAround_93 : decode cX1_lookAround 93 = .ok (.ishl, 1) := by decide +kernel
theorem dX1_lookAround_94 : decode cX1_lookAround 94 = .ok (.goto 4, 3) := by decide +kernel
theorem dX1_lookAround_97 : decode cX1_lookAround 97 = .ok (.iconst 0, 1) := by decide +kernel
theorem dX1_lookAround_98 : decode cX1_lookAround 98 = .ok (.ior, 1) := by decide +kernel
theorem dX1_lookAround_99 : decode cX1_lookAround 99 = .ok (.iastore, 1) := by decide +kernel
theorem dX1_lookAround_100 : decode cX1_lookAround 100 = .ok (.iinc 4 1, 3) := by decide +kernel
theorem dX1_lookAround_103 : decode cX1_lookAround 103 = .ok (.goto (-100), 3) := by decide +kernel
theorem dX1_lookAround_106 : decode cX1_lookAround 106 = .ok (.return_, 1) := by decide +kernel
theorem dX1_comeAnyway_0 : decode cX1_comeAnyway 0 = .ok (.iload_n 2, 1) := by decide +kernel
theorem dX1_comeAnyway_1 : decode cX1_comeAnyway 1 = .ok (.istore_n 3, 1) := by decide +kernel
theorem dX1_comeAnyway_2 : decode cX1_comeAnyway 2 = .ok (.iconst 0, 1) := by decide +kernel
theorem dX1_comeAnyway_3 : decode cX1_comeAnyway 3 = .ok (.istore 4, 2) := by decide +kernel
theorem dX1_comeAnyway_5 : decode cX1_comeAnyway 5 = .ok (.iload 4, 2) := by decide +kernel
theorem dX1_comeAnyway_7 : decode cX1_comeAnyway 7 = .ok (.aload_n 1, 1) := by decide +kernel
theorem dX1_comeAnyway_8 : decode cX1_comeAnyway 8 = .ok (.getfield 18, 3) := by decide +kernel
theorem dX1_comeAnyway_11 : decode cX1_comeAnyway 11 = .ok (.if_icmp .ge 56, 3) := by decide +kernel
theorem dX1_comeAnyway_14 : decode cX1_comeAnyway 14 = .ok (.aload_n 1, 1) := by decide +kernel
theorem dX1_comeAnyway_15 : decode cX1_comeAnyway 15 = .ok (.getfield 54, 3) := by decide +kernel
theorem dX1_comeAnyway_18 : decode cX1_comeAnyway 18 = .ok (.iload 4, 2) := by decide +kernel
theorem dX1_comeAnyway_20 : decode cX1_comeAnyway 20 = .ok (.iaload, 1) := by decide +kernel
theorem dX1_comeAnyway_21 : decode cX1_comeAnyway 21 = .ok (.istore 5, 2) := by decide +kernel
theorem dX1_comeAnyway_23 : decode cX1_comeAnyway 23 = .ok (.iload 5, 2) := by decide +kernel
theorem dX1_comeAnyway_25 : decode cX1_comeAnyway 25 = .ok (.ifCond .eq 29, 3) := by decide +kernel
theorem dX1_comeAnyway_28 : decode cX1_comeAnyway 28 = .ok (.iload 5, 2) := by decide +kernel
theorem dX1_comeAnyway_30 : decode cX1_comeAnyway 30 = .ok (.iconst 1, 1) := by decide +kernel
theorem dX1_comeAnyway_31 : decode cX1_comeAnyway 31 = .ok (.if_icmp .ne 30, 3) := by decide +kernel
theorem dX1_comeAnyway_34 : decode cX1_comeAnyway 34 = .ok (.aload_n 0, 1) := by decide +kernel
theorem dX1_comeAnyway_35 : decode cX1_comeAnyway 35 = .ok (.getfield 9, 3) := by decide +kernel
theorem dX1_comeAnyway_38 : decode cX1_comeAnyway 38 = .ok (.iload 4, 2) := by decide +kernel
theorem dX1_comeAnyway_40 : decode cX1_comeAnyway 40 = .ok (.iaload, 1) := by decide +kernel
theorem dX1_comeAnyway_41 : decode cX1_comeAnyway 41 = .ok (.aload_n 1, 1) := by decide +kernel
theorem dX1_comeAnyway_42 : decode cX1_comeAnyway 42 = .ok (.getfield 57, 3) := by decide +kernel
theorem dX1_comeAnyway_45 : decode cX1_comeAnyway 45 = .ok (.iload 4, 2) := by decide +kernel
theorem dX1_comeAnyway_47 : decode cX1_comeAnyway 47 = .ok (.iaload, 1) := by decide +kernel
theorem dX1_comeAnyway_48 : decode cX1_comeAnyway 48 = .ok (.ishr, 1) := by decide +kernel
theorem dX1_comeAnyway_49 : decode cX1_comeAnyway 49 = .ok (.iconst 1, 1) := by decide +kernel
theorem dX1_comeAnyway_50 : decode cX1_comeAnyway 50 = .ok (.iand, 1) := by decide +kernel
theorem dX1_comeAnyway_51 : decode cX1_comeAnyway 51 = .ok (.ifCond .ne 10, 3) := by decide +kernel
theorem dX1_comeAnyway_54 : decode cX1_comeAnyway 54 = .ok (.iload_n 3, 1) := by decide +kernel
theorem dX1_comeAnyway_55 : decode cX1_comeAnyway 55 = .ok (.iconst 1, 1) := by decide +kernel
theorem dX1_comeAnyway_56 : decode cX1_comeAnyway 56 = .ok (.iload 4, 2) := by decide +kernel
theorem dX1_comeAnyway_58 : decode cX1_comeAnyway 58 = .ok (.ishl, 1) := by decide +kernel
theorem dX1_comeAnyway_59 : decode cX1_comeAnyway 59 = .ok (.ior, 1) := by decide +kernel
theorem dX1_comeAnyway_60 : decode cX1_comeAnyway 60 = .ok (.istore_n 3, 1) := by decide +kernel
theorem dX1_comeAnyway_61 : decode cX1_comeAnyway 61 = .ok (.iinc 4 1, 3) := by decide +kernel
theorem dX1_comeAnyway_64 : decode cX1_comeAnyway 64 = .ok (.goto (-59), 3) := by decide +kernel
theorem dX1_comeAnyway_67 : decode cX1_comeAnyway 67 = .ok (.iload_n 3, 1) := by decide +kernel
theorem dX1_comeAnyway_68 : decode cX1_comeAnyway 68 = .ok (.ireturn, 1) := by decide +kernel
theorem dX1_comeAfter_0 : decode cX1_comeAfter 0 = .ok (.iconst 0, 1) := by decide +kernel
theorem dX1_comeAfter_1 : decode cX1_comeAfter 1 = .ok (.istore 4, 2) := by decide +kernel
theorem dX1_comeAfter_3 : decode cX1_comeAfter 3 = .ok (.iconst 0, 1) := by decide +kernel
theorem dX1_comeAfter_4 : decode cX1_comeAfter 4 = .ok (.istore 5, 2) := by decide +kernel
theorem dX1_comeAfter_6 : decode cX1_comeAfter 6 = .ok (.iload 5, 2) := by decide +kernel
theorem dX1_comeAfter_8 : decode cX1_comeAfter 8 = .ok (.aload_n 1, 1) := by decide +kernel
theorem dX1_comeAfter_9 : decode cX1_comeAfter 9 = .ok (.getfield 18, 3) := by decide +kernel
theorem dX1_comeAfter_12 : decode cX1_comeAfter 12 = .ok (.if_icmp .ge 93, 3) := by decide +kernel
theorem dX1_comeAfter_15 : decode cX1_comeAfter 15 = .ok (.aload_n 1, 1) := by decide +kernel
theorem dX1_comeAfter_16 : decode cX1_comeAfter 16 = .ok (.getfield 54, 3) := by decide +kernel
theorem dX1_comeAfter_19 : decode cX1_comeAfter 19 = .ok (.iload 5, 2) := by decide +kernel
theorem dX1_comeAfter_21 : decode cX1_comeAfter 21 = .ok (.iaload, 1) := by decide +kernel
theorem dX1_comeAfter_22 : decode cX1_comeAfter 22 = .ok (.istore 6, 2) := by decide +kernel
theorem dX1_comeAfter_24 : decode cX1_comeAfter 24 = .ok (.iload 6, 2) := by decide +kernel
theorem dX1_comeAfter_26 : decode cX1_comeAfter 26 = .ok (.iconst 1, 1) := by decide +kernel
theorem dX1_comeAfter_27 : decode cX1_comeAfter 27 = .ok (.if_icmp .gt 6, 3) := by decide +kernel
theorem dX1_comeAfter_30 : decode cX1_comeAfter 30 = .ok (.goto 69, 3) := by decide +kernel
theorem dX1_comeAfter_33 : decode cX1_comeAfter 33 = .ok (.iload 6, 2) := by decide +kernel
theorem dX1_comeAfter_35 : decode cX1_comeAfter 35 = .ok (.iconst 2, 1) := by decide +kernel
theorem dX1_comeAfter_36 : decode cX1_comeAfter 36 = .ok (.if_icmp .ne 26, 3) := by decide +kernel
theorem dX1_comeAfter_39 : decode cX1_comeAfter 39 = .ok (.iload_n 3, 1) := by decide +kernel
theorem dX1_comeAfter_40 : decode cX1_comeAfter 40 = .ok (.aload_n 1, 1) := by decide +kernel
theorem dX1_comeAfter_41 : decode cX1_comeAfter 41 = .ok (.getfield 57, 3) := by decide +kernel
theorem dX1_comeAfter_44 : decode cX1_comeAfter 44 = .ok (.iload 5, 2) := by decide +kernel
theorem dX1_comeAfter_46 : decode cX1_comeAfter 46 = .ok (.iaload, 1) := by decide +kernel
theorem dX1_comeAfter_47 : decode cX1_comeAfter 47 = .ok (.ishr, 1) := by decide +kernel
theorem dX1_comeAfter_48 : decode cX1_comeAfter 48 = .ok (.iconst 1, 1) := by decide +kernel
theorem dX1_comeAfter_49 : decode cX1_comeAfter 49 = .ok (.iand, 1) := by decide +kernel
theorem dX1_comeAfter_50 : decode cX1_comeAfter 50 = .ok (.iconst 1, 1) := by decide +kernel
theorem dX1_comeAfter_51 : decode cX1_comeAfter 51 = .ok (.if_icmp .ne 7, 3) := by decide +kernel
theorem dX1_comeAfter_54 : decode cX1_comeAfter 54 = .ok (.iconst 1, 1) := by decide +kernel
theorem dX1_comeAfter_55 : decode cX1_comeAfter 55 = .ok (.goto 24, 3) := by decide +kernel
theorem dX1_comeAfter_58 : decode cX1_comeAfter 58 = .ok (.iconst 0, 1) := by decide +kernel
theorem dX1_comeAfter_59 : decode cX1_comeAfter 59 = .ok (.goto 20, 3) := by decide +kernel
theorem dX1_comeAfter_62 : decode cX1_comeAfter 62 = .ok (.iload_n 3, 1) := by decide +kernel
theorem dX1_comeAfter_63 : decode cX1_comeAfter 63 = .ok (.aload_n 0, 1) := by decide +kernel
theorem dX1_comeAfter_64 : decode cX1_comeAfter 64 = .ok (.getfield 9, 3) := by decide +kernel
theorem dX1_comeAfter_67 : decode cX1_comeAfter 67 = .ok (.iload 5, 2) := by decide +kernel
theorem dX1_comeAfter_69 : decode cX1_comeAfter 69 = .ok (.iaload, 1) := by decide +kernel
theorem dX1_comeAfter_70 : decode cX1_comeAfter 70 = .ok (.iand, 1) := by decide +kernel
theorem dX1_comeAfter_71 : decode cX1_comeAfter 71 = .ok (.ifCond .ne 7, 3) := by decide +kernel
theorem dX1_comeAfter_74 : decode cX1_comeAfter 74 = .ok (.iconst 1, 1) := by decide +kernel
theorem dX1_comeAfter_75 : decode cX1_comeAfter 75 = .ok (.goto 4, 3) := by decide +kernel
theorem dX1_comeAfter_78 : decode cX1_comeAfter 78 = .ok (.iconst 0, 1) := by decide +kernel
theorem dX1_comeAfter_79 : decode cX1_comeAfter 79 = .ok (.istore 7, 2) := by decide +kernel
theorem dX1_comeAfter_81 : decode cX1_comeAfter 81 = .ok (.iload 7, 2) := by decide +kernel
theorem dX1_comeAfter_83 : decode cX1_comeAfter 83 = .ok (.ifCond .ne 7, 3) := by decide +kernel
theorem dX1_comeAfter_86 : decode cX1_comeAfter 86 = .ok (.iload_n 2, 1) := by decide +kernel
theorem dX1_comeAfter_87 : decode cX1_comeAfter 87 = .ok (.ifCond .ne 12, 3) := by decide +kernel
theorem dX1_comeAfter_90 : decode cX1_comeAfter 90 = .ok (.iload 4, 2) := by decide +kernel
theorem dX1_comeAfter_92 : decode cX1_comeAfter 92 = .ok (.iconst 1, 1) := by decide +kernel
theorem dX1_comeAfter_93 : decode cX1_comeAfter 93 = .ok (.iload 5, 2) := by decide +kernel
theorem dX1_comeAfter_95 : decode cX1_comeAfter 95 = .ok (.ishl, 1) := by decide +kernel
theorem dX1_comeAfter_96 : decode cX1_comeAfter 96 = .ok (.ior, 1) := by decide +kernel
theorem dX1_comeAfter_97 : decode cX1_comeAfter 97 = .ok (.istore 4, 2) := by decide +kernel
theorem dX1_comeAfter_99 : decode cX1_comeAfter 99 = .ok (.iinc 5 1, 3) := by decide +kernel
theorem dX1_comeAfter_102 : decode cX1_comeAfter 102 = .ok (.goto (-96), 3) := by decide +kernel
theorem dX1_comeAfter_105 : decode cX1_comeAfter 105 = .ok (.iload 4, 2) := by decide +kernel
theorem dX1_comeAfter_107 : decode cX1_comeAfter 107 = .ok (.ireturn, 1) := by decide +kernel
theorem dX2_init_0 : decode cX2_init 0 = .ok (.aload_n 0, 1) := by decide +kernel
theorem dX2_init_1 : decode cX2_init 1 = .ok (.invokespecial 3, 3) := by decide +kernel
theorem dX2_init_4 : decode cX2_init 4 = .ok (.aload_n 0, 1) := by decide +kernel
theorem dX2_init_5 : decode cX2_init 5 = .ok (.new 9, 3) := by decide +kernel
theorem dX2_init_8 : decode cX2_init 8 = .ok (.dup, 1) := by decide +kernel
theorem dX2_init_9 : decode cX2_init 9 = .ok (.invokespecial 11, 3) := by decide +kernel
theorem dX2_init_12 : decode cX2_init 12 = .ok (.putfield 12, 3) := by decide +kernel
theorem dX2_init_15 : decode cX2_init 15 = .ok (.aload_n 0, 1) := by decide +kernel
theorem dX2_init_16 : decode cX2_init 16 = .ok (.sipush 200, 3) := by decide +kernel
theorem dX2_init_19 : decode cX2_init 19 = .ok (.newarray .char, 2) := by decide +kernel
theorem dX2_init_21 : decode cX2_init 21 = .ok (.putfield 18, 3) := by decide +kernel
theorem dX2_init_24 : decode cX2_init 24 = .ok (.aload_n 0, 1) := by decide +kernel
theorem dX2_init_25 : decode cX2_init 25 = .ok (.iconst 3, 1) := by decide +kernel
theorem dX2_init_26 : decode cX2_init 26 = .ok (.newarray .int, 2) := by decide +kernel
theorem dX2_init_28 : decode cX2_init 28 = .ok (.putfield 22, 3) := by decide +kernel
theorem dX2_init_31 : decode cX2_init 31 = .ok (.return_, 1) := by decide +kernel
theorem dX2_append_0 : decode cX2_append 0 = .ok (.aload_n 0, 1) := by decide +kernel
theorem dX2_append_1 : decode cX2_append 1 = .ok (.getfield 26, 3) := by decide +kernel
theorem dX2_append_4 : decode cX2_append 4 = .ok (.sipush 200, 3) := by decide +kernel
theorem dX2_append_7 : decode cX2_append 7 = .ok (.if_icmp .lt 5, 3) := by decide +kernel
theorem dX2_append_10 : decode cX2_append 10 = .ok (.iconst 0, 1) := by decide +kernel
theorem dX2_append_11 : decode cX2_append 11 = .ok (.ireturn, 1) := by decide +kernel
theorem dX2_append_12 : decode cX2_append 12 = .ok (.aload_n 0, 1) := by decide +kernel
theorem dX2_append_13 : decode cX2_append 13 = .ok (.getfield 18, 3) := by decide +kernel
theorem dX2_append_16 : decode cX2_append 16 = .ok (.aload_n 0, 1) := by decide +kernel
theorem dX2_append_17 : decode cX2_append 17 = .ok (.getfield 26, 3) := by decide +kernel
theorem dX2_append_20 : decode cX2_append 20 = .ok (.iload_n 1, 1) := by decide +kernel
theorem dX2_append_21 : decode cX2_append 21 = .ok (.castore, 1) := by decide +kernel
theorem dX2_append_22 : decode cX2_append 22 = .ok (.aload_n 0, 1) := by decide +kernel
theorem dX2_append_23 : decode cX2_append 23 = .ok (.dup, 1) := by decide +kernel
theorem dX2_append_24 : decode cX2_append 24 = .ok (.getfield 26, 3) := by decide +kernel
theorem dX2_append_27 : decode cX2_append 27 = .ok (.iconst 1, 1) := by decide +kernel
theorem dX2_append_28 : decode cX2_append 28 = .ok (.iadd, 1) := by decide +kernel
theorem dX2_append_29 : decode cX2_append 29 = .ok (.putfield 26, 3) := by decide +kernel
theorem dX2_append_32 : decode cX2_append 32 = .ok (.iconst 1, 1) := by decide +kernel
theorem dX2_append_33 : decode cX2_append 33 = .ok (.ireturn, 1) := by decide +kernel
theorem dX2_readAll_0 : decode cX2_readAll 0 = .ok (.aload_n 0, 1) := by decide +kernel
theorem dX2_readAll_1 : decode cX2_readAll 1 = .ok (.getfield 12, 3) := by decide +kernel
theorem dX2_readAll_4 : decode cX2_readAll 4 = .ok (.invokevirtual 30, 3) := by decide +kernel
theorem dX2_readAll_7 : decode cX2_readAll 7 = .ok (.iconst 0, 1) := by decide +kernel
theorem dX2_readAll_8 : decode cX2_readAll 8 = .ok (.istore_n 1, 1) := by decide +kernel
theorem dX2_readAll_9 : decode cX2_readAll 9 = .ok (.iload_n 1, 1) := by decide +kernel
theorem dX2_readAll_10 : decode cX2_readAll 10 = .ok (.aload_n 0, 1) := by decide +kernel
theorem dX2_readAll_11 : decode cX2_readAll 11 = .ok (.getfield 26, 3) := by decide +kernel
theorem dX2_readAll_14 : decode cX2_readAll 14 = .ok (.if_icmp .ge 34, 3) := by decide +kernel
theorem dX2_readAll_17 : decode cX2_readAll 17 = .ok (.aload_n 0, 1) := by decide +kernel
theorem dX2_readAll_18 : decode cX2_readAll 18 = .ok (.iload_n 1, 1) := by decide +kernel
theorem dX2_readAll_19 : decode cX2_readAll 19 = .ok (.invokevirtual 33, 3) := by decide +kernel
theorem dX2_readAll_22 : decode cX2_readAll 22 = .ok (.istore_n 2, 1) := by decide +kernel
theorem dX2_readAll_23 : decode cX2_readAll 23 = .ok (.iload_n 2, 1) := by decide +kernel
theorem dX2_readAll_24 : decode cX2_readAll 24 = .ok (.iload_n 1, 1) := by decide +kernel
theorem dX2_readAll_25 : decode cX2_readAll 25 = .ok (.if_icmp .le 16, 3) := by decide +kernel
theorem dX2_readAll_28 : decode cX2_readAll 28 = .ok (.aload_n 0, 1) := by decide +kernel
theorem dX2_readAll_29 : decode cX2_readAll 29 = .ok (.aload_n 0, 1) := by decide +kernel
theorem dX2_readAll_30 : decode cX2_readAll 30 = .ok (.getfield 18, 3) := by decide +kernel
theorem dX2_readAll_33 : decode cX2_readAll 33 = .ok (.iload_n 1, 1) := by decide +kernel
theorem dX2_readAll_34 : decode cX2_readAll 34 = .ok (.caload, 1) := by decide +kernel
theorem dX2_readAll_35 : decode cX2_readAll 35 = .ok (.invokevirtual 37, 3) := by decide +kernel
theorem dX2_readAll_38 : decode cX2_readAll 38 = .ok (.ifCond .ne 5, 3) := by decide +kernel
theorem dX2_readAll_41 : decode cX2_readAll 41 = .ok (.iload_n 1, 1) := by decide +kernel
theorem dX2_readAll_42 : decode cX2_readAll 42 = .ok (.ireturn, 1) := by decide +kernel
theorem dX2_readAll_43 : decode cX2_readAll 43 = .ok (.iload_n 2, 1) := by decide +kernel
theorem dX2_readAll_44 : decode cX2_readAll 44 = .ok (.istore_n 1, 1) := by decide +kernel
theorem dX2_readAll_45 : decode cX2_readAll 45 = .ok (.goto (-36), 3) := by decide +kernel
theorem dX2_readAll_48 : decode cX2_readAll 48 = .ok (.bipush (-4), 2) := by decide +kernel
theorem dX2_readAll_50 : decode cX2_readAll 50 = .ok (.ireturn, 1) := by decide +kernel
theorem dX2_endOfItem_0 : decode cX2_endOfItem 0 = .ok (.aload_n 0, 1) := by decide +kernel
theorem dX2_endOfItem_1 : decode cX2_endOfItem 1 = .ok (.getfield 18, 3) := by decide +kernel
theorem dX2_endOfItem_4 : decode cX2_endOfItem 4 = .ok (.iload_n 1, 1) := by decide +kernel
theorem dX2_endOfItem_5 : decode cX2_endOfItem 5 = .ok (.caload, 1) := by decide +kernel
theorem dX2_endOfItem_6 : decode cX2_endOfItem 6 = .ok (.invokestatic 41, 3) := by decide +kernel
theorem dX2_endOfItem_9 : decode cX2_endOfItem 9 = .ok (.istore_n 2, 1) := by decide +kernel
theorem dX2_endOfItem_10 : decode cX2_endOfItem 10 = .ok (.iload_n 1, 1) := by decide +kernel
theorem dX2_endOfItem_11 : decode cX2_endOfItem 11 = .ok (.iconst 1, 1) := by decide +kernel
theorem dX2_endOfItem_12 : decode cX2_endOfItem 12 = .ok (.iadd, 1) := by decide +kernel
theorem dX2_endOfItem_13 : decode cX2_endOfItem 13 = .ok (.istore_n 3, 1) := by decide +kernel
theorem dX2_endOfItem_14 : decode cX2_endOfItem 14 = .ok (.iconst 0, 1) := by decide +kernel
theorem dX2_endOfItem_15 : decode cX2_endOfItem 15 = .ok (.istore 4, 2) := by decide +kernel
theorem dX2_endOfItem_17 : decode cX2_endOfItem 17 = .ok (.iload 4, 2) := by decide +kernel
theorem dX2_endOfItem_19 : decode cX2_endOfItem 19 = .ok (.iload_n 2, 1) := by decide +kernel
theorem dX2_endOfItem_20 : decode cX2_endOfItem 20 = .ok (.if_icmp .ge 74, 3) := by decide +kernel
theorem dX2_endOfItem_23 : decode cX2_endOfItem 23 = .ok (.aload_n 0, 1) := by decide +kernel
theorem dX2_endOfItem_24 : decode cX2_endOfItem 24 = .ok (.iload_n 3, 1) := by decide +kernel
theorem dX2_endOfItem_25 : decode cX2_endOfItem 25 = .ok (.invokevirtual 44, 3) := by decide +kernel
theorem dX2_endOfItem_28 : decode cX2_endOfItem 28 = .ok (.istore 5, 2) := by decide +kernel
theorem dX2_endOfItem_30 : decode cX2_endOfItem 30 = .ok (.iload 4, 2) := by decide +kernel
theorem dX2_endOfItem_32 : decode cX2_endOfItem 32 = .ok (.iconst 1, 1) := by decide +kernel
theorem dX2_endOfItem_33 : decode cX2_endOfItem 33 = .ok (.iadd, 1) := by decide +kernel
theorem dX2_endOfItem_34 : decode cX2_endOfItem 34 = .ok (.iload_n 2, 1) := by decide +kernel
theorem dX2_endOfItem_35 : decode cX2_endOfItem 35 = .ok (.if_icmp .ge 8, 3) := by decide +kernel
theorem dX2_endOfItem_38 : decode cX2_endOfItem 38 = .ok (.bipush 44, 2) := by decide +kernel
theorem dX2_endOfItem_40 : decode cX2_endOfItem 40 = .ok (.goto 5, 3) := by decide +kernel
theorem dX2_endOfItem_43 : decode cX2_endOfItem 43 = .ok (.bipush 59, 2) := by decide +kernel
theorem dX2_endOfItem_45 : decode cX2_endOfItem 45 = .ok (.istore 6, 2) := by decide +kernel
theorem dX2_endOfItem_47 : decode cX2_endOfItem 47 = .ok (.iload 5, 2) := by decide +kernel
theorem dX2_endOfItem_49 : decode cX2_endOfItem 49 = .ok (.ifCond .eq 16, 3) := by decide +kernel
theorem dX2_endOfItem_52 : decode cX2_endOfItem 52 = .ok (.aload_n 0, 1) := by decide +kernel
theorem dX2_endOfItem_53 : decode cX2_endOfItem 53 = .ok (.iload_n 3, 1) := by decide +kernel
theorem dX2_endOfItem_54 : decode cX2_endOfItem 54 = .ok (.iload 5, 2) := by decide +kernel
theorem dX2_endOfItem_56 : decode cX2_endOfItem 56 = .ok (.iadd, 1) := by decide +kernel
theorem dX2_endOfItem_57 : decode cX2_endOfItem 57 = .ok (.invokevirtual 47, 3) := by decide +kernel
theorem dX2_endOfItem_60 : decode cX2_endOfItem 60 = .ok (.iload 6, 2) := by decide +kernel
theorem dX2_endOfItem_62 : decode cX2_endOfItem 62 = .ok (.if_icmp .eq 5, 3) := by decide +kernel
theorem dX2_endOfItem_65 : decode cX2_endOfItem 65 = .ok (.iload_n 1, 1) := by decide +kernel
theorem dX2_endOfItem_66 : decode cX2_endOfItem 66 = .ok (.ireturn, 1) := by decide +kernel
theorem dX2_endOfItem_67 : decode cX2_endOfItem 67 = .ok (.aload_n 0, 1) := by decide +kernel
theorem dX2_endOfItem_68 : decode cX2_endOfItem 68 = .ok (.getfield 22, 3) := by decide +kernel
theorem dX2_endOfItem_71 : decode cX2_endOfItem 71 = .ok (.iload 4, 2) := by decide +kernel
theorem dX2_endOfItem_73 : decode cX2_endOfItem 73 = .ok (.aload_n 0, 1) := by decide +kernel
theorem dX2_endOfItem_74 : decode cX2_endOfItem 74 = .ok (.iload_n 3, 1) := by decide +kernel
theorem dX2_endOfItem_75 : decode cX2_endOfItem 75 = .ok (.iload 5, 2) := by decide +kernel
theorem dX2_endOfItem_77 : decode cX2_endOfItem 77 = .ok (.invokevirtual 51, 3) := by decide +kernel
theorem dX2_endOfItem_80 : decode cX2_endOfItem 80 = .ok (.iastore, 1) := by decide +kernel
theorem dX2_endOfItem_81 : decode cX2_endOfItem 81 = .ok (.iload_n 3, 1) := by decide +kernel
theorem dX2_endOfItem_82 : decode cX2_endOfItem 82 = .ok (.iload 5, 2) := by decide +kernel
theorem dX2_endOfItem_84 : decode cX2_endOfItem 84 = .ok (.iconst 1, 1) := by decide +kernel
theorem dX2_endOfItem_85 : decode cX2_endOfItem 85 = .ok (.iadd, 1) := by decide +kernel
theorem dX2_endOfItem_86 : decode cX2_endOfItem 86 = .ok (.iadd, 1) := by decide +kernel
theorem dX2_endOfItem_87 : decode cX2_endOfItem 87 = .ok (.istore_n 3, 1) := by decide +kernel
theorem dX2_endOfItem_88 : decode cX2_endOfItem 88 = .ok (.iinc 4 1, 3) := by decide +kernel
theorem dX2_endOfItem_91 : decode cX2_endOfItem 91 = .ok (.goto (-74), 3) := by decide +kernel
theorem dX2_endOfItem_94 : decode cX2_endOfItem 94 = .ok (.iload_n 2, 1) := by decide +kernel
theorem dX2_endOfItem_95 : decode cX2_endOfItem 95 = .ok (.ifCond .ne 7, 3) := by decide +kernel
theorem dX2_endOfItem_98 : decode cX2_endOfItem 98 = .ok (.iload_n 1, 1) := by decide +kernel
theorem dX2_endOfItem_99 : decode cX2_endOfItem 99 = .ok (.goto 4, 3) := by decide +kernel
theorem dX2_endOfItem_102 : decode cX2_endOfItem 102 = .ok (.iload_n 3, 1) := by decide +kernel
theorem dX2_endOfItem_103 : decode cX2_endOfItem 103 = .ok (.ireturn, 1) := by decide +kernel
theorem dX2_takeItem_0 : decode cX2_takeItem 0 = .ok (.iload_n 1, 1) := by decide +kernel
theorem dX2_takeItem_1 : decode cX2_takeItem 1 = .ok (.lookupswitch 117 #[(98, 69), (103, 103), (105, 43), (115, 89)], 43) := by decide +kernel
theorem dX2_takeItem_44 : decode cX2_takeItem 44 = .ok (.aload_n 0, 1) := by decide +kernel
theorem dX2_takeItem_45 : decode cX2_takeItem 45 = .ok (.getfield 12, 3) := by decide +kernel
theorem dX2_takeItem_48 : decode cX2_takeItem 48 = .ok (.aload_n 0, 1) := by decide +kernel
theorem dX2_takeItem_49 : decode cX2_takeItem 49 = .ok (.getfield 22, 3) := by decide +kernel
theorem dX2_takeItem_52 : decode cX2_takeItem 52 = .ok (.iconst 0, 1) := by decide +kernel
theorem dX2_takeItem_53 : decode cX2_takeItem 53 = .ok (.iaload, 1) := by decide +kernel
theorem dX2_takeItem_54 : decode cX2_takeItem 54 = .ok (.aload_n 0, 1) := by decide +kernel
theorem dX2_takeItem_55 : decode cX2_takeItem 55 = .ok (.getfield 22, 3) := by decide +kernel
theorem dX2_takeItem_58 : decode cX2_takeItem 58 = .ok (.iconst 1, 1) := by decide +kernel
theorem dX2_takeItem_59 : decode cX2_takeItem 59 = .ok (.iaload, 1) := by decide +kernel
theorem dX2_takeItem_60 : decode cX2_takeItem 60 = .ok (.aload_n 0, 1) := by decide +kernel
theorem dX2_takeItem_61 : decode cX2_takeItem 61 = .ok (.getfield 22, 3) := by decide +kernel
theorem dX2_takeItem_64 : decode cX2_takeItem 64 = .ok (.iconst 2, 1) := by decide +kernel
theorem dX2_takeItem_65 : decode cX2_takeItem 65 = .ok (.iaload, 1) := by decide +kernel
theorem dX2_takeItem_66 : decode cX2_takeItem 66 = .ok (.invokevirtual 55, 3) := by decide +kernel
theorem dX2_takeItem_69 : decode cX2_takeItem 69 = .ok (.ireturn, 1) := by decide +kernel
theorem dX2_takeItem_70 : decode cX2_takeItem 70 = .ok (.aload_n 0, 1) := by decide +kernel
theorem dX2_takeItem_71 : decode cX2_takeItem 71 = .ok (.getfield 12, 3) := by decide +kernel
theorem dX2_takeItem_74 : decode cX2_takeItem 74 = .ok (.aload_n 0, 1) := by decide +kernel
theorem dX2_takeItem_75 : decode cX2_takeItem 75 = .ok (.getfield 22, 3) := by decide +kernel
theorem dX2_takeItem_78 : decode cX2_takeItem 78 = .ok (.iconst 0, 1) := by decide +kernel
theorem dX2_takeItem_79 : decode cX2_takeItem 79 = .ok (.iaload, 1) := by decide +kernel
theorem dX2_takeItem_80 : decode cX2_takeItem 80 = .ok (.aload_n 0, 1) := by decide +kernel
theorem dX2_takeItem_81 : decode cX2_takeItem 81 = .ok (.getfield 22, 3) := by decide +kernel
theorem dX2_takeItem_84 : decode cX2_takeItem 84 = .ok (.iconst 1, 1) := by decide +kernel
theorem dX2_takeItem_85 : decode cX2_takeItem 85 = .ok (.iaload, 1) := by decide +kernel
theorem dX2_takeItem_86 : decode cX2_takeItem 86 = .ok (.invokevirtual 59, 3) := by decide +kernel
theorem dX2_takeItem_89 : decode cX2_takeItem 89 = .ok (.ireturn, 1) := by decide +kernel
theorem dX2_takeItem_90 : decode cX2_takeItem 90 = .ok (.aload_n 0, 1) := by decide +kernel
theorem dX2_takeItem_91 : decode cX2_takeItem 91 = .ok (.getfield 12, 3) := by decide +kernel
theorem dX2_takeItem_94 : decode cX2_takeItem 94 = .ok (.aload_n 0, 1) := by decide +kernel
theorem dX2_takeItem_95 : decode cX2_takeItem 95 = .ok (.getfield 22, 3) := by decide +kernel
theorem dX2_takeItem_98 : decode cX2_takeItem 98 = .ok (.iconst 0, 1) := by decide +kernel
theorem dX2_takeItem_99 : decode cX2_takeItem 99 = .ok (.iaload, 1) := by decide +kernel
theorem dX2_takeItem_100 : decode cX2_takeItem 100 = .ok (.invokevirtual 63, 3) := by decide +kernel
theorem dX2_takeItem_103 : decode cX2_takeItem 103 = .ok (.ireturn, 1) := by decide +kernel
theorem dX2_takeItem_104 : decode cX2_takeItem 104 = .ok (.aload_n 0, 1) := by decide +kernel
theorem dX2_takeItem_105 : decode cX2_takeItem 105 = .ok (.getfield 12, 3) := by decide +kernel
theorem dX2_takeItem_108 : decode cX2_takeItem 108 = .ok (.aload_n 0, 1) := by decide +kernel
theorem dX2_takeItem_109 : decode cX2_takeItem 109 = .ok (.getfield 22, 3) := by decide +kernel
theorem dX2_takeItem_112 : decode cX2_takeItem 112 = .ok (.iconst 0, 1) := by decide +kernel
theorem dX2_takeItem_113 : decode cX2_takeItem 113 = .ok (.iaload, 1) := by decide +kernel
theorem dX2_takeItem_114 : decode cX2_takeItem 114 = .ok (.invokevirtual 66, 3) := by decide +kernel
theorem dX2_takeItem_117 : decode cX2_takeItem 117 = .ok (.ireturn, 1) := by decide +kernel
theorem dX2_takeItem_118 : decode cX2_takeItem 118 = .ok (.iconst 0, 1) := by decide +kernel
theorem dX2_takeItem_119 : decode cX2_takeItem 119 = .ok (.ireturn, 1) := by decide +kernel
theorem dX2_numbersBehind_0 : decode cX2_numbersBehind 0 = .ok (.iload_n 0, 1) := by decide +kernel
theorem dX2_numbersBehind_1 : decode cX2_numbersBehind 1 = .ok (.lookupswitch 51 #[(98, 45), (103, 49), (105, 43), (115, 47)], 43) := by decide +kernel
theorem dX2_numbersBehind_44 : decode cX2_numbersBehind 44 = .ok (.iconst 3, 1) := by decide +kernel
theorem dX2_numbersBehind_45 : decode cX2_numbersBehind 45 = .ok (.ireturn, 1) := by decide +kernel
theorem dX2_numbersBehind_46 : decode cX2_numbersBehind 46 = .ok (.iconst 2, 1) := by decide +kernel
theorem dX2_numbersBehind_47 : decode cX2_numbersBehind 47 = .ok (.ireturn, 1) := by decide +kernel
theorem dX2_numbersBehind_48 : decode cX2_numbersBehind 48 = .ok (.iconst 1, 1) := by decide +kernel
theorem dX2_numbersBehind_49 : decode cX2_numbersBehind 49 = .ok (.ireturn, 1) := by decide +kernel
theorem dX2_numbersBehind_50 : decode cX2_numbersBehind 50 = .ok (.iconst 1, 1) := by decide +kernel
theorem dX2_numbersBehind_51 : decode cX2_numbersBehind 51 = .ok (.ireturn, 1) := by decide +kernel
theorem dX2_numbersBehind_52 : decode cX2_numbersBehind 52 = .ok (.iconst 0, 1) := by decide +kernel
theorem dX2_numbersBehind_53 : decode cX2_numbersBehind 53 = .ok (.ireturn, 1) := by decide +kernel
theorem dX2_figuresAt_0 : decode cX2_figuresAt 0 = .ok (.aload_n 0, 1) := by decide +kernel
theorem dX2_figuresAt_1 : decode cX2_figuresAt 1 = .ok (.iload_n 1, 1) := by decide +kernel
theorem dX2_figuresAt_2 : decode cX2_figuresAt 2 = .ok (.invokevirtual 47, 3) := by decide +kernel
theorem dX2_figuresAt_5 : decode cX2_figuresAt 5 = .ok (.invokestatic 69, 3) := by decide +kernel
theorem dX2_figuresAt_8 : decode cX2_figuresAt 8 = .ok (.ifCond .ne 5, 3) := by decide +kernel
theorem dX2_figuresAt_11 : decode cX2_figuresAt 11 = .ok (.iconst 0, 1) := by decide +kernel
theorem dX2_figuresAt_12 : decode cX2_figuresAt 12 = .ok (.ireturn, 1) := by decide +kernel
theorem dX2_figuresAt_13 : decode cX2_figuresAt 13 = .ok (.aload_n 0, 1) := by decide +kernel
theorem dX2_figuresAt_14 : decode cX2_figuresAt 14 = .ok (.iload_n 1, 1) := by decide +kernel
theorem dX2_figuresAt_15 : decode cX2_figuresAt 15 = .ok (.iconst 1, 1) := by decide +kernel
theorem dX2_figuresAt_16 : decode cX2_figuresAt 16 = .ok (.iadd, 1) := by decide +kernel
theorem dX2_figuresAt_17 : decode cX2_figuresAt 17 = .ok (.invokevirtual 47, 3) := by decide +kernel
theorem dX2_figuresAt_20 : decode cX2_figuresAt 20 = .ok (.invokestatic 69, 3) := by decide +kernel
theorem dX2_figuresAt_23 : decode cX2_figuresAt 23 = .ok (.ifCond .eq 7, 3) := by decide +kernel
theorem dX2_figuresAt_26 : decode cX2_figuresAt 26 = .ok (.iconst 2, 1) := by decide +kernel
theorem dX2_figuresAt_27 : decode cX2_figuresAt 27 = .ok (.goto 4, 3) := by decide +kernel
theorem dX2_figuresAt_30 : decode cX2_figuresAt 30 = .ok (.iconst 1, 1) := by decide +kernel
theorem dX2_figuresAt_31 : decode cX2_figuresAt 31 = .ok (.ireturn, 1) := by decide +kernel
theorem dX2_numberAt_0 : decode cX2_numberAt 0 = .ok (.aload_n 0, 1) := by decide +kernel
theorem dX2_numberAt_1 : decode cX2_numberAt 1 = .ok (.iload_n 1, 1) := by decide +kernel
theorem dX2_numberAt_2 : decode cX2_numberAt 2 = .ok (.invokevirtual 47, 3) := by decide +kernel
theorem dX2_numberAt_5 : decode cX2_numberAt 5 = .ok (.bipush 48, 2) := by decide +kernel
theorem dX2_numberAt_7 : decode cX2_numberAt 7 = .ok (.isub, 1) := by decide +kernel
theorem dX2_numberAt_8 : decode cX2_numberAt 8 = .ok (.istore_n 3, 1) := by decide +kernel
theorem dX2_numberAt_9 : decode cX2_numberAt 9 = .ok (.iload_n 2, 1) := by decide +kernel
theorem dX2_numberAt_10 : decode cX2_numberAt 10 = .ok (.iconst 1, 1) := by decide +kernel
theorem dX2_numberAt_11 : decode cX2_numberAt 11 = .ok (.if_icmp .ne 7, 3) := by decide +kernel
theorem dX2_numberAt_14 : decode cX2_numberAt 14 = .ok (.iload_n 3, 1) := by decide +kernel
theorem dX2_numberAt_15 : decode cX2_numberAt 15 = .ok (.goto 18, 3) := by decide +kernel
theorem dX2_numberAt_18 : decode cX2_numberAt 18 = .ok (.bipush 10, 2) := by decide +kernel
theorem dX2_numberAt_20 : decode cX2_numberAt 20 = .ok (.iload_n 3, 1) := by decide +kernel
theorem dX2_numberAt_21 : decode cX2_numberAt 21 = .ok (.imul, 1) := by decide +kernel
theorem dX2_numberAt_22 : decode cX2_numberAt 22 = .ok (.aload_n 0, 1) := by decide +kernel
theorem dX2_numberAt_23 : decode cX2_numberAt 23 = .ok (.iload_n 1, 1) := by decide +kernel
theorem dX2_numberAt_24 : decode cX2_numberAt 24 = .ok (.iconst 1, 1) := by decide +kernel
theorem dX2_numberAt_25 : decode cX2_numberAt 25 = .ok (.iadd, 1) := by decide +kernel
theorem dX2_numberAt_26 : decode cX2_numberAt 26 = .ok (.invokevirtual 47, 3) := by decide +kernel
theorem dX2_numberAt_29 : decode cX2_numberAt 29 = .ok (.iadd, 1) := by decide +kernel
theorem dX2_numberAt_30 : decode cX2_numberAt 30 = .ok (.bipush 48, 2) := by decide +kernel
theorem dX2_numberAt_32 : decode cX2_numberAt 32 = .ok (.isub, 1) := by decide +kernel
theorem dX2_numberAt_33 : decode cX2_numberAt 33 = .ok (.ireturn, 1) := by decide +kernel
theorem dX2_isFigure_0 : decode cX2_isFigure 0 = .ok (.iload_n 0, 1) := by decide +kernel
theorem dX2_isFigure_1 : decode cX2_isFigure 1 = .ok (.bipush 48, 2) := by decide +kernel
theorem dX2_isFigure_3 : decode cX2_isFigure 3 = .ok (.if_icmp .lt 13, 3) := by decide +kernel
theorem dX2_isFigure_6 : decode cX2_isFigure 6 = .ok (.iload_n 0, 1) := by decide +kernel
theorem dX2_isFigure_7 : decode cX2_isFigure 7 = .ok (.bipush 57, 2) := by decide +kernel
theorem dX2_isFigure_9 : decode cX2_isFigure 9 = .ok (.if_icmp .gt 7, 3) := by decide +kernel
theorem dX2_isFigure_12 : decode cX2_isFigure 12 = .ok (.iconst 1, 1) := by decide +kernel
theorem dX2_isFigure_13 : decode cX2_isFigure 13 = .ok (.goto 4, 3) := by decide +kernel
theorem dX2_isFigure_16 : decode cX2_isFigure 16 = .ok (.iconst 0, 1) := by decide +kernel
theorem dX2_isFigure_17 : decode cX2_isFigure 17 = .ok (.ireturn, 1) := by decide +kernel
theorem dX2_letterAt_0 : decode cX2_letterAt 0 = .ok (.iload_n 1, 1) := by decide +kernel
theorem dX2_letterAt_1 : decode cX2_letterAt 1 = .ok (.ifCond .lt 20, 3) := by decide +kernel
theorem dX2_letterAt_4 : decode cX2_letterAt 4 = .ok (.iload_n 1, 1) := by decide +kernel
theorem dX2_letterAt_5 : decode cX2_letterAt 5 = .ok (.aload_n 0, 1) := by decide +kernel
theorem dX2_letterAt_6 : decode cX2_letterAt 6 = .ok (.getfield 26, 3) := by decide +kernel
theorem dX2_letterAt_9 : decode cX2_letterAt 9 = .ok (.if_icmp .ge 12, 3) := by decide +kernel
theorem dX2_letterAt_12 : decode cX2_letterAt 12 = .ok (.aload_n 0, 1) := by decide +kernel
theorem dX2_letterAt_13 : decode cX2_letterAt 13 = .ok (.getfield 18, 3) := by decide +kernel
theorem dX2_letterAt_16 : decode cX2_letterAt 16 = .ok (.iload_n 1, 1) := by decide +kernel
theorem dX2_letterAt_17 : decode cX2_letterAt 17 = .ok (.caload, 1) := by decide +kernel
theorem dX2_letterAt_18 : decode cX2_letterAt 18 = .ok (.goto 4, 3) := by decide +kernel
theorem dX2_letterAt_21 : decode cX2_letterAt 21 = .ok (.iconst 0, 1) := by decide +kernel
theorem dX2_letterAt_22 : decode cX2_letterAt 22 = .ok (.ireturn, 1) := by decide +kernel
theorem dX3_init_0 : decode cX3_init 0 = .ok (.aload_n 0, 1) := by decide +kernel
theorem dX3_init_1 : decode cX3_init 1 = .ok (.invokespecial 3, 3) := by decide +kernel
theorem dX3_init_4 : decode cX3_init 4 = .ok (.aload_n 0, 1) := by decide +kernel
theorem dX3_init_5 : decode cX3_init 5 = .ok (.bipush 7, 2) := by decide +kernel
theorem dX3_init_7 : decode cX3_init 7 = .ok (.newarray .int, 2) := by decide +kernel
theorem dX3_init_9 : decode cX3_init 9 = .ok (.putfield 9, 3) := by decide +kernel
theorem dX3_init_12 : decode cX3_init 12 = .ok (.aload_n 0, 1) := by decide +kernel
theorem dX3_init_13 : decode cX3_init 13 = .ok (.bipush 57, 2) := by decide +kernel
theorem dX3_init_15 : decode cX3_init 15 = .ok (.newarray .int, 2) := by decide +kernel
theorem dX3_init_17 : decode cX3_init 17 = .ok (.putfield 15, 3) := by decide +kernel
theorem dX3_init_20 : decode cX3_init 20 = .ok (.aload_n 0, 1) := by decide +kernel
theorem dX3_init_21 : decode cX3_init 21 = .ok (.bipush 7, 2) := by decide +kernel
theorem dX3_init_23 : decode cX3_init 23 = .ok (.newarray .int, 2) := by decide +kernel
theorem dX3_init_25 : decode cX3_init 25 = .ok (.putfield 18, 3) := by decide +kernel
theorem dX3_init_28 : decode cX3_init 28 = .ok (.aload_n 0, 1) := by decide +kernel
theorem dX3_init_29 : decode cX3_init 29 = .ok (.bipush 7, 2) := by decide +kernel
theorem dX3_init_31 : decode cX3_init 31 = .ok (.newarray .int, 2) := by decide +kernel
theorem dX3_init_33 : decode cX3_init 33 = .ok (.putfield 21, 3) := by decide +kernel
theorem dX3_init_36 : decode cX3_init 36 = .ok (.aload_n 0, 1) := by decide +kernel
theorem dX3_init_37 : decode cX3_init 37 = .ok (.new 24, 3) := by decide +kernel
theorem dX3_init_40 : decode cX3_init 40 = .ok (.dup, 1) := by decide +kernel
theorem dX3_init_41 : decode cX3_init 41 = .ok (.invokespecial 26, 3) := by decide +kernel
theorem dX3_init_44 : decode cX3_init 44 = .ok (.putfield 27, 3) := by decide +kernel
theorem dX3_init_47 : decode cX3_init 47 = .ok (.return_, 1) := by decide +kernel
theorem dX3_lookAtAll_0 : decode cX3_lookAtAll 0 = .ok (.aload_n 0, 1) := by decide +kernel
theorem dX3_lookAtAll_1 : decode cX3_lookAtAll 1 = .ok (.aload_n 1, 1) := by decide +kernel
theorem dX3_lookAtAll_2 : decode cX3_lookAtAll 2 = .ok (.getfield 31, 3) := by decide +kernel
theorem dX3_lookAtAll_5 : decode cX3_lookAtAll 5 = .ok (.aload_n 2, 1) := by decide +kernel
theorem dX3_lookAtAll_6 : decode cX3_lookAtAll 6 = .ok (.invokevirtual 37, 3) := by decide +kernel
theorem dX3_lookAtAll_9 : decode cX3_lookAtAll 9 = .ok (.iconst 0, 1) := by decide +kernel
theorem dX3_lookAtAll_10 : decode cX3_lookAtAll 10 = .ok (.istore 5, 2) := by decide +kernel
theorem dX3_lookAtAll_12 : decode cX3_lookAtAll 12 = .ok (.iload 5, 2) := by decide +kernel
theorem dX3_lookAtAll_14 : decode cX3_lookAtAll 14 = .ok (.aload_n 0, 1) := by decide +kernel
theorem dX3_lookAtAll_15 : decode cX3_lookAtAll 15 = .ok (.getfield 41, 3) := by decide +kernel
theorem dX3_lookAtAll_18 : decode cX3_lookAtAll 18 = .ok (.if_icmp .ge 183, 3) := by decide +kernel
theorem dX3_lookAtAll_21 : decode cX3_lookAtAll 21 = .ok (.aload_n 0, 1) := by decide +kernel
theorem dX3_lookAtAll_22 : decode cX3_lookAtAll 22 = .ok (.getfield 27, 3) := by decide +kernel
theorem dX3_lookAtAll_25 : decode cX3_lookAtAll 25 = .ok (.aload_n 1, 1) := by decide +kernel
theorem dX3_lookAtAll_26 : decode cX3_lookAtAll 26 = .ok (.aload_n 0, 1) := by decide +kernel
theorem dX3_lookAtAll_27 : decode cX3_lookAtAll 27 = .ok (.getfield 18, 3) := by decide +kernel
theorem dX3_lookAtAll_30 : decode cX3_lookAtAll 30 = .ok (.aload_n 1, 1) := by decide +kernel
theorem dX3_lookAtAll_31 : decode cX3_lookAtAll 31 = .ok (.getfield 44, 3) := by decide +kernel
theorem dX3_lookAtAll_34 : decode cX3_lookAtAll 34 = .ok (.iload_n 3, 1) := by decide +kernel
theorem dX3_lookAtAll_35 : decode cX3_lookAtAll 35 = .ok (.bipush 127, 2) := by decide +kernel
theorem dX3_lookAtAll_37 : decode cX3_lookAtAll 37 = .ok (.invokevirtual 47, 3) := by decide +kernel
theorem dX3_lookAtAll_40 : decode cX3_lookAtAll 40 = .ok (.aload_n 0, 1) := by decide +kernel
theorem dX3_lookAtAll_41 : decode cX3_lookAtAll 41 = .ok (.getfield 15, 3) := by decide +kernel
theorem dX3_lookAtAll_44 : decode cX3_lookAtAll 44 = .ok (.aload_n 0, 1) := by decide +kernel
theorem dX3_lookAtAll_45 : decode cX3_lookAtAll 45 = .ok (.getfield 27, 3) := by decide +kernel
theorem dX3_lookAtAll_48 : decode cX3_lookAtAll 48 = .ok (.getfield 51, 3) := by decide +kernel
theorem dX3_lookAtAll_51 : decode cX3_lookAtAll 51 = .ok (.dup2, 1) := by decide +kernel
theorem dX3_lookAtAll_52 : decode cX3_lookAtAll 52 = .ok (.iaload, 1) := by decide +kernel
theorem dX3_lookAtAll_53 : decode cX3_lookAtAll 53 = .ok (.iconst 1, 1) := by decide +kernel
theorem dX3_lookAtAll_54 : decode cX3_lookAtAll 54 = .ok (.iadd, 1) := by decide +kernel
theorem dX3_lookAtAll_55 : decode cX3_lookAtAll 55 = .ok (.iastore, 1) := by decide +kernel
theorem dX3_lookAtAll_56 : decode cX3_lookAtAll 56 = .ok (.aload_n 0, 1) := by decide +kernel
theorem dX3_lookAtAll_57 : decode cX3_lookAtAll 57 = .ok (.getfield 27, 3) := by decide +kernel
theorem dX3_lookAtAll_60 : decode cX3_lookAtAll 60 = .ok (.getfield 51, 3) := by decide +kernel
theorem dX3_lookAtAll_63 : decode cX3_lookAtAll 63 = .ok (.aload_n 0, 1) := by decide +kernel
theorem dX3_lookAtAll_64 : decode cX3_lookAtAll 64 = .ok (.getfield 54, 3) := by decide +kernel
theorem dX3_lookAtAll_67 : decode cX3_lookAtAll 67 = .ok (.if_icmp .le 32, 3) := by decide +kernel
theorem dX3_lookAtAll_70 : decode cX3_lookAtAll 70 = .ok (.aload_n 0, 1) := by decide +kernel
theorem dX3_lookAtAll_71 : decode cX3_lookAtAll 71 = .ok (.aload_n 0, 1) := by decide +kernel
theorem dX3_lookAtAll_72 : decode cX3_lookAtAll 72 = .ok (.getfield 27, 3) := by decide +kernel
theorem dX3_lookAtAll_75 : decode cX3_lookAtAll 75 = .ok (.getfield 51, 3) := by decide +kernel
theorem dX3_lookAtAll_78 : decode cX3_lookAtAll 78 = .ok (.putfield 54, 3) := by decide +kernel
theorem dX3_lookAtAll_81 : decode cX3_lookAtAll 81 = .ok (.aload_n 0, 1) := by decide +kernel
theorem dX3_lookAtAll_82 : decode cX3_lookAtAll 82 = .ok (.getfield 18, 3) := by decide +kernel
theorem dX3_lookAtAll_85 : decode cX3_lookAtAll 85 = .ok (.iconst 0, 1) := by decide +kernel
theorem dX3_lookAtAll_86 : decode cX3_lookAtAll 86 = .ok (.aload_n 0, 1) := by decide +kernel
theorem dX3_lookAtAll_87 : decode cX3_lookAtAll 87 = .ok (.getfield 9, 3) := by decide +kernel
theorem dX3_lookAtAll_90 : decode cX3_lookAtAll 90 = .ok (.iconst 0, 1) := by decide +kernel
theorem dX3_lookAtAll_91 : decode cX3_lookAtAll 91 = .ok (.aload_n 0, 1) := by decide +kernel
theorem dX3_lookAtAll_92 : decode cX3_lookAtAll 92 = .ok (.getfield 18, 3) := by decide +kernel
theorem dX3_lookAtAll_95 : decode cX3_lookAtAll 95 = .ok (.arraylength, 1) := by decide +kernel
theorem dX3_lookAtAll_96 : decode cX3_lookAtAll 96 = .ok (.invokestatic 57, 3) := by decide +kernel
theorem dX3_lookAtAll_99 : decode cX3_lookAtAll 99 = .ok (.aload_n 0, 1) := by decide +kernel
theorem dX3_lookAtAll_100 : decode cX3_lookAtAll 100 = .ok (.getfield 27, 3) := by decide +kernel
theorem dX3_lookAtAll_103 : decode cX3_lookAtAll 103 = .ok (.getfield 63, 3) := by decide +kernel
theorem dX3_lookAtAll_106 : decode cX3_lookAtAll 106 = .ok (.aload_n 1, 1) := by decide +kernel
theorem dX3_lookAtAll_107 : decode cX3_lookAtAll 107 = .ok (.getfield 66, 3) := by decide +kernel
theorem dX3_lookAtAll_110 : decode cX3_lookAtAll 110 = .ok (.if_icmp .ne 50, 3) := by decide +kernel
theorem dX3_lookAtAll_113 : decode cX3_lookAtAll 113 = .ok (.aload_n 0, 1) := by decide +kernel
theorem dX3_lookAtAll_114 : decode cX3_lookAtAll 114 = .ok (.dup, 1) := by decide +kernel
theorem dX3_lookAtAll_115 : decode cX3_lookAtAll 115 = .ok (.getfield 69, 3) := by decide +kernel
theorem dX3_lookAtAll_118 : decode cX3_lookAtAll 118 = .ok (.iconst 1, 1) := by decide +kernel
theorem dX3_lookAtAll_119 : decode cX3_lookAtAll 119 = .ok (.iadd, 1) := by decide +kernel
theorem dX3_lookAtAll_120 : decode cX3_lookAtAll 120 = .ok (.putfield 69, 3) := by decide +kernel
theorem dX3_lookAtAll_123 : decode cX3_lookAtAll 123 = .ok (.aload_n 0, 1) := by decide +kernel
theorem dX3_lookAtAll_124 : decode cX3_lookAtAll 124 = .ok (.aload_n 1, 1) := by decide +kernel
theorem dX3_lookAtAll_125 : decode cX3_lookAtAll 125 = .ok (.getfield 31, 3) := by decide +kernel
theorem dX3_lookAtAll_128 : decode cX3_lookAtAll 128 = .ok (.invokevirtual 72, 3) := by decide +kernel
theorem dX3_lookAtAll_131 : decode cX3_lookAtAll 131 = .ok (.istore 6, 2) := by decide +kernel
theorem dX3_lookAtAll_133 : decode cX3_lookAtAll 133 = .ok (.aload_n 0, 1) := by decide +kernel
theorem dX3_lookAtAll_134 : decode cX3_lookAtAll 134 = .ok (.aload_n 0, 1) := by decide +kernel
theorem dX3_lookAtAll_135 : decode cX3_lookAtAll 135 = .ok (.getfield 76, 3) := by decide +kernel
theorem dX3_lookAtAll_138 : decode cX3_lookAtAll 138 = .ok (.bipush (-4), 2) := by decide +kernel
theorem dX3_lookAtAll_140 : decode cX3_lookAtAll 140 = .ok (.if_icmp .ne 8, 3) := by decide +kernel
theorem dX3_lookAtAll_143 : decode cX3_lookAtAll 143 = .ok (.iload 6, 2) := by decide +kernel
theorem dX3_lookAtAll_145 : decode cX3_lookAtAll 145 = .ok (.goto 12, 3) := by decide +kernel
theorem dX3_lookAtAll_148 : decode cX3_lookAtAll 148 = .ok (.aload_n 0, 1) := by decide +kernel
theorem dX3_lookAtAll_149 : decode cX3_lookAtAll 149 = .ok (.getfield 76, 3) := by decide +kernel
theorem dX3_lookAtAll_152 : decode cX3_lookAtAll 152 = .ok (.iload 6, 2) := by decide +kernel
theorem dX3_lookAtAll_154 : decode cX3_lookAtAll 154 = .ok (.invokestatic 79, 3) := by decide +kernel
theorem dX3_lookAtAll_157 : decode cX3_lookAtAll 157 = .ok (.putfield 76, 3) := by decide +kernel
theorem dX3_lookAtAll_160 : decode cX3_lookAtAll 160 = .ok (.aload_n 0, 1) := by decide +kernel
theorem dX3_lookAtAll_161 : decode cX3_lookAtAll 161 = .ok (.dup, 1) := by decide +kernel
theorem dX3_lookAtAll_162 : decode cX3_lookAtAll 162 = .ok (.getfield 85, 3) := by decide +kernel
theorem dX3_lookAtAll_165 : decode cX3_lookAtAll 165 = .ok (.aload_n 0, 1) := by decide +kernel
theorem dX3_lookAtAll_166 : decode cX3_lookAtAll 166 = .ok (.aload_n 1, 1) := by decide +kernel
theorem dX3_lookAtAll_167 : decode cX3_lookAtAll 167 = .ok (.getfield 66, 3) := by decide +kernel
theorem dX3_lookAtAll_170 : decode cX3_lookAtAll 170 = .ok (.aload 4, 2) := by decide +kernel
theorem dX3_lookAtAll_172 : decode cX3_lookAtAll 172 = .ok (.invokevirtual 88, 3) := by decide +kernel
theorem dX3_lookAtAll_175 : decode cX3_lookAtAll 175 = .ok (.ifCond .eq 7, 3) := by decide +kernel
theorem dX3_lookAtAll_178 : decode cX3_lookAtAll 178 = .ok (.iconst 1, 1) := by decide +kernel
theorem dX3_lookAtAll_179 : decode cX3_lookAtAll 179 = .ok (.goto 4, 3) := by decide +kernel
theorem dX3_lookAtAll_182 : decode cX3_lookAtAll 182 = .ok (.iconst 0, 1) := by decide +kernel
theorem dX3_lookAtAll_183 : decode cX3_lookAtAll 183 = .ok (.iadd, 1) := by decide +kernel
theorem dX3_lookAtAll_184 : decode cX3_lookAtAll 184 = .ok (.putfield 85, 3) := by decide +kernel
theorem dX3_lookAtAll_187 : decode cX3_lookAtAll 187 = .ok (.aload_n 0, 1) := by decide +kernel
theorem dX3_lookAtAll_188 : decode cX3_lookAtAll 188 = .ok (.aload_n 1, 1) := by decide +kernel
theorem dX3_lookAtAll_189 : decode cX3_lookAtAll 189 = .ok (.getfield 31, 3) := by decide +kernel
theorem dX3_lookAtAll_192 : decode cX3_lookAtAll 192 = .ok (.invokevirtual 92, 3) := by decide +kernel
theorem dX3_lookAtAll_195 : decode cX3_lookAtAll 195 = .ok (.iinc 5 1, 3) := by decide +kernel
theorem dX3_lookAtAll_198 : decode cX3_lookAtAll 198 = .ok (.goto (-186), 3) := by decide +kernel
theorem dX3_lookAtAll_201 : decode cX3_lookAtAll 201 = .ok (.aload_n 0, 1) := by decide +kernel
theorem dX3_lookAtAll_202 : decode cX3_lookAtAll 202 = .ok (.iconst 1, 1) := by decide +kernel
theorem dX3_lookAtAll_203 : decode cX3_lookAtAll 203 = .ok (.putfield 96, 3) := by decide +kernel
theorem dX3_lookAtAll_206 : decode cX3_lookAtAll 206 = .ok (.return_, 1) := by decide +kernel
theorem dX3_begin_0 : decode cX3_begin 0 = .ok (.aload_n 0, 1) := by decide +kernel
theorem dX3_begin_1 : decode cX3_begin 1 = .ok (.iconst 1, 1) := by decide +kernel
theorem dX3_begin_2 : decode cX3_begin 2 = .ok (.putfield 41, 3) := by decide +kernel
theorem dX3_begin_5 : decode cX3_begin 5 = .ok (.iconst 0, 1) := by decide +kernel
theorem dX3_begin_6 : decode cX3_begin 6 = .ok (.istore_n 3, 1) := by decide +kernel
theorem dX3_begin_7 : decode cX3_begin 7 = .ok (.iload_n 3, 1) := by decide +kernel
theorem dX3_begin_8 : decode cX3_begin 8 = .ok (.iload_n 1, 1) := by decide +kernel
theorem dX3_begin_9 : decode cX3_begin 9 = .ok (.if_icmp .ge 37, 3) := by decide +kernel
theorem dX3_begin_12 : decode cX3_begin 12 = .ok (.aload_n 0, 1) := by decide +kernel
theorem dX3_begin_13 : decode cX3_begin 13 = .ok (.dup, 1) := by decide +kernel
theorem dX3_begin_14 : decode cX3_begin 14 = .ok (.getfield 41, 3) := by decide +kernel
theorem dX3_begin_17 : decode cX3_begin 17 = .ok (.iload_n 3, 1) := by decide +kernel
theorem dX3_begin_18 : decode cX3_begin 18 = .ok (.iconst 1, 1) := by decide +kernel
theorem dX3_begin_19 : decode cX3_begin 19 = .ok (.iadd, 1) := by decide +kernel
theorem dX3_begin_20 : decode cX3_begin 20 = .ok (.imul, 1) := by decide +kernel
theorem dX3_begin_21 : decode cX3_begin 21 = .ok (.putfield 41, 3) := by decide +kernel
theorem dX3_begin_24 : decode cX3_begin 24 = .ok (.aload_n 0, 1) := by decide +kernel
theorem dX3_begin_25 : decode cX3_begin 25 = .ok (.getfield 18, 3) := by decide +kernel
theorem dX3_begin_28 : decode cX3_begin 28 = .ok (.iload_n 3, 1) := by decide +kernel
theorem dX3_begin_29 : decode cX3_begin 29 = .ok (.iload_n 3, 1) := by decide +kernel
theorem dX3_begin_30 : decode cX3_begin 30 = .ok (.iastore, 1) := by decide +kernel
theorem dX3_begin_31 : decode cX3_begin 31 = .ok (.aload_n 0, 1) := by decide +kernel
theorem dX3_begin_32 : decode cX3_begin 32 = .ok (.getfield 21, 3) := by decide +kernel
theorem dX3_begin_35 : decode cX3_begin 35 = .ok (.aload_n 2, 1) := by decide +kernel
theorem dX3_begin_36 : decode cX3_begin 36 = .ok (.iload_n 3, 1) := by decide +kernel
theorem dX3_begin_37 : decode cX3_begin 37 = .ok (.iaload, 1) := by decide +kernel
theorem dX3_begin_38 : decode cX3_begin 38 = .ok (.iload_n 3, 1) := by decide +kernel
theorem dX3_begin_39 : decode cX3_begin 39 = .ok (.iastore, 1) := by decide +kernel
theorem dX3_begin_40 : decode cX3_begin 40 = .ok (.iinc 3 1, 3) := by decide +kernel
theorem dX3_begin_43 : decode cX3_begin 43 = .ok (.goto (-36), 3) := by decide +kernel
theorem dX3_begin_46 : decode cX3_begin 46 = .ok (.aload_n 0, 1) := by decide +kernel
theorem dX3_begin_47 : decode cX3_begin 47 = .ok (.iconst 0, 1) := by decide +kernel
theorem dX3_begin_48 : decode cX3_begin 48 = .ok (.putfield 69, 3) := by decide +kernel
theorem dX3_begin_51 : decode cX3_begin 51 = .ok (.aload_n 0, 1) := by decide +kernel
theorem dX3_begin_52 : decode cX3_begin 52 = .ok (.iconst 0, 1) := by decide +kernel
theorem dX3_begin_53 : decode cX3_begin 53 = .ok (.putfield 85, 3) := by decide +kernel
theorem dX3_begin_56 : decode cX3_begin 56 = .ok (.aload_n 0, 1) := by decide +kernel
theorem dX3_begin_57 : decode cX3_begin 57 = .ok (.bipush (-4), 2) := by decide +kernel
theorem dX3_begin_59 : decode cX3_begin 59 = .ok (.putfield 76, 3) := by decide +kernel
theorem dX3_begin_62 : decode cX3_begin 62 = .ok (.aload_n 0, 1) := by decide +kernel
theorem dX3_begin_63 : decode cX3_begin 63 = .ok (.iconst (-1), 1) := by decide +kernel
theorem dX3_begin_64 : decode cX3_begin 64 = .ok (.putfield 54, 3) := by decide +kernel
theorem dX3_begin_67 : decode cX3_begin 67 = .ok (.aload_n 0, 1) := by decide +kernel
theorem dX3_begin_68 : decode cX3_begin 68 = .ok (.getfield 15, 3) := by decide +kernel
theorem dX3_begin_71 : decode cX3_begin 71 = .ok (.iconst 0, 1) := by decide +kernel
theorem dX3_begin_72 : decode cX3_begin 72 = .ok (.invokestatic 100, 3) := by decide +kernel
theorem dX3_begin_75 : decode cX3_begin 75 = .ok (.return_, 1) := by decide +kernel
theorem dX3_soundsAlike_0 : decode cX3_soundsAlike 0 = .ok (.iconst 0, 1) := by decide +kernel
theorem dX3_soundsAlike_1 : decode cX3_soundsAlike 1 = .ok (.istore_n 3, 1) := by decide +kernel
theorem dX3_soundsAlike_2 : decode cX3_soundsAlike 2 = .ok (.iload_n 3, 1) := by decide +kernel
theorem dX3_soundsAlike_3 : decode cX3_soundsAlike 3 = .ok (.iload_n 1, 1) := by decide +kernel
theorem dX3_soundsAlike_4 : decode cX3_soundsAlike 4 = .ok (.if_icmp .ge 29, 3) := by decide +kernel
theorem dX3_soundsAlike_7 : decode cX3_soundsAlike 7 = .ok (.aload_n 0, 1) := by decide +kernel
theorem dX3_soundsAlike_8 : decode cX3_soundsAlike 8 = .ok (.getfield 27, 3) := by decide +kernel
theorem dX3_soundsAlike_11 : decode cX3_soundsAlike 11 = .ok (.getfield 106, 3) := by decide +kernel
theorem dX3_soundsAlike_14 : decode cX3_soundsAlike 14 = .ok (.iload_n 3, 1) := by decide +kernel
theorem dX3_soundsAlike_15 : decode cX3_soundsAlike 15 = .ok (.iaload, 1) := by decide +kernel
theorem dX3_soundsAlike_16 : decode cX3_soundsAlike 16 = .ok (.aload_n 2, 1) := by decide +kernel
theorem dX3_soundsAlike_17 : decode cX3_soundsAlike 17 = .ok (.getfield 106, 3) := by decide +kernel
theorem dX3_soundsAlike_20 : decode cX3_soundsAlike 20 = .ok (.iload_n 3, 1) := by decide +kernel
theorem dX3_soundsAlike_21 : decode cX3_soundsAlike 21 = .ok (.iaload, 1) := by decide +kernel
theorem dX3_soundsAlike_22 : decode cX3_soundsAlike 22 = .ok (.if_icmp .eq 5, 3) := by decide +kernel
theorem dX3_soundsAlike_25 : decode cX3_soundsAlike 25 = .ok (.iconst 0, 1) := by decide +kernel
theorem dX3_soundsAlike_26 : decode cX3_soundsAlike 26 = .ok (.ireturn, 1) := by decide +kernel
theorem dX3_soundsAlike_27 : decode cX3_soundsAlike 27 = .ok (.iinc 3 1, 3) := by decide +kernel
theorem dX3_soundsAlike_30 : decode cX3_soundsAlike 30 = .ok (.goto (-28), 3) := by decide +kernel
theorem dX3_soundsAlike_33 : decode cX3_soundsAlike 33 = .ok (.iconst 1, 1) := by decide +kernel
theorem dX3_soundsAlike_34 : decode cX3_soundsAlike 34 = .ok (.ireturn, 1) := by decide +kernel
theorem dX3_changesToTrial_0 : decode cX3_changesToTrial 0 = .ok (.iconst 0, 1) := by decide +kernel
theorem dX3_changesToTrial_1 : decode cX3_changesToTrial 1 = .ok (.istore_n 2, 1) := by decide +kernel
theorem dX3_changesToTrial_2 : decode cX3_changesToTrial 2 = .ok (.iconst 0, 1) := by decide +kernel
theorem dX3_changesToTrial_3 : decode cX3_changesToTrial 3 = .ok (.istore_n 3, 1) := by decide +kernel
theorem dX3_changesToTrial_4 : decode cX3_changesToTrial 4 = .ok (.iconst 0, 1) := by decide +kernel
theorem dX3_changesToTrial_5 : decode cX3_changesToTrial 5 = .ok (.istore 4, 2) := by decide +kernel
theorem dX3_changesToTrial_7 : decode cX3_changesToTrial 7 = .ok (.iload 4, 2) := by decide +kernel
theorem dX3_changesToTrial_9 : decode cX3_changesToTrial 9 = .ok (.iload_n 1, 1) := by decide +kernel
theorem dX3_changesToTrial_10 : decode cX3_changesToTrial 10 = .ok (.if_icmp .ge 75, 3) := by decide +kernel
theorem dX3_changesToTrial_13 : decode cX3_changesToTrial 13 = .ok (.iload_n 3, 1) := by decide +kernel
theorem dX3_changesToTrial_14 : decode cX3_changesToTrial 14 = .ok (.iload_n 2, 1) := by decide +kernel
theorem dX3_changesToTrial_15 : decode cX3_changesToTrial 15 = .ok (.iload 4, 2) := by decide +kernel
theorem dX3_changesToTrial_17 : decode cX3_changesToTrial 17 = .ok (.ishr, 1) := by decide +kernel
theorem dX3_changesToTrial_18 : decode cX3_changesToTrial 18 = .ok (.iconst 1, 1) := by decide +kernel
theorem dX3_changesToTrial_19 : decode cX3_changesToTrial 19 = .ok (.iand, 1) := by decide +kernel
theorem dX3_changesToTrial_20 : decode cX3_changesToTrial 20 = .ok (.ifCond .ne 7, 3) := by decide +kernel
theorem dX3_changesToTrial_23 : decode cX3_changesToTrial 23 = .ok (.iconst 1, 1) := by decide +kernel
theorem dX3_changesToTrial_24 : decode cX3_changesToTrial 24 = .ok (.goto 4, 3) := by decide +kernel
theorem dX3_changesToTrial_27 : decode cX3_changesToTrial 27 = .ok (.iconst 0, 1) := by decide +kernel
theorem dX3_changesToTrial_28 : decode cX3_changesToTrial 28 = .ok (.iadd, 1) := by decide +kernel
theorem dX3_changesToTrial_29 : decode cX3_changesToTrial 29 = .ok (.istore_n 3, 1) := by decide +kernel
theorem dX3_changesToTrial_30 : decode cX3_changesToTrial 30 = .ok (.iload 4, 2) := by decide +kernel
theorem dX3_changesToTrial_32 : decode cX3_changesToTrial 32 = .ok (.istore 5, 2) := by decide +kernel
theorem dX3_changesToTrial_34 : decode cX3_changesToTrial 34 = .ok (.iconst 0, 1) := by decide +kernel
theorem dX3_changesToTrial_35 : decode cX3_changesToTrial 35 = .ok (.istore 6, 2) := by decide +kernel
theorem dX3_changesToTrial_37 : decode cX3_changesToTrial 37 = .ok (.iload 6, 2) := by decide +kernel
theorem dX3_changesToTrial_39 : decode cX3_changesToTrial 39 = .ok (.iload_n 1, 1) := by decide +kernel
theorem dX3_changesToTrial_40 : decode cX3_changesToTrial 40 = .ok (.if_icmp .ge 39, 3) := by decide +kernel
theorem dX3_changesToTrial_43 : decode cX3_changesToTrial 43 = .ok (.iload_n 2, 1) := by decide +kernel
theorem dX3_changesToTrial_44 : decode cX3_changesToTrial 44 = .ok (.iload 5, 2) := by decide +kernel
theorem dX3_changesToTrial_46 : decode cX3_changesToTrial 46 = .ok (.ishr, 1) := by decide +kernel
theorem dX3_changesToTrial_47 : decode cX3_changesToTrial 47 = .ok (.iconst 1, 1) := by decide +kernel
theorem dX3_changesToTrial_48 : decode cX3_changesToTrial 48 = .ok (.iand, 1) := by decide +kernel
theorem dX3_changesToTrial_49 : decode cX3_changesToTrial 49 = .ok (.ifCond .ne 30, 3) := by decide +kernel
theorem dX3_changesToTrial_52 : decode cX3_changesToTrial 52 = .ok (.iload_n 2, 1) := by decide +kernel
theorem dX3_changesToTrial_53 : decode cX3_changesToTrial 53 = .ok (.iconst 1, 1) := by decide +kernel
theorem dX3_changesToTrial_54 : decode cX3_changesToTrial 54 = .ok (.iload 5, 2) := by decide +kernel
theorem dX3_changesToTrial_56 : decode cX3_changesToTrial 56 = .ok (.ishl, 1) := by decide +kernel
theorem dX3_changesToTrial_57 : decode cX3_changesToTrial 57 = .ok (.ior, 1) := by decide +kernel
theorem dX3_changesToTrial_58 : decode cX3_changesToTrial 58 = .ok (.istore_n 2, 1) := by decide +kernel
theorem dX3_changesToTrial_59 : decode cX3_changesToTrial 59 = .ok (.aload_n 0, 1) := by decide +kernel
theorem dX3_changesToTrial_60 : decode cX3_changesToTrial 60 = .ok (.getfield 21, 3) := by decide +kernel
theorem dX3_changesToTrial_63 : decode cX3_changesToTrial 63 = .ok (.aload_n 0, 1) := by decide +kernel
theorem dX3_changesToTrial_64 : decode cX3_changesToTrial 64 = .ok (.getfield 18, 3) := by decide +kernel
theorem dX3_changesToTrial_67 : decode cX3_changesToTrial 67 = .ok (.iload 5, 2) := by decide +kernel
theorem dX3_changesToTrial_69 : decode cX3_changesToTrial 69 = .ok (.iaload, 1) := by decide +kernel
theorem dX3_changesToTrial_70 : decode cX3_changesToTrial 70 = .ok (.iaload, 1) := by decide +kernel
theorem dX3_changesToTrial_71 : decode cX3_changesToTrial 71 = .ok (.istore 5, 2) := by decide +kernel
theorem dX3_changesToTrial_73 : decode cX3_changesToTrial 73 = .ok (.iinc 6 1, 3) := by decide +kernel
theorem dX3_changesToTrial_76 : decode cX3_changesToTrial 76 = .ok (.goto (-39), 3) := by decide +kernel
theorem dX3_changesToTrial_79 : decode cX3_changesToTrial 79 = .ok (.iinc 4 1, 3) := by decide +kernel
theorem dX3_changesToTrial_82 : decode cX3_changesToTrial 82 = .ok (.goto (-75), 3) := by decide +kernel
theorem dX3_changesToTrial_85 : decode cX3_changesToTrial 85 = .ok (.iload_n 1, 1) := by decide +kernel
theorem dX3_changesToTrial_86 : decode cX3_changesToTrial 86 = .ok (.iload_n 3, 1) := by decide +kernel
theorem dX3_changesToTrial_87 : decode cX3_changesToTrial 87 = .ok (.isub, 1) := by decide +kernel
theorem dX3_changesToTrial_88 : decode cX3_changesToTrial 88 = .ok (.ireturn, 1) := by decide +kernel
theorem dX3_goToNextSeating_0 : decode cX3_goToNextSeating 0 = .ok (.iload_n 1, 1) := by decide +kernel
theorem dX3_goToNextSeating_1 : decode cX3_goToNextSeating 1 = .ok (.iconst 2, 1) := by decide +kernel
theorem dX3_goToNextSeating_2 : decode cX3_goToNextSeating 2 = .ok (.isub, 1) := by decide +kernel
theorem dX3_goToNextSeating_3 : decode cX3_goToNextSeating 3 = .ok (.istore_n 2, 1) := by decide +kernel
theorem dX3_goToNextSeating_4 : decode cX3_goToNextSeating 4 = .ok (.iload_n 2, 1) := by decide +kernel
theorem dX3_goToNextSeating_5 : decode cX3_goToNextSeating 5 = .ok (.ifCond .lt 26, 3) := by decide +kernel
theorem dX3_goToNextSeating_8 : decode cX3_goToNextSeating 8 = .ok (.aload_n 0, 1) := by decide +kernel
theorem dX3_goToNextSeating_9 : decode cX3_goToNextSeating 9 = .ok (.getfield 18, 3) := by decide +kernel
theorem dX3_goToNextSeating_12 : decode cX3_goToNextSeating 12 = .ok (.iload_n 2, 1) := by decide +kernel
theorem dX3_goToNextSeating_13 : decode cX3_goToNextSeating 13 = .ok (.iaload, 1) := by decide +kernel
theorem dX3_goToNextSeating_14 : decode cX3_goToNextSeating 14 = .ok (.aload_n 0, 1) := by decide +kernel
theorem dX3_goToNextSeating_15 : decode cX3_goToNextSeating 15 = .ok (.getfield 18, 3) := by decide +kernel
theorem dX3_goToNextSeating_18 : decode cX3_goToNextSeating 18 = .ok (.iload_n 2, 1) := by decide +kernel
theorem dX3_goToNextSeating_19 : decode cX3_goToNextSeating 19 = .ok (.iconst 1, 1) := by decide +kernel
theorem dX3_goToNextSeating_20 : decode cX3_goToNextSeating 20 = .ok (.iadd, 1) := by decide +kernel
theorem dX3_goToNextSeating_21 : decode cX3_goToNextSeating 21 = .ok (.iaload, 1) := by decide +kernel
theorem dX3_goToNextSeating_22 : decode cX3_goToNextSeating 22 = .ok (.if_icmp .le 9, 3) := by decide +kernel
theorem dX3_goToNextSeating_25 : decode cX3_goToNextSeating 25 = .ok (.iinc 2 (-1), 3) := by decide +kernel
theorem dX3_goToNextSeating_28 : decode cX3_goToNextSeating 28 = .ok (.goto (-24), 3) := by decide +kernel
theorem dX3_goToNextSeating_31 : decode cX3_goToNextSeating 31 = .ok (.iload_n 2, 1) := by decide +kernel
theorem dX3_goToNextSeating_32 : decode cX3_goToNextSeating 32 = .ok (.ifCond .ge 4, 3) := by decide +kernel
theorem dX3_goToNextSeating_35 : decode cX3_goToNextSeating 35 = .ok (.return_, 1) := by decide +kernel
theorem dX3_goToNextSeating_36 : decode cX3_goToNextSeating 36 = .ok (.iload_n 1, 1) := by decide +kernel
theorem dX3_goToNextSeating_37 : decode cX3_goToNextSeating 37 = .ok (.iconst 1, 1) := by decide +kernel
theorem dX3_goToNextSeating_38 : decode cX3_goToNextSeating 38 = .ok (.isub, 1) := by decide +kernel
theorem dX3_goToNextSeating_39 : decode cX3_goToNextSeating 39 = .ok (.istore_n 3, 1) := by decide +kernel
theorem dX3_goToNextSeating_40 : decode cX3_goToNextSeating 40 = .ok (.iload_n 3, 1) := by decide +kernel
theorem dX3_goToNextSeating_41 : decode cX3_goToNextSeating 41 = .ok (.iload_n 2, 1) := by decide +kernel
theorem dX3_goToNextSeating_42 : decode cX3_goToNextSeating 42 = .ok (.iconst 1, 1) := by decide +kernel
theorem dX3_goToNextSeating_43 : decode cX3_goToNextSeating 43 = .ok (.iadd, 1) := by decide +kernel
theorem dX3_goToNextSeating_44 : decode cX3_goToNextSeating 44 = .ok (.if_icmp .le 24, 3) := by decide +kernel
theorem dX3_goToNextSeating_47 : decode cX3_goToNextSeating 47 = .ok (.aload_n 0, 1) := by decide +kernel
theorem dX3_goToNextSeating_48 : decode cX3_goToNextSeating 48 = .ok (.getfield 18, 3) := by decide +kernel
theorem dX3_goToNextSeating_51 : decode cX3_goToNextSeating 51 = .ok (.iload_n 3, 1) := by decide +kernel
theorem dX3_goToNextSeating_52 : decode cX3_goToNextSeating 52 = .ok (.iaload, 1) := by decide +kernel
theorem dX3_goToNextSeating_53 : decode cX3_goToNextSeating 53 = .ok (.aload_n 0, 1) := by decide +kernel
theorem dX3_goToNextSeating_54 : decode cX3_goToNextSeating 54 = .ok (.getfield 18, 3) := by decide +kernel
theorem dX3_goToNextSeating_57 : decode cX3_goToNextSeating 57 = .ok (.iload_n 2, 1) := by decide +kernel
theorem dX3_goToNextSeating_58 : decode cX3_goToNextSeating 58 = .ok (.iaload, 1) := by decide +kernel
theorem dX3_goToNextSeating_59 : decode cX3_goToNextSeating 59 = .ok (.if_icmp .ge 9, 3) := by decide +kernel
theorem dX3_goToNextSeating_62 : decode cX3_goToNextSeating 62 = .ok (.iinc 3 (-1), 3) := by decide +kernel
theorem dX3_goToNextSeating_65 : decode cX3_goToNextSeating 65 = .ok (.goto (-25), 3) := by decide +kernel
theorem dX3_goToNextSeating_68 : decode cX3_goToNextSeating 68 = .ok (.aload_n 0, 1) := by decide +kernel
theorem dX3_goToNextSeating_69 : decode cX3_goToNextSeating 69 = .ok (.getfield 18, 3) := by decide +kernel
theorem dX3_goToNextSeating_72 : decode cX3_goToNextSeating 72 = .ok (.iload_n 2, 1) := by decide +kernel
theorem dX3_goToNextSeating_73 : decode cX3_goToNextSeating 73 = .ok (.iload_n 3, 1) := by decide +kernel
theorem dX3_goToNextSeating_74 : decode cX3_goToNextSeating 74 = .ok (.invokestatic 109, 3) := by decide +kernel
theorem dX3_goToNextSeating_77 : decode cX3_goToNextSeating 77 = .ok (.iload_n 2, 1) := by decide +kernel
theorem dX3_goToNextSeating_78 : decode cX3_goToNextSeating 78 = .ok (.iconst 1, 1) := by decide +kernel
theorem dX3_goToNextSeating_79 : decode cX3_goToNextSeating 79 = .ok (.iadd, 1) := by decide +kernel
theorem dX3_goToNextSeating_80 : decode cX3_goToNextSeating 80 = .ok (.istore 4, 2) := by decide +kernel
theorem dX3_goToNextSeating_82 : decode cX3_goToNextSeating 82 = .ok (.iload_n 1, 1) := by decide +kernel
theorem dX3_goToNextSeating_83 : decode cX3_goToNextSeating 83 = .ok (.iconst 1, 1) := by decide +kernel
theorem dX3_goToNextSeating_84 : decode cX3_goToNextSeating 84 = .ok (.isub, 1) := by decide +kernel
theorem dX3_goToNextSeating_85 : decode cX3_goToNextSeating 85 = .ok (.istore 5, 2) := by decide +kernel
theorem dX3_goToNextSeating_87 : decode cX3_goToNextSeating 87 = .ok (.iload 5, 2) := by decide +kernel
theorem dX3_goToNextSeating_89 : decode cX3_goToNextSeating 89 = .ok (.iload 4, 2) := by decide +kernel
theorem dX3_goToNextSeating_91 : decode cX3_goToNextSeating 91 = .ok (.if_icmp .le 23, 3) := by decide +kernel
theorem dX3_goToNextSeating_94 : decode cX3_goToNextSeating 94 = .ok (.aload_n 0, 1) := by decide +kernel
theorem dX3_goToNextSeating_95 : decode cX3_goToNextSeating 95 = .ok (.getfield 18, 3) := by decide +kernel
theorem dX3_goToNextSeating_98 : decode cX3_goToNextSeating 98 = .ok (.iload 4, 2) := by decide +kernel
theorem dX3_goToNextSeating_100 : decode cX3_goToNextSeating 100 = .ok (.iload 5, 2) := by decide +kernel
theorem dX3_goToNextSeating_102 : decode cX3_goToNextSeating 102 = .ok (.invokestatic 109, 3) := by decide +kernel
theorem dX3_goToNextSeating_105 : decode cX3_goToNextSeating 105 = .ok (.iinc 4 1, 3) := by decide +kernel
theorem dX3_goToNextSeating_108 : decode cX3_goToNextSeating 108 = .ok (.iinc 5 (-1), 3) := by decide +kernel
theorem dX3_goToNextSeating_111 : decode cX3_goToNextSeating 111 = .ok (.goto (-24), 3) := by decide +kernel
theorem dX3_goToNextSeating_114 : decode cX3_goToNextSeating 114 = .ok (.return_, 1) := by decide +kernel
theorem dX4_init_0 : decode cX4_init 0 = .ok (.aload_n 0, 1) := by decide +kernel
theorem dX4_init_1 : decode cX4_init 1 = .ok (.invokespecial 3, 3) := by decide +kernel
theorem dX4_init_4 : decode cX4_init 4 = .ok (.aload_n 0, 1) := by decide +kernel
theorem dX4_init_5 : decode cX4_init 5 = .ok (.new 9, 3) := by decide +kernel
theorem dX4_init_8 : decode cX4_init 8 = .ok (.dup, 1) := by decide +kernel
theorem dX4_init_9 : decode cX4_init 9 = .ok (.invokespecial 11, 3) := by decide +kernel
theorem dX4_init_12 : decode cX4_init 12 = .ok (.putfield 12, 3) := by decide +kernel
theorem dX4_init_15 : decode cX4_init 15 = .ok (.aload_n 0, 1) := by decide +kernel
theorem dX4_init_16 : decode cX4_init 16 = .ok (.new 16, 3) := by decide +kernel
theorem dX4_init_19 : decode cX4_init 19 = .ok (.dup, 1) := by decide +kernel
theorem dX4_init_20 : decode cX4_init 20 = .ok (.invokespecial 18, 3) := by decide +kernel
theorem dX4_init_23 : decode cX4_init 23 = .ok (.putfield 19, 3) := by decide +kernel
theorem dX4_init_26 : decode cX4_init 26 = .ok (.aload_n 0, 1) := by decide +kernel
theorem dX4_init_27 : decode cX4_init 27 = .ok (.bipush 7, 2) := by decide +kernel
theorem dX4_init_29 : decode cX4_init 29 = .ok (.newarray .int, 2) := by decide +kernel
theorem dX4_init_31 : decode cX4_init 31 = .ok (.putfield 23, 3) := by decide +kernel
theorem dX4_init_34 : decode cX4_init 34 = .ok (.aload_n 0, 1) := by decide +kernel
theorem dX4_init_35 : decode cX4_init 35 = .ok (.new 27, 3) := by decide +kernel
theorem dX4_init_38 : decode cX4_init 38 = .ok (.dup, 1) := by decide +kernel
theorem dX4_init_39 : decode cX4_init 39 = .ok (.invokespecial 29, 3) := by decide +kernel
theorem dX4_init_42 : decode cX4_init 42 = .ok (.putfield 30, 3) := by decide +kernel
theorem dX4_init_45 : decode cX4_init 45 = .ok (.aload_n 0, 1) := by decide +kernel
theorem dX4_init_46 : decode cX4_init 46 = .ok (.new 34, 3) := by decide +kernel
theorem dX4_init_49 : decode cX4_init 49 = .ok (.dup, 1) := by decide +kernel
theorem dX4_init_50 : decode cX4_init 50 = .ok (.invokespecial 36, 3) := by decide +kernel
theorem dX4_init_53 : decode cX4_init 53 = .ok (.putfield 37, 3) := by decide +kernel
theorem dX4_init_56 : decode cX4_init 56 = .ok (.aload_n 0, 1) := by decide +kernel
theorem dX4_init_57 : decode cX4_init 57 = .ok (.bipush 7, 2) := by decide +kernel
theorem dX4_init_59 : decode cX4_init 59 = .ok (.newarray .int, 2) := by decide +kernel
theorem dX4_init_61 : decode cX4_init 61 = .ok (.putfield 41, 3) := by decide +kernel
theorem dX4_init_64 : decode cX4_init 64 = .ok (.aload_n 0, 1) := by decide +kernel
theorem dX4_init_65 : decode cX4_init 65 = .ok (.new 27, 3) := by decide +kernel
theorem dX4_init_68 : decode cX4_init 68 = .ok (.dup, 1) := by decide +kernel
theorem dX4_init_69 : decode cX4_init 69 = .ok (.invokespecial 29, 3) := by decide +kernel
theorem dX4_init_72 : decode cX4_init 72 = .ok (.putfield 44, 3) := by decide +kernel
theorem dX4_init_75 : decode cX4_init 75 = .ok (.aload_n 0, 1) := by decide +kernel
theorem dX4_init_76 : decode cX4_init 76 = .ok (.bipush 8, 2) := by decide +kernel
theorem dX4_init_78 : decode cX4_init 78 = .ok (.newarray .int, 2) := by decide +kernel
theorem dX4_init_80 : decode cX4_init 80 = .ok (.putfield 47, 3) := by decide +kernel
theorem dX4_init_83 : decode cX4_init 83 = .ok (.aload_n 0, 1) := by decide +kernel
theorem dX4_init_84 : decode cX4_init 84 = .ok (.bipush 8, 2) := by decide +kernel
theorem dX4_init_86 : decode cX4_init 86 = .ok (.newarray .int, 2) := by decide +kernel
theorem dX4_init_88 : decode cX4_init 88 = .ok (.putfield 50, 3) := by decide +kernel
theorem dX4_init_91 : decode cX4_init 91 = .ok (.aload_n 0, 1) := by decide +kernel
theorem dX4_init_92 : decode cX4_init 92 = .ok (.bipush 8, 2) := by decide +kernel
theorem dX4_init_94 : decode cX4_init 94 = .ok (.newarray .int, 2) := by decide +kernel
theorem dX4_init_96 : decode cX4_init 96 = .ok (.putfield 53, 3) := by decide +kernel
theorem dX4_init_99 : decode cX4_init 99 = .ok (.aload_n 0, 1) := by decide +kernel
theorem dX4_init_100 : decode cX4_init 100 = .ok (.bipush 8, 2) := by decide +kernel
theorem dX4_init_102 : decode cX4_init 102 = .ok (.newarray .int, 2) := by decide +kernel
theorem dX4_init_104 : decode cX4_init 104 = .ok (.putfield 56, 3) := by decide +kernel
theorem dX4_init_107 : decode cX4_init 107 = .ok (.aload_n 0, 1) := by decide +kernel
theorem dX4_init_108 : decode cX4_init 108 = .ok (.iconst 2, 1) := by decide +kernel
theorem dX4_init_109 : decode cX4_init 109 = .ok (.bipush 7, 2) := by decide +kernel
theorem dX4_init_111 : decode cX4_init 111 = .ok (.multianewarray 59 2, 4) := by decide +kernel
theorem dX4_init_115 : decode cX4_init 115 = .ok (.putfield 61, 3) := by decide +kernel
theorem dX4_init_118 : decode cX4_init 118 = .ok (.aload_n 0, 1) := by decide +kernel
theorem dX4_init_119 : decode cX4_init 119 = .ok (.iconst 2, 1) := by decide +kernel
theorem dX4_init_120 : decode cX4_init 120 = .ok (.newarray .int, 2) := by decide +kernel
theorem dX4_init_122 : decode cX4_init 122 = .ok (.putfield 64, 3) := by decide +kernel
theorem dX4_init_125 : decode cX4_init 125 = .ok (.iconst 0, 1) := by decide +kernel
theorem dX4_init_126 : decode cX4_init 126 = .ok (.istore_n 1, 1) := by decide +kernel
theorem dX4_init_127 : decode cX4_init 127 = .ok (.iload_n 1, 1) := by decide +kernel
theorem dX4_init_128 : decode cX4_init 128 = .ok (.ldc 67, 2) := by decide +kernel
theorem dX4_init_130 : decode cX4_init 130 = .ok (.invokevirtual 69, 3) := by decide +kernel
theorem dX4_init_133 : decode cX4_init 133 = .ok (.if_icmp .ge 23, 3) := by decide +kernel
theorem dX4_init_136 : decode cX4_init 136 = .ok (.aload_n 0, 1) := by decide +kernel
theorem dX4_init_137 : decode cX4_init 137 = .ok (.getfield 12, 3) := by decide +kernel
theorem dX4_init_140 : decode cX4_init 140 = .ok (.ldc 67, 2) := by decide +kernel
theorem dX4_init_142 : decode cX4_init 142 = .ok (.iload_n 1, 1) := by decide +kernel
theorem dX4_init_143 : decode cX4_init 143 = .ok (.invokevirtual 75, 3) := by decide +kernel
theorem dX4_init_146 : decode cX4_init 146 = .ok (.invokevirtual 79, 3) := by decide +kernel
theorem dX4_init_149 : decode cX4_init 149 = .ok (.pop, 1) := by decide +kernel
theorem dX4_init_150 : decode cX4_init 150 = .ok (.iinc 1 1, 3) := by decide +kernel
theorem dX4_init_153 : decode cX4_init 153 = .ok (.goto (-26), 3) := by decide +kernel
theorem dX4_init_156 : decode cX4_init 156 = .ok (.aload_n 0, 1) := by decide +kernel
theorem dX4_init_157 : decode cX4_init 157 = .ok (.invokevirtual 83, 3) := by decide +kernel
theorem dX4_init_160 : decode cX4_init 160 = .ok (.pop, 1) := by decide +kernel
theorem dX4_init_161 : decode cX4_init 161 = .ok (.aload_n 0, 1) := by decide +kernel
theorem dX4_init_162 : decode cX4_init 162 = .ok (.getfield 12, 3) := by decide +kernel
theorem dX4_init_165 : decode cX4_init 165 = .ok (.iconst 0, 1) := by decide +kernel
theorem dX4_init_166 : decode cX4_init 166 = .ok (.putfield 87, 3) := by decide +kernel
theorem dX4_init_169 : decode cX4_init 169 = .ok (.return_, 1) := by decide +kernel
theorem dX4_write_0 : decode cX4_write 0 = .ok (.iload_n 1, 1) := by decide +kernel
theorem dX4_write_1 : decode cX4_write 1 = .ok (.bipush 32, 2) := by decide +kernel
theorem dX4_write_3 : decode cX4_write 3 = .ok (.if_icmp .lt 9, 3) := by decide +kernel
theorem dX4_write_6 : decode cX4_write 6 = .ok (.iload_n 1, 1) := by decide +kernel
theorem dX4_write_7 : decode cX4_write 7 = .ok (.bipush 126, 2) := by decide +kernel
theorem dX4_write_9 : decode cX4_write 9 = .ok (.if_icmp .le 5, 3) := by decide +kernel
theorem dX4_write_12 : decode cX4_write 12 = .ok (.iconst (-1), 1) := by decide +kernel
theorem dX4_write_13 : decode cX4_write 13 = .ok (.ireturn, 1) := by decide +kernel
theorem dX4_write_14 : decode cX4_write 14 = .ok (.aload_n 0, 1) := by decide +kernel
theorem dX4_write_15 : decode cX4_write 15 = .ok (.getfield 12, 3) := by decide +kernel
theorem dX4_write_18 : decode cX4_write 18 = .ok (.iload_n 1, 1) := by decide +kernel
theorem dX4_write_19 : decode cX4_write 19 = .ok (.i2c, 1) := by decide +kernel
theorem dX4_write_20 : decode cX4_write 20 = .ok (.invokevirtual 79, 3) := by decide +kernel
theorem dX4_write_23 : decode cX4_write 23 = .ok (.ifCond .eq 13, 3) := by decide +kernel
theorem dX4_write_26 : decode cX4_write 26 = .ok (.aload_n 0, 1) := by decide +kernel
theorem dX4_write_27 : decode cX4_write 27 = .ok (.getfield 12, 3) := by decide +kernel
theorem dX4_write_30 : decode cX4_write 30 = .ok (.getfield 87, 3) := by decide +kernel
theorem dX4_write_33 : decode cX4_write 33 = .ok (.goto 5, 3) := by decide +kernel
theorem dX4_write_36 : decode cX4_write 36 = .ok (.bipush (-3), 2) := by decide +kernel
theorem dX4_write_38 : decode cX4_write 38 = .ok (.ireturn, 1) := by decide +kernel
theorem dX4_wipe_0 : decode cX4_wipe 0 = .ok (.aload_n 0, 1) := by decide +kernel
theorem dX4_wipe_1 : decode cX4_wipe 1 = .ok (.getfield 12, 3) := by decide +kernel
theorem dX4_wipe_4 : decode cX4_wipe 4 = .ok (.getfield 87, 3) := by decide +kernel
theorem dX4_wipe_7 : decode cX4_wipe 7 = .ok (.istore_n 1, 1) := by decide +kernel
theorem dX4_wipe_8 : decode cX4_wipe 8 = .ok (.aload_n 0, 1) := by decide +kernel
theorem dX4_wipe_9 : decode cX4_wipe 9 = .ok (.getfield 12, 3) := by decide +kernel
theorem dX4_wipe_12 : decode cX4_wipe 12 = .ok (.iconst 0, 1) := by decide +kernel
theorem dX4_wipe_13 : decode cX4_wipe 13 = .ok (.putfield 87, 3) := by decide +kernel
theorem dX4_wipe_16 : decode cX4_wipe 16 = .ok (.iload_n 1, 1) := by decide +kernel
theorem dX4_wipe_17 : decode cX4_wipe 17 = .ok (.ireturn, 1) := by decide +kernel
theorem dX4_fault_0 : decode cX4_fault 0 = .ok (.aload_n 0, 1) := by decide +kernel
theorem dX4_fault_1 : decode cX4_fault 1 = .ok (.getfield 12, 3) := by decide +kernel
theorem dX4_fault_4 : decode cX4_fault 4 = .ok (.invokevirtual 90, 3) := by decide +kernel
theorem dX4_fault_7 : decode cX4_fault 7 = .ok (.ireturn, 1) := by decide +kernel
theorem dX4_lay_0 : decode cX4_lay 0 = .ok (.aload_n 0, 1) := by decide +kernel
theorem dX4_lay_1 : decode cX4_lay 1 = .ok (.invokevirtual 83, 3) := by decide +kernel
theorem dX4_lay_4 : decode cX4_lay 4 = .ok (.ifCond .eq 13, 3) := by decide +kernel
theorem dX4_lay_7 : decode cX4_lay 7 = .ok (.aload_n 0, 1) := by decide +kernel
theorem dX4_lay_8 : decode cX4_lay 8 = .ok (.getfield 19, 3) := by decide +kernel
theorem dX4_lay_11 : decode cX4_lay 11 = .ok (.getfield 93, 3) := by decide +kernel
theorem dX4_lay_14 : decode cX4_lay 14 = .ok (.goto 5, 3) := by decide +kernel
theorem dX4_lay_17 : decode cX4_lay 17 = .ok (.bipush (-2), 2) := by decide +kernel
theorem dX4_lay_19 : decode cX4_lay 19 = .ok (.ireturn, 1) := by decide +kernel
theorem dX4_instrument_0 : decode cX4_instrument 0 = .ok (.aload_n 0, 1) := by decide +kernel
theorem dX4_instrument_1 : decode cX4_instrument 1 = .ok (.iload_n 1, 1) := by decide +kernel
theorem dX4_instrument_2 : decode cX4_instrument 2 = .ok (.invokevirtual 96, 3) := by decide +kernel
theorem dX4_instrument_5 : decode cX4_instrument 5 = .ok (.ifCond .ne 5, 3) := by decide +kernel
theorem dX4_instrument_8 : decode cX4_instrument 8 = .ok (.iconst (-1), 1) := by decide +kernel
theorem dX4_instrument_9 : decode cX4_instrument 9 = .ok (.ireturn, 1) := by decide +kernel
theorem dX4_instrument_10 : decode cX4_instrument 10 = .ok (.iload_n 2, 1) := by decide +kernel
theorem dX4_instrument_11 : decode cX4_instrument 11 = .ok (.tableswitch 92 0 5 #[37, 47, 57, 67, 73, 82], 37) := by decide +kernel
theorem dX4_instrument_48 : decode cX4_instrument 48 = .ok (.aload_n 0, 1) := by decide +kernel
theorem dX4_instrument_49 : decode cX4_instrument 49 = .ok (.getfield 19, 3) := by decide +kernel
theorem dX4_instrument_52 : decode cX4_instrument 52 = .ok (.getfield 100, 3) := by decide +kernel
theorem dX4_instrument_55 : decode cX4_instrument 55 = .ok (.iload_n 1, 1) := by decide +kernel
theorem dX4_instrument_56 : decode cX4_instrument 56 = .ok (.iaload, 1) := by decide +kernel
theorem dX4_instrument_57 : decode cX4_instrument 57 = .ok (.ireturn, 1) := by decide +kernel
theorem dX4_instrument_58 : decode cX4_instrument 58 = .ok (.aload_n 0, 1) := by decide +kernel
theorem dX4_instrument_59 : decode cX4_instrument 59 = .ok (.getfield 19, 3) := by decide +kernel
theorem dX4_instrument_62 : decode cX4_instrument 62 = .ok (.getfield 103, 3) := by decide +kernel
theorem dX4_instrument_65 : decode cX4_instrument 65 = .ok (.iload_n 1, 1) := by decide +kernel
theorem dX4_instrument_66 : decode cX4_instrument 66 = .ok (.iaload, 1) := by decide +kernel
theorem dX4_instrument_67 : decode cX4_instrument 67 = .ok (.ireturn, 1) := by decide +kernel
theorem dX4_instrument_68 : decode cX4_instrument 68 = .ok (.aload_n 0, 1) := by decide +kernel
theorem dX4_instrument_69 : decode cX4_instrument 69 = .ok (.getfield 19, 3) := by decide +kernel
theorem dX4_instrument_72 : decode cX4_instrument 72 = .ok (.getfield 106, 3) := by decide +kernel
theorem dX4_instrument_75 : decode cX4_instrument 75 = .ok (.iload_n 1, 1) := by decide +kernel
theorem dX4_instrument_76 : decode cX4_instrument 76 = .ok (.iaload, 1) := by decide +kernel
theorem dX4_instrument_77 : decode cX4_instrument 77 = .ok (.ireturn, 1) := by decide +kernel
theorem dX4_instrument_78 : decode cX4_instrument 78 = .ok (.aload_n 0, 1) := by decide +kernel
theorem dX4_instrument_79 : decode cX4_instrument 79 = .ok (.iload_n 1, 1) := by decide +kernel
theorem dX4_instrument_80 : decode cX4_instrument 80 = .ok (.invokevirtual 109, 3) := by decide +kernel
theorem dX4_instrument_83 : decode cX4_instrument 83 = .ok (.ireturn, 1) := by decide +kernel
theorem dX4_instrument_84 : decode cX4_instrument 84 = .ok (.aload_n 0, 1) := by decide +kernel
theorem dX4_instrument_85 : decode cX4_instrument 85 = .ok (.getfield 113, 3) := by decide +kernel
theorem dX4_instrument_88 : decode cX4_instrument 88 = .ok (.iload_n 1, 1) := by decide +kernel
theorem dX4_instrument_89 : decode cX4_instrument 89 = .ok (.ishr, 1) := by decide +kernel
theorem dX4_instrument_90 : decode cX4_instrument 90 = .ok (.iconst 1, 1) := by decide +kernel
theorem dX4_instrument_91 : decode cX4_instrument 91 = .ok (.iand, 1) := by decide +kernel
theorem dX4_instrument_92 : decode cX4_instrument 92 = .ok (.ireturn, 1) := by decide +kernel
theorem dX4_instrument_93 : decode cX4_instrument 93 = .ok (.aload_n 0, 1) := by decide +kernel
theorem dX4_instrument_94 : decode cX4_instrument 94 = .ok (.getfield 30, 3) := by decide +kernel
theorem dX4_instrument_97 : decode cX4_instrument 97 = .ok (.getfield 116, 3) := by decide +kernel
theorem dX4_instrument_100 : decode cX4_instrument 100 = .ok (.iload_n 1, 1) := by decide +kernel
theorem dX4_instrument_101 : decode cX4_instrument 101 = .ok (.iaload, 1) := by decide +kernel
theorem dX4_instrument_102 : decode cX4_instrument 102 = .ok (.ireturn, 1) := by decide +kernel
theorem dX4_instrument_103 : decode cX4_instrument 103 = .ok (.iconst (-1), 1) := by decide +kernel
theorem dX4_instrument_104 : decode cX4_instrument 104 = .ok (.ireturn, 1) := by decide +kernel
theorem dX4_seat_0 : decode cX4_seat 0 = .ok (.aload_n 0, 1) := by decide +kernel
theorem dX4_seat_1 : decode cX4_seat 1 = .ok (.iload_n 1, 1) := by decide +kernel
theorem dX4_seat_2 : decode cX4_seat 2 = .ok (.invokevirtual 96, 3) := by decide +kernel
theorem dX4_seat_5 : decode cX4_seat 5 = .ok (.ifCond .eq 12, 3) := by decide +kernel
theorem dX4_seat_8 : decode cX4_seat 8 = .ok (.aload_n 0, 1) := by decide +kernel
theorem dX4_seat_9 : decode cX4_seat 9 = .ok (.getfield 23, 3) := by decide +kernel
theorem dX4_seat_12 : decode cX4_seat 12 = .ok (.iload_n 1, 1) := by decide +kernel
theorem dX4_seat_13 : decode cX4_seat 13 = .ok (.iaload, 1) := by decide +kernel
theorem dX4_seat_14 : decode cX4_seat 14 = .ok (.goto 4, 3) := by decide +kernel
theorem dX4_seat_17 : decode cX4_seat 17 = .ok (.iconst (-1), 1) := by decide +kernel
theorem dX4_seat_18 : decode cX4_seat 18 = .ok (.ireturn, 1) := by decide +kernel
theorem dX4_asked_0 : decode cX4_asked 0 = .ok (.aload_n 0, 1) := by decide +kernel
theorem dX4_asked_1 : decode cX4_asked 1 = .ok (.iload_n 1, 1) := by decide +kernel
theorem dX4_asked_2 : decode cX4_asked 2 = .ok (.invokevirtual 119, 3) := by decide +kernel
theorem dX4_asked_5 : decode cX4_asked 5 = .ok (.ifCond .eq 15, 3) := by decide +kernel
theorem dX4_asked_8 : decode cX4_asked 8 = .ok (.aload_n 0, 1) := by decide +kernel
theorem dX4_asked_9 : decode cX4_asked 9 = .ok (.getfield 19, 3) := by decide +kernel
theorem dX4_asked_12 : decode cX4_asked 12 = .ok (.getfield 122, 3) := by decide +kernel
theorem dX4_asked_15 : decode cX4_asked 15 = .ok (.iload_n 1, 1) := by decide +kernel
theorem dX4_asked_16 : decode cX4_asked 16 = .ok (.iaload, 1) := by decide +kernel
theorem dX4_asked_17 : decode cX4_asked 17 = .ok (.goto 4, 3) := by decide +kernel
theorem dX4_asked_20 : decode cX4_asked 20 = .ok (.iconst (-1), 1) := by decide +kernel
theorem dX4_asked_21 : decode cX4_asked 21 = .ok (.ireturn, 1) := by decide +kernel
theorem dX4_plays_0 : decode cX4_plays 0 = .ok (.aload_n 0, 1) := by decide +kernel
theorem dX4_plays_1 : decode cX4_plays 1 = .ok (.iload_n 1, 1) := by decide +kernel
theorem dX4_plays_2 : decode cX4_plays 2 = .ok (.invokevirtual 119, 3) := by decide +kernel
theorem dX4_plays_5 : decode cX4_plays 5 = .ok (.ifCond .eq 15, 3) := by decide +kernel
theorem dX4_plays_8 : decode cX4_plays 8 = .ok (.aload_n 0, 1) := by decide +kernel
theorem dX4_plays_9 : decode cX4_plays 9 = .ok (.getfield 30, 3) := by decide +kernel
theorem dX4_plays_12 : decode cX4_plays 12 = .ok (.getfield 125, 3) := by decide +kernel
theorem dX4_plays_15 : decode cX4_plays 15 = .ok (.iload_n 1, 1) := by decide +kernel
theorem dX4_plays_16 : decode cX4_plays 16 = .ok (.iaload, 1) := by decide +kernel
theorem dX4_plays_17 : decode cX4_plays 17 = .ok (.goto 4, 3) := by decide +kernel
theorem dX4_plays_20 : decode cX4_plays 20 = .ok (.iconst (-1), 1) := by decide +kernel
theorem dX4_plays_21 : decode cX4_plays 21 = .ok (.ireturn, 1) := by decide +kernel
theorem dX4_missing_0 : decode cX4_missing 0 = .ok (.aload_n 0, 1) := by decide +kernel
theorem dX4_missing_1 : decode cX4_missing 1 = .ok (.iload_n 1, 1) := by decide +kernel
theorem dX4_missing_2 : decode cX4_missing 2 = .ok (.invokevirtual 119, 3) := by decide +kernel
theorem dX4_missing_5 : decode cX4_missing 5 = .ok (.ifCond .eq 11, 3) := by decide +kernel
theorem dX4_missing_8 : decode cX4_missing 8 = .ok (.aload_n 0, 1) := by decide +kernel
theorem dX4_missing_9 : decode cX4_missing 9 = .ok (.iload_n 1, 1) := by decide +kernel
theorem dX4_missing_10 : decode cX4_missing 10 = .ok (.invokevirtual 128, 3) := by decide +kernel
theorem dX4_missing_13 : decode cX4_missing 13 = .ok (.goto 4, 3) := by decide +kernel
theorem dX4_missing_16 : decode cX4_missing 16 = .ok (.iconst (-1), 1) := by decide +kernel
theorem dX4_missing_17 : decode cX4_missing 17 = .ok (.ireturn, 1) := by decide +kernel
theorem dX4_first_0 : decode cX4_first 0 = .ok (.iconst 0, 1) := by decide +kernel
theorem dX4_first_1 : decode cX4_first 1 = .ok (.istore_n 1, 1) := by decide +kernel
theorem dX4_first_2 : decode cX4_first 2 = .ok (.iload_n 1, 1) := by decide +kernel
theorem dX4_first_3 : decode cX4_first 3 = .ok (.aload_n 0, 1) := by decide +kernel
theorem dX4_first_4 : decode cX4_first 4 = .ok (.getfield 19, 3) := by decide +kernel
theorem dX4_first_7 : decode cX4_first 7 = .ok (.getfield 131, 3) := by decide +kernel
theorem dX4_first_10 : decode cX4_first 10 = .ok (.if_icmp .ge 19, 3) := by decide +kernel
theorem dX4_first_13 : decode cX4_first 13 = .ok (.aload_n 0, 1) := by decide +kernel
theorem dX4_first_14 : decode cX4_first 14 = .ok (.iload_n 1, 1) := by decide +kernel
theorem dX4_first_15 : decode cX4_first 15 = .ok (.invokevirtual 128, 3) := by decide +kernel
theorem dX4_first_18 : decode cX4_first 18 = .ok (.ifCond .eq 5, 3) := by decide +kernel
theorem dX4_first_21 : decode cX4_first 21 = .ok (.iload_n 1, 1) := by decide +kernel
theorem dX4_first_22 : decode cX4_first 22 = .ok (.ireturn, 1) := by decide +kernel
theorem dX4_first_23 : decode cX4_first 23 = .ok (.iinc 1 1, 3) := by decide +kernel
theorem dX4_first_26 : decode cX4_first 26 = .ok (.goto (-24), 3) := by decide +kernel
theorem dX4_first_29 : decode cX4_first 29 = .ok (.bipush (-4), 2) := by decide +kernel
theorem dX4_first_31 : decode cX4_first 31 = .ok (.ireturn, 1) := by decide +kernel
theorem dX4_notes_0 : decode cX4_notes 0 = .ok (.iload_n 1, 1) := by decide +kernel
theorem dX4_notes_1 : decode cX4_notes 1 = .ok (.lookupswitch 43 #[(0, 27), (1, 35)], 27) := by decide +kernel
theorem dX4_notes_28 : decode cX4_notes 28 = .ok (.aload_n 0, 1) := by decide +kernel
theorem dX4_notes_29 : decode cX4_notes 29 = .ok (.getfield 30, 3) := by decide +kernel
theorem dX4_notes_32 : decode cX4_notes 32 = .ok (.getfield 134, 3) := by decide +kernel
theorem dX4_notes_35 : decode cX4_notes 35 = .ok (.ireturn, 1) := by decide +kernel
theorem dX4_notes_36 : decode cX4_notes 36 = .ok (.aload_n 0, 1) := by decide +kernel
theorem dX4_notes_37 : decode cX4_notes 37 = .ok (.getfield 30, 3) := by decide +kernel
theorem dX4_notes_40 : decode cX4_notes 40 = .ok (.getfield 137, 3) := by decide +kernel
theorem dX4_notes_43 : decode cX4_notes 43 = .ok (.ireturn, 1) := by decide +kernel
theorem dX4_notes_44 : decode cX4_notes 44 = .ok (.iconst (-1), 1) := by decide +kernel
theorem dX4_notes_45 : decode cX4_notes 45 = .ok (.ireturn, 1) := by decide +kernel
theorem dX4_change_0 : decode cX4_change 0 = .ok (.aload_n 0, 1) := by decide +kernel
theorem dX4_change_1 : decode cX4_change 1 = .ok (.iload_n 1, 1) := by decide +kernel
theorem dX4_change_2 : decode cX4_change 2 = .ok (.invokevirtual 96, 3) := by decide +kernel
theorem dX4_change_5 : decode cX4_change 5 = .ok (.ifCond .eq 16, 3) := by decide +kernel
theorem dX4_change_8 : decode cX4_change 8 = .ok (.aload_n 0, 1) := by decide +kernel
theorem dX4_change_9 : decode cX4_change 9 = .ok (.iload_n 2, 1) := by decide +kernel
theorem dX4_change_10 : decode cX4_change 10 = .ok (.invokevirtual 96, 3) := by decide +kernel
theorem dX4_change_13 : decode cX4_change 13 = .ok (.ifCond .eq 8, 3) := by decide +kernel
theorem dX4_change_16 : decode cX4_change 16 = .ok (.iload_n 1, 1) := by decide +kernel
theorem dX4_change_17 : decode cX4_change 17 = .ok (.iload_n 2, 1) := by decide +kernel
theorem dX4_change_18 : decode cX4_change 18 = .ok (.if_icmp .ne 5, 3) := by decide +kernel
theorem dX4_change_21 : decode cX4_change 21 = .ok (.iconst (-1), 1) := by decide +kernel
theorem dX4_change_22 : decode cX4_change 22 = .ok (.ireturn, 1) := by decide +kernel
theorem dX4_change_23 : decode cX4_change 23 = .ok (.aload_n 0, 1) := by decide +kernel
theorem dX4_change_24 : decode cX4_change 24 = .ok (.bipush 64, 2) := by decide +kernel
theorem dX4_change_26 : decode cX4_change 26 = .ok (.bipush 8, 2) := by decide +kernel
theorem dX4_change_28 : decode cX4_change 28 = .ok (.iload_n 1, 1) := by decide +kernel
theorem dX4_change_29 : decode cX4_change 29 = .ok (.imul, 1) := by decide +kernel
theorem dX4_change_30 : decode cX4_change 30 = .ok (.iadd, 1) := by decide +kernel
theorem dX4_change_31 : decode cX4_change 31 = .ok (.iload_n 2, 1) := by decide +kernel
theorem dX4_change_32 : decode cX4_change 32 = .ok (.iadd, 1) := by decide +kernel
theorem dX4_change_33 : decode cX4_change 33 = .ok (.invokevirtual 140, 3) := by decide +kernel
theorem dX4_change_36 : decode cX4_change 36 = .ok (.aload_n 0, 1) := by decide +kernel
theorem dX4_change_37 : decode cX4_change 37 = .ok (.getfield 23, 3) := by decide +kernel
theorem dX4_change_40 : decode cX4_change 40 = .ok (.iload_n 1, 1) := by decide +kernel
theorem dX4_change_41 : decode cX4_change 41 = .ok (.iload_n 2, 1) := by decide +kernel
theorem dX4_change_42 : decode cX4_change 42 = .ok (.invokestatic 144, 3) := by decide +kernel
theorem dX4_change_45 : decode cX4_change 45 = .ok (.aload_n 0, 1) := by decide +kernel
theorem dX4_change_46 : decode cX4_change 46 = .ok (.invokevirtual 148, 3) := by decide +kernel
theorem dX4_change_49 : decode cX4_change 49 = .ok (.aload_n 0, 1) := by decide +kernel
theorem dX4_change_50 : decode cX4_change 50 = .ok (.getfield 23, 3) := by decide +kernel
theorem dX4_change_53 : decode cX4_change 53 = .ok (.iload_n 1, 1) := by decide +kernel
theorem dX4_change_54 : decode cX4_change 54 = .ok (.iaload, 1) := by decide +kernel
theorem dX4_change_55 : decode cX4_change 55 = .ok (.ireturn, 1) := by decide +kernel
theorem dX4_bribe_0 : decode cX4_bribe 0 = .ok (.aload_n 0, 1) := by decide +kernel
theorem dX4_bribe_1 : decode cX4_bribe 1 = .ok (.iload_n 1, 1) := by decide +kernel
theorem dX4_bribe_2 : decode cX4_bribe 2 = .ok (.invokevirtual 96, 3) := by decide +kernel
theorem dX4_bribe_5 : decode cX4_bribe 5 = .ok (.ifCond .ne 5, 3) := by decide +kernel
theorem dX4_bribe_8 : decode cX4_bribe 8 = .ok (.iconst (-1), 1) := by decide +kernel
theorem dX4_bribe_9 : decode cX4_bribe 9 = .ok (.ireturn, 1) := by decide +kernel
theorem dX4_bribe_10 : decode cX4_bribe 10 = .ok (.aload_n 0, 1) := by decide +kernel
theorem dX4_bribe_11 : decode cX4_bribe 11 = .ok (.iload_n 1, 1) := by decide +kernel
theorem dX4_bribe_12 : decode cX4_bribe 12 = .ok (.invokevirtual 140, 3) := by decide +kernel
theorem dX4_bribe_15 : decode cX4_bribe 15 = .ok (.aload_n 0, 1) := by decide +kernel
theorem dX4_bribe_16 : decode cX4_bribe 16 = .ok (.dup, 1) := by decide +kernel
theorem dX4_bribe_17 : decode cX4_bribe 17 = .ok (.getfield 113, 3) := by decide +kernel
theorem dX4_bribe_20 : decode cX4_bribe 20 = .ok (.iconst 1, 1) := by decide +kernel
theorem dX4_bribe_21 : decode cX4_bribe 21 = .ok (.iload_n 1, 1) := by decide +kernel
theorem dX4_bribe_22 : decode cX4_bribe 22 = .ok (.ishl, 1) := by decide +kernel
theorem dX4_bribe_23 : decode cX4_bribe 23 = .ok (.ixor, 1) := by decide +kernel
theorem dX4_bribe_24 : decode cX4_bribe 24 = .ok (.putfield 113, 3) := by decide +kernel
theorem dX4_bribe_27 : decode cX4_bribe 27 = .ok (.aload_n 0, 1) := by decide +kernel
theorem dX4_bribe_28 : decode cX4_bribe 28 = .ok (.invokevirtual 148, 3) := by decide +kernel
theorem dX4_bribe_31 : decode cX4_bribe 31 = .ok (.aload_n 0, 1) := by decide +kernel
theorem dX4_bribe_32 : decode cX4_bribe 32 = .ok (.aload_n 0, 1) := by decide +kernel
theorem dX4_bribe_33 : decode cX4_bribe 33 = .ok (.getfield 113, 3) := by decide +kernel
theorem dX4_bribe_36 : decode cX4_bribe 36 = .ok (.invokevirtual 151, 3) := by decide +kernel
theorem dX4_bribe_39 : decode cX4_bribe 39 = .ok (.ireturn, 1) := by decide +kernel
theorem dX4_undo_0 : decode cX4_undo 0 = .ok (.aload_n 0, 1) := by decide +kernel
theorem dX4_undo_1 : decode cX4_undo 1 = .ok (.getfield 154, 3) := by decide +kernel
theorem dX4_undo_4 : decode cX4_undo 4 = .ok (.iconst 1, 1) := by decide +kernel
theorem dX4_undo_5 : decode cX4_undo 5 = .ok (.if_icmp .ge 6, 3) := by decide +kernel
theorem dX4_undo_8 : decode cX4_undo 8 = .ok (.bipush (-2), 2) := by decide +kernel
theorem dX4_undo_10 : decode cX4_undo 10 = .ok (.ireturn, 1) := by decide +kernel
theorem dX4_undo_11 : decode cX4_undo 11 = .ok (.aload_n 0, 1) := by decide +kernel
theorem dX4_undo_12 : decode cX4_undo 12 = .ok (.dup, 1) := by decide +kernel
theorem dX4_undo_13 : decode cX4_undo 13 = .ok (.getfield 154, 3) := by decide +kernel
theorem dX4_undo_16 : decode cX4_undo 16 = .ok (.iconst 1, 1) := by decide +kernel
theorem dX4_undo_17 : decode cX4_undo 17 = .ok (.isub, 1) := by decide +kernel
theorem dX4_undo_18 : decode cX4_undo 18 = .ok (.putfield 154, 3) := by decide +kernel
theorem dX4_undo_21 : decode cX4_undo 21 = .ok (.aload_n 0, 1) := by decide +kernel
theorem dX4_undo_22 : decode cX4_undo 22 = .ok (.getfield 47, 3) := by decide +kernel
theorem dX4_undo_25 : decode cX4_undo 25 = .ok (.aload_n 0, 1) := by decide +kernel
theorem dX4_undo_26 : decode cX4_undo 26 = .ok (.getfield 154, 3) := by decide +kernel
theorem dX4_undo_29 : decode cX4_undo 29 = .ok (.iaload, 1) := by decide +kernel
theorem dX4_undo_30 : decode cX4_undo 30 = .ok (.istore_n 1, 1) := by decide +kernel
theorem dX4_undo_31 : decode cX4_undo 31 = .ok (.iload_n 1, 1) := by decide +kernel
theorem dX4_undo_32 : decode cX4_undo 32 = .ok (.bipush 64, 2) := by decide +kernel
theorem dX4_undo_34 : decode cX4_undo 34 = .ok (.if_icmp .lt 23, 3) := by decide +kernel
theorem dX4_undo_37 : decode cX4_undo 37 = .ok (.aload_n 0, 1) := by decide +kernel
theorem dX4_undo_38 : decode cX4_undo 38 = .ok (.getfield 23, 3) := by decide +kernel
theorem dX4_undo_41 : decode cX4_undo 41 = .ok (.iload_n 1, 1) := by decide +kernel
theorem dX4_undo_42 : decode cX4_undo 42 = .ok (.iconst 3, 1) := by decide +kernel
theorem dX4_undo_43 : decode cX4_undo 43 = .ok (.ishr, 1) := by decide +kernel
theorem dX4_undo_44 : decode cX4_undo 44 = .ok (.bipush 7, 2) := by decide +kernel
theorem dX4_undo_46 : decode cX4_undo 46 = .ok (.iand, 1) := by decide +kernel
theorem dX4_undo_47 : decode cX4_undo 47 = .ok (.iload_n 1, 1) := by decide +kernel
theorem dX4_undo_48 : decode cX4_undo 48 = .ok (.bipush 7, 2) := by decide +kernel
theorem dX4_undo_50 : decode cX4_undo 50 = .ok (.iand, 1) := by decide +kernel
theorem dX4_undo_51 : decode cX4_undo 51 = .ok (.invokestatic 144, 3) := by decide +kernel
theorem dX4_undo_54 : decode cX4_undo 54 = .ok (.goto 15, 3) := by decide +kernel
theorem dX4_undo_57 : decode cX4_undo 57 = .ok (.aload_n 0, 1) := by decide +kernel
theorem dX4_undo_58 : decode cX4_undo 58 = .ok (.dup, 1) := by decide +kernel
theorem dX4_undo_59 : decode cX4_undo 59 = .ok (.getfield 113, 3) := by decide +kernel
theorem dX4_undo_62 : decode cX4_undo 62 = .ok (.iconst 1, 1) := by decide +kernel
theorem dX4_undo_63 : decode cX4_undo 63 = .ok (.iload_n 1, 1) := by decide +kernel
theorem dX4_undo_64 : decode cX4_undo 64 = .ok (.ishl, 1) := by decide +kernel
theorem dX4_undo_65 : decode cX4_undo 65 = .ok (.ixor, 1) := by decide +kernel
theorem dX4_undo_66 : decode cX4_undo 66 = .ok (.putfield 113, 3) := by decide +kernel
theorem dX4_undo_69 : decode cX4_undo 69 = .ok (.aload_n 0, 1) := by decide +kernel
theorem dX4_undo_70 : decode cX4_undo 70 = .ok (.invokevirtual 148, 3) := by decide +kernel
theorem dX4_undo_73 : decode cX4_undo 73 = .ok (.aload_n 0, 1) := by decide +kernel
theorem dX4_undo_74 : decode cX4_undo 74 = .ok (.getfield 154, 3) := by decide +kernel
theorem dX4_undo_77 : decode cX4_undo 77 = .ok (.ireturn, 1) := by decide +kernel
theorem dX4_best_0 : decode cX4_best 0 = .ok (.iload_n 1, 1) := by decide +kernel
theorem dX4_best_1 : decode cX4_best 1 = .ok (.iconst (-1), 1) := by decide +kernel
theorem dX4_best_2 : decode cX4_best 2 = .ok (.if_icmp .ne 11, 3) := by decide +kernel
theorem dX4_best_5 : decode cX4_best 5 = .ok (.aload_n 0, 1) := by decide +kernel
theorem dX4_best_6 : decode cX4_best 6 = .ok (.invokevirtual 157, 3) := by decide +kernel
theorem dX4_best_9 : decode cX4_best 9 = .ok (.getfield 161, 3) := by decide +kernel
theorem dX4_best_12 : decode cX4_best 12 = .ok (.ireturn, 1) := by decide +kernel
theorem dX4_best_13 : decode cX4_best 13 = .ok (.aload_n 0, 1) := by decide +kernel
theorem dX4_best_14 : decode cX4_best 14 = .ok (.iload_n 1, 1) := by decide +kernel
theorem dX4_best_15 : decode cX4_best 15 = .ok (.invokevirtual 96, 3) := by decide +kernel
theorem dX4_best_18 : decode cX4_best 18 = .ok (.ifCond .eq 15, 3) := by decide +kernel
theorem dX4_best_21 : decode cX4_best 21 = .ok (.aload_n 0, 1) := by decide +kernel
theorem dX4_best_22 : decode cX4_best 22 = .ok (.invokevirtual 157, 3) := by decide +kernel
theorem dX4_best_25 : decode cX4_best 25 = .ok (.getfield 164, 3) := by decide +kernel
theorem dX4_best_28 : decode cX4_best 28 = .ok (.iload_n 1, 1) := by decide +kernel
theorem dX4_best_29 : decode cX4_best 29 = .ok (.iaload, 1) := by decide +kernel
theorem dX4_best_30 : decode cX4_best 30 = .ok (.goto 4, 3) := by decide +kernel
theorem dX4_best_33 : decode cX4_best 33 = .ok (.iconst (-1), 1) := by decide +kernel
theorem dX4_best_34 : decode cX4_best 34 = .ok (.ireturn, 1) := by decide +kernel
theorem dX4_changes_0 : decode cX4_changes 0 = .ok (.aload_n 0, 1) := by decide +kernel
theorem dX4_changes_1 : decode cX4_changes 1 = .ok (.invokevirtual 157, 3) := by decide +kernel
theorem dX4_changes_4 : decode cX4_changes 4 = .ok (.getfield 167, 3) := by decide +kernel
theorem dX4_changes_7 : decode cX4_changes 7 = .ok (.ireturn, 1) := by decide +kernel
theorem dX4_help_0 : decode cX4_help 0 = .ok (.iload_n 1, 1) := by decide +kernel
theorem dX4_help_1 : decode cX4_help 1 = .ok (.ifCond .lt 8, 3) := by decide +kernel
theorem dX4_help_4 : decode cX4_help 4 = .ok (.iload_n 1, 1) := by decide +kernel
theorem dX4_help_5 : decode cX4_help 5 = .ok (.iconst 1, 1) := by decide +kernel
theorem dX4_help_6 : decode cX4_help 6 = .ok (.if_icmp .le 5, 3) := by decide +kernel
theorem dX4_help_9 : decode cX4_help 9 = .ok (.iconst (-1), 1) := by decide +kernel
theorem dX4_help_10 : decode cX4_help 10 = .ok (.ireturn, 1) := by decide +kernel
theorem dX4_help_11 : decode cX4_help 11 = .ok (.bipush (-4), 2) := by decide +kernel
theorem dX4_help_13 : decode cX4_help 13 = .ok (.istore_n 2, 1) := by decide +kernel
theorem dX4_help_14 : decode cX4_help 14 = .ok (.aload_n 0, 1) := by decide +kernel
theorem dX4_help_15 : decode cX4_help 15 = .ok (.getfield 30, 3) := by decide +kernel
theorem dX4_help_18 : decode cX4_help 18 = .ok (.getfield 134, 3) := by decide +kernel
theorem dX4_help_21 : decode cX4_help 21 = .ok (.istore_n 3, 1) := by decide +kernel
theorem dX4_help_22 : decode cX4_help 22 = .ok (.aload_n 0, 1) := by decide +kernel
theorem dX4_help_23 : decode cX4_help 23 = .ok (.getfield 23, 3) := by decide +kernel
theorem dX4_help_26 : decode cX4_help 26 = .ok (.iconst 0, 1) := by decide +kernel
theorem dX4_help_27 : decode cX4_help 27 = .ok (.aload_n 0, 1) := by decide +kernel
theorem dX4_help_28 : decode cX4_help 28 = .ok (.getfield 41, 3) := by decide +kernel
theorem dX4_help_31 : decode cX4_help 31 = .ok (.iconst 0, 1) := by decide +kernel
theorem dX4_help_32 : decode cX4_help 32 = .ok (.aload_n 0, 1) := by decide +kernel
theorem dX4_help_33 : decode cX4_help 33 = .ok (.getfield 23, 3) := by decide +kernel
theorem dX4_help_36 : decode cX4_help 36 = .ok (.arraylength, 1) := by decide +kernel
theorem dX4_help_37 : decode cX4_help 37 = .ok (.invokestatic 170, 3) := by decide +kernel
theorem dX4_help_40 : decode cX4_help 40 = .ok (.iconst 0, 1) := by decide +kernel
theorem dX4_help_41 : decode cX4_help 41 = .ok (.istore 4, 2) := by decide +kernel
theorem dX4_help_43 : decode cX4_help 43 = .ok (.iload 4, 2) := by decide +kernel
theorem dX4_help_45 : decode cX4_help 45 = .ok (.aload_n 0, 1) := by decide +kernel
theorem dX4_help_46 : decode cX4_help 46 = .ok (.getfield 19, 3) := by decide +kernel
theorem dX4_help_49 : decode cX4_help 49 = .ok (.getfield 93, 3) := by decide +kernel
theorem dX4_help_52 : decode cX4_help 52 = .ok (.if_icmp .ge 111, 3) := by decide +kernel
theorem dX4_help_55 : decode cX4_help 55 = .ok (.iload 4, 2) := by decide +kernel
theorem dX4_help_57 : decode cX4_help 57 = .ok (.iconst 1, 1) := by decide +kernel
theorem dX4_help_58 : decode cX4_help 58 = .ok (.iadd, 1) := by decide +kernel
theorem dX4_help_59 : decode cX4_help 59 = .ok (.istore 5, 2) := by decide +kernel
theorem dX4_help_61 : decode cX4_help 61 = .ok (.iload 5, 2) := by decide +kernel
theorem dX4_help_63 : decode cX4_help 63 = .ok (.aload_n 0, 1) := by decide +kernel
theorem dX4_help_64 : decode cX4_help 64 = .ok (.getfield 19, 3) := by decide +kernel
theorem dX4_help_67 : decode cX4_help 67 = .ok (.getfield 93, 3) := by decide +kernel
theorem dX4_help_70 : decode cX4_help 70 = .ok (.if_icmp .ge 87, 3) := by decide +kernel
theorem dX4_help_73 : decode cX4_help 73 = .ok (.aload_n 0, 1) := by decide +kernel
theorem dX4_help_74 : decode cX4_help 74 = .ok (.getfield 41, 3) := by decide +kernel
theorem dX4_help_77 : decode cX4_help 77 = .ok (.iload 4, 2) := by decide +kernel
theorem dX4_help_79 : decode cX4_help 79 = .ok (.iload 5, 2) := by decide +kernel
theorem dX4_help_81 : decode cX4_help 81 = .ok (.invokestatic 144, 3) := by decide +kernel
theorem dX4_help_84 : decode cX4_help 84 = .ok (.aload_n 0, 1) := by decide +kernel
theorem dX4_help_85 : decode cX4_help 85 = .ok (.getfield 44, 3) := by decide +kernel
theorem dX4_help_88 : decode cX4_help 88 = .ok (.aload_n 0, 1) := by decide +kernel
theorem dX4_help_89 : decode cX4_help 89 = .ok (.getfield 19, 3) := by decide +kernel
theorem dX4_help_92 : decode cX4_help 92 = .ok (.aload_n 0, 1) := by decide +kernel
theorem dX4_help_93 : decode cX4_help 93 = .ok (.getfield 41, 3) := by decide +kernel
theorem dX4_help_96 : decode cX4_help 96 = .ok (.aload_n 0, 1) := by decide +kernel
theorem dX4_help_97 : decode cX4_help 97 = .ok (.getfield 19, 3) := by decide +kernel
theorem dX4_help_100 : decode cX4_help 100 = .ok (.getfield 176, 3) := by decide +kernel
theorem dX4_help_103 : decode cX4_help 103 = .ok (.aload_n 0, 1) := by decide +kernel
theorem dX4_help_104 : decode cX4_help 104 = .ok (.getfield 113, 3) := by decide +kernel
theorem dX4_help_107 : decode cX4_help 107 = .ok (.bipush 127, 2) := by decide +kernel
theorem dX4_help_109 : decode cX4_help 109 = .ok (.invokevirtual 179, 3) := by decide +kernel
theorem dX4_help_112 : decode cX4_help 112 = .ok (.aload_n 0, 1) := by decide +kernel
theorem dX4_help_113 : decode cX4_help 113 = .ok (.getfield 41, 3) := by decide +kernel
theorem dX4_help_116 : decode cX4_help 116 = .ok (.iload 4, 2) := by decide +kernel
theorem dX4_help_118 : decode cX4_help 118 = .ok (.iload 5, 2) := by decide +kernel
theorem dX4_help_120 : decode cX4_help 120 = .ok (.invokestatic 144, 3) := by decide +kernel
theorem dX4_help_123 : decode cX4_help 123 = .ok (.aload_n 0, 1) := by decide +kernel
theorem dX4_help_124 : decode cX4_help 124 = .ok (.getfield 44, 3) := by decide +kernel
theorem dX4_help_127 : decode cX4_help 127 = .ok (.getfield 134, 3) := by decide +kernel
theorem dX4_help_130 : decode cX4_help 130 = .ok (.iload_n 3, 1) := by decide +kernel
theorem dX4_help_131 : decode cX4_help 131 = .ok (.if_icmp .le 20, 3) := by decide +kernel
theorem dX4_help_134 : decode cX4_help 134 = .ok (.aload_n 0, 1) := by decide +kernel
theorem dX4_help_135 : decode cX4_help 135 = .ok (.getfield 44, 3) := by decide +kernel
theorem dX4_help_138 : decode cX4_help 138 = .ok (.getfield 134, 3) := by decide +kernel
theorem dX4_help_141 : decode cX4_help 141 = .ok (.istore_n 3, 1) := by decide +kernel
theorem dX4_help_142 : decode cX4_help 142 = .ok (.bipush 8, 2) := by decide +kernel
theorem dX4_help_144 : decode cX4_help 144 = .ok (.iload 4, 2) := by decide +kernel
theorem dX4_help_146 : decode cX4_help 146 = .ok (.imul, 1) := by decide +kernel
theorem dX4_help_147 : decode cX4_help 147 = .ok (.iload 5, 2) := by decide +kernel
theorem dX4_help_149 : decode cX4_help 149 = .ok (.iadd, 1) := by decide +kernel
theorem dX4_help_150 : decode cX4_help 150 = .ok (.istore_n 2, 1) := by decide +kernel
theorem dX4_help_151 : decode cX4_help 151 = .ok (.iinc 5 1, 3) := by decide +kernel
theorem dX4_help_154 : decode cX4_help 154 = .ok (.goto (-93), 3) := by decide +kernel
theorem dX4_help_157 : decode cX4_help 157 = .ok (.iinc 4 1, 3) := by decide +kernel
theorem dX4_help_160 : decode cX4_help 160 = .ok (.goto (-117), 3) := by decide +kernel
theorem dX4_help_163 : decode cX4_help 163 = .ok (.iload_n 2, 1) := by decide +kernel
theorem dX4_help_164 : decode cX4_help 164 = .ok (.bipush (-4), 2) := by decide +kernel
theorem dX4_help_166 : decode cX4_help 166 = .ok (.if_icmp .eq 7, 3) := by decide +kernel
theorem dX4_help_169 : decode cX4_help 169 = .ok (.iload_n 1, 1) := by decide +kernel
theorem dX4_help_170 : decode cX4_help 170 = .ok (.ifCond .ne 7, 3) := by decide +kernel
theorem dX4_help_173 : decode cX4_help 173 = .ok (.iload_n 2, 1) := by decide +kernel
theorem dX4_help_174 : decode cX4_help 174 = .ok (.goto 4, 3) := by decide +kernel
theorem dX4_help_177 : decode cX4_help 177 = .ok (.iload_n 3, 1) := by decide +kernel
theorem dX4_help_178 : decode cX4_help 178 = .ok (.ireturn, 1) := by decide +kernel
theorem dX4_bribes_0 : decode cX4_bribes 0 = .ok (.iload_n 1, 1) := by decide +kernel
theorem dX4_bribes_1 : decode cX4_bribes 1 = .ok (.ifCond .lt 8, 3) := by decide +kernel
theorem dX4_bribes_4 : decode cX4_bribes 4 = .ok (.iload_n 1, 1) := by decide +kernel
theorem dX4_bribes_5 : decode cX4_bribes 5 = .ok (.iconst 1, 1) := by decide +kernel
theorem dX4_bribes_6 : decode cX4_bribes 6 = .ok (.if_icmp .le 5, 3) := by decide +kernel
theorem dX4_bribes_9 : decode cX4_bribes 9 = .ok (.iconst (-1), 1) := by decide +kernel
theorem dX4_bribes_10 : decode cX4_bribes 10 = .ok (.ireturn, 1) := by decide +kernel
theorem dX4_bribes_11 : decode cX4_bribes 11 = .ok (.bipush (-4), 2) := by decide +kernel
theorem dX4_bribes_13 : decode cX4_bribes 13 = .ok (.istore_n 2, 1) := by decide +kernel
theorem dX4_bribes_14 : decode cX4_bribes 14 = .ok (.iconst 0, 1) := by decide +kernel
theorem dX4_bribes_15 : decode cX4_bribes 15 = .ok (.istore_n 3, 1) := by decide +kernel
theorem dX4_bribes_16 : decode cX4_bribes 16 = .ok (.iload_n 3, 1) := by decide +kernel
theorem dX4_bribes_17 : decode cX4_bribes 17 = .ok (.iconst 1, 1) := by decide +kernel
theorem dX4_bribes_18 : decode cX4_bribes 18 = .ok (.aload_n 0, 1) := by decide +kernel
theorem dX4_bribes_19 : decode cX4_bribes 19 = .ok (.getfield 19, 3) := by decide +kernel
theorem dX4_bribes_22 : decode cX4_bribes 22 = .ok (.getfield 93, 3) := by decide +kernel
theorem dX4_bribes_25 : decode cX4_bribes 25 = .ok (.ishl, 1) := by decide +kernel
theorem dX4_bribes_26 : decode cX4_bribes 26 = .ok (.if_icmp .ge 75, 3) := by decide +kernel
theorem dX4_bribes_29 : decode cX4_bribes 29 = .ok (.iload_n 2, 1) := by decide +kernel
theorem dX4_bribes_30 : decode cX4_bribes 30 = .ok (.bipush (-4), 2) := by decide +kernel
theorem dX4_bribes_32 : decode cX4_bribes 32 = .ok (.if_icmp .eq 19, 3) := by decide +kernel
theorem dX4_bribes_35 : decode cX4_bribes 35 = .ok (.aload_n 0, 1) := by decide +kernel
theorem dX4_bribes_36 : decode cX4_bribes 36 = .ok (.iload_n 3, 1) := by decide +kernel
theorem dX4_bribes_37 : decode cX4_bribes 37 = .ok (.invokevirtual 151, 3) := by decide +kernel
theorem dX4_bribes_40 : decode cX4_bribes 40 = .ok (.aload_n 0, 1) := by decide +kernel
theorem dX4_bribes_41 : decode cX4_bribes 41 = .ok (.iload_n 2, 1) := by decide +kernel
theorem dX4_bribes_42 : decode cX4_bribes 42 = .ok (.invokevirtual 151, 3) := by decide +kernel
theorem dX4_bribes_45 : decode cX4_bribes 45 = .ok (.if_icmp .lt 6, 3) := by decide +kernel
theorem dX4_bribes_48 : decode cX4_bribes 48 = .ok (.goto 47, 3) := by decide +kernel
theorem dX4_bribes_51 : decode cX4_bribes 51 = .ok (.aload_n 0, 1) := by decide +kernel
theorem dX4_bribes_52 : decode cX4_bribes 52 = .ok (.getfield 44, 3) := by decide +kernel
theorem dX4_bribes_55 : decode cX4_bribes 55 = .ok (.aload_n 0, 1) := by decide +kernel
theorem dX4_bribes_56 : decode cX4_bribes 56 = .ok (.getfield 19, 3) := by decide +kernel
theorem dX4_bribes_59 : decode cX4_bribes 59 = .ok (.aload_n 0, 1) := by decide +kernel
theorem dX4_bribes_60 : decode cX4_bribes 60 = .ok (.getfield 23, 3) := by decide +kernel
theorem dX4_bribes_63 : decode cX4_bribes 63 = .ok (.aload_n 0, 1) := by decide +kernel
theorem dX4_bribes_64 : decode cX4_bribes 64 = .ok (.getfield 19, 3) := by decide +kernel
theorem dX4_bribes_67 : decode cX4_bribes 67 = .ok (.getfield 176, 3) := by decide +kernel
theorem dX4_bribes_70 : decode cX4_bribes 70 = .ok (.iload_n 3, 1) := by decide +kernel
theorem dX4_bribes_71 : decode cX4_bribes 71 = .ok (.bipush 127, 2) := by decide +kernel
theorem dX4_bribes_73 : decode cX4_bribes 73 = .ok (.invokevirtual 179, 3) := by decide +kernel
theorem dX4_bribes_76 : decode cX4_bribes 76 = .ok (.aload_n 0, 1) := by decide +kernel
theorem dX4_bribes_77 : decode cX4_bribes 77 = .ok (.getfield 44, 3) := by decide +kernel
theorem dX4_bribes_80 : decode cX4_bribes 80 = .ok (.getfield 137, 3) := by decide +kernel
theorem dX4_bribes_83 : decode cX4_bribes 83 = .ok (.aload_n 0, 1) := by decide +kernel
theorem dX4_bribes_84 : decode cX4_bribes 84 = .ok (.getfield 19, 3) := by decide +kernel
theorem dX4_bribes_87 : decode cX4_bribes 87 = .ok (.getfield 131, 3) := by decide +kernel
theorem dX4_bribes_90 : decode cX4_bribes 90 = .ok (.if_icmp .ne 5, 3) := by decide +kernel
theorem dX4_bribes_93 : decode cX4_bribes 93 = .ok (.iload_n 3, 1) := by decide +kernel
theorem dX4_bribes_94 : decode cX4_bribes 94 = .ok (.istore_n 2, 1) := by decide +kernel
theorem dX4_bribes_95 : decode cX4_bribes 95 = .ok (.iinc 3 1, 3) := by decide +kernel
theorem dX4_bribes_98 : decode cX4_bribes 98 = .ok (.goto (-82), 3) := by decide +kernel
theorem dX4_bribes_101 : decode cX4_bribes 101 = .ok (.iload_n 2, 1) := by decide +kernel
theorem dX4_bribes_102 : decode cX4_bribes 102 = .ok (.bipush (-4), 2) := by decide +kernel
theorem dX4_bribes_104 : decode cX4_bribes 104 = .ok (.if_icmp .eq 7, 3) := by decide +kernel
theorem dX4_bribes_107 : decode cX4_bribes 107 = .ok (.iload_n 1, 1) := by decide +kernel
theorem dX4_bribes_108 : decode cX4_bribes 108 = .ok (.ifCond .ne 7, 3) := by decide +kernel
theorem dX4_bribes_111 : decode cX4_bribes 111 = .ok (.iload_n 2, 1) := by decide +kernel
theorem dX4_bribes_112 : decode cX4_bribes 112 = .ok (.goto 8, 3) := by decide +kernel
theorem dX4_bribes_115 : decode cX4_bribes 115 = .ok (.aload_n 0, 1) := by decide +kernel
theorem dX4_bribes_116 : decode cX4_bribes 116 = .ok (.iload_n 2, 1) := by decide +kernel
theorem dX4_bribes_117 : decode cX4_bribes 117 = .ok (.invokevirtual 151, 3) := by decide +kernel
theorem dX4_bribes_120 : decode cX4_bribes 120 = .ok (.ireturn, 1) := by decide +kernel
theorem dX4_rests_0 : decode cX4_rests 0 = .ok (.iconst 0, 1) := by decide +kernel
theorem dX4_rests_1 : decode cX4_rests 1 = .ok (.istore_n 1, 1) := by decide +kernel
theorem dX4_rests_2 : decode cX4_rests 2 = .ok (.iconst 0, 1) := by decide +kernel
theorem dX4_rests_3 : decode cX4_rests 3 = .ok (.istore_n 2, 1) := by decide +kernel
theorem dX4_rests_4 : decode cX4_rests 4 = .ok (.iload_n 2, 1) := by decide +kernel
theorem dX4_rests_5 : decode cX4_rests 5 = .ok (.aload_n 0, 1) := by decide +kernel
theorem dX4_rests_6 : decode cX4_rests 6 = .ok (.getfield 19, 3) := by decide +kernel
theorem dX4_rests_9 : decode cX4_rests 9 = .ok (.getfield 131, 3) := by decide +kernel
theorem dX4_rests_12 : decode cX4_rests 12 = .ok (.if_icmp .ge 20, 3) := by decide +kernel
theorem dX4_rests_15 : decode cX4_rests 15 = .ok (.iload_n 1, 1) := by decide +kernel
theorem dX4_rests_16 : decode cX4_rests 16 = .ok (.aload_n 0, 1) := by decide +kernel
theorem dX4_rests_17 : decode cX4_rests 17 = .ok (.iload_n 2, 1) := by decide +kernel
theorem dX4_rests_18 : decode cX4_rests 18 = .ok (.invokevirtual 128, 3) := by decide +kernel
theorem dX4_rests_21 : decode cX4_rests 21 = .ok (.invokestatic 183, 3) := by decide +kernel
theorem dX4_rests_24 : decode cX4_rests 24 = .ok (.iadd, 1) := by decide +kernel
theorem dX4_rests_25 : decode cX4_rests 25 = .ok (.istore_n 1, 1) := by decide +kernel
theorem dX4_rests_26 : decode cX4_rests 26 = .ok (.iinc 2 1, 3) := by decide +kernel
theorem dX4_rests_29 : decode cX4_rests 29 = .ok (.goto (-25), 3) := by decide +kernel
theorem dX4_rests_32 : decode cX4_rests 32 = .ok (.iload_n 1, 1) := by decide +kernel
theorem dX4_rests_33 : decode cX4_rests 33 = .ok (.ireturn, 1) := by decide +kernel
theorem dX4_silence_0 : decode cX4_silence 0 = .ok (.aload_n 0, 1) := by decide +kernel
theorem dX4_silence_1 : decode cX4_silence 1 = .ok (.iload_n 1, 1) := by decide +kernel
theorem dX4_silence_2 : decode cX4_silence 2 = .ok (.invokevirtual 96, 3) := by decide +kernel
theorem dX4_silence_5 : decode cX4_silence 5 = .ok (.ifCond .ne 5, 3) := by decide +kernel
theorem dX4_silence_8 : decode cX4_silence 8 = .ok (.iconst (-1), 1) := by decide +kernel
theorem dX4_silence_9 : decode cX4_silence 9 = .ok (.ireturn, 1) := by decide +kernel
theorem dX4_silence_10 : decode cX4_silence 10 = .ok (.aload_n 0, 1) := by decide +kernel
theorem dX4_silence_11 : decode cX4_silence 11 = .ok (.getfield 44, 3) := by decide +kernel
theorem dX4_silence_14 : decode cX4_silence 14 = .ok (.aload_n 0, 1) := by decide +kernel
theorem dX4_silence_15 : decode cX4_silence 15 = .ok (.getfield 19, 3) := by decide +kernel
theorem dX4_silence_18 : decode cX4_silence 18 = .ok (.aload_n 0, 1) := by decide +kernel
theorem dX4_silence_19 : decode cX4_silence 19 = .ok (.getfield 23, 3) := by decide +kernel
theorem dX4_silence_22 : decode cX4_silence 22 = .ok (.aload_n 0, 1) := by decide +kernel
theorem dX4_silence_23 : decode cX4_silence 23 = .ok (.getfield 19, 3) := by decide +kernel
theorem dX4_silence_26 : decode cX4_silence 26 = .ok (.getfield 176, 3) := by decide +kernel
theorem dX4_silence_29 : decode cX4_silence 29 = .ok (.aload_n 0, 1) := by decide +kernel
theorem dX4_silence_30 : decode cX4_silence 30 = .ok (.getfield 113, 3) := by decide +kernel
theorem dX4_silence_33 : decode cX4_silence 33 = .ok (.bipush 127, 2) := by decide +kernel
theorem dX4_silence_35 : decode cX4_silence 35 = .ok (.iconst 1, 1) := by decide +kernel
theorem dX4_silence_36 : decode cX4_silence 36 = .ok (.iload_n 1, 1) := by decide +kernel
theorem dX4_silence_37 : decode cX4_silence 37 = .ok (.ishl, 1) := by decide +kernel
theorem dX4_silence_38 : decode cX4_silence 38 = .ok (.iconst (-1), 1) := by decide +kernel
theorem dX4_silence_39 : decode cX4_silence 39 = .ok (.ixor, 1) := by decide +kernel
theorem dX4_silence_40 : decode cX4_silence 40 = .ok (.iand, 1) := by decide +kernel
theorem dX4_silence_41 : decode cX4_silence 41 = .ok (.invokevirtual 179, 3) := by decide +kernel
theorem dX4_silence_44 : decode cX4_silence 44 = .ok (.aload_n 0, 1) := by decide +kernel
theorem dX4_silence_45 : decode cX4_silence 45 = .ok (.getfield 30, 3) := by decide +kernel
theorem dX4_silence_48 : decode cX4_silence 48 = .ok (.getfield 134, 3) := by decide +kernel
theorem dX4_silence_51 : decode cX4_silence 51 = .ok (.aload_n 0, 1) := by decide +kernel
theorem dX4_silence_52 : decode cX4_silence 52 = .ok (.getfield 44, 3) := by decide +kernel
theorem dX4_silence_55 : decode cX4_silence 55 = .ok (.getfield 134, 3) := by decide +kernel
theorem dX4_silence_58 : decode cX4_silence 58 = .ok (.isub, 1) := by decide +kernel
theorem dX4_silence_59 : decode cX4_silence 59 = .ok (.bipush 100, 2) := by decide +kernel
theorem dX4_silence_61 : decode cX4_silence 61 = .ok (.iadd, 1) := by decide +kernel
theorem dX4_silence_62 : decode cX4_silence 62 = .ok (.ireturn, 1) := by decide +kernel
theorem dX4_alike_0 : decode cX4_alike 0 = .ok (.aload_n 0, 1) := by decide +kernel
theorem dX4_alike_1 : decode cX4_alike 1 = .ok (.invokevirtual 157, 3) := by decide +kernel
theorem dX4_alike_4 : decode cX4_alike 4 = .ok (.getfield 188, 3) := by decide +kernel
theorem dX4_alike_7 : decode cX4_alike 7 = .ok (.ireturn, 1) := by decide +kernel
theorem dX4_odds_0 : decode cX4_odds 0 = .ok (.iload_n 1, 1) := by decide +kernel
theorem dX4_odds_1 : decode cX4_odds 1 = .ok (.ifCond .lt 8, 3) := by decide +kernel
theorem dX4_odds_4 : decode cX4_odds 4 = .ok (.iload_n 1, 1) := by decide +kernel
theorem dX4_odds_5 : decode cX4_odds 5 = .ok (.iconst 1, 1) := by decide +kernel
theorem dX4_odds_6 : decode cX4_odds 6 = .ok (.if_icmp .le 5, 3) := by decide +kernel
theorem dX4_odds_9 : decode cX4_odds 9 = .ok (.iconst (-1), 1) := by decide +kernel
theorem dX4_odds_10 : decode cX4_odds 10 = .ok (.ireturn, 1) := by decide +kernel
theorem dX4_odds_11 : decode cX4_odds 11 = .ok (.aload_n 0, 1) := by decide +kernel
theorem dX4_odds_12 : decode cX4_odds 12 = .ok (.invokevirtual 157, 3) := by decide +kernel
theorem dX4_odds_15 : decode cX4_odds 15 = .ok (.astore_n 2, 1) := by decide +kernel
theorem dX4_odds_16 : decode cX4_odds 16 = .ok (.aload_n 2, 1) := by decide +kernel
theorem dX4_odds_17 : decode cX4_odds 17 = .ok (.getfield 191, 3) := by decide +kernel
theorem dX4_odds_20 : decode cX4_odds 20 = .ok (.aload_n 2, 1) := by decide +kernel
theorem dX4_odds_21 : decode cX4_odds 21 = .ok (.getfield 194, 3) := by decide +kernel
theorem dX4_odds_24 : decode cX4_odds 24 = .ok (.iload_n 1, 1) := by decide +kernel
theorem dX4_odds_25 : decode cX4_odds 25 = .ok (.invokestatic 197, 3) := by decide +kernel
theorem dX4_odds_28 : decode cX4_odds 28 = .ok (.ireturn, 1) := by decide +kernel
theorem dX4_atLeast_0 : decode cX4_atLeast 0 = .ok (.iload_n 1, 1) := by decide +kernel
theorem dX4_atLeast_1 : decode cX4_atLeast 1 = .ok (.ifCond .lt 18, 3) := by decide +kernel
theorem dX4_atLeast_4 : decode cX4_atLeast 4 = .ok (.iload_n 1, 1) := by decide +kernel
theorem dX4_atLeast_5 : decode cX4_atLeast 5 = .ok (.bipush 56, 2) := by decide +kernel
theorem dX4_atLeast_7 : decode cX4_atLeast 7 = .ok (.if_icmp .gt 12, 3) := by decide +kernel
theorem dX4_atLeast_10 : decode cX4_atLeast 10 = .ok (.iload_n 2, 1) := by decide +kernel
theorem dX4_atLeast_11 : decode cX4_atLeast 11 = .ok (.ifCond .lt 8, 3) := by decide +kernel
theorem dX4_atLeast_14 : decode cX4_atLeast 14 = .ok (.iload_n 2, 1) := by decide +kernel
theorem dX4_atLeast_15 : decode cX4_atLeast 15 = .ok (.iconst 1, 1) := by decide +kernel
theorem dX4_atLeast_16 : decode cX4_atLeast 16 = .ok (.if_icmp .le 5, 3) := by decide +kernel
theorem dX4_atLeast_19 : decode cX4_atLeast 19 = .ok (.iconst (-1), 1) := by decide +kernel
theorem dX4_atLeast_20 : decode cX4_atLeast 20 = .ok (.ireturn, 1) := by decide +kernel
theorem dX4_atLeast_21 : decode cX4_atLeast 21 = .ok (.aload_n 0, 1) := by decide +kernel
theorem dX4_atLeast_22 : decode cX4_atLeast 22 = .ok (.invokevirtual 157, 3) := by decide +kernel
theorem dX4_atLeast_25 : decode cX4_atLeast 25 = .ok (.astore_n 3, 1) := by decide +kernel
theorem dX4_atLeast_26 : decode cX4_atLeast 26 = .ok (.iconst 0, 1) := by decide +kernel
theorem dX4_atLeast_27 : decode cX4_atLeast 27 = .ok (.istore 4, 2) := by decide +kernel
theorem dX4_atLeast_29 : decode cX4_atLeast 29 = .ok (.iload_n 1, 1) := by decide +kernel
theorem dX4_atLeast_30 : decode cX4_atLeast 30 = .ok (.istore 5, 2) := by decide +kernel
theorem dX4_atLeast_32 : decode cX4_atLeast 32 = .ok (.iload 5, 2) := by decide +kernel
theorem dX4_atLeast_34 : decode cX4_atLeast 34 = .ok (.bipush 56, 2) := by decide +kernel
theorem dX4_atLeast_36 : decode cX4_atLeast 36 = .ok (.if_icmp .gt 21, 3) := by decide +kernel
theorem dX4_atLeast_39 : decode cX4_atLeast 39 = .ok (.iload 4, 2) := by decide +kernel
theorem dX4_atLeast_41 : decode cX4_atLeast 41 = .ok (.aload_n 3, 1) := by decide +kernel
theorem dX4_atLeast_42 : decode cX4_atLeast 42 = .ok (.getfield 201, 3) := by decide +kernel
theorem dX4_atLeast_45 : decode cX4_atLeast 45 = .ok (.iload 5, 2) := by decide +kernel
theorem dX4_atLeast_47 : decode cX4_atLeast 47 = .ok (.iaload, 1) := by decide +kernel
theorem dX4_atLeast_48 : decode cX4_atLeast 48 = .ok (.iadd, 1) := by decide +kernel
theorem dX4_atLeast_49 : decode cX4_atLeast 49 = .ok (.istore 4, 2) := by decide +kernel
theorem dX4_atLeast_51 : decode cX4_atLeast 51 = .ok (.iinc 5 1, 3) := by decide +kernel
theorem dX4_atLeast_54 : decode cX4_atLeast 54 = .ok (.goto (-22), 3) := by decide +kernel
theorem dX4_atLeast_57 : decode cX4_atLeast 57 = .ok (.iload 4, 2) := by decide +kernel
theorem dX4_atLeast_59 : decode cX4_atLeast 59 = .ok (.aload_n 3, 1) := by decide +kernel
theorem dX4_atLeast_60 : decode cX4_atLeast 60 = .ok (.getfield 194, 3) := by decide +kernel
theorem dX4_atLeast_63 : decode cX4_atLeast 63 = .ok (.iload_n 2, 1) := by decide +kernel
theorem dX4_atLeast_64 : decode cX4_atLeast 64 = .ok (.invokestatic 197, 3) := by decide +kernel
theorem dX4_atLeast_67 : decode cX4_atLeast 67 = .ok (.ireturn, 1) := by decide +kernel
theorem dX4_heard_0 : decode cX4_heard 0 = .ok (.aload_n 0, 1) := by decide +kernel
theorem dX4_heard_1 : decode cX4_heard 1 = .ok (.iload_n 1, 1) := by decide +kernel
theorem dX4_heard_2 : decode cX4_heard 2 = .ok (.invokevirtual 96, 3) := by decide +kernel
theorem dX4_heard_5 : decode cX4_heard 5 = .ok (.ifCond .eq 20, 3) := by decide +kernel
theorem dX4_heard_8 : decode cX4_heard 8 = .ok (.aload_n 0, 1) := by decide +kernel
theorem dX4_heard_9 : decode cX4_heard 9 = .ok (.iload_n 2, 1) := by decide +kernel
theorem dX4_heard_10 : decode cX4_heard 10 = .ok (.invokevirtual 119, 3) := by decide +kernel
theorem dX4_heard_13 : decode cX4_heard 13 = .ok (.ifCond .eq 12, 3) := by decide +kernel
theorem dX4_heard_16 : decode cX4_heard 16 = .ok (.iload_n 3, 1) := by decide +kernel
theorem dX4_heard_17 : decode cX4_heard 17 = .ok (.ifCond .lt 8, 3) := by decide +kernel
theorem dX4_heard_20 : decode cX4_heard 20 = .ok (.iload_n 3, 1) := by decide +kernel
theorem dX4_heard_21 : decode cX4_heard 21 = .ok (.iconst 1, 1) := by decide +kernel
theorem dX4_heard_22 : decode cX4_heard 22 = .ok (.if_icmp .le 5, 3) := by decide +kernel
theorem dX4_heard_25 : decode cX4_heard 25 = .ok (.iconst (-1), 1) := by decide +kernel
theorem dX4_heard_26 : decode cX4_heard 26 = .ok (.ireturn, 1) := by decide +kernel
theorem dX4_heard_27 : decode cX4_heard 27 = .ok (.aload_n 0, 1) := by decide +kernel
theorem dX4_heard_28 : decode cX4_heard 28 = .ok (.getfield 204, 3) := by decide +kernel
theorem dX4_heard_31 : decode cX4_heard 31 = .ok (.bipush 8, 2) := by decide +kernel
theorem dX4_heard_33 : decode cX4_heard 33 = .ok (.if_icmp .lt 6, 3) := by decide +kernel
theorem dX4_heard_36 : decode cX4_heard 36 = .ok (.bipush (-3), 2) := by decide +kernel
theorem dX4_heard_38 : decode cX4_heard 38 = .ok (.ireturn, 1) := by decide +kernel
theorem dX4_heard_39 : decode cX4_heard 39 = .ok (.aload_n 0, 1) := by decide +kernel
theorem dX4_heard_40 : decode cX4_heard 40 = .ok (.getfield 50, 3) := by decide +kernel
theorem dX4_heard_43 : decode cX4_heard 43 = .ok (.aload_n 0, 1) := by decide +kernel
theorem dX4_heard_44 : decode cX4_heard 44 = .ok (.getfield 204, 3) := by decide +kernel
theorem dX4_heard_47 : decode cX4_heard 47 = .ok (.iload_n 1, 1) := by decide +kernel
theorem dX4_heard_48 : decode cX4_heard 48 = .ok (.iastore, 1) := by decide +kernel
theorem dX4_heard_49 : decode cX4_heard 49 = .ok (.aload_n 0, 1) := by decide +kernel
theorem dX4_heard_50 : decode cX4_heard 50 = .ok (.getfield 53, 3) := by decide +kernel
theorem dX4_heard_53 : decode cX4_heard 53 = .ok (.aload_n 0, 1) := by decide +kernel
theorem dX4_heard_54 : decode cX4_heard 54 = .ok (.getfield 204, 3) := by decide +kernel
theorem dX4_heard_57 : decode cX4_heard 57 = .ok (.iload_n 2, 1) := by decide +kernel
theorem dX4_heard_58 : decode cX4_heard 58 = .ok (.iastore, 1) := by decide +kernel
theorem dX4_heard_59 : decode cX4_heard 59 = .ok (.aload_n 0, 1) := by decide +kernel
theorem dX4_heard_60 : decode cX4_heard 60 = .ok (.getfield 56, 3) := by decide +kernel
theorem dX4_heard_63 : decode cX4_heard 63 = .ok (.aload_n 0, 1) := by decide +kernel
theorem dX4_heard_64 : decode cX4_heard 64 = .ok (.getfield 204, 3) := by decide +kernel
theorem dX4_heard_67 : decode cX4_heard 67 = .ok (.iload_n 3, 1) := by decide +kernel
theorem dX4_heard_68 : decode cX4_heard 68 = .ok (.iastore, 1) := by decide +kernel
theorem dX4_heard_69 : decode cX4_heard 69 = .ok (.aload_n 0, 1) := by decide +kernel
theorem dX4_heard_70 : decode cX4_heard 70 = .ok (.dup, 1) := by decide +kernel
theorem dX4_heard_71 : decode cX4_heard 71 = .ok (.getfield 204, 3) := by decide +kernel
theorem dX4_heard_74 : decode cX4_heard 74 = .ok (.iconst 1, 1) := by decide +kernel
theorem dX4_heard_75 : decode cX4_heard 75 = .ok (.iadd, 1) := by decide +kernel
theorem dX4_heard_76 : decode cX4_heard 76 = .ok (.putfield 204, 3) := by decide +kernel
theorem dX4_heard_79 : decode cX4_heard 79 = .ok (.aload_n 0, 1) := by decide +kernel
theorem dX4_heard_80 : decode cX4_heard 80 = .ok (.getfield 204, 3) := by decide +kernel
theorem dX4_heard_83 : decode cX4_heard 83 = .ok (.ireturn, 1) := by decide +kernel
theorem dX4_forget_0 : decode cX4_forget 0 = .ok (.aload_n 0, 1) := by decide +kernel
theorem dX4_forget_1 : decode cX4_forget 1 = .ok (.getfield 204, 3) := by decide +kernel
theorem dX4_forget_4 : decode cX4_forget 4 = .ok (.istore_n 1, 1) := by decide +kernel
theorem dX4_forget_5 : decode cX4_forget 5 = .ok (.aload_n 0, 1) := by decide +kernel
theorem dX4_forget_6 : decode cX4_forget 6 = .ok (.iconst 0, 1) := by decide +kernel
theorem dX4_forget_7 : decode cX4_forget 7 = .ok (.putfield 204, 3) := by decide +kernel
theorem dX4_forget_10 : decode cX4_forget 10 = .ok (.iload_n 1, 1) := by decide +kernel
theorem dX4_forget_11 : decode cX4_forget 11 = .ok (.ireturn, 1) := by decide +kernel
theorem dX4_kinds_0 : decode cX4_kinds 0 = .ok (.aload_n 0, 1) := by decide +kernel
theorem dX4_kinds_1 : decode cX4_kinds 1 = .ok (.iload_n 1, 1) := by decide +kernel
theorem dX4_kinds_2 : decode cX4_kinds 2 = .ok (.invokevirtual 96, 3) := by decide +kernel
theorem dX4_kinds_5 : decode cX4_kinds 5 = .ok (.ifCond .ne 5, 3) := by decide +kernel
theorem dX4_kinds_8 : decode cX4_kinds 8 = .ok (.iconst (-1), 1) := by decide +kernel
theorem dX4_kinds_9 : decode cX4_kinds 9 = .ok (.ireturn, 1) := by decide +kernel
theorem dX4_kinds_10 : decode cX4_kinds 10 = .ok (.aload_n 0, 1) := by decide +kernel
theorem dX4_kinds_11 : decode cX4_kinds 11 = .ok (.getfield 19, 3) := by decide +kernel
theorem dX4_kinds_14 : decode cX4_kinds 14 = .ok (.getfield 100, 3) := by decide +kernel
theorem dX4_kinds_17 : decode cX4_kinds 17 = .ok (.iload_n 1, 1) := by decide +kernel
theorem dX4_kinds_18 : decode cX4_kinds 18 = .ok (.iaload, 1) := by decide +kernel
theorem dX4_kinds_19 : decode cX4_kinds 19 = .ok (.istore_n 2, 1) := by decide +kernel
theorem dX4_kinds_20 : decode cX4_kinds 20 = .ok (.iconst 0, 1) := by decide +kernel
theorem dX4_kinds_21 : decode cX4_kinds 21 = .ok (.istore_n 3, 1) := by decide +kernel
theorem dX4_kinds_22 : decode cX4_kinds 22 = .ok (.iconst 0, 1) := by decide +kernel
theorem dX4_kinds_23 : decode cX4_kinds 23 = .ok (.istore 4, 2) := by decide +kernel
theorem dX4_kinds_25 : decode cX4_kinds 25 = .ok (.iload 4, 2) := by decide +kernel
theorem dX4_kinds_27 : decode cX4_kinds 27 = .ok (.iconst 4, 1) := by decide +kernel
theorem dX4_kinds_28 : decode cX4_kinds 28 = .ok (.if_icmp .ge 73, 3) := by decide +kernel
theorem dX4_kinds_31 : decode cX4_kinds 31 = .ok (.aload_n 0, 1) := by decide +kernel
theorem dX4_kinds_32 : decode cX4_kinds 32 = .ok (.getfield 19, 3) := by decide +kernel
theorem dX4_kinds_35 : decode cX4_kinds 35 = .ok (.getfield 100, 3) := by decide +kernel
theorem dX4_kinds_38 : decode cX4_kinds 38 = .ok (.iload_n 1, 1) := by decide +kernel
theorem dX4_kinds_39 : decode cX4_kinds 39 = .ok (.iload 4, 2) := by decide +kernel
theorem dX4_kinds_41 : decode cX4_kinds 41 = .ok (.iastore, 1) := by decide +kernel
theorem dX4_kinds_42 : decode cX4_kinds 42 = .ok (.aload_n 0, 1) := by decide +kernel
theorem dX4_kinds_43 : decode cX4_kinds 43 = .ok (.getfield 44, 3) := by decide +kernel
theorem dX4_kinds_46 : decode cX4_kinds 46 = .ok (.aload_n 0, 1) := by decide +kernel
theorem dX4_kinds_47 : decode cX4_kinds 47 = .ok (.getfield 19, 3) := by decide +kernel
theorem dX4_kinds_50 : decode cX4_kinds 50 = .ok (.aload_n 0, 1) := by decide +kernel
theorem dX4_kinds_51 : decode cX4_kinds 51 = .ok (.getfield 23, 3) := by decide +kernel
theorem dX4_kinds_54 : decode cX4_kinds 54 = .ok (.aload_n 0, 1) := by decide +kernel
theorem dX4_kinds_55 : decode cX4_kinds 55 = .ok (.getfield 19, 3) := by decide +kernel
theorem dX4_kinds_58 : decode cX4_kinds 58 = .ok (.getfield 176, 3) := by decide +kernel
theorem dX4_kinds_61 : decode cX4_kinds 61 = .ok (.aload_n 0, 1) := by decide +kernel
theorem dX4_kinds_62 : decode cX4_kinds 62 = .ok (.getfield 113, 3) := by decide +kernel
theorem dX4_kinds_65 : decode cX4_kinds 65 = .ok (.iconst 1, 1) := by decide +kernel
theorem dX4_kinds_66 : decode cX4_kinds 66 = .ok (.iload_n 1, 1) := by decide +kernel
theorem dX4_kinds_67 : decode cX4_kinds 67 = .ok (.ishl, 1) := by decide +kernel
theorem dX4_kinds_68 : decode cX4_kinds 68 = .ok (.iconst (-1), 1) := by decide +kernel
theorem dX4_kinds_69 : decode cX4_kinds 69 = .ok (.ixor, 1) := by decide +kernel
theorem dX4_kinds_70 : decode cX4_kinds 70 = .ok (.iand, 1) := by decide +kernel
theorem dX4_kinds_71 : decode cX4_kinds 71 = .ok (.bipush 127, 2) := by decide +kernel
theorem dX4_kinds_73 : decode cX4_kinds 73 = .ok (.invokevirtual 179, 3) := by decide +kernel
theorem dX4_kinds_76 : decode cX4_kinds 76 = .ok (.aload_n 0, 1) := by decide +kernel
theorem dX4_kinds_77 : decode cX4_kinds 77 = .ok (.iload_n 1, 1) := by decide +kernel
theorem dX4_kinds_78 : decode cX4_kinds 78 = .ok (.aload_n 0, 1) := by decide +kernel
theorem dX4_kinds_79 : decode cX4_kinds 79 = .ok (.getfield 44, 3) := by decide +kernel
theorem dX4_kinds_82 : decode cX4_kinds 82 = .ok (.invokevirtual 207, 3) := by decide +kernel
theorem dX4_kinds_85 : decode cX4_kinds 85 = .ok (.ifCond .eq 10, 3) := by decide +kernel
theorem dX4_kinds_88 : decode cX4_kinds 88 = .ok (.iload_n 3, 1) := by decide +kernel
theorem dX4_kinds_89 : decode cX4_kinds 89 = .ok (.iconst 1, 1) := by decide +kernel
theorem dX4_kinds_90 : decode cX4_kinds 90 = .ok (.iload 4, 2) := by decide +kernel
theorem dX4_kinds_92 : decode cX4_kinds 92 = .ok (.ishl, 1) := by decide +kernel
theorem dX4_kinds_93 : decode cX4_kinds 93 = .ok (.ior, 1) := by decide +kernel
theorem dX4_kinds_94 : decode cX4_kinds 94 = .ok (.istore_n 3, 1) := by decide +kernel
theorem dX4_kinds_95 : decode cX4_kinds 95 = .ok (.iinc 4 1, 3) := by decide +kernel
theorem dX4_kinds_98 : decode cX4_kinds 98 = .ok (.goto (-73), 3) := by decide +kernel
theorem dX4_kinds_101 : decode cX4_kinds 101 = .ok (.aload_n 0, 1) := by decide +kernel
theorem dX4_kinds_102 : decode cX4_kinds 102 = .ok (.getfield 19, 3) := by decide +kernel
theorem dX4_kinds_105 : decode cX4_kinds 105 = .ok (.getfield 100, 3) := by decide +kernel
theorem dX4_kinds_108 : decode cX4_kinds 108 = .ok (.iload_n 1, 1) := by decide +kernel
theorem dX4_kinds_109 : decode cX4_kinds 109 = .ok (.iload_n 2, 1) := by decide +kernel
theorem dX4_kinds_110 : decode cX4_kinds 110 = .ok (.iastore, 1) := by decide +kernel
theorem dX4_kinds_111 : decode cX4_kinds 111 = .ok (.iload_n 3, 1) := by decide +kernel
theorem dX4_kinds_112 : decode cX4_kinds 112 = .ok (.ireturn, 1) := by decide +kernel
theorem dX4_hall_0 : decode cX4_hall 0 = .ok (.iload_n 1, 1) := by decide +kernel
theorem dX4_hall_1 : decode cX4_hall 1 = .ok (.bipush 9, 2) := by decide +kernel
theorem dX4_hall_3 : decode cX4_hall 3 = .ok (.if_icmp .eq 22, 3) := by decide +kernel
theorem dX4_hall_6 : decode cX4_hall 6 = .ok (.iload_n 1, 1) := by decide +kernel
theorem dX4_hall_7 : decode cX4_hall 7 = .ok (.ifCond .lt 16, 3) := by decide +kernel
theorem dX4_hall_10 : decode cX4_hall 10 = .ok (.iload_n 1, 1) := by decide +kernel
theorem dX4_hall_11 : decode cX4_hall 11 = .ok (.aload_n 0, 1) := by decide +kernel
theorem dX4_hall_12 : decode cX4_hall 12 = .ok (.getfield 19, 3) := by decide +kernel
theorem dX4_hall_15 : decode cX4_hall 15 = .ok (.getfield 93, 3) := by decide +kernel
theorem dX4_hall_18 : decode cX4_hall 18 = .ok (.iconst 2, 1) := by decide +kernel
theorem dX4_hall_19 : decode cX4_hall 19 = .ok (.isub, 1) := by decide +kernel
theorem dX4_hall_20 : decode cX4_hall 20 = .ok (.if_icmp .le 5, 3) := by decide +kernel
theorem dX4_hall_23 : decode cX4_hall 23 = .ok (.iconst (-1), 1) := by decide +kernel
theorem dX4_hall_24 : decode cX4_hall 24 = .ok (.ireturn, 1) := by decide +kernel
theorem dX4_hall_25 : decode cX4_hall 25 = .ok (.aload_n 0, 1) := by decide +kernel
theorem dX4_hall_26 : decode cX4_hall 26 = .ok (.getfield 44, 3) := by decide +kernel
theorem dX4_hall_29 : decode cX4_hall 29 = .ok (.aload_n 0, 1) := by decide +kernel
theorem dX4_hall_30 : decode cX4_hall 30 = .ok (.getfield 19, 3) := by decide +kernel
theorem dX4_hall_33 : decode cX4_hall 33 = .ok (.aload_n 0, 1) := by decide +kernel
theorem dX4_hall_34 : decode cX4_hall 34 = .ok (.getfield 23, 3) := by decide +kernel
theorem dX4_hall_37 : decode cX4_hall 37 = .ok (.iload_n 1, 1) := by decide +kernel
theorem dX4_hall_38 : decode cX4_hall 38 = .ok (.bipush 9, 2) := by decide +kernel
theorem dX4_hall_40 : decode cX4_hall 40 = .ok (.if_icmp .ne 7, 3) := by decide +kernel
theorem dX4_hall_43 : decode cX4_hall 43 = .ok (.iconst 0, 1) := by decide +kernel
theorem dX4_hall_44 : decode cX4_hall 44 = .ok (.goto 6, 3) := by decide +kernel
theorem dX4_hall_47 : decode cX4_hall 47 = .ok (.iconst 1, 1) := by decide +kernel
theorem dX4_hall_48 : decode cX4_hall 48 = .ok (.iload_n 1, 1) := by decide +kernel
theorem dX4_hall_49 : decode cX4_hall 49 = .ok (.ishl, 1) := by decide +kernel
theorem dX4_hall_50 : decode cX4_hall 50 = .ok (.aload_n 0, 1) := by decide +kernel
theorem dX4_hall_51 : decode cX4_hall 51 = .ok (.getfield 113, 3) := by decide +kernel
theorem dX4_hall_54 : decode cX4_hall 54 = .ok (.bipush 127, 2) := by decide +kernel
theorem dX4_hall_56 : decode cX4_hall 56 = .ok (.invokevirtual 179, 3) := by decide +kernel
theorem dX4_hall_59 : decode cX4_hall 59 = .ok (.aload_n 0, 1) := by decide +kernel
theorem dX4_hall_60 : decode cX4_hall 60 = .ok (.getfield 44, 3) := by decide +kernel
theorem dX4_hall_63 : decode cX4_hall 63 = .ok (.getfield 134, 3) := by decide +kernel
theorem dX4_hall_66 : decode cX4_hall 66 = .ok (.ireturn, 1) := by decide +kernel
theorem dX4_tour_0 : decode cX4_tour 0 = .ok (.iload_n 1, 1) := by decide +kernel
theorem dX4_tour_1 : decode cX4_tour 1 = .ok (.ifCond .lt 30, 3) := by decide +kernel
theorem dX4_tour_4 : decode cX4_tour 4 = .ok (.iload_n 1, 1) := by decide +kernel
theorem dX4_tour_5 : decode cX4_tour 5 = .ok (.sipush 9999, 3) := by decide +kernel
theorem dX4_tour_8 : decode cX4_tour 8 = .ok (.if_icmp .gt 23, 3) := by decide +kernel
theorem dX4_tour_11 : decode cX4_tour 11 = .ok (.iload_n 2, 1) := by decide +kernel
theorem dX4_tour_12 : decode cX4_tour 12 = .ok (.iconst 1, 1) := by decide +kernel
theorem dX4_tour_13 : decode cX4_tour 13 = .ok (.if_icmp .lt 18, 3) := by decide +kernel
theorem dX4_tour_16 : decode cX4_tour 16 = .ok (.iload_n 2, 1) := by decide +kernel
theorem dX4_tour_17 : decode cX4_tour 17 = .ok (.bipush 20, 2) := by decide +kernel
theorem dX4_tour_19 : decode cX4_tour 19 = .ok (.if_icmp .gt 12, 3) := by decide +kernel
theorem dX4_tour_22 : decode cX4_tour 22 = .ok (.iload_n 3, 1) := by decide +kernel
theorem dX4_tour_23 : decode cX4_tour 23 = .ok (.ifCond .lt 8, 3) := by decide +kernel
theorem dX4_tour_26 : decode cX4_tour 26 = .ok (.iload_n 3, 1) := by decide +kernel
theorem dX4_tour_27 : decode cX4_tour 27 = .ok (.iconst 1, 1) := by decide +kernel
theorem dX4_tour_28 : decode cX4_tour 28 = .ok (.if_icmp .le 5, 3) := by decide +kernel
theorem dX4_tour_31 : decode cX4_tour 31 = .ok (.iconst (-1), 1) := by decide +kernel
theorem dX4_tour_32 : decode cX4_tour 32 = .ok (.ireturn, 1) := by decide +kernel
theorem dX4_tour_33 : decode cX4_tour 33 = .ok (.iconst 1, 1) := by decide +kernel
theorem dX4_tour_34 : decode cX4_tour 34 = .ok (.aload_n 0, 1) := by decide +kernel
theorem dX4_tour_35 : decode cX4_tour 35 = .ok (.getfield 19, 3) := by decide +kernel
theorem dX4_tour_38 : decode cX4_tour 38 = .ok (.getfield 93, 3) := by decide +kernel
theorem dX4_tour_41 : decode cX4_tour 41 = .ok (.invokestatic 211, 3) := by decide +kernel
theorem dX4_tour_44 : decode cX4_tour 44 = .ok (.istore 4, 2) := by decide +kernel
theorem dX4_tour_46 : decode cX4_tour 46 = .ok (.iconst 0, 1) := by decide +kernel
theorem dX4_tour_47 : decode cX4_tour 47 = .ok (.istore 5, 2) := by decide +kernel
theorem dX4_tour_49 : decode cX4_tour 49 = .ok (.iconst 0, 1) := by decide +kernel
theorem dX4_tour_50 : decode cX4_tour 50 = .ok (.istore 6, 2) := by decide +kernel
theorem dX4_tour_52 : decode cX4_tour 52 = .ok (.aload_n 0, 1) := by decide +kernel
theorem dX4_tour_53 : decode cX4_tour 53 = .ok (.getfield 23, 3) := by decide +kernel
theorem dX4_tour_56 : decode cX4_tour 56 = .ok (.iconst 0, 1) := by decide +kernel
theorem dX4_tour_57 : decode cX4_tour 57 = .ok (.aload_n 0, 1) := by decide +kernel
theorem dX4_tour_58 : decode cX4_tour 58 = .ok (.getfield 41, 3) := by decide +kernel
theorem dX4_tour_61 : decode cX4_tour 61 = .ok (.iconst 0, 1) := by decide +kernel
theorem dX4_tour_62 : decode cX4_tour 62 = .ok (.aload_n 0, 1) := by decide +kernel
theorem dX4_tour_63 : decode cX4_tour 63 = .ok (.getfield 23, 3) := by decide +kernel
theorem dX4_tour_66 : decode cX4_tour 66 = .ok (.arraylength, 1) := by decide +kernel
theorem dX4_tour_67 : decode cX4_tour 67 = .ok (.invokestatic 170, 3) := by decide +kernel
theorem dX4_tour_70 : decode cX4_tour 70 = .ok (.iconst 0, 1) := by decide +kernel
theorem dX4_tour_71 : decode cX4_tour 71 = .ok (.istore 7, 2) := by decide +kernel
theorem dX4_tour_73 : decode cX4_tour 73 = .ok (.iload 7, 2) := by decide +kernel
theorem dX4_tour_75 : decode cX4_tour 75 = .ok (.iload_n 2, 1) := by decide +kernel
theorem dX4_tour_76 : decode cX4_tour 76 = .ok (.if_icmp .ge 106, 3) := by decide +kernel
theorem dX4_tour_79 : decode cX4_tour 79 = .ok (.iload_n 1, 1) := by decide +kernel
theorem dX4_tour_80 : decode cX4_tour 80 = .ok (.iload 7, 2) := by decide +kernel
theorem dX4_tour_82 : decode cX4_tour 82 = .ok (.invokestatic 217, 3) := by decide +kernel
theorem dX4_tour_85 : decode cX4_tour 85 = .ok (.istore 8, 2) := by decide +kernel
theorem dX4_tour_87 : decode cX4_tour 87 = .ok (.aload_n 0, 1) := by decide +kernel
theorem dX4_tour_88 : decode cX4_tour 88 = .ok (.getfield 41, 3) := by decide +kernel
theorem dX4_tour_91 : decode cX4_tour 91 = .ok (.iload 8, 2) := by decide +kernel
theorem dX4_tour_93 : decode cX4_tour 93 = .ok (.iload 4, 2) := by decide +kernel
theorem dX4_tour_95 : decode cX4_tour 95 = .ok (.irem, 1) := by decide +kernel
theorem dX4_tour_96 : decode cX4_tour 96 = .ok (.iload 8, 2) := by decide +kernel
theorem dX4_tour_98 : decode cX4_tour 98 = .ok (.bipush 8, 2) := by decide +kernel
theorem dX4_tour_100 : decode cX4_tour 100 = .ok (.idiv, 1) := by decide +kernel
theorem dX4_tour_101 : decode cX4_tour 101 = .ok (.iload 4, 2) := by decide +kernel
theorem dX4_tour_103 : decode cX4_tour 103 = .ok (.irem, 1) := by decide +kernel
theorem dX4_tour_104 : decode cX4_tour 104 = .ok (.invokestatic 144, 3) := by decide +kernel
theorem dX4_tour_107 : decode cX4_tour 107 = .ok (.aload_n 0, 1) := by decide +kernel
theorem dX4_tour_108 : decode cX4_tour 108 = .ok (.getfield 44, 3) := by decide +kernel
theorem dX4_tour_111 : decode cX4_tour 111 = .ok (.aload_n 0, 1) := by decide +kernel
theorem dX4_tour_112 : decode cX4_tour 112 = .ok (.getfield 19, 3) := by decide +kernel
theorem dX4_tour_115 : decode cX4_tour 115 = .ok (.aload_n 0, 1) := by decide +kernel
theorem dX4_tour_116 : decode cX4_tour 116 = .ok (.getfield 41, 3) := by decide +kernel
theorem dX4_tour_119 : decode cX4_tour 119 = .ok (.aload_n 0, 1) := by decide +kernel
theorem dX4_tour_120 : decode cX4_tour 120 = .ok (.getfield 19, 3) := by decide +kernel
theorem dX4_tour_123 : decode cX4_tour 123 = .ok (.getfield 176, 3) := by decide +kernel
theorem dX4_tour_126 : decode cX4_tour 126 = .ok (.aload_n 0, 1) := by decide +kernel
theorem dX4_tour_127 : decode cX4_tour 127 = .ok (.getfield 113, 3) := by decide +kernel
theorem dX4_tour_130 : decode cX4_tour 130 = .ok (.bipush 127, 2) := by decide +kernel
theorem dX4_tour_132 : decode cX4_tour 132 = .ok (.invokevirtual 179, 3) := by decide +kernel
theorem dX4_tour_135 : decode cX4_tour 135 = .ok (.iload 5, 2) := by decide +kernel
theorem dX4_tour_137 : decode cX4_tour 137 = .ok (.aload_n 0, 1) := by decide +kernel
theorem dX4_tour_138 : decode cX4_tour 138 = .ok (.getfield 44, 3) := by decide +kernel
theorem dX4_tour_141 : decode cX4_tour 141 = .ok (.getfield 137, 3) := by decide +kernel
theorem dX4_tour_144 : decode cX4_tour 144 = .ok (.aload_n 0, 1) := by decide +kernel
theorem dX4_tour_145 : decode cX4_tour 145 = .ok (.getfield 19, 3) := by decide +kernel
theorem dX4_tour_148 : decode cX4_tour 148 = .ok (.getfield 131, 3) := by decide +kernel
theorem dX4_tour_151 : decode cX4_tour 151 = .ok (.if_icmp .ne 7, 3) := by decide +kernel
theorem dX4_tour_154 : decode cX4_tour 154 = .ok (.iconst 1, 1) := by decide +kernel
theorem dX4_tour_155 : decode cX4_tour 155 = .ok (.goto 4, 3) := by decide +kernel
theorem dX4_tour_158 : decode cX4_tour 158 = .ok (.iconst 0, 1) := by decide +kernel
theorem dX4_tour_159 : decode cX4_tour 159 = .ok (.iadd, 1) := by decide +kernel
theorem dX4_tour_160 : decode cX4_tour 160 = .ok (.istore 5, 2) := by decide +kernel
theorem dX4_tour_162 : decode cX4_tour 162 = .ok (.iload 6, 2) := by decide +kernel
theorem dX4_tour_164 : decode cX4_tour 164 = .ok (.aload_n 0, 1) := by decide +kernel
theorem dX4_tour_165 : decode cX4_tour 165 = .ok (.getfield 44, 3) := by decide +kernel
theorem dX4_tour_168 : decode cX4_tour 168 = .ok (.getfield 134, 3) := by decide +kernel
theorem dX4_tour_171 : decode cX4_tour 171 = .ok (.invokestatic 211, 3) := by decide +kernel
theorem dX4_tour_174 : decode cX4_tour 174 = .ok (.istore 6, 2) := by decide +kernel
theorem dX4_tour_176 : decode cX4_tour 176 = .ok (.iinc 7 1, 3) := by decide +kernel
theorem dX4_tour_179 : decode cX4_tour 179 = .ok (.goto (-106), 3) := by decide +kernel
theorem dX4_tour_182 : decode cX4_tour 182 = .ok (.iload_n 3, 1) := by decide +kernel
theorem dX4_tour_183 : decode cX4_tour 183 = .ok (.ifCond .ne 8, 3) := by decide +kernel
theorem dX4_tour_186 : decode cX4_tour 186 = .ok (.iload 5, 2) := by decide +kernel
theorem dX4_tour_188 : decode cX4_tour 188 = .ok (.goto 5, 3) := by decide +kernel
theorem dX4_tour_191 : decode cX4_tour 191 = .ok (.iload 6, 2) := by decide +kernel
theorem dX4_tour_193 : decode cX4_tour 193 = .ok (.ireturn, 1) := by decide +kernel
theorem dX4_keep_0 : decode cX4_keep 0 = .ok (.aload_n 0, 1) := by decide +kernel
theorem dX4_keep_1 : decode cX4_keep 1 = .ok (.getfield 220, 3) := by decide +kernel
theorem dX4_keep_4 : decode cX4_keep 4 = .ok (.iconst 2, 1) := by decide +kernel
theorem dX4_keep_5 : decode cX4_keep 5 = .ok (.if_icmp .lt 6, 3) := by decide +kernel
theorem dX4_keep_8 : decode cX4_keep 8 = .ok (.bipush (-3), 2) := by decide +kernel
theorem dX4_keep_10 : decode cX4_keep 10 = .ok (.ireturn, 1) := by decide +kernel
theorem dX4_keep_11 : decode cX4_keep 11 = .ok (.aload_n 0, 1) := by decide +kernel
theorem dX4_keep_12 : decode cX4_keep 12 = .ok (.getfield 23, 3) := by decide +kernel
theorem dX4_keep_15 : decode cX4_keep 15 = .ok (.iconst 0, 1) := by decide +kernel
theorem dX4_keep_16 : decode cX4_keep 16 = .ok (.aload_n 0, 1) := by decide +kernel
theorem dX4_keep_17 : decode cX4_keep 17 = .ok (.getfield 61, 3) := by decide +kernel
theorem dX4_keep_20 : decode cX4_keep 20 = .ok (.aload_n 0, 1) := by decide +kernel
theorem dX4_keep_21 : decode cX4_keep 21 = .ok (.getfield 220, 3) := by decide +kernel
theorem dX4_keep_24 : decode cX4_keep 24 = .ok (.aaload, 1) := by decide +kernel
theorem dX4_keep_25 : decode cX4_keep 25 = .ok (.iconst 0, 1) := by decide +kernel
theorem dX4_keep_26 : decode cX4_keep 26 = .ok (.aload_n 0, 1) := by decide +kernel
theorem dX4_keep_27 : decode cX4_keep 27 = .ok (.getfield 23, 3) := by decide +kernel
theorem dX4_keep_30 : decode cX4_keep 30 = .ok (.arraylength, 1) := by decide +kernel
theorem dX4_keep_31 : decode cX4_keep 31 = .ok (.invokestatic 170, 3) := by decide +kernel
theorem dX4_keep_34 : decode cX4_keep 34 = .ok (.aload_n 0, 1) := by decide +kernel
theorem dX4_keep_35 : decode cX4_keep 35 = .ok (.getfield 64, 3) := by decide +kernel
theorem dX4_keep_38 : decode cX4_keep 38 = .ok (.aload_n 0, 1) := by decide +kernel
theorem dX4_keep_39 : decode cX4_keep 39 = .ok (.getfield 220, 3) := by decide +kernel
theorem dX4_keep_42 : decode cX4_keep 42 = .ok (.aload_n 0, 1) := by decide +kernel
theorem dX4_keep_43 : decode cX4_keep 43 = .ok (.getfield 113, 3) := by decide +kernel
theorem dX4_keep_46 : decode cX4_keep 46 = .ok (.iastore, 1) := by decide +kernel
theorem dX4_keep_47 : decode cX4_keep 47 = .ok (.aload_n 0, 1) := by decide +kernel
theorem dX4_keep_48 : decode cX4_keep 48 = .ok (.dup, 1) := by decide +kernel
theorem dX4_keep_49 : decode cX4_keep 49 = .ok (.getfield 220, 3) := by decide +kernel
theorem dX4_keep_52 : decode cX4_keep 52 = .ok (.iconst 1, 1) := by decide +kernel
theorem dX4_keep_53 : decode cX4_keep 53 = .ok (.iadd, 1) := by decide +kernel
theorem dX4_keep_54 : decode cX4_keep 54 = .ok (.putfield 220, 3) := by decide +kernel
theorem dX4_keep_57 : decode cX4_keep 57 = .ok (.aload_n 0, 1) := by decide +kernel
theorem dX4_keep_58 : decode cX4_keep 58 = .ok (.getfield 220, 3) := by decide +kernel
theorem dX4_keep_61 : decode cX4_keep 61 = .ok (.ireturn, 1) := by decide +kernel
theorem dX4_back_0 : decode cX4_back 0 = .ok (.aload_n 0, 1) := by decide +kernel
theorem dX4_back_1 : decode cX4_back 1 = .ok (.getfield 220, 3) := by decide +kernel
theorem dX4_back_4 : decode cX4_back 4 = .ok (.iconst 1, 1) := by decide +kernel
theorem dX4_back_5 : decode cX4_back 5 = .ok (.if_icmp .ge 6, 3) := by decide +kernel
theorem dX4_back_8 : decode cX4_back 8 = .ok (.bipush (-2), 2) := by decide +kernel
theorem dX4_back_10 : decode cX4_back 10 = .ok (.ireturn, 1) := by decide +kernel
theorem dX4_back_11 : decode cX4_back 11 = .ok (.aload_n 0, 1) := by decide +kernel
theorem dX4_back_12 : decode cX4_back 12 = .ok (.dup, 1) := by decide +kernel
theorem dX4_back_13 : decode cX4_back 13 = .ok (.getfield 220, 3) := by decide +kernel
theorem dX4_back_16 : decode cX4_back 16 = .ok (.iconst 1, 1) := by decide +kernel
theorem dX4_back_17 : decode cX4_back 17 = .ok (.isub, 1) := by decide +kernel
theorem dX4_back_18 : decode cX4_back 18 = .ok (.putfield 220, 3) := by decide +kernel
theorem dX4_back_21 : decode cX4_back 21 = .ok (.aload_n 0, 1) := by decide +kernel
theorem dX4_back_22 : decode cX4_back 22 = .ok (.getfield 61, 3) := by decide +kernel
theorem dX4_back_25 : decode cX4_back 25 = .ok (.aload_n 0, 1) := by decide +kernel
theorem dX4_back_26 : decode cX4_back 26 = .ok (.getfield 220, 3) := by decide +kernel
theorem dX4_back_29 : decode cX4_back 29 = .ok (.aaload, 1) := by decide +kernel
theorem dX4_back_30 : decode cX4_back 30 = .ok (.iconst 0, 1) := by decide +kernel
theorem dX4_back_31 : decode cX4_back 31 = .ok (.aload_n 0, 1) := by decide +kernel
theorem dX4_back_32 : decode cX4_back 32 = .ok (.getfield 23, 3) := by decide +kernel
theorem dX4_back_35 : decode cX4_back 35 = .ok (.iconst 0, 1) := by decide +kernel
theorem dX4_back_36 : decode cX4_back 36 = .ok (.aload_n 0, 1) := by decide +kernel
theorem dX4_back_37 : decode cX4_back 37 = .ok (.getfield 23, 3) := by decide +kernel
theorem dX4_back_40 : decode cX4_back 40 = .ok (.arraylength, 1) := by decide +kernel
theorem dX4_back_41 : decode cX4_back 41 = .ok (.invokestatic 170, 3) := by decide +kernel
theorem dX4_back_44 : decode cX4_back 44 = .ok (.aload_n 0, 1) := by decide +kernel
theorem dX4_back_45 : decode cX4_back 45 = .ok (.aload_n 0, 1) := by decide +kernel
theorem dX4_back_46 : decode cX4_back 46 = .ok (.getfield 64, 3) := by decide +kernel
theorem dX4_back_49 : decode cX4_back 49 = .ok (.aload_n 0, 1) := by decide +kernel
theorem dX4_back_50 : decode cX4_back 50 = .ok (.getfield 220, 3) := by decide +kernel
theorem dX4_back_53 : decode cX4_back 53 = .ok (.iaload, 1) := by decide +kernel
theorem dX4_back_54 : decode cX4_back 54 = .ok (.putfield 113, 3) := by decide +kernel
theorem dX4_back_57 : decode cX4_back 57 = .ok (.aload_n 0, 1) := by decide +kernel
theorem dX4_back_58 : decode cX4_back 58 = .ok (.iconst 0, 1) := by decide +kernel
theorem dX4_back_59 : decode cX4_back 59 = .ok (.putfield 154, 3) := by decide +kernel
theorem dX4_back_62 : decode cX4_back 62 = .ok (.aload_n 0, 1) := by decide +kernel
theorem dX4_back_63 : decode cX4_back 63 = .ok (.invokevirtual 148, 3) := by decide +kernel
theorem dX4_back_66 : decode cX4_back 66 = .ok (.aload_n 0, 1) := by decide +kernel
theorem dX4_back_67 : decode cX4_back 67 = .ok (.getfield 220, 3) := by decide +kernel
theorem dX4_back_70 : decode cX4_back 70 = .ok (.ireturn, 1) := by decide +kernel
theorem dX4_count_0 : decode cX4_count 0 = .ok (.iload_n 1, 1) := by decide +kernel
theorem dX4_count_1 : decode cX4_count 1 = .ok (.tableswitch 105 0 7 #[47, 55, 63, 74, 82, 87, 92, 97], 47) := by decide +kernel
theorem dX4_count_48 : decode cX4_count 48 = .ok (.aload_n 0, 1) := by decide +kernel
theorem dX4_count_49 : decode cX4_count 49 = .ok (.getfield 19, 3) := by decide +kernel
theorem dX4_count_52 : decode cX4_count 52 = .ok (.getfield 93, 3) := by decide +kernel
theorem dX4_count_55 : decode cX4_count 55 = .ok (.ireturn, 1) := by decide +kernel
theorem dX4_count_56 : decode cX4_count 56 = .ok (.aload_n 0, 1) := by decide +kernel
theorem dX4_count_57 : decode cX4_count 57 = .ok (.getfield 19, 3) := by decide +kernel
theorem dX4_count_60 : decode cX4_count 60 = .ok (.getfield 131, 3) := by decide +kernel
theorem dX4_count_63 : decode cX4_count 63 = .ok (.ireturn, 1) := by decide +kernel
theorem dX4_count_64 : decode cX4_count 64 = .ok (.aload_n 0, 1) := by decide +kernel
theorem dX4_count_65 : decode cX4_count 65 = .ok (.getfield 19, 3) := by decide +kernel
theorem dX4_count_68 : decode cX4_count 68 = .ok (.getfield 176, 3) := by decide +kernel
theorem dX4_count_71 : decode cX4_count 71 = .ok (.invokestatic 183, 3) := by decide +kernel
theorem dX4_count_74 : decode cX4_count 74 = .ok (.ireturn, 1) := by decide +kernel
theorem dX4_count_75 : decode cX4_count 75 = .ok (.aload_n 0, 1) := by decide +kernel
theorem dX4_count_76 : decode cX4_count 76 = .ok (.getfield 113, 3) := by decide +kernel
theorem dX4_count_79 : decode cX4_count 79 = .ok (.invokestatic 183, 3) := by decide +kernel
theorem dX4_count_82 : decode cX4_count 82 = .ok (.ireturn, 1) := by decide +kernel
theorem dX4_count_83 : decode cX4_count 83 = .ok (.aload_n 0, 1) := by decide +kernel
theorem dX4_count_84 : decode cX4_count 84 = .ok (.getfield 204, 3) := by decide +kernel
theorem dX4_count_87 : decode cX4_count 87 = .ok (.ireturn, 1) := by decide +kernel
theorem dX4_count_88 : decode cX4_count 88 = .ok (.aload_n 0, 1) := by decide +kernel
theorem dX4_count_89 : decode cX4_count 89 = .ok (.getfield 154, 3) := by decide +kernel
theorem dX4_count_92 : decode cX4_count 92 = .ok (.ireturn, 1) := by decide +kernel
theorem dX4_count_93 : decode cX4_count 93 = .ok (.aload_n 0, 1) := by decide +kernel
theorem dX4_count_94 : decode cX4_count 94 = .ok (.getfield 220, 3) := by decide +kernel
theorem dX4_count_97 : decode cX4_count 97 = .ok (.ireturn, 1) := by decide +kernel
theorem dX4_count_98 : decode cX4_count 98 = .ok (.aload_n 0, 1) := by decide +kernel
theorem dX4_count_99 : decode cX4_count 99 = .ok (.getfield 12, 3) := by decide +kernel
theorem dX4_count_102 : decode cX4_count 102 = .ok (.getfield 87, 3) := by decide +kernel
theorem dX4_count_105 : decode cX4_count 105 = .ok (.ireturn, 1) := by decide +kernel
theorem dX4_count_106 : decode cX4_count 106 = .ok (.iconst (-1), 1) := by decide +kernel
theorem dX4_count_107 : decode cX4_count 107 = .ok (.ireturn, 1) := by decide +kernel
theorem dX4_layText_0 : decode cX4_layText 0 = .ok (.aload_n 0, 1) := by decide +kernel
theorem dX4_layText_1 : decode cX4_layText 1 = .ok (.getfield 12, 3) := by decide +kernel
theorem dX4_layText_4 : decode cX4_layText 4 = .ok (.invokevirtual 90, 3) := by decide +kernel
theorem dX4_layText_7 : decode cX4_layText 7 = .ok (.bipush (-4), 2) := by decide +kernel
theorem dX4_layText_9 : decode cX4_layText 9 = .ok (.if_icmp .ne 16, 3) := by decide +kernel
theorem dX4_layText_12 : decode cX4_layText 12 = .ok (.aload_n 0, 1) := by decide +kernel
theorem dX4_layText_13 : decode cX4_layText 13 = .ok (.getfield 12, 3) := by decide +kernel
theorem dX4_layText_16 : decode cX4_layText 16 = .ok (.getfield 223, 3) := by decide +kernel
theorem dX4_layText_19 : decode cX4_layText 19 = .ok (.invokevirtual 226, 3) := by decide +kernel
theorem dX4_layText_22 : decode cX4_layText 22 = .ok (.ifCond .ne 5, 3) := by decide +kernel
theorem dX4_layText_25 : decode cX4_layText 25 = .ok (.iconst 0, 1) := by decide +kernel
theorem dX4_layText_26 : decode cX4_layText 26 = .ok (.ireturn, 1) := by decide +kernel
theorem dX4_layText_27 : decode cX4_layText 27 = .ok (.aload_n 0, 1) := by decide +kernel
theorem dX4_layText_28 : decode cX4_layText 28 = .ok (.getfield 19, 3) := by decide +kernel
theorem dX4_layText_31 : decode cX4_layText 31 = .ok (.aload_n 0, 1) := by decide +kernel
theorem dX4_layText_32 : decode cX4_layText 32 = .ok (.getfield 12, 3) := by decide +kernel
theorem dX4_layText_35 : decode cX4_layText 35 = .ok (.getfield 223, 3) := by decide +kernel
theorem dX4_layText_38 : decode cX4_layText 38 = .ok (.invokevirtual 229, 3) := by decide +kernel
theorem dX4_layText_41 : decode cX4_layText 41 = .ok (.aload_n 0, 1) := by decide +kernel
theorem dX4_layText_42 : decode cX4_layText 42 = .ok (.getfield 19, 3) := by decide +kernel
theorem dX4_layText_45 : decode cX4_layText 45 = .ok (.aload_n 0, 1) := by decide +kernel
theorem dX4_layText_46 : decode cX4_layText 46 = .ok (.getfield 23, 3) := by decide +kernel
theorem dX4_layText_49 : decode cX4_layText 49 = .ok (.invokevirtual 233, 3) := by decide +kernel
theorem dX4_layText_52 : decode cX4_layText 52 = .ok (.aload_n 0, 1) := by decide +kernel
theorem dX4_layText_53 : decode cX4_layText 53 = .ok (.iconst 0, 1) := by decide +kernel
theorem dX4_layText_54 : decode cX4_layText 54 = .ok (.putfield 113, 3) := by decide +kernel
theorem dX4_layText_57 : decode cX4_layText 57 = .ok (.aload_n 0, 1) := by decide +kernel
theorem dX4_layText_58 : decode cX4_layText 58 = .ok (.iconst 0, 1) := by decide +kernel
theorem dX4_layText_59 : decode cX4_layText 59 = .ok (.putfield 204, 3) := by decide +kernel
theorem dX4_layText_62 : decode cX4_layText 62 = .ok (.aload_n 0, 1) := by decide +kernel
theorem dX4_layText_63 : decode cX4_layText 63 = .ok (.iconst 0, 1) := by decide +kernel
theorem dX4_layText_64 : decode cX4_layText 64 = .ok (.putfield 154, 3) := by decide +kernel
theorem dX4_layText_67 : decode cX4_layText 67 = .ok (.aload_n 0, 1) := by decide +kernel
theorem dX4_layText_68 : decode cX4_layText 68 = .ok (.iconst 0, 1) := by decide +kernel
theorem dX4_layText_69 : decode cX4_layText 69 = .ok (.putfield 220, 3) := by decide +kernel
theorem dX4_layText_72 : decode cX4_layText 72 = .ok (.aload_n 0, 1) := by decide +kernel
theorem dX4_layText_73 : decode cX4_layText 73 = .ok (.invokevirtual 148, 3) := by decide +kernel
theorem dX4_layText_76 : decode cX4_layText 76 = .ok (.iconst 1, 1) := by decide +kernel
theorem dX4_layText_77 : decode cX4_layText 77 = .ok (.ireturn, 1) := by decide +kernel
theorem dX4_settle_0 : decode cX4_settle 0 = .ok (.aload_n 0, 1) := by decide +kernel
theorem dX4_settle_1 : decode cX4_settle 1 = .ok (.getfield 30, 3) := by decide +kernel
theorem dX4_settle_4 : decode cX4_settle 4 = .ok (.aload_n 0, 1) := by decide +kernel
theorem dX4_settle_5 : decode cX4_settle 5 = .ok (.getfield 19, 3) := by decide +kernel
theorem dX4_settle_8 : decode cX4_settle 8 = .ok (.aload_n 0, 1) := by decide +kernel
theorem dX4_settle_9 : decode cX4_settle 9 = .ok (.getfield 23, 3) := by decide +kernel
theorem dX4_settle_12 : decode cX4_settle 12 = .ok (.aload_n 0, 1) := by decide +kernel
theorem dX4_settle_13 : decode cX4_settle 13 = .ok (.getfield 19, 3) := by decide +kernel
theorem dX4_settle_16 : decode cX4_settle 16 = .ok (.getfield 176, 3) := by decide +kernel
theorem dX4_settle_19 : decode cX4_settle 19 = .ok (.aload_n 0, 1) := by decide +kernel
theorem dX4_settle_20 : decode cX4_settle 20 = .ok (.getfield 113, 3) := by decide +kernel
theorem dX4_settle_23 : decode cX4_settle 23 = .ok (.bipush 127, 2) := by decide +kernel
theorem dX4_settle_25 : decode cX4_settle 25 = .ok (.invokevirtual 179, 3) := by decide +kernel
theorem dX4_settle_28 : decode cX4_settle 28 = .ok (.aload_n 0, 1) := by decide +kernel
theorem dX4_settle_29 : decode cX4_settle 29 = .ok (.getfield 37, 3) := by decide +kernel
theorem dX4_settle_32 : decode cX4_settle 32 = .ok (.iconst 0, 1) := by decide +kernel
theorem dX4_settle_33 : decode cX4_settle 33 = .ok (.putfield 237, 3) := by decide +kernel
theorem dX4_settle_36 : decode cX4_settle 36 = .ok (.return_, 1) := by decide +kernel
theorem dX4_surveyed_0 : decode cX4_surveyed 0 = .ok (.aload_n 0, 1) := by decide +kernel
theorem dX4_surveyed_1 : decode cX4_surveyed 1 = .ok (.getfield 37, 3) := by decide +kernel
theorem dX4_surveyed_4 : decode cX4_surveyed 4 = .ok (.getfield 237, 3) := by decide +kernel
theorem dX4_surveyed_7 : decode cX4_surveyed 7 = .ok (.ifCond .ne 26, 3) := by decide +kernel
theorem dX4_surveyed_10 : decode cX4_surveyed 10 = .ok (.aload_n 0, 1) := by decide +kernel
theorem dX4_surveyed_11 : decode cX4_surveyed 11 = .ok (.getfield 37, 3) := by decide +kernel
theorem dX4_surveyed_14 : decode cX4_surveyed 14 = .ok (.aload_n 0, 1) := by decide +kernel
theorem dX4_surveyed_15 : decode cX4_surveyed 15 = .ok (.getfield 19, 3) := by decide +kernel
theorem dX4_surveyed_18 : decode cX4_surveyed 18 = .ok (.aload_n 0, 1) := by decide +kernel
theorem dX4_surveyed_19 : decode cX4_surveyed 19 = .ok (.getfield 23, 3) := by decide +kernel
theorem dX4_surveyed_22 : decode cX4_surveyed 22 = .ok (.aload_n 0, 1) := by decide +kernel
theorem dX4_surveyed_23 : decode cX4_surveyed 23 = .ok (.getfield 113, 3) := by decide +kernel
theorem dX4_surveyed_26 : decode cX4_surveyed 26 = .ok (.aload_n 0, 1) := by decide +kernel
theorem dX4_surveyed_27 : decode cX4_surveyed 27 = .ok (.getfield 30, 3) := by decide +kernel
theorem dX4_surveyed_30 : decode cX4_surveyed 30 = .ok (.invokevirtual 241, 3) := by decide +kernel
theorem dX4_surveyed_33 : decode cX4_surveyed 33 = .ok (.aload_n 0, 1) := by decide +kernel
theorem dX4_surveyed_34 : decode cX4_surveyed 34 = .ok (.getfield 37, 3) := by decide +kernel
theorem dX4_surveyed_37 : decode cX4_surveyed 37 = .ok (.areturn, 1) := by decide +kernel
theorem dX4_remember_0 : decode cX4_remember 0 = .ok (.aload_n 0, 1) := by decide +kernel
theorem dX4_remember_1 : decode cX4_remember 1 = .ok (.getfield 154, 3) := by decide +kernel
theorem dX4_remember_4 : decode cX4_remember 4 = .ok (.bipush 8, 2) := by decide +kernel
theorem dX4_remember_6 : decode cX4_remember 6 = .ok (.if_icmp .lt 24, 3) := by decide +kernel
theorem dX4_remember_9 : decode cX4_remember 9 = .ok (.aload_n 0, 1) := by decide +kernel
theorem dX4_remember_10 : decode cX4_remember 10 = .ok (.getfield 47, 3) := by decide +kernel
theorem dX4_remember_13 : decode cX4_remember 13 = .ok (.iconst 1, 1) := by decide +kernel
theorem dX4_remember_14 : decode cX4_remember 14 = .ok (.aload_n 0, 1) := by decide +kernel
theorem dX4_remember_15 : decode cX4_remember 15 = .ok (.getfield 47, 3) := by decide +kernel
theorem dX4_remember_18 : decode cX4_remember 18 = .ok (.iconst 0, 1) := by decide +kernel
theorem dX4_remember_19 : decode cX4_remember 19 = .ok (.bipush 7, 2) := by decide +kernel
theorem dX4_remember_21 : decode cX4_remember 21 = .ok (.invokestatic 170, 3) := by decide +kernel
theorem dX4_remember_24 : decode cX4_remember 24 = .ok (.aload_n 0, 1) := by decide +kernel
theorem dX4_remember_25 : decode cX4_remember 25 = .ok (.bipush 7, 2) := by decide +kernel
theorem dX4_remember_27 : decode cX4_remember 27 = .ok (.putfield 154, 3) := by decide +kernel
theorem dX4_remember_30 : decode cX4_remember 30 = .ok (.aload_n 0, 1) := by decide +kernel
theorem dX4_remember_31 : decode cX4_remember 31 = .ok (.getfield 47, 3) := by decide +kernel
theorem dX4_remember_34 : decode cX4_remember 34 = .ok (.aload_n 0, 1) := by decide +kernel
theorem dX4_remember_35 : decode cX4_remember 35 = .ok (.getfield 154, 3) := by decide +kernel
theorem dX4_remember_38 : decode cX4_remember 38 = .ok (.iload_n 1, 1) := by decide +kernel
theorem dX4_remember_39 : decode cX4_remember 39 = .ok (.iastore, 1) := by decide +kernel
theorem dX4_remember_40 : decode cX4_remember 40 = .ok (.aload_n 0, 1) := by decide +kernel
theorem dX4_remember_41 : decode cX4_remember 41 = .ok (.dup, 1) := by decide +kernel
theorem dX4_remember_42 : decode cX4_remember 42 = .ok (.getfield 154, 3) := by decide +kernel
theorem dX4_remember_45 : decode cX4_remember 45 = .ok (.iconst 1, 1) := by decide +kernel
theorem dX4_remember_46 : decode cX4_remember 46 = .ok (.iadd, 1) := by decide +kernel
theorem dX4_remember_47 : decode cX4_remember 47 = .ok (.putfield 154, 3) := by decide +kernel
theorem dX4_remember_50 : decode cX4_remember 50 = .ok (.return_, 1) := by decide +kernel
theorem dX4_isInstrument_0 : decode cX4_isInstrument 0 = .ok (.iload_n 1, 1) := by decide +kernel
theorem dX4_isInstrument_1 : decode cX4_isInstrument 1 = .ok (.ifCond .lt 18, 3) := by decide +kernel
theorem dX4_isInstrument_4 : decode cX4_isInstrument 4 = .ok (.iload_n 1, 1) := by decide +kernel
theorem dX4_isInstrument_5 : decode cX4_isInstrument 5 = .ok (.aload_n 0, 1) := by decide +kernel
theorem dX4_isInstrument_6 : decode cX4_isInstrument 6 = .ok (.getfield 19, 3) := by decide +kernel
theorem dX4_isInstrument_9 : decode cX4_isInstrument 9 = .ok (.getfield 93, 3) := by decide +kernel
theorem dX4_isInstrument_12 : decode cX4_isInstrument 12 = .ok (.if_icmp .ge 7, 3) := by decide +kernel
theorem dX4_isInstrument_15 : decode cX4_isInstrument 15 = .ok (.iconst 1, 1) := by decide +kernel
theorem dX4_isInstrument_16 : decode cX4_isInstrument 16 = .ok (.goto 4, 3) := by decide +kernel
theorem dX4_isInstrument_19 : decode cX4_isInstrument 19 = .ok (.iconst 0, 1) := by decide +kernel
theorem dX4_isInstrument_20 : decode cX4_isInstrument 20 = .ok (.ireturn, 1) := by decide +kernel
theorem dX4_isBar_0 : decode cX4_isBar 0 = .ok (.iload_n 1, 1) := by decide +kernel
theorem dX4_isBar_1 : decode cX4_isBar 1 = .ok (.ifCond .lt 18, 3) := by decide +kernel
theorem dX4_isBar_4 : decode cX4_isBar 4 = .ok (.iload_n 1, 1) := by decide +kernel
theorem dX4_isBar_5 : decode cX4_isBar 5 = .ok (.aload_n 0, 1) := by decide +kernel
theorem dX4_isBar_6 : decode cX4_isBar 6 = .ok (.getfield 19, 3) := by decide +kernel
theorem dX4_isBar_9 : decode cX4_isBar 9 = .ok (.getfield 131, 3) := by decide +kernel
theorem dX4_isBar_12 : decode cX4_isBar 12 = .ok (.if_icmp .ge 7, 3) := by decide +kernel
theorem dX4_isBar_15 : decode cX4_isBar 15 = .ok (.iconst 1, 1) := by decide +kernel
theorem dX4_isBar_16 : decode cX4_isBar 16 = .ok (.goto 4, 3) := by decide +kernel
theorem dX4_isBar_19 : decode cX4_isBar 19 = .ok (.iconst 0, 1) := by decide +kernel
theorem dX4_isBar_20 : decode cX4_isBar 20 = .ok (.ireturn, 1) := by decide +kernel
theorem dX4_seatOf_0 : decode cX4_seatOf 0 = .ok (.iconst 0, 1) := by decide +kernel
theorem dX4_seatOf_1 : decode cX4_seatOf 1 = .ok (.istore_n 2, 1) := by decide +kernel
theorem dX4_seatOf_2 : decode cX4_seatOf 2 = .ok (.iload_n 2, 1) := by decide +kernel
theorem dX4_seatOf_3 : decode cX4_seatOf 3 = .ok (.aload_n 0, 1) := by decide +kernel
theorem dX4_seatOf_4 : decode cX4_seatOf 4 = .ok (.getfield 19, 3) := by decide +kernel
theorem dX4_seatOf_7 : decode cX4_seatOf 7 = .ok (.getfield 93, 3) := by decide +kernel
theorem dX4_seatOf_10 : decode cX4_seatOf 10 = .ok (.iconst 1, 1) := by decide +kernel
theorem dX4_seatOf_11 : decode cX4_seatOf 11 = .ok (.isub, 1) := by decide +kernel
theorem dX4_seatOf_12 : decode cX4_seatOf 12 = .ok (.if_icmp .ge 19, 3) := by decide +kernel
theorem dX4_seatOf_15 : decode cX4_seatOf 15 = .ok (.aload_n 0, 1) := by decide +kernel
theorem dX4_seatOf_16 : decode cX4_seatOf 16 = .ok (.getfield 23, 3) := by decide +kernel
theorem dX4_seatOf_19 : decode cX4_seatOf 19 = .ok (.iload_n 2, 1) := by decide +kernel
theorem dX4_seatOf_20 : decode cX4_seatOf 20 = .ok (.iaload, 1) := by decide +kernel
theorem dX4_seatOf_21 : decode cX4_seatOf 21 = .ok (.iload_n 1, 1) := by decide +kernel
theorem dX4_seatOf_22 : decode cX4_seatOf 22 = .ok (.if_icmp .eq 9, 3) := by decide +kernel
theorem dX4_seatOf_25 : decode cX4_seatOf 25 = .ok (.iinc 2 1, 3) := by decide +kernel
theorem dX4_seatOf_28 : decode cX4_seatOf 28 = .ok (.goto (-26), 3) := by decide +kernel
theorem dX4_seatOf_31 : decode cX4_seatOf 31 = .ok (.iload_n 2, 1) := by decide +kernel
theorem dX4_seatOf_32 : decode cX4_seatOf 32 = .ok (.ireturn, 1) := by decide +kernel
theorem dX4_missingIn_0 : decode cX4_missingIn 0 = .ok (.aload_n 0, 1) := by decide +kernel
theorem dX4_missingIn_1 : decode cX4_missingIn 1 = .ok (.getfield 19, 3) := by decide +kernel
theorem dX4_missingIn_4 : decode cX4_missingIn 4 = .ok (.getfield 122, 3) := by decide +kernel
theorem dX4_missingIn_7 : decode cX4_missingIn 7 = .ok (.iload_n 1, 1) := by decide +kernel
theorem dX4_missingIn_8 : decode cX4_missingIn 8 = .ok (.iaload, 1) := by decide +kernel
theorem dX4_missingIn_9 : decode cX4_missingIn 9 = .ok (.aload_n 0, 1) := by decide +kernel
theorem dX4_missingIn_10 : decode cX4_missingIn 10 = .ok (.getfield 30, 3) := by decide +kernel
theorem dX4_missingIn_13 : decode cX4_missingIn 13 = .ok (.getfield 125, 3) := by decide +kernel
theorem dX4_missingIn_16 : decode cX4_missingIn 16 = .ok (.iload_n 1, 1) := by decide +kernel
theorem dX4_missingIn_17 : decode cX4_missingIn 17 = .ok (.iaload, 1) := by decide +kernel
theorem dX4_missingIn_18 : decode cX4_missingIn 18 = .ok (.iconst (-1), 1) := by decide +kernel
theorem dX4_missingIn_19 : decode cX4_missingIn 19 = .ok (.ixor, 1) := by decide +kernel
theorem dX4_missingIn_20 : decode cX4_missingIn 20 = .ok (.iand, 1) := by decide +kernel
theorem dX4_missingIn_21 : decode cX4_missingIn 21 = .ok (.ireturn, 1) := by decide +kernel
theorem dX4_priceOf_0 : decode cX4_priceOf 0 = .ok (.iconst 0, 1) := by decide +kernel
theorem dX4_priceOf_1 : decode cX4_priceOf 1 = .ok (.istore_n 2, 1) := by decide +kernel
theorem dX4_priceOf_2 : decode cX4_priceOf 2 = .ok (.iconst 0, 1) := by decide +kernel
theorem dX4_priceOf_3 : decode cX4_priceOf 3 = .ok (.istore_n 3, 1) := by decide +kernel
theorem dX4_priceOf_4 : decode cX4_priceOf 4 = .ok (.iload_n 3, 1) := by decide +kernel
theorem dX4_priceOf_5 : decode cX4_priceOf 5 = .ok (.aload_n 0, 1) := by decide +kernel
theorem dX4_priceOf_6 : decode cX4_priceOf 6 = .ok (.getfield 19, 3) := by decide +kernel
theorem dX4_priceOf_9 : decode cX4_priceOf 9 = .ok (.getfield 93, 3) := by decide +kernel
theorem dX4_priceOf_12 : decode cX4_priceOf 12 = .ok (.if_icmp .ge 27, 3) := by decide +kernel
theorem dX4_priceOf_15 : decode cX4_priceOf 15 = .ok (.iload_n 2, 1) := by decide +kernel
theorem dX4_priceOf_16 : decode cX4_priceOf 16 = .ok (.iload_n 1, 1) := by decide +kernel
theorem dX4_priceOf_17 : decode cX4_priceOf 17 = .ok (.iload_n 3, 1) := by decide +kernel
theorem dX4_priceOf_18 : decode cX4_priceOf 18 = .ok (.ishr, 1) := by decide +kernel
theorem dX4_priceOf_19 : decode cX4_priceOf 19 = .ok (.iconst 1, 1) := by decide +kernel
theorem dX4_priceOf_20 : decode cX4_priceOf 20 = .ok (.iand, 1) := by decide +kernel
theorem dX4_priceOf_21 : decode cX4_priceOf 21 = .ok (.aload_n 0, 1) := by decide +kernel
theorem dX4_priceOf_22 : decode cX4_priceOf 22 = .ok (.getfield 19, 3) := by decide +kernel
theorem dX4_priceOf_25 : decode cX4_priceOf 25 = .ok (.getfield 106, 3) := by decide +kernel
theorem dX4_priceOf_28 : decode cX4_priceOf 28 = .ok (.iload_n 3, 1) := by decide +kernel
theorem dX4_priceOf_29 : decode cX4_priceOf 29 = .ok (.iaload, 1) := by decide +kernel
theorem dX4_priceOf_30 : decode cX4_priceOf 30 = .ok (.imul, 1) := by decide +kernel
theorem dX4_priceOf_31 : decode cX4_priceOf 31 = .ok (.iadd, 1) := by decide +kernel
theorem dX4_priceOf_32 : decode cX4_priceOf 32 = .ok (.istore_n 2, 1) := by decide +kernel
theorem dX4_priceOf_33 : decode cX4_priceOf 33 = .ok (.iinc 3 1, 3) := by decide +kernel
theorem dX4_priceOf_36 : decode cX4_priceOf 36 = .ok (.goto (-32), 3) := by decide +kernel
theorem dX4_priceOf_39 : decode cX4_priceOf 39 = .ok (.iload_n 2, 1) := by decide +kernel
theorem dX4_priceOf_40 : decode cX4_priceOf 40 = .ok (.ireturn, 1) := by decide +kernel
theorem dX4_agreesWithHeard_0 : decode cX4_agreesWithHeard 0 = .ok (.iconst 0, 1) := by decide +kernel
theorem dX4_agreesWithHeard_1 : decode cX4_agreesWithHeard 1 = .ok (.istore_n 3, 1) := by decide +kernel
theorem dX4_agreesWithHeard_2 : decode cX4_agreesWithHeard 2 = .ok (.iload_n 3, 1) := by decide +kernel
theorem dX4_agreesWithHeard_3 : decode cX4_agreesWithHeard 3 = .ok (.aload_n 0, 1) := by decide +kernel
theorem dX4_agreesWithHeard_4 : decode cX4_agreesWithHeard 4 = .ok (.getfield 204, 3) := by decide +kernel
theorem dX4_agreesWithHeard_7 : decode cX4_agreesWithHeard 7 = .ok (.if_icmp .ge 45, 3) := by decide +kernel
theorem dX4_agreesWithHeard_10 : decode cX4_agreesWithHeard 10 = .ok (.aload_n 0, 1) := by decide +kernel
theorem dX4_agreesWithHeard_11 : decode cX4_agreesWithHeard 11 = .ok (.getfield 50, 3) := by decide +kernel
theorem dX4_agreesWithHeard_14 : decode cX4_agreesWithHeard 14 = .ok (.iload_n 3, 1) := by decide +kernel
theorem dX4_agreesWithHeard_15 : decode cX4_agreesWithHeard 15 = .ok (.iaload, 1) := by decide +kernel
theorem dX4_agreesWithHeard_16 : decode cX4_agreesWithHeard 16 = .ok (.iload_n 1, 1) := by decide +kernel
theorem dX4_agreesWithHeard_17 : decode cX4_agreesWithHeard 17 = .ok (.if_icmp .ne 29, 3) := by decide +kernel
theorem dX4_agreesWithHeard_20 : decode cX4_agreesWithHeard 20 = .ok (.aload_n 2, 1) := by decide +kernel
theorem dX4_agreesWithHeard_21 : decode cX4_agreesWithHeard 21 = .ok (.getfield 125, 3) := by decide +kernel
theorem dX4_agreesWithHeard_24 : decode cX4_agreesWithHeard 24 = .ok (.aload_n 0, 1) := by decide +kernel
theorem dX4_agreesWithHeard_25 : decode cX4_agreesWithHeard 25 = .ok (.getfield 53, 3) := by decide +kernel
theorem dX4_agreesWithHeard_28 : decode cX4_agreesWithHeard 28 = .ok (.iload_n 3, 1) := by decide +kernel
theorem dX4_agreesWithHeard_29 : decode cX4_agreesWithHeard 29 = .ok (.iaload, 1) := by decide +kernel
theorem dX4_agreesWithHeard_30 : decode cX4_agreesWithHeard 30 = .ok (.iaload, 1) := by decide +kernel
theorem dX4_agreesWithHeard_31 : decode cX4_agreesWithHeard 31 = .ok (.iload_n 1, 1) := by decide +kernel
theorem dX4_agreesWithHeard_32 : decode cX4_agreesWithHeard 32 = .ok (.ishr, 1) := by decide +kernel
theorem dX4_agreesWithHeard_33 : decode cX4_agreesWithHeard 33 = .ok (.iconst 1, 1) := by decide +kernel
theorem dX4_agreesWithHeard_34 : decode cX4_agreesWithHeard 34 = .ok (.iand, 1) := by decide +kernel
theorem dX4_agreesWithHeard_35 : decode cX4_agreesWithHeard 35 = .ok (.aload_n 0, 1) := by decide +kernel
theorem dX4_agreesWithHeard_36 : decode cX4_agreesWithHeard 36 = .ok (.getfield 56, 3) := by decide +kernel
theorem dX4_agreesWithHeard_39 : decode cX4_agreesWithHeard 39 = .ok (.iload_n 3, 1) := by decide +kernel
theorem dX4_agreesWithHeard_40 : decode cX4_agreesWithHeard 40 = .ok (.iaload, 1) := by decide +kernel
theorem dX4_agreesWithHeard_41 : decode cX4_agreesWithHeard 41 = .ok (.if_icmp .eq 5, 3) := by decide +kernel
theorem dX4_agreesWithHeard_44 : decode cX4_agreesWithHeard 44 = .ok (.iconst 0, 1) := by decide +kernel
theorem dX4_agreesWithHeard_45 : decode cX4_agreesWithHeard 45 = .ok (.ireturn, 1) := by decide +kernel
theorem dX4_agreesWithHeard_46 : decode cX4_agreesWithHeard 46 = .ok (.iinc 3 1, 3) := by decide +kernel
theorem dX4_agreesWithHeard_49 : decode cX4_agreesWithHeard 49 = .ok (.goto (-47), 3) := by decide +kernel
theorem dX4_agreesWithHeard_52 : decode cX4_agreesWithHeard 52 = .ok (.iconst 1, 1) := by decide +kernel
theorem dX4_agreesWithHeard_53 : decode cX4_agreesWithHeard 53 = .ok (.ireturn, 1) := by decide +kernel
theorem dX4_draw_0 : decode cX4_draw 0 = .ok (.ldc2_w 245, 3) := by decide +kernel
theorem dX4_draw_3 : decode cX4_draw 3 = .ok (.iload_n 0, 1) := by decide +kernel
theorem dX4_draw_4 : decode cX4_draw 4 = .ok (.i2l, 1) := by decide +kernel
theorem dX4_draw_5 : decode cX4_draw 5 = .ok (.lmul, 1) := by decide +kernel
theorem dX4_draw_6 : decode cX4_draw 6 = .ok (.ldc2_w 247, 3) := by decide +kernel
theorem dX4_draw_9 : decode cX4_draw 9 = .ok (.iload_n 1, 1) := by decide +kernel
theorem dX4_draw_10 : decode cX4_draw 10 = .ok (.i2l, 1) := by decide +kernel
theorem dX4_draw_11 : decode cX4_draw 11 = .ok (.lmul, 1) := by decide +kernel
theorem dX4_draw_12 : decode cX4_draw 12 = .ok (.ladd, 1) := by decide +kernel
theorem dX4_draw_13 : decode cX4_draw 13 = .ok (.lconst 1, 1) := by decide +kernel
theorem dX4_draw_14 : decode cX4_draw 14 = .ok (.ladd, 1) := by decide +kernel
theorem dX4_draw_15 : decode cX4_draw 15 = .ok (.lstore_n 2, 1) := by decide +kernel
theorem dX4_draw_16 : decode cX4_draw 16 = .ok (.lload_n 2, 1) := by decide +kernel
theorem dX4_draw_17 : decode cX4_draw 17 = .ok (.lload_n 2, 1) := by decide +kernel
theorem dX4_draw_18 : decode cX4_draw 18 = .ok (.lmul, 1) := by decide +kernel
theorem dX4_draw_19 : decode cX4_draw 19 = .ok (.ldc2_w 249, 3) := by decide +kernel
theorem dX4_draw_22 : decode cX4_draw 22 = .ok (.lrem, 1) := by decide +kernel
theorem dX4_draw_23 : decode cX4_draw 23 = .ok (.ldc2_w 251, 3) := by decide +kernel
theorem dX4_draw_26 : decode cX4_draw 26 = .ok (.ldiv, 1) := by decide +kernel
theorem dX4_draw_27 : decode cX4_draw 27 = .ok (.l2i, 1) := by decide +kernel
theorem dX4_draw_28 : decode cX4_draw 28 = .ok (.ireturn, 1) := by decide +kernel
theorem dX4_swapSeats_0 : decode cX4_swapSeats 0 = .ok (.aload_n 0, 1) := by decide +kernel
theorem dX4_swapSeats_1 : decode cX4_swapSeats 1 = .ok (.iload_n 1, 1) := by decide +kernel
theorem dX4_swapSeats_2 : decode cX4_swapSeats 2 = .ok (.iaload, 1) := by decide +kernel
theorem dX4_swapSeats_3 : decode cX4_swapSeats 3 = .ok (.istore_n 3, 1) := by decide +kernel
theorem dX4_swapSeats_4 : decode cX4_swapSeats 4 = .ok (.aload_n 0, 1) := by decide +kernel
theorem dX4_swapSeats_5 : decode cX4_swapSeats 5 = .ok (.iload_n 1, 1) := by decide +kernel
theorem dX4_swapSeats_6 : decode cX4_swapSeats 6 = .ok (.aload_n 0, 1) := by decide +kernel
theorem dX4_swapSeats_7 : decode cX4_swapSeats 7 = .ok (.iload_n 2, 1) := by decide +kernel
theorem dX4_swapSeats_8 : decode cX4_swapSeats 8 = .ok (.iaload, 1) := by decide +kernel
theorem dX4_swapSeats_9 : decode cX4_swapSeats 9 = .ok (.iastore, 1) := by decide +kernel
theorem dX4_swapSeats_10 : decode cX4_swapSeats 10 = .ok (.aload_n 0, 1) := by decide +kernel
theorem dX4_swapSeats_11 : decode cX4_swapSeats 11 = .ok (.iload_n 2, 1) := by decide +kernel
theorem dX4_swapSeats_12 : decode cX4_swapSeats 12 = .ok (.iload_n 3, 1) := by decide +kernel
theorem dX4_swapSeats_13 : decode cX4_swapSeats 13 = .ok (.iastore, 1) := by decide +kernel
theorem dX4_swapSeats_14 : decode cX4_swapSeats 14 = .ok (.return_, 1) := by decide +kernel
theorem dX4_inLowestTerms_0 : decode cX4_inLowestTerms 0 = .ok (.iload_n 1, 1) := by decide +kernel
theorem dX4_inLowestTerms_1 : decode cX4_inLowestTerms 1 = .ok (.istore_n 3, 1) := by decide +kernel
theorem dX4_inLowestTerms_2 : decode cX4_inLowestTerms 2 = .ok (.iload_n 0, 1) := by decide +kernel
theorem dX4_inLowestTerms_3 : decode cX4_inLowestTerms 3 = .ok (.istore 4, 2) := by decide +kernel
theorem dX4_inLowestTerms_5 : decode cX4_inLowestTerms 5 = .ok (.iconst 0, 1) := by decide +kernel
theorem dX4_inLowestTerms_6 : decode cX4_inLowestTerms 6 = .ok (.istore 5, 2) := by decide +kernel
theorem dX4_inLowestTerms_8 : decode cX4_inLowestTerms 8 = .ok (.iload 5, 2) := by decide +kernel
theorem dX4_inLowestTerms_10 : decode cX4_inLowestTerms 10 = .ok (.bipush 64, 2) := by decide +kernel
theorem dX4_inLowestTerms_12 : decode cX4_inLowestTerms 12 = .ok (.if_icmp .ge 27, 3) := by decide +kernel
theorem dX4_inLowestTerms_15 : decode cX4_inLowestTerms 15 = .ok (.iload 4, 2) := by decide +kernel
theorem dX4_inLowestTerms_17 : decode cX4_inLowestTerms 17 = .ok (.ifCond .le 22, 3) := by decide +kernel
theorem dX4_inLowestTerms_20 : decode cX4_inLowestTerms 20 = .ok (.iload_n 3, 1) := by decide +kernel
theorem dX4_inLowestTerms_21 : decode cX4_inLowestTerms 21 = .ok (.iload 4, 2) := by decide +kernel
theorem dX4_inLowestTerms_23 : decode cX4_inLowestTerms 23 = .ok (.irem, 1) := by decide +kernel
theorem dX4_inLowestTerms_24 : decode cX4_inLowestTerms 24 = .ok (.istore 6, 2) := by decide +kernel
theorem dX4_inLowestTerms_26 : decode cX4_inLowestTerms 26 = .ok (.iload 4, 2) := by decide +kernel
theorem dX4_inLowestTerms_28 : decode cX4_inLowestTerms 28 = .ok (.istore_n 3, 1) := by decide +kernel
theorem dX4_inLowestTerms_29 : decode cX4_inLowestTerms 29 = .ok (.iload 6, 2) := by decide +kernel
theorem dX4_inLowestTerms_31 : decode cX4_inLowestTerms 31 = .ok (.istore 4, 2) := by decide +kernel
theorem dX4_inLowestTerms_33 : decode cX4_inLowestTerms 33 = .ok (.iinc 5 1, 3) := by decide +kernel
theorem dX4_inLowestTerms_36 : decode cX4_inLowestTerms 36 = .ok (.goto (-28), 3) := by decide +kernel
theorem dX4_inLowestTerms_39 : decode cX4_inLowestTerms 39 = .ok (.iload_n 3, 1) := by decide +kernel
theorem dX4_inLowestTerms_40 : decode cX4_inLowestTerms 40 = .ok (.iconst 1, 1) := by decide +kernel
theorem dX4_inLowestTerms_41 : decode cX4_inLowestTerms 41 = .ok (.if_icmp .ge 7, 3) := by decide +kernel
theorem dX4_inLowestTerms_44 : decode cX4_inLowestTerms 44 = .ok (.iconst 0, 1) := by decide +kernel
theorem dX4_inLowestTerms_45 : decode cX4_inLowestTerms 45 = .ok (.goto 14, 3) := by decide +kernel
theorem dX4_inLowestTerms_48 : decode cX4_inLowestTerms 48 = .ok (.iload_n 2, 1) := by decide +kernel
theorem dX4_inLowestTerms_49 : decode cX4_inLowestTerms 49 = .ok (.ifCond .ne 7, 3) := by decide +kernel
theorem dX4_inLowestTerms_52 : decode cX4_inLowestTerms 52 = .ok (.iload_n 0, 1) := by decide +kernel
theorem dX4_inLowestTerms_53 : decode cX4_inLowestTerms 53 = .ok (.goto 4, 3) := by decide +kernel
theorem dX4_inLowestTerms_56 : decode cX4_inLowestTerms 56 = .ok (.iload_n 1, 1) := by decide +kernel
theorem dX4_inLowestTerms_57 : decode cX4_inLowestTerms 57 = .ok (.iload_n 3, 1) := by decide +kernel
theorem dX4_inLowestTerms_58 : decode cX4_inLowestTerms 58 = .ok (.idiv, 1) := by decide +kernel
theorem dX4_inLowestTerms_59 : decode cX4_inLowestTerms 59 = .ok (.ireturn, 1) := by decide +kernel
theorem dX5_init_0 : decode cX5_init 0 = .ok (.aload_n 0, 1) := by decide +kernel
theorem dX5_init_1 : decode cX5_init 1 = .ok (.invokespecial 1, 3) := by decide +kernel
theorem dX5_init_4 : decode cX5_init 4 = .ok (.aload_n 0, 1) := by decide +kernel
theorem dX5_init_5 : decode cX5_init 5 = .ok (.sipush 200, 3) := by decide +kernel
theorem dX5_init_8 : decode cX5_init 8 = .ok (.newarray .int, 2) := by decide +kernel
theorem dX5_init_10 : decode cX5_init 10 = .ok (.putfield 7, 3) := by decide +kernel
theorem dX5_init_13 : decode cX5_init 13 = .ok (.aload_n 0, 1) := by decide +kernel
theorem dX5_init_14 : decode cX5_init 14 = .ok (.bipush 40, 2) := by decide +kernel
theorem dX5_init_16 : decode cX5_init 16 = .ok (.newarray .int, 2) := by decide +kernel
theorem dX5_init_18 : decode cX5_init 18 = .ok (.putfield 13, 3) := by decide +kernel
theorem dX5_init_21 : decode cX5_init 21 = .ok (.aload_n 0, 1) := by decide +kernel
theorem dX5_init_22 : decode cX5_init 22 = .ok (.bipush 40, 2) := by decide +kernel
theorem dX5_init_24 : decode cX5_init 24 = .ok (.newarray .int, 2) := by decide +kernel
theorem dX5_init_26 : decode cX5_init 26 = .ok (.putfield 16, 3) := by decide +kernel
theorem dX5_init_29 : decode cX5_init 29 = .ok (.aload_n 0, 1) := by decide +kernel
theorem dX5_init_30 : decode cX5_init 30 = .ok (.bipush 8, 2) := by decide +kernel
theorem dX5_init_32 : decode cX5_init 32 = .ok (.newarray .int, 2) := by decide +kernel
theorem dX5_init_34 : decode cX5_init 34 = .ok (.putfield 19, 3) := by decide +kernel
theorem dX5_init_37 : decode cX5_init 37 = .ok (.aload_n 0, 1) := by decide +kernel
theorem dX5_init_38 : decode cX5_init 38 = .ok (.bipush 64, 2) := by decide +kernel
theorem dX5_init_40 : decode cX5_init 40 = .ok (.newarray .int, 2) := by decide +kernel
theorem dX5_init_42 : decode cX5_init 42 = .ok (.putfield 22, 3) := by decide +kernel
theorem dX5_init_45 : decode cX5_init 45 = .ok (.aload_n 0, 1) := by decide +kernel
theorem dX5_init_46 : decode cX5_init 46 = .ok (.bipush 16, 2) := by decide +kernel
theorem dX5_init_48 : decode cX5_init 48 = .ok (.newarray .int, 2) := by decide +kernel
theorem dX5_init_50 : decode cX5_init 50 = .ok (.putfield 25, 3) := by decide +kernel
theorem dX5_init_53 : decode cX5_init 53 = .ok (.aload_n 0, 1) := by decide +kernel
theorem dX5_init_54 : decode cX5_init 54 = .ok (.bipush 8, 2) := by decide +kernel
theorem dX5_init_56 : decode cX5_init 56 = .ok (.newarray .int, 2) := by decide +kernel
theorem dX5_init_58 : decode cX5_init 58 = .ok (.putfield 28, 3) := by decide +kernel
theorem dX5_init_61 : decode cX5_init 61 = .ok (.aload_n 0, 1) := by decide +kernel
theorem dX5_init_62 : decode cX5_init 62 = .ok (.bipush 7, 2) := by decide +kernel
theorem dX5_init_64 : decode cX5_init 64 = .ok (.newarray .int, 2) := by decide +kernel
theorem dX5_init_66 : decode cX5_init 66 = .ok (.putfield 31, 3) := by decide +kernel
theorem dX5_init_69 : decode cX5_init 69 = .ok (.aload_n 0, 1) := by decide +kernel
theorem dX5_init_70 : decode cX5_init 70 = .ok (.bipush 7, 2) := by decide +kernel
theorem dX5_init_72 : decode cX5_init 72 = .ok (.newarray .int, 2) := by decide +kernel
theorem dX5_init_74 : decode cX5_init 74 = .ok (.putfield 34, 3) := by decide +kernel
theorem dX5_init_77 : decode cX5_init 77 = .ok (.aload_n 0, 1) := by decide +kernel
theorem dX5_init_78 : decode cX5_init 78 = .ok (.bipush 7, 2) := by decide +kernel
theorem dX5_init_80 : decode cX5_init 80 = .ok (.newarray .int, 2) := by decide +kernel
theorem dX5_init_82 : decode cX5_init 82 = .ok (.putfield 37, 3) := by decide +kernel
theorem dX5_init_85 : decode cX5_init 85 = .ok (.aload_n 0, 1) := by decide +kernel
theorem dX5_init_86 : decode cX5_init 86 = .ok (.bipush 8, 2) := by decide +kernel
theorem dX5_init_88 : decode cX5_init 88 = .ok (.newarray .int, 2) := by decide +kernel
theorem dX5_init_90 : decode cX5_init 90 = .ok (.putfield 40, 3) := by decide +kernel
theorem dX5_init_93 : decode cX5_init 93 = .ok (.aload_n 0, 1) := by decide +kernel
theorem dX5_init_94 : decode cX5_init 94 = .ok (.bipush 8, 2) := by decide +kernel
theorem dX5_init_96 : decode cX5_init 96 = .ok (.newarray .int, 2) := by decide +kernel
theorem dX5_init_98 : decode cX5_init 98 = .ok (.putfield 43, 3) := by decide +kernel
theorem dX5_init_101 : decode cX5_init 101 = .ok (.aload_n 0, 1) := by decide +kernel
theorem dX5_init_102 : decode cX5_init 102 = .ok (.invokevirtual 46, 3) := by decide +kernel
theorem dX5_init_105 : decode cX5_init 105 = .ok (.aload_n 0, 1) := by decide +kernel
theorem dX5_init_106 : decode cX5_init 106 = .ok (.iconst 0, 1) := by decide +kernel
theorem dX5_init_107 : decode cX5_init 107 = .ok (.iconst 0, 1) := by decide +kernel
theorem dX5_init_108 : decode cX5_init 108 = .ok (.iconst 2, 1) := by decide +kernel
theorem dX5_init_109 : decode cX5_init 109 = .ok (.invokevirtual 49, 3) := by decide +kernel
theorem dX5_init_112 : decode cX5_init 112 = .ok (.aload_n 0, 1) := by decide +kernel
theorem dX5_init_113 : decode cX5_init 113 = .ok (.iconst 1, 1) := by decide +kernel
theorem dX5_init_114 : decode cX5_init 114 = .ok (.iconst 2, 1) := by decide +kernel
theorem dX5_init_115 : decode cX5_init 115 = .ok (.iconst 5, 1) := by decide +kernel
theorem dX5_init_116 : decode cX5_init 116 = .ok (.invokevirtual 49, 3) := by decide +kernel
theorem dX5_init_119 : decode cX5_init 119 = .ok (.aload_n 0, 1) := by decide +kernel
theorem dX5_init_120 : decode cX5_init 120 = .ok (.iconst 2, 1) := by decide +kernel
theorem dX5_init_121 : decode cX5_init 121 = .ok (.iconst 0, 1) := by decide +kernel
theorem dX5_init_122 : decode cX5_init 122 = .ok (.iconst 3, 1) := by decide +kernel
theorem dX5_init_123 : decode cX5_init 123 = .ok (.invokevirtual 49, 3) := by decide +kernel
theorem dX5_init_126 : decode cX5_init 126 = .ok (.aload_n 0, 1) := by decide +kernel
theorem dX5_init_127 : decode cX5_init 127 = .ok (.iconst 3, 1) := by decide +kernel
theorem dX5_init_128 : decode cX5_init 128 = .ok (.iconst 3, 1) := by decide +kernel
theorem dX5_init_129 : decode cX5_init 129 = .ok (.iconst 4, 1) := by decide +kernel
theorem dX5_init_130 : decode cX5_init 130 = .ok (.invokevirtual 49, 3) := by decide +kernel
theorem dX5_init_133 : decode cX5_init 133 = .ok (.aload_n 0, 1) := by decide +kernel
theorem dX5_init_134 : decode cX5_init 134 = .ok (.iconst 1, 1) := by decide +kernel
theorem dX5_init_135 : decode cX5_init 135 = .ok (.iconst 0, 1) := by decide +kernel
theorem dX5_init_136 : decode cX5_init 136 = .ok (.bipush 6, 2) := by decide +kernel
theorem dX5_init_138 : decode cX5_init 138 = .ok (.invokevirtual 49, 3) := by decide +kernel
theorem dX5_init_141 : decode cX5_init 141 = .ok (.aload_n 0, 1) := by decide +kernel
theorem dX5_init_142 : decode cX5_init 142 = .ok (.getfield 16, 3) := by decide +kernel
theorem dX5_init_145 : decode cX5_init 145 = .ok (.bipush 25, 2) := by decide +kernel
theorem dX5_init_147 : decode cX5_init 147 = .ok (.bipush 31, 2) := by decide +kernel
theorem dX5_init_149 : decode cX5_init 149 = .ok (.iastore, 1) := by decide +kernel
theorem dX5_init_150 : decode cX5_init 150 = .ok (.aload_n 0, 1) := by decide +kernel
theorem dX5_init_151 : decode cX5_init 151 = .ok (.getfield 16, 3) := by decide +kernel
theorem dX5_init_154 : decode cX5_init 154 = .ok (.bipush 26, 2) := by decide +kernel
theorem dX5_init_156 : decode cX5_init 156 = .ok (.bipush 21, 2) := by decide +kernel
theorem dX5_init_158 : decode cX5_init 158 = .ok (.iastore, 1) := by decide +kernel
theorem dX5_init_159 : decode cX5_init 159 = .ok (.aload_n 0, 1) := by decide +kernel
theorem dX5_init_160 : decode cX5_init 160 = .ok (.getfield 16, 3) := by decide +kernel
theorem dX5_init_163 : decode cX5_init 163 = .ok (.bipush 27, 2) := by decide +kernel
theorem dX5_init_165 : decode cX5_init 165 = .ok (.bipush 14, 2) := by decide +kernel
theorem dX5_init_167 : decode cX5_init 167 = .ok (.iastore, 1) := by decide +kernel
theorem dX5_init_168 : decode cX5_init 168 = .ok (.aload_n 0, 1) := by decide +kernel
theorem dX5_init_169 : decode cX5_init 169 = .ok (.getfield 16, 3) := by decide +kernel
theorem dX5_init_172 : decode cX5_init 172 = .ok (.bipush 28, 2) := by decide +kernel
theorem dX5_init_174 : decode cX5_init 174 = .ok (.bipush 27, 2) := by decide +kernel
theorem dX5_init_176 : decode cX5_init 176 = .ok (.iastore, 1) := by decide +kernel
theorem dX5_init_177 : decode cX5_init 177 = .ok (.aload_n 0, 1) := by decide +kernel
theorem dX5_init_178 : decode cX5_init 178 = .ok (.getfield 16, 3) := by decide +kernel
theorem dX5_init_181 : decode cX5_init 181 = .ok (.iconst 1, 1) := by decide +kernel
theorem dX5_init_182 : decode cX5_init 182 = .ok (.iconst 4, 1) := by decide +kernel
theorem dX5_init_183 : decode cX5_init 183 = .ok (.iastore, 1) := by decide +kernel
theorem dX5_init_184 : decode cX5_init 184 = .ok (.aload_n 0, 1) := by decide +kernel
theorem dX5_init_185 : decode cX5_init 185 = .ok (.iconst 2, 1) := by decide +kernel
theorem dX5_init_186 : decode cX5_init 186 = .ok (.invokevirtual 53, 3) := by decide +kernel
theorem dX5_init_189 : decode cX5_init 189 = .ok (.aload_n 0, 1) := by decide +kernel
theorem dX5_init_190 : decode cX5_init 190 = .ok (.iconst 0, 1) := by decide +kernel
theorem dX5_init_191 : decode cX5_init 191 = .ok (.invokevirtual 53, 3) := by decide +kernel
theorem dX5_init_194 : decode cX5_init 194 = .ok (.aload_n 0, 1) := by decide +kernel
theorem dX5_init_195 : decode cX5_init 195 = .ok (.getfield 16, 3) := by decide +kernel
theorem dX5_init_198 : decode cX5_init 198 = .ok (.iconst 3, 1) := by decide +kernel
theorem dX5_init_199 : decode cX5_init 199 = .ok (.iconst 4, 1) := by decide +kernel
theorem dX5_init_200 : decode cX5_init 200 = .ok (.iastore, 1) := by decide +kernel
theorem dX5_init_201 : decode cX5_init 201 = .ok (.aload_n 0, 1) := by decide +kernel
theorem dX5_init_202 : decode cX5_init 202 = .ok (.invokevirtual 57, 3) := by decide +kernel
theorem dX5_init_205 : decode cX5_init 205 = .ok (.return_, 1) := by decide +kernel
theorem dX5_in_0 : decode cX5_in 0 = .ok (.iload_n 0, 1) := by decide +kernel
theorem dX5_in_1 : decode cX5_in 1 = .ok (.iload_n 1, 1) := by decide +kernel
theorem dX5_in_2 : decode cX5_in 2 = .ok (.if_icmp .lt 12, 3) := by decide +kernel
theorem dX5_in_5 : decode cX5_in 5 = .ok (.iload_n 0, 1) := by decide +kernel
theorem dX5_in_6 : decode cX5_in 6 = .ok (.iload_n 2, 1) := by decide +kernel
theorem dX5_in_7 : decode cX5_in 7 = .ok (.if_icmp .gt 7, 3) := by decide +kernel
theorem dX5_in_10 : decode cX5_in 10 = .ok (.iconst 1, 1) := by decide +kernel
theorem dX5_in_11 : decode cX5_in 11 = .ok (.goto 4, 3) := by decide +kernel
theorem dX5_in_14 : decode cX5_in 14 = .ok (.iconst 0, 1) := by decide +kernel
theorem dX5_in_15 : decode cX5_in 15 = .ok (.ireturn, 1) := by decide +kernel
theorem dX5_isOne_0 : decode cX5_isOne 0 = .ok (.iload_n 1, 1) := by decide +kernel
theorem dX5_isOne_1 : decode cX5_isOne 1 = .ok (.iconst 0, 1) := by decide +kernel
theorem dX5_isOne_2 : decode cX5_isOne 2 = .ok (.aload_n 0, 1) := by decide +kernel
theorem dX5_isOne_3 : decode cX5_isOne 3 = .ok (.getfield 13, 3) := by decide +kernel
theorem dX5_isOne_6 : decode cX5_isOne 6 = .ok (.iconst 0, 1) := by decide +kernel
theorem dX5_isOne_7 : decode cX5_isOne 7 = .ok (.iaload, 1) := by decide +kernel
theorem dX5_isOne_8 : decode cX5_isOne 8 = .ok (.iconst 1, 1) := by decide +kernel
theorem dX5_isOne_9 : decode cX5_isOne 9 = .ok (.isub, 1) := by decide +kernel
theorem dX5_isOne_10 : decode cX5_isOne 10 = .ok (.invokestatic 60, 3) := by decide +kernel
theorem dX5_isOne_13 : decode cX5_isOne 13 = .ok (.ireturn, 1) := by decide +kernel
theorem dX5_isBar_0 : decode cX5_isBar 0 = .ok (.iload_n 1, 1) := by decide +kernel
theorem dX5_isBar_1 : decode cX5_isBar 1 = .ok (.iconst 0, 1) := by decide +kernel
theorem dX5_isBar_2 : decode cX5_isBar 2 = .ok (.aload_n 0, 1) := by decide +kernel
theorem dX5_isBar_3 : decode cX5_isBar 3 = .ok (.getfield 13, 3) := by decide +kernel
theorem dX5_isBar_6 : decode cX5_isBar 6 = .ok (.iconst 1, 1) := by decide +kernel
theorem dX5_isBar_7 : decode cX5_isBar 7 = .ok (.iaload, 1) := by decide +kernel
theorem dX5_isBar_8 : decode cX5_isBar 8 = .ok (.iconst 1, 1) := by decide +kernel
theorem dX5_isBar_9 : decode cX5_isBar 9 = .ok (.isub, 1) := by decide +kernel
theorem dX5_isBar_10 : decode cX5_isBar 10 = .ok (.invokestatic 60, 3) := by decide +kernel
theorem dX5_isBar_13 : decode cX5_isBar 13 = .ok (.ireturn, 1) := by decide +kernel
theorem dX5_ones_0 : decode cX5_ones 0 = .ok (.iconst 0, 1) := by decide +kernel
theorem dX5_ones_1 : decode cX5_ones 1 = .ok (.istore_n 1, 1) := by decide +kernel
theorem dX5_ones_2 : decode cX5_ones 2 = .ok (.iconst 0, 1) := by decide +kernel
theorem dX5_ones_3 : decode cX5_ones 3 = .ok (.istore_n 2, 1) := by decide +kernel
theorem dX5_ones_4 : decode cX5_ones 4 = .ok (.iload_n 2, 1) := by decide +kernel
theorem dX5_ones_5 : decode cX5_ones 5 = .ok (.bipush 8, 2) := by decide +kernel
theorem dX5_ones_7 : decode cX5_ones 7 = .ok (.if_icmp .ge 17, 3) := by decide +kernel
theorem dX5_ones_10 : decode cX5_ones 10 = .ok (.iload_n 1, 1) := by decide +kernel
theorem dX5_ones_11 : decode cX5_ones 11 = .ok (.iload_n 0, 1) := by decide +kernel
theorem dX5_ones_12 : decode cX5_ones 12 = .ok (.iload_n 2, 1) := by decide +kernel
theorem dX5_ones_13 : decode cX5_ones 13 = .ok (.ishr, 1) := by decide +kernel
theorem dX5_ones_14 : decode cX5_ones 14 = .ok (.iconst 1, 1) := by decide +kernel
theorem dX5_ones_15 : decode cX5_ones 15 = .ok (.iand, 1) := by decide +kernel
theorem dX5_ones_16 : decode cX5_ones 16 = .ok (.iadd, 1) := by decide +kernel
theorem dX5_ones_17 : decode cX5_ones 17 = .ok (.istore_n 1, 1) := by decide +kernel
theorem dX5_ones_18 : decode cX5_ones 18 = .ok (.iinc 2 1, 3) := by decide +kernel
theorem dX5_ones_21 : decode cX5_ones 21 = .ok (.goto (-17), 3) := by decide +kernel
theorem dX5_ones_24 : decode cX5_ones 24 = .ok (.iload_n 1, 1) := by decide +kernel
theorem dX5_ones_25 : decode cX5_ones 25 = .ok (.ireturn, 1) := by decide +kernel
theorem dX5_write_0 : decode cX5_write 0 = .ok (.iload_n 1, 1) := by decide +kernel
theorem dX5_write_1 : decode cX5_write 1 = .ok (.bipush 32, 2) := by decide +kernel
theorem dX5_write_3 : decode cX5_write 3 = .ok (.bipush 126, 2) := by decide +kernel
theorem dX5_write_5 : decode cX5_write 5 = .ok (.invokestatic 60, 3) := by decide +kernel
theorem dX5_write_8 : decode cX5_write 8 = .ok (.ifCond .ne 5, 3) := by decide +kernel
theorem dX5_write_11 : decode cX5_write 11 = .ok (.iconst (-1), 1) := by decide +kernel
theorem dX5_write_12 : decode cX5_write 12 = .ok (.ireturn, 1) := by decide +kernel
theorem dX5_write_13 : decode cX5_write 13 = .ok (.aload_n 0, 1) := by decide +kernel
theorem dX5_write_14 : decode cX5_write 14 = .ok (.getfield 64, 3) := by decide +kernel
theorem dX5_write_17 : decode cX5_write 17 = .ok (.sipush 200, 3) := by decide +kernel
theorem dX5_write_20 : decode cX5_write 20 = .ok (.if_icmp .ne 6, 3) := by decide +kernel
theorem dX5_write_23 : decode cX5_write 23 = .ok (.bipush (-3), 2) := by decide +kernel
theorem dX5_write_25 : decode cX5_write 25 = .ok (.ireturn, 1) := by decide +kernel
theorem dX5_write_26 : decode cX5_write 26 = .ok (.aload_n 0, 1) := by decide +kernel
theorem dX5_write_27 : decode cX5_write 27 = .ok (.getfield 7, 3) := by decide +kernel
theorem dX5_write_30 : decode cX5_write 30 = .ok (.aload_n 0, 1) := by decide +kernel
theorem dX5_write_31 : decode cX5_write 31 = .ok (.getfield 64, 3) := by decide +kernel
theorem dX5_write_34 : decode cX5_write 34 = .ok (.iload_n 1, 1) := by decide +kernel
theorem dX5_write_35 : decode cX5_write 35 = .ok (.iastore, 1) := by decide +kernel
theorem dX5_write_36 : decode cX5_write 36 = .ok (.aload_n 0, 1) := by decide +kernel
theorem dX5_write_37 : decode cX5_write 37 = .ok (.dup, 1) := by decide +kernel
theorem dX5_write_38 : decode cX5_write 38 = .ok (.getfield 64, 3) := by decide +kernel
theorem dX5_write_41 : decode cX5_write 41 = .ok (.iconst 1, 1) := by decide +kernel
theorem dX5_write_42 : decode cX5_write 42 = .ok (.iadd, 1) := by decide +kernel
theorem dX5_write_43 : decode cX5_write 43 = .ok (.putfield 64, 3) := by decide +kernel
theorem dX5_write_46 : decode cX5_write 46 = .ok (.aload_n 0, 1) := by decide +kernel
theorem dX5_write_47 : decode cX5_write 47 = .ok (.getfield 64, 3) := by decide +kernel
theorem dX5_write_50 : decode cX5_write 50 = .ok (.ireturn, 1) := by decide +kernel
theorem dX5_wipe_0 : decode cX5_wipe 0 = .ok (.aload_n 0, 1) := by decide +kernel
theorem dX5_wipe_1 : decode cX5_wipe 1 = .ok (.getfield 64, 3) := by decide +kernel
theorem dX5_wipe_4 : decode cX5_wipe 4 = .ok (.istore_n 1, 1) := by decide +kernel
theorem dX5_wipe_5 : decode cX5_wipe 5 = .ok (.aload_n 0, 1) := by decide +kernel
theorem dX5_wipe_6 : decode cX5_wipe 6 = .ok (.iconst 0, 1) := by decide +kernel
theorem dX5_wipe_7 : decode cX5_wipe 7 = .ok (.putfield 64, 3) := by decide +kernel
theorem dX5_wipe_10 : decode cX5_wipe 10 = .ok (.iload_n 1, 1) := by decide +kernel
theorem dX5_wipe_11 : decode cX5_wipe 11 = .ok (.ireturn, 1) := by decide +kernel
theorem dX5_letterAt_0 : decode cX5_letterAt 0 = .ok (.iload_n 1, 1) := by decide +kernel
theorem dX5_letterAt_1 : decode cX5_letterAt 1 = .ok (.aload_n 0, 1) := by decide +kernel
theorem dX5_letterAt_2 : decode cX5_letterAt 2 = .ok (.getfield 64, 3) := by decide +kernel
theorem dX5_letterAt_5 : decode cX5_letterAt 5 = .ok (.if_icmp .ge 12, 3) := by decide +kernel
theorem dX5_letterAt_8 : decode cX5_letterAt 8 = .ok (.aload_n 0, 1) := by decide +kernel
theorem dX5_letterAt_9 : decode cX5_letterAt 9 = .ok (.getfield 7, 3) := by decide +kernel
theorem dX5_letterAt_12 : decode cX5_letterAt 12 = .ok (.iload_n 1, 1) := by decide +kernel
theorem dX5_letterAt_13 : decode cX5_letterAt 13 = .ok (.iaload, 1) := by decide +kernel
theorem dX5_letterAt_14 : decode cX5_letterAt 14 = .ok (.goto 4, 3) := by decide +kernel
theorem dX5_letterAt_17 : decode cX5_letterAt 17 = .ok (.iconst (-1), 1) := by decide +kernel
theorem dX5_letterAt_18 : decode cX5_letterAt 18 = .ok (.ireturn, 1) := by decide +kernel
theorem dX5_isFigure_0 : decode cX5_isFigure 0 = .ok (.iload_n 0, 1) := by decide +kernel
theorem dX5_isFigure_1 : decode cX5_isFigure 1 = .ok (.bipush 48, 2) := by decide +kernel
theorem dX5_isFigure_3 : decode cX5_isFigure 3 = .ok (.bipush 57, 2) := by decide +kernel
theorem dX5_isFigure_5 : decode cX5_isFigure 5 = .ok (.invokestatic 60, 3) := by decide +kernel
theorem dX5_isFigure_8 : decode cX5_isFigure 8 = .ok (.ireturn, 1) := by decide +kernel
theorem dX5_number_0 : decode cX5_number 0 = .ok (.aload_n 0, 1) := by decide +kernel
theorem dX5_number_1 : decode cX5_number 1 = .ok (.aload_n 0, 1) := by decide +kernel
theorem dX5_number_2 : decode cX5_number 2 = .ok (.getfield 68, 3) := by decide +kernel
theorem dX5_number_5 : decode cX5_number 5 = .ok (.invokevirtual 71, 3) := by decide +kernel
theorem dX5_number_8 : decode cX5_number 8 = .ok (.invokestatic 75, 3) := by decide +kernel
theorem dX5_number_11 : decode cX5_number 11 = .ok (.ifCond .ne 5, 3) := by decide +kernel
theorem dX5_number_14 : decode cX5_number 14 = .ok (.iconst (-1), 1) := by decide +kernel
theorem dX5_number_15 : decode cX5_number 15 = .ok (.ireturn, 1) := by decide +kernel
theorem dX5_number_16 : decode cX5_number 16 = .ok (.aload_n 0, 1) := by decide +kernel
theorem dX5_number_17 : decode cX5_number 17 = .ok (.aload_n 0, 1) := by decide +kernel
theorem dX5_number_18 : decode cX5_number 18 = .ok (.getfield 68, 3) := by decide +kernel
theorem dX5_number_21 : decode cX5_number 21 = .ok (.invokevirtual 71, 3) := by decide +kernel
theorem dX5_number_24 : decode cX5_number 24 = .ok (.bipush 48, 2) := by decide +kernel
theorem dX5_number_26 : decode cX5_number 26 = .ok (.isub, 1) := by decide +kernel
theorem dX5_number_27 : decode cX5_number 27 = .ok (.istore_n 3, 1) := by decide +kernel
theorem dX5_number_28 : decode cX5_number 28 = .ok (.aload_n 0, 1) := by decide +kernel
theorem dX5_number_29 : decode cX5_number 29 = .ok (.dup, 1) := by decide +kernel
theorem dX5_number_30 : decode cX5_number 30 = .ok (.getfield 68, 3) := by decide +kernel
theorem dX5_number_33 : decode cX5_number 33 = .ok (.iconst 1, 1) := by decide +kernel
theorem dX5_number_34 : decode cX5_number 34 = .ok (.iadd, 1) := by decide +kernel
theorem dX5_number_35 : decode cX5_number 35 = .ok (.putfield 68, 3) := by decide +kernel
theorem dX5_number_38 : decode cX5_number 38 = .ok (.aload_n 0, 1) := by decide +kernel
theorem dX5_number_39 : decode cX5_number 39 = .ok (.aload_n 0, 1) := by decide +kernel
theorem dX5_number_40 : decode cX5_number 40 = .ok (.getfield 68, 3) := by decide +kernel
theorem dX5_number_43 : decode cX5_number 43 = .ok (.invokevirtual 71, 3) := by decide +kernel
theorem dX5_number_46 : decode cX5_number 46 = .ok (.invokestatic 75, 3) := by decide +kernel
theorem dX5_number_49 : decode cX5_number 49 = .ok (.ifCond .eq 30, 3) := by decide +kernel
theorem dX5_number_52 : decode cX5_number 52 = .ok (.bipush 10, 2) := by decide +kernel
theorem dX5_number_54 : decode cX5_number 54 = .ok (.iload_n 3, 1) := by decide +kernel
theorem dX5_number_55 : decode cX5_number 55 = .ok (.imul, 1) := by decide +kernel
theorem dX5_number_56 : decode cX5_number 56 = .ok (.aload_n 0, 1) := by decide +kernel
theorem dX5_number_57 : decode cX5_number 57 = .ok (.aload_n 0, 1) := by decide +kernel
theorem dX5_number_58 : decode cX5_number 58 = .ok (.getfield 68, 3) := by decide +kernel
theorem dX5_number_61 : decode cX5_number 61 = .ok (.invokevirtual 71, 3) := by decide +kernel
theorem dX5_number_64 : decode cX5_number 64 = .ok (.iadd, 1) := by decide +kernel
theorem dX5_number_65 : decode cX5_number 65 = .ok (.bipush 48, 2) := by decide +kernel
theorem dX5_number_67 : decode cX5_number 67 = .ok (.isub, 1) := by decide +kernel
theorem dX5_number_68 : decode cX5_number 68 = .ok (.istore_n 3, 1) := by decide +kernel
theorem dX5_number_69 : decode cX5_number 69 = .ok (.aload_n 0, 1) := by decide +kernel
theorem dX5_number_70 : decode cX5_number 70 = .ok (.dup, 1) := by decide +kernel
theorem dX5_number_71 : decode cX5_number 71 = .ok (.getfield 68, 3) := by decide +kernel
theorem dX5_number_74 : decode cX5_number 74 = .ok (.iconst 1, 1) := by decide +kernel
theorem dX5_number_75 : decode cX5_number 75 = .ok (.iadd, 1) := by decide +kernel
theorem dX5_number_76 : decode cX5_number 76 = .ok (.putfield 68, 3) := by decide +kernel
theorem dX5_number_79 : decode cX5_number 79 = .ok (.aload_n 0, 1) := by decide +kernel
theorem dX5_number_80 : decode cX5_number 80 = .ok (.aload_n 0, 1) := by decide +kernel
theorem dX5_number_81 : decode cX5_number 81 = .ok (.getfield 68, 3) := by decide +kernel
theorem dX5_number_84 : decode cX5_number 84 = .ok (.invokevirtual 71, 3) := by decide +kernel
theorem dX5_number_87 : decode cX5_number 87 = .ok (.iload_n 2, 1) := by decide +kernel
theorem dX5_number_88 : decode cX5_number 88 = .ok (.if_icmp .ne 12, 3) := by decide +kernel
theorem dX5_number_91 : decode cX5_number 91 = .ok (.iload_n 3, 1) := by decide +kernel
theorem dX5_number_92 : decode cX5_number 92 = .ok (.iload_n 1, 1) := by decide +kernel
theorem dX5_number_93 : decode cX5_number 93 = .ok (.if_icmp .gt 7, 3) := by decide +kernel
theorem dX5_number_96 : decode cX5_number 96 = .ok (.iconst 1, 1) := by decide +kernel
theorem dX5_number_97 : decode cX5_number 97 = .ok (.goto 4, 3) := by decide +kernel
theorem dX5_number_100 : decode cX5_number 100 = .ok (.iconst 0, 1) := by decide +kernel
theorem dX5_number_101 : decode cX5_number 101 = .ok (.istore 4, 2) := by decide +kernel
theorem dX5_number_103 : decode cX5_number 103 = .ok (.aload_n 0, 1) := by decide +kernel
theorem dX5_number_104 : decode cX5_number 104 = .ok (.dup, 1) := by decide +kernel
theorem dX5_number_105 : decode cX5_number 105 = .ok (.getfield 68, 3) := by decide +kernel
theorem dX5_number_108 : decode cX5_number 108 = .ok (.iconst 1, 1) := by decide +kernel
theorem dX5_number_109 : decode cX5_number 109 = .ok (.iadd, 1) := by decide +kernel
theorem dX5_number_110 : decode cX5_number 110 = .ok (.putfield 68, 3) := by decide +kernel
theorem dX5_number_113 : decode cX5_number 113 = .ok (.iload 4, 2) := by decide +kernel
theorem dX5_number_115 : decode cX5_number 115 = .ok (.ifCond .eq 7, 3) := by decide +kernel
theorem dX5_number_118 : decode cX5_number 118 = .ok (.iload_n 3, 1) := by decide +kernel
theorem dX5_number_119 : decode cX5_number 119 = .ok (.goto 4, 3) := by decide +kernel
theorem dX5_number_122 : decode cX5_number 122 = .ok (.iconst (-1), 1) := by decide +kernel
theorem dX5_number_123 : decode cX5_number 123 = .ok (.ireturn, 1) := by decide +kernel
theorem dX5_begins_0 : decode cX5_begins 0 = .ok (.iconst 0, 1) := by decide +kernel
theorem dX5_begins_1 : decode cX5_begins 1 = .ok (.istore_n 1, 1) := by decide +kernel
theorem dX5_begins_2 : decode cX5_begins 2 = .ok (.iload_n 1, 1) := by decide +kernel
theorem dX5_begins_3 : decode cX5_begins 3 = .ok (.bipush 40, 2) := by decide +kernel
theorem dX5_begins_5 : decode cX5_begins 5 = .ok (.if_icmp .ge 16, 3) := by decide +kernel
theorem dX5_begins_8 : decode cX5_begins 8 = .ok (.aload_n 0, 1) := by decide +kernel
theorem dX5_begins_9 : decode cX5_begins 9 = .ok (.getfield 16, 3) := by decide +kernel
theorem dX5_begins_12 : decode cX5_begins 12 = .ok (.iload_n 1, 1) := by decide +kernel
theorem dX5_begins_13 : decode cX5_begins 13 = .ok (.iconst 0, 1) := by decide +kernel
theorem dX5_begins_14 : decode cX5_begins 14 = .ok (.iastore, 1) := by decide +kernel
theorem dX5_begins_15 : decode cX5_begins 15 = .ok (.iinc 1 1, 3) := by decide +kernel
theorem dX5_begins_18 : decode cX5_begins 18 = .ok (.goto (-16), 3) := by decide +kernel
theorem dX5_begins_21 : decode cX5_begins 21 = .ok (.return_, 1) := by decide +kernel
theorem dX5_adds_0 : decode cX5_adds 0 = .ok (.aload_n 0, 1) := by decide +kernel
theorem dX5_adds_1 : decode cX5_adds 1 = .ok (.getfield 16, 3) := by decide +kernel
theorem dX5_adds_4 : decode cX5_adds 4 = .ok (.iconst 0, 1) := by decide +kernel
theorem dX5_adds_5 : decode cX5_adds 5 = .ok (.iaload, 1) := by decide +kernel
theorem dX5_adds_6 : decode cX5_adds 6 = .ok (.istore 4, 2) := by decide +kernel
theorem dX5_adds_8 : decode cX5_adds 8 = .ok (.aload_n 0, 1) := by decide +kernel
theorem dX5_adds_9 : decode cX5_adds 9 = .ok (.getfield 16, 3) := by decide +kernel
theorem dX5_adds_12 : decode cX5_adds 12 = .ok (.iconst 4, 1) := by decide +kernel
theorem dX5_adds_13 : decode cX5_adds 13 = .ok (.iload 4, 2) := by decide +kernel
theorem dX5_adds_15 : decode cX5_adds 15 = .ok (.iadd, 1) := by decide +kernel
theorem dX5_adds_16 : decode cX5_adds 16 = .ok (.iload_n 1, 1) := by decide +kernel
theorem dX5_adds_17 : decode cX5_adds 17 = .ok (.iastore, 1) := by decide +kernel
theorem dX5_adds_18 : decode cX5_adds 18 = .ok (.aload_n 0, 1) := by decide +kernel
theorem dX5_adds_19 : decode cX5_adds 19 = .ok (.getfield 16, 3) := by decide +kernel
theorem dX5_adds_22 : decode cX5_adds 22 = .ok (.bipush 11, 2) := by decide +kernel
theorem dX5_adds_24 : decode cX5_adds 24 = .ok (.iload 4, 2) := by decide +kernel
theorem dX5_adds_26 : decode cX5_adds 26 = .ok (.iadd, 1) := by decide +kernel
theorem dX5_adds_27 : decode cX5_adds 27 = .ok (.iload_n 2, 1) := by decide +kernel
theorem dX5_adds_28 : decode cX5_adds 28 = .ok (.iastore, 1) := by decide +kernel
theorem dX5_adds_29 : decode cX5_adds 29 = .ok (.aload_n 0, 1) := by decide +kernel
theorem dX5_adds_30 : decode cX5_adds 30 = .ok (.getfield 16, 3) := by decide +kernel
theorem dX5_adds_33 : decode cX5_adds 33 = .ok (.bipush 18, 2) := by decide +kernel
theorem dX5_adds_35 : decode cX5_adds 35 = .ok (.iload 4, 2) := by decide +kernel
theorem dX5_adds_37 : decode cX5_adds 37 = .ok (.iadd, 1) := by decide +kernel
theorem dX5_adds_38 : decode cX5_adds 38 = .ok (.iload_n 3, 1) := by decide +kernel
theorem dX5_adds_39 : decode cX5_adds 39 = .ok (.iastore, 1) := by decide +kernel
theorem dX5_adds_40 : decode cX5_adds 40 = .ok (.aload_n 0, 1) := by decide +kernel
theorem dX5_adds_41 : decode cX5_adds 41 = .ok (.getfield 16, 3) := by decide +kernel
theorem dX5_adds_44 : decode cX5_adds 44 = .ok (.iconst 0, 1) := by decide +kernel
theorem dX5_adds_45 : decode cX5_adds 45 = .ok (.dup2, 1) := by decide +kernel
theorem dX5_adds_46 : decode cX5_adds 46 = .ok (.iaload, 1) := by decide +kernel
theorem dX5_adds_47 : decode cX5_adds 47 = .ok (.iconst 1, 1) := by decide +kernel
theorem dX5_adds_48 : decode cX5_adds 48 = .ok (.iadd, 1) := by decide +kernel
theorem dX5_adds_49 : decode cX5_adds 49 = .ok (.iastore, 1) := by decide +kernel
theorem dX5_adds_50 : decode cX5_adds 50 = .ok (.return_, 1) := by decide +kernel
theorem dX5_sits_0 : decode cX5_sits 0 = .ok (.iconst 0, 1) := by decide +kernel
theorem dX5_sits_1 : decode cX5_sits 1 = .ok (.istore_n 2, 1) := by decide +kernel
theorem dX5_sits_2 : decode cX5_sits 2 = .ok (.iconst 0, 1) := by decide +kernel
theorem dX5_sits_3 : decode cX5_sits 3 = .ok (.istore_n 3, 1) := by decide +kernel
theorem dX5_sits_4 : decode cX5_sits 4 = .ok (.iload_n 3, 1) := by decide +kernel
theorem dX5_sits_5 : decode cX5_sits 5 = .ok (.aload_n 0, 1) := by decide +kernel
theorem dX5_sits_6 : decode cX5_sits 6 = .ok (.getfield 16, 3) := by decide +kernel
theorem dX5_sits_9 : decode cX5_sits 9 = .ok (.iconst 2, 1) := by decide +kernel
theorem dX5_sits_10 : decode cX5_sits 10 = .ok (.iaload, 1) := by decide +kernel
theorem dX5_sits_11 : decode cX5_sits 11 = .ok (.if_icmp .ge 32, 3) := by decide +kernel
theorem dX5_sits_14 : decode cX5_sits 14 = .ok (.iload_n 2, 1) := by decide +kernel
theorem dX5_sits_15 : decode cX5_sits 15 = .ok (.ifCond .ne 16, 3) := by decide +kernel
theorem dX5_sits_18 : decode cX5_sits 18 = .ok (.aload_n 0, 1) := by decide +kernel
theorem dX5_sits_19 : decode cX5_sits 19 = .ok (.getfield 16, 3) := by decide +kernel
theorem dX5_sits_22 : decode cX5_sits 22 = .ok (.bipush 33, 2) := by decide +kernel
theorem dX5_sits_24 : decode cX5_sits 24 = .ok (.iload_n 3, 1) := by decide +kernel
theorem dX5_sits_25 : decode cX5_sits 25 = .ok (.iadd, 1) := by decide +kernel
theorem dX5_sits_26 : decode cX5_sits 26 = .ok (.iaload, 1) := by decide +kernel
theorem dX5_sits_27 : decode cX5_sits 27 = .ok (.iload_n 1, 1) := by decide +kernel
theorem dX5_sits_28 : decode cX5_sits 28 = .ok (.if_icmp .ne 7, 3) := by decide +kernel
theorem dX5_sits_31 : decode cX5_sits 31 = .ok (.iconst 1, 1) := by decide +kernel
theorem dX5_sits_32 : decode cX5_sits 32 = .ok (.goto 4, 3) := by decide +kernel
theorem dX5_sits_35 : decode cX5_sits 35 = .ok (.iconst 0, 1) := by decide +kernel
theorem dX5_sits_36 : decode cX5_sits 36 = .ok (.istore_n 2, 1) := by decide +kernel
theorem dX5_sits_37 : decode cX5_sits 37 = .ok (.iinc 3 1, 3) := by decide +kernel
theorem dX5_sits_40 : decode cX5_sits 40 = .ok (.goto (-36), 3) := by decide +kernel
theorem dX5_sits_43 : decode cX5_sits 43 = .ok (.iload_n 2, 1) := by decide +kernel
theorem dX5_sits_44 : decode cX5_sits 44 = .ok (.ifCond .ne 28, 3) := by decide +kernel
theorem dX5_sits_47 : decode cX5_sits 47 = .ok (.aload_n 0, 1) := by decide +kernel
theorem dX5_sits_48 : decode cX5_sits 48 = .ok (.getfield 16, 3) := by decide +kernel
theorem dX5_sits_51 : decode cX5_sits 51 = .ok (.bipush 33, 2) := by decide +kernel
theorem dX5_sits_53 : decode cX5_sits 53 = .ok (.aload_n 0, 1) := by decide +kernel
theorem dX5_sits_54 : decode cX5_sits 54 = .ok (.getfield 16, 3) := by decide +kernel
theorem dX5_sits_57 : decode cX5_sits 57 = .ok (.iconst 2, 1) := by decide +kernel
theorem dX5_sits_58 : decode cX5_sits 58 = .ok (.iaload, 1) := by decide +kernel
theorem dX5_sits_59 : decode cX5_sits 59 = .ok (.iadd, 1) := by decide +kernel
theorem dX5_sits_60 : decode cX5_sits 60 = .ok (.iload_n 1, 1) := by decide +kernel
theorem dX5_sits_61 : decode cX5_sits 61 = .ok (.iastore, 1) := by decide +kernel
theorem dX5_sits_62 : decode cX5_sits 62 = .ok (.aload_n 0, 1) := by decide +kernel
theorem dX5_sits_63 : decode cX5_sits 63 = .ok (.getfield 16, 3) := by decide +kernel
theorem dX5_sits_66 : decode cX5_sits 66 = .ok (.iconst 2, 1) := by decide +kernel
theorem dX5_sits_67 : decode cX5_sits 67 = .ok (.dup2, 1) := by decide +kernel
theorem dX5_sits_68 : decode cX5_sits 68 = .ok (.iaload, 1) := by decide +kernel
theorem dX5_sits_69 : decode cX5_sits 69 = .ok (.iconst 1, 1) := by decide +kernel
theorem dX5_sits_70 : decode cX5_sits 70 = .ok (.iadd, 1) := by decide +kernel
theorem dX5_sits_71 : decode cX5_sits 71 = .ok (.iastore, 1) := by decide +kernel
theorem dX5_sits_72 : decode cX5_sits 72 = .ok (.return_, 1) := by decide +kernel
theorem dX5_readsItem_0 : decode cX5_readsItem 0 = .ok (.iload_n 1, 1) := by decide +kernel
theorem dX5_readsItem_1 : decode cX5_readsItem 1 = .ok (.lookupswitch 245 #[(98, 114), (103, 217), (105, 43), (115, 189)], 43) := by decide +kernel
theorem dX5_readsItem_44 : decode cX5_readsItem 44 = .ok (.aload_n 0, 1) := by decide +kernel
theorem dX5_readsItem_45 : decode cX5_readsItem 45 = .ok (.iconst 3, 1) := by decide +kernel
theorem dX5_readsItem_46 : decode cX5_readsItem 46 = .ok (.bipush 44, 2) := by decide +kernel
theorem dX5_readsItem_48 : decode cX5_readsItem 48 = .ok (.invokevirtual 79, 3) := by decide +kernel
theorem dX5_readsItem_51 : decode cX5_readsItem 51 = .ok (.istore_n 2, 1) := by decide +kernel
theorem dX5_readsItem_52 : decode cX5_readsItem 52 = .ok (.iload_n 2, 1) := by decide +kernel
theorem dX5_readsItem_53 : decode cX5_readsItem 53 = .ok (.ifCond .ge 7, 3) := by decide +kernel
theorem dX5_readsItem_56 : decode cX5_readsItem 56 = .ok (.iconst (-1), 1) := by decide +kernel
theorem dX5_readsItem_57 : decode cX5_readsItem 57 = .ok (.goto 11, 3) := by decide +kernel
theorem dX5_readsItem_60 : decode cX5_readsItem 60 = .ok (.aload_n 0, 1) := by decide +kernel
theorem dX5_readsItem_61 : decode cX5_readsItem 61 = .ok (.bipush 6, 2) := by decide +kernel
theorem dX5_readsItem_63 : decode cX5_readsItem 63 = .ok (.bipush 44, 2) := by decide +kernel
theorem dX5_readsItem_65 : decode cX5_readsItem 65 = .ok (.invokevirtual 79, 3) := by decide +kernel
theorem dX5_readsItem_68 : decode cX5_readsItem 68 = .ok (.istore_n 3, 1) := by decide +kernel
theorem dX5_readsItem_69 : decode cX5_readsItem 69 = .ok (.iload_n 3, 1) := by decide +kernel
theorem dX5_readsItem_70 : decode cX5_readsItem 70 = .ok (.ifCond .ge 7, 3) := by decide +kernel
theorem dX5_readsItem_73 : decode cX5_readsItem 73 = .ok (.iconst (-1), 1) := by decide +kernel
theorem dX5_readsItem_74 : decode cX5_readsItem 74 = .ok (.goto 11, 3) := by decide +kernel
theorem dX5_readsItem_77 : decode cX5_readsItem 77 = .ok (.aload_n 0, 1) := by decide +kernel
theorem dX5_readsItem_78 : decode cX5_readsItem 78 = .ok (.bipush 30, 2) := by decide +kernel
theorem dX5_readsItem_80 : decode cX5_readsItem 80 = .ok (.bipush 59, 2) := by decide +kernel
theorem dX5_readsItem_82 : decode cX5_readsItem 82 = .ok (.invokevirtual 79, 3) := by decide +kernel
theorem dX5_readsItem_85 : decode cX5_readsItem 85 = .ok (.istore 4, 2) := by decide +kernel
theorem dX5_readsItem_87 : decode cX5_readsItem 87 = .ok (.iload 4, 2) := by decide +kernel
theorem dX5_readsItem_89 : decode cX5_readsItem 89 = .ok (.ifCond .lt 14, 3) := by decide +kernel
theorem dX5_readsItem_92 : decode cX5_readsItem 92 = .ok (.aload_n 0, 1) := by decide +kernel
theorem dX5_readsItem_93 : decode cX5_readsItem 93 = .ok (.getfield 16, 3) := by decide +kernel
theorem dX5_readsItem_96 : decode cX5_readsItem 96 = .ok (.iconst 0, 1) := by decide +kernel
theorem dX5_readsItem_97 : decode cX5_readsItem 97 = .ok (.iaload, 1) := by decide +kernel
theorem dX5_readsItem_98 : decode cX5_readsItem 98 = .ok (.bipush 7, 2) := by decide +kernel
theorem dX5_readsItem_100 : decode cX5_readsItem 100 = .ok (.if_icmp .ne 5, 3) := by decide +kernel
theorem dX5_readsItem_103 : decode cX5_readsItem 103 = .ok (.iconst 0, 1) := by decide +kernel
theorem dX5_readsItem_104 : decode cX5_readsItem 104 = .ok (.ireturn, 1) := by decide +kernel
theorem dX5_readsItem_105 : decode cX5_readsItem 105 = .ok (.aload_n 0, 1) := by decide +kernel
theorem dX5_readsItem_106 : decode cX5_readsItem 106 = .ok (.iload_n 2, 1) := by decide +kernel
theorem dX5_readsItem_107 : decode cX5_readsItem 107 = .ok (.iload_n 3, 1) := by decide +kernel
theorem dX5_readsItem_108 : decode cX5_readsItem 108 = .ok (.iload 4, 2) := by decide +kernel
theorem dX5_readsItem_110 : decode cX5_readsItem 110 = .ok (.invokevirtual 49, 3) := by decide +kernel
theorem dX5_readsItem_113 : decode cX5_readsItem 113 = .ok (.iconst 1, 1) := by decide +kernel
theorem dX5_readsItem_114 : decode cX5_readsItem 114 = .ok (.ireturn, 1) := by decide +kernel
theorem dX5_readsItem_115 : decode cX5_readsItem 115 = .ok (.aload_n 0, 1) := by decide +kernel
theorem dX5_readsItem_116 : decode cX5_readsItem 116 = .ok (.bipush 15, 2) := by decide +kernel
theorem dX5_readsItem_118 : decode cX5_readsItem 118 = .ok (.bipush 44, 2) := by decide +kernel
theorem dX5_readsItem_120 : decode cX5_readsItem 120 = .ok (.invokevirtual 79, 3) := by decide +kernel
theorem dX5_readsItem_123 : decode cX5_readsItem 123 = .ok (.istore_n 2, 1) := by decide +kernel
theorem dX5_readsItem_124 : decode cX5_readsItem 124 = .ok (.iload_n 2, 1) := by decide +kernel
theorem dX5_readsItem_125 : decode cX5_readsItem 125 = .ok (.ifCond .ge 7, 3) := by decide +kernel
theorem dX5_readsItem_128 : decode cX5_readsItem 128 = .ok (.iconst (-1), 1) := by decide +kernel
theorem dX5_readsItem_129 : decode cX5_readsItem 129 = .ok (.goto 11, 3) := by decide +kernel
theorem dX5_readsItem_132 : decode cX5_readsItem 132 = .ok (.aload_n 0, 1) := by decide +kernel
theorem dX5_readsItem_133 : decode cX5_readsItem 133 = .ok (.bipush 7, 2) := by decide +kernel
theorem dX5_readsItem_135 : decode cX5_readsItem 135 = .ok (.bipush 59, 2) := by decide +kernel
theorem dX5_readsItem_137 : decode cX5_readsItem 137 = .ok (.invokevirtual 79, 3) := by decide +kernel
theorem dX5_readsItem_140 : decode cX5_readsItem 140 = .ok (.istore_n 3, 1) := by decide +kernel
theorem dX5_readsItem_141 : decode cX5_readsItem 141 = .ok (.iload_n 3, 1) := by decide +kernel
theorem dX5_readsItem_142 : decode cX5_readsItem 142 = .ok (.ifCond .lt 14, 3) := by decide +kernel
theorem dX5_readsItem_145 : decode cX5_readsItem 145 = .ok (.aload_n 0, 1) := by decide +kernel
theorem dX5_readsItem_146 : decode cX5_readsItem 146 = .ok (.getfield 16, 3) := by decide +kernel
theorem dX5_readsItem_149 : decode cX5_readsItem 149 = .ok (.iconst 1, 1) := by decide +kernel
theorem dX5_readsItem_150 : decode cX5_readsItem 150 = .ok (.iaload, 1) := by decide +kernel
theorem dX5_readsItem_151 : decode cX5_readsItem 151 = .ok (.bipush 8, 2) := by decide +kernel
theorem dX5_readsItem_153 : decode cX5_readsItem 153 = .ok (.if_icmp .ne 5, 3) := by decide +kernel
theorem dX5_readsItem_156 : decode cX5_readsItem 156 = .ok (.iconst 0, 1) := by decide +kernel
theorem dX5_readsItem_157 : decode cX5_readsItem 157 = .ok (.ireturn, 1) := by decide +kernel
theorem dX5_readsItem_158 : decode cX5_readsItem 158 = .ok (.aload_n 0, 1) := by decide +kernel
theorem dX5_readsItem_159 : decode cX5_readsItem 159 = .ok (.getfield 16, 3) := by decide +kernel
theorem dX5_readsItem_162 : decode cX5_readsItem 162 = .ok (.bipush 25, 2) := by decide +kernel
theorem dX5_readsItem_164 : decode cX5_readsItem 164 = .ok (.aload_n 0, 1) := by decide +kernel
theorem dX5_readsItem_165 : decode cX5_readsItem 165 = .ok (.getfield 16, 3) := by decide +kernel
theorem dX5_readsItem_168 : decode cX5_readsItem 168 = .ok (.iconst 1, 1) := by decide +kernel
theorem dX5_readsItem_169 : decode cX5_readsItem 169 = .ok (.iaload, 1) := by decide +kernel
theorem dX5_readsItem_170 : decode cX5_readsItem 170 = .ok (.iadd, 1) := by decide +kernel
theorem dX5_readsItem_171 : decode cX5_readsItem 171 = .ok (.iload_n 2, 1) := by decide +kernel
theorem dX5_readsItem_172 : decode cX5_readsItem 172 = .ok (.bipush 16, 2) := by decide +kernel
theorem dX5_readsItem_174 : decode cX5_readsItem 174 = .ok (.iload_n 3, 1) := by decide +kernel
theorem dX5_readsItem_175 : decode cX5_readsItem 175 = .ok (.imul, 1) := by decide +kernel
theorem dX5_readsItem_176 : decode cX5_readsItem 176 = .ok (.iadd, 1) := by decide +kernel
theorem dX5_readsItem_177 : decode cX5_readsItem 177 = .ok (.iastore, 1) := by decide +kernel
theorem dX5_readsItem_178 : decode cX5_readsItem 178 = .ok (.aload_n 0, 1) := by decide +kernel
theorem dX5_readsItem_179 : decode cX5_readsItem 179 = .ok (.getfield 16, 3) := by decide +kernel
theorem dX5_readsItem_182 : decode cX5_readsItem 182 = .ok (.iconst 1, 1) := by decide +kernel
theorem dX5_readsItem_183 : decode cX5_readsItem 183 = .ok (.dup2, 1) := by decide +kernel
theorem dX5_readsItem_184 : decode cX5_readsItem 184 = .ok (.iaload, 1) := by decide +kernel
theorem dX5_readsItem_185 : decode cX5_readsItem 185 = .ok (.iconst 1, 1) := by decide +kernel
theorem dX5_readsItem_186 : decode cX5_readsItem 186 = .ok (.iadd, 1) := by decide +kernel
theorem dX5_readsItem_187 : decode cX5_readsItem 187 = .ok (.iastore, 1) := by decide +kernel
theorem dX5_readsItem_188 : decode cX5_readsItem 188 = .ok (.iconst 1, 1) := by decide +kernel
theorem dX5_readsItem_189 : decode cX5_readsItem 189 = .ok (.ireturn, 1) := by decide +kernel
theorem dX5_readsItem_190 : decode cX5_readsItem 190 = .ok (.aload_n 0, 1) := by decide +kernel
theorem dX5_readsItem_191 : decode cX5_readsItem 191 = .ok (.aload_n 0, 1) := by decide +kernel
theorem dX5_readsItem_192 : decode cX5_readsItem 192 = .ok (.getfield 16, 3) := by decide +kernel
theorem dX5_readsItem_195 : decode cX5_readsItem 195 = .ok (.iconst 0, 1) := by decide +kernel
theorem dX5_readsItem_196 : decode cX5_readsItem 196 = .ok (.iaload, 1) := by decide +kernel
theorem dX5_readsItem_197 : decode cX5_readsItem 197 = .ok (.iconst 1, 1) := by decide +kernel
theorem dX5_readsItem_198 : decode cX5_readsItem 198 = .ok (.isub, 1) := by decide +kernel
theorem dX5_readsItem_199 : decode cX5_readsItem 199 = .ok (.bipush 59, 2) := by decide +kernel
theorem dX5_readsItem_201 : decode cX5_readsItem 201 = .ok (.invokevirtual 79, 3) := by decide +kernel
theorem dX5_readsItem_204 : decode cX5_readsItem 204 = .ok (.istore_n 2, 1) := by decide +kernel
theorem dX5_readsItem_205 : decode cX5_readsItem 205 = .ok (.iload_n 2, 1) := by decide +kernel
theorem dX5_readsItem_206 : decode cX5_readsItem 206 = .ok (.ifCond .ge 5, 3) := by decide +kernel
theorem dX5_readsItem_209 : decode cX5_readsItem 209 = .ok (.iconst 0, 1) := by decide +kernel
theorem dX5_readsItem_210 : decode cX5_readsItem 210 = .ok (.ireturn, 1) := by decide +kernel
theorem dX5_readsItem_211 : decode cX5_readsItem 211 = .ok (.aload_n 0, 1) := by decide +kernel
theorem dX5_readsItem_212 : decode cX5_readsItem 212 = .ok (.iload_n 2, 1) := by decide +kernel
theorem dX5_readsItem_213 : decode cX5_readsItem 213 = .ok (.invokevirtual 53, 3) := by decide +kernel
theorem dX5_readsItem_216 : decode cX5_readsItem 216 = .ok (.iconst 1, 1) := by decide +kernel
theorem dX5_readsItem_217 : decode cX5_readsItem 217 = .ok (.ireturn, 1) := by decide +kernel
theorem dX5_readsItem_218 : decode cX5_readsItem 218 = .ok (.aload_n 0, 1) := by decide +kernel
theorem dX5_readsItem_219 : decode cX5_readsItem 219 = .ok (.iconst 5, 1) := by decide +kernel
theorem dX5_readsItem_220 : decode cX5_readsItem 220 = .ok (.bipush 59, 2) := by decide +kernel
theorem dX5_readsItem_222 : decode cX5_readsItem 222 = .ok (.invokevirtual 79, 3) := by decide +kernel
theorem dX5_readsItem_225 : decode cX5_readsItem 225 = .ok (.istore_n 2, 1) := by decide +kernel
theorem dX5_readsItem_226 : decode cX5_readsItem 226 = .ok (.iload_n 2, 1) := by decide +kernel
theorem dX5_readsItem_227 : decode cX5_readsItem 227 = .ok (.ifCond .ge 5, 3) := by decide +kernel
theorem dX5_readsItem_230 : decode cX5_readsItem 230 = .ok (.iconst 0, 1) := by decide +kernel
theorem dX5_readsItem_231 : decode cX5_readsItem 231 = .ok (.ireturn, 1) := by decide +kernel
theorem dX5_readsItem_232 : decode cX5_readsItem 232 = .ok (.aload_n 0, 1) := by decide +kernel
theorem dX5_readsItem_233 : decode cX5_readsItem 233 = .ok (.getfield 16, 3) := by decide +kernel
theorem dX5_readsItem_236 : decode cX5_readsItem 236 = .ok (.iconst 3, 1) := by decide +kernel
theorem dX5_readsItem_237 : decode cX5_readsItem 237 = .ok (.dup2, 1) := by decide +kernel
theorem dX5_readsItem_238 : decode cX5_readsItem 238 = .ok (.iaload, 1) := by decide +kernel
theorem dX5_readsItem_239 : decode cX5_readsItem 239 = .ok (.iconst 1, 1) := by decide +kernel
theorem dX5_readsItem_240 : decode cX5_readsItem 240 = .ok (.iload_n 2, 1) := by decide +kernel
theorem dX5_readsItem_241 : decode cX5_readsItem 241 = .ok (.ishl, 1) := by decide +kernel
theorem dX5_readsItem_242 : decode cX5_readsItem 242 = .ok (.ior, 1) := by decide +kernel
theorem dX5_readsItem_243 : decode cX5_readsItem 243 = .ok (.iastore, 1) := by decide +kernel
theorem dX5_readsItem_244 : decode cX5_readsItem 244 = .ok (.iconst 1, 1) := by decide +kernel
theorem dX5_readsItem_245 : decode cX5_readsItem 245 = .ok (.ireturn, 1) := by decide +kernel
theorem dX5_readsItem_246 : decode cX5_readsItem 246 = .ok (.iconst 0, 1) := by decide +kernel
theorem dX5_readsItem_247 : decode cX5_readsItem 247 = .ok (.ireturn, 1) := by decide +kernel
theorem dX5_reads_0 : decode cX5_reads 0 = .ok (.aload_n 0, 1) := by decide +kernel
theorem dX5_reads_1 : decode cX5_reads 1 = .ok (.invokevirtual 46, 3) := by decide +kernel
theorem dX5_reads_4 : decode cX5_reads 4 = .ok (.aload_n 0, 1) := by decide +kernel
theorem dX5_reads_5 : decode cX5_reads 5 = .ok (.iconst 0, 1) := by decide +kernel
theorem dX5_reads_6 : decode cX5_reads 6 = .ok (.putfield 68, 3) := by decide +kernel
theorem dX5_reads_9 : decode cX5_reads 9 = .ok (.aload_n 0, 1) := by decide +kernel
theorem dX5_reads_10 : decode cX5_reads 10 = .ok (.getfield 68, 3) := by decide +kernel
theorem dX5_reads_13 : decode cX5_reads 13 = .ok (.aload_n 0, 1) := by decide +kernel
theorem dX5_reads_14 : decode cX5_reads 14 = .ok (.getfield 64, 3) := by decide +kernel
theorem dX5_reads_17 : decode cX5_reads 17 = .ok (.if_icmp .ge 36, 3) := by decide +kernel
theorem dX5_reads_20 : decode cX5_reads 20 = .ok (.aload_n 0, 1) := by decide +kernel
theorem dX5_reads_21 : decode cX5_reads 21 = .ok (.getfield 68, 3) := by decide +kernel
theorem dX5_reads_24 : decode cX5_reads 24 = .ok (.istore_n 1, 1) := by decide +kernel
theorem dX5_reads_25 : decode cX5_reads 25 = .ok (.aload_n 0, 1) := by decide +kernel
theorem dX5_reads_26 : decode cX5_reads 26 = .ok (.dup, 1) := by decide +kernel
theorem dX5_reads_27 : decode cX5_reads 27 = .ok (.getfield 68, 3) := by decide +kernel
theorem dX5_reads_30 : decode cX5_reads 30 = .ok (.iconst 1, 1) := by decide +kernel
theorem dX5_reads_31 : decode cX5_reads 31 = .ok (.iadd, 1) := by decide +kernel
theorem dX5_reads_32 : decode cX5_reads 32 = .ok (.putfield 68, 3) := by decide +kernel
theorem dX5_reads_35 : decode cX5_reads 35 = .ok (.aload_n 0, 1) := by decide +kernel
theorem dX5_reads_36 : decode cX5_reads 36 = .ok (.aload_n 0, 1) := by decide +kernel
theorem dX5_reads_37 : decode cX5_reads 37 = .ok (.getfield 7, 3) := by decide +kernel
theorem dX5_reads_40 : decode cX5_reads 40 = .ok (.iload_n 1, 1) := by decide +kernel
theorem dX5_reads_41 : decode cX5_reads 41 = .ok (.iaload, 1) := by decide +kernel
theorem dX5_reads_42 : decode cX5_reads 42 = .ok (.invokevirtual 83, 3) := by decide +kernel
theorem dX5_reads_45 : decode cX5_reads 45 = .ok (.ifCond .ne 5, 3) := by decide +kernel
theorem dX5_reads_48 : decode cX5_reads 48 = .ok (.iload_n 1, 1) := by decide +kernel
theorem dX5_reads_49 : decode cX5_reads 49 = .ok (.ireturn, 1) := by decide +kernel
theorem dX5_reads_50 : decode cX5_reads 50 = .ok (.goto (-41), 3) := by decide +kernel
theorem dX5_reads_53 : decode cX5_reads 53 = .ok (.bipush (-4), 2) := by decide +kernel
theorem dX5_reads_55 : decode cX5_reads 55 = .ok (.ireturn, 1) := by decide +kernel
theorem dX5_fault_0 : decode cX5_fault 0 = .ok (.aload_n 0, 1) := by decide +kernel
theorem dX5_fault_1 : decode cX5_fault 1 = .ok (.invokevirtual 86, 3) := by decide +kernel
theorem dX5_fault_4 : decode cX5_fault 4 = .ok (.ireturn, 1) := by decide +kernel
theorem dX5_lays_0 : decode cX5_lays 0 = .ok (.iconst 0, 1) := by decide +kernel
theorem dX5_lays_1 : decode cX5_lays 1 = .ok (.istore_n 1, 1) := by decide +kernel
theorem dX5_lays_2 : decode cX5_lays 2 = .ok (.iload_n 1, 1) := by decide +kernel
theorem dX5_lays_3 : decode cX5_lays 3 = .ok (.aload_n 0, 1) := by decide +kernel
theorem dX5_lays_4 : decode cX5_lays 4 = .ok (.getfield 16, 3) := by decide +kernel
theorem dX5_lays_7 : decode cX5_lays 7 = .ok (.iconst 0, 1) := by decide +kernel
theorem dX5_lays_8 : decode cX5_lays 8 = .ok (.iaload, 1) := by decide +kernel
theorem dX5_lays_9 : decode cX5_lays 9 = .ok (.if_icmp .ge 14, 3) := by decide +kernel
theorem dX5_lays_12 : decode cX5_lays 12 = .ok (.aload_n 0, 1) := by decide +kernel
theorem dX5_lays_13 : decode cX5_lays 13 = .ok (.iload_n 1, 1) := by decide +kernel
theorem dX5_lays_14 : decode cX5_lays 14 = .ok (.invokevirtual 53, 3) := by decide +kernel
theorem dX5_lays_17 : decode cX5_lays 17 = .ok (.iinc 1 1, 3) := by decide +kernel
theorem dX5_lays_20 : decode cX5_lays 20 = .ok (.goto (-18), 3) := by decide +kernel
theorem dX5_lays_23 : decode cX5_lays 23 = .ok (.iconst 0, 1) := by decide +kernel
theorem dX5_lays_24 : decode cX5_lays 24 = .ok (.istore_n 1, 1) := by decide +kernel
theorem dX5_lays_25 : decode cX5_lays 25 = .ok (.iload_n 1, 1) := by decide +kernel
theorem dX5_lays_26 : decode cX5_lays 26 = .ok (.bipush 40, 2) := by decide +kernel
theorem dX5_lays_28 : decode cX5_lays 28 = .ok (.if_icmp .ge 21, 3) := by decide +kernel
theorem dX5_lays_31 : decode cX5_lays 31 = .ok (.aload_n 0, 1) := by decide +kernel
theorem dX5_lays_32 : decode cX5_lays 32 = .ok (.getfield 13, 3) := by decide +kernel
theorem dX5_lays_35 : decode cX5_lays 35 = .ok (.iload_n 1, 1) := by decide +kernel
theorem dX5_lays_36 : decode cX5_lays 36 = .ok (.aload_n 0, 1) := by decide +kernel
theorem dX5_lays_37 : decode cX5_lays 37 = .ok (.getfield 16, 3) := by decide +kernel
theorem dX5_lays_40 : decode cX5_lays 40 = .ok (.iload_n 1, 1) := by decide +kernel
theorem dX5_lays_41 : decode cX5_lays 41 = .ok (.iaload, 1) := by decide +kernel
theorem dX5_lays_42 : decode cX5_lays 42 = .ok (.iastore, 1) := by decide +kernel
theorem dX5_lays_43 : decode cX5_lays 43 = .ok (.iinc 1 1, 3) := by decide +kernel
theorem dX5_lays_46 : decode cX5_lays 46 = .ok (.goto (-21), 3) := by decide +kernel
theorem dX5_lays_49 : decode cX5_lays 49 = .ok (.iconst 0, 1) := by decide +kernel
theorem dX5_lays_50 : decode cX5_lays 50 = .ok (.istore_n 1, 1) := by decide +kernel
theorem dX5_lays_51 : decode cX5_lays 51 = .ok (.iload_n 1, 1) := by decide +kernel
theorem dX5_lays_52 : decode cX5_lays 52 = .ok (.bipush 7, 2) := by decide +kernel
theorem dX5_lays_54 : decode cX5_lays 54 = .ok (.if_icmp .ge 24, 3) := by decide +kernel
theorem dX5_lays_57 : decode cX5_lays 57 = .ok (.aload_n 0, 1) := by decide +kernel
theorem dX5_lays_58 : decode cX5_lays 58 = .ok (.getfield 19, 3) := by decide +kernel
theorem dX5_lays_61 : decode cX5_lays 61 = .ok (.iload_n 1, 1) := by decide +kernel
theorem dX5_lays_62 : decode cX5_lays 62 = .ok (.aload_n 0, 1) := by decide +kernel
theorem dX5_lays_63 : decode cX5_lays 63 = .ok (.getfield 13, 3) := by decide +kernel
theorem dX5_lays_66 : decode cX5_lays 66 = .ok (.bipush 33, 2) := by decide +kernel
theorem dX5_lays_68 : decode cX5_lays 68 = .ok (.iload_n 1, 1) := by decide +kernel
theorem dX5_lays_69 : decode cX5_lays 69 = .ok (.iadd, 1) := by decide +kernel
theorem dX5_lays_70 : decode cX5_lays 70 = .ok (.iaload, 1) := by decide +kernel
theorem dX5_lays_71 : decode cX5_lays 71 = .ok (.iastore, 1) := by decide +kernel
theorem dX5_lays_72 : decode cX5_lays 72 = .ok (.iinc 1 1, 3) := by decide +kernel
theorem dX5_lays_75 : decode cX5_lays 75 = .ok (.goto (-24), 3) := by decide +kernel
theorem dX5_lays_78 : decode cX5_lays 78 = .ok (.aload_n 0, 1) := by decide +kernel
theorem dX5_lays_79 : decode cX5_lays 79 = .ok (.getfield 19, 3) := by decide +kernel
theorem dX5_lays_82 : decode cX5_lays 82 = .ok (.bipush 7, 2) := by decide +kernel
theorem dX5_lays_84 : decode cX5_lays 84 = .ok (.iconst 0, 1) := by decide +kernel
theorem dX5_lays_85 : decode cX5_lays 85 = .ok (.iastore, 1) := by decide +kernel
theorem dX5_lays_86 : decode cX5_lays 86 = .ok (.aload_n 0, 1) := by decide +kernel
theorem dX5_lays_87 : decode cX5_lays 87 = .ok (.iconst 0, 1) := by decide +kernel
theorem dX5_lays_88 : decode cX5_lays 88 = .ok (.putfield 90, 3) := by decide +kernel
theorem dX5_lays_91 : decode cX5_lays 91 = .ok (.aload_n 0, 1) := by decide +kernel
theorem dX5_lays_92 : decode cX5_lays 92 = .ok (.iconst 0, 1) := by decide +kernel
theorem dX5_lays_93 : decode cX5_lays 93 = .ok (.putfield 93, 3) := by decide +kernel
theorem dX5_lays_96 : decode cX5_lays 96 = .ok (.aload_n 0, 1) := by decide +kernel
theorem dX5_lays_97 : decode cX5_lays 97 = .ok (.iconst 0, 1) := by decide +kernel
theorem dX5_lays_98 : decode cX5_lays 98 = .ok (.putfield 96, 3) := by decide +kernel
theorem dX5_lays_101 : decode cX5_lays 101 = .ok (.return_, 1) := by decide +kernel
theorem dX5_lay_0 : decode cX5_lay 0 = .ok (.aload_n 0, 1) := by decide +kernel
theorem dX5_lay_1 : decode cX5_lay 1 = .ok (.invokevirtual 86, 3) := by decide +kernel
theorem dX5_lay_4 : decode cX5_lay 4 = .ok (.bipush (-4), 2) := by decide +kernel
theorem dX5_lay_6 : decode cX5_lay 6 = .ok (.if_icmp .ne 16, 3) := by decide +kernel
theorem dX5_lay_9 : decode cX5_lay 9 = .ok (.aload_n 0, 1) := by decide +kernel
theorem dX5_lay_10 : decode cX5_lay 10 = .ok (.getfield 16, 3) := by decide +kernel
theorem dX5_lay_13 : decode cX5_lay 13 = .ok (.iconst 0, 1) := by decide +kernel
theorem dX5_lay_14 : decode cX5_lay 14 = .ok (.iaload, 1) := by decide +kernel
theorem dX5_lay_15 : decode cX5_lay 15 = .ok (.ifCond .le 7, 3) := by decide +kernel
theorem dX5_lay_18 : decode cX5_lay 18 = .ok (.iconst 1, 1) := by decide +kernel
theorem dX5_lay_19 : decode cX5_lay 19 = .ok (.goto 4, 3) := by decide +kernel
theorem dX5_lay_22 : decode cX5_lay 22 = .ok (.iconst 0, 1) := by decide +kernel
theorem dX5_lay_23 : decode cX5_lay 23 = .ok (.istore_n 1, 1) := by decide +kernel
theorem dX5_lay_24 : decode cX5_lay 24 = .ok (.iconst 0, 1) := by decide +kernel
theorem dX5_lay_25 : decode cX5_lay 25 = .ok (.istore_n 2, 1) := by decide +kernel
theorem dX5_lay_26 : decode cX5_lay 26 = .ok (.iload_n 2, 1) := by decide +kernel
theorem dX5_lay_27 : decode cX5_lay 27 = .ok (.aload_n 0, 1) := by decide +kernel
theorem dX5_lay_28 : decode cX5_lay 28 = .ok (.getfield 16, 3) := by decide +kernel
theorem dX5_lay_31 : decode cX5_lay 31 = .ok (.iconst 0, 1) := by decide +kernel
theorem dX5_lay_32 : decode cX5_lay 32 = .ok (.iaload, 1) := by decide +kernel
theorem dX5_lay_33 : decode cX5_lay 33 = .ok (.if_icmp .ge 37, 3) := by decide +kernel
theorem dX5_lay_36 : decode cX5_lay 36 = .ok (.iload_n 1, 1) := by decide +kernel
theorem dX5_lay_37 : decode cX5_lay 37 = .ok (.ifCond .eq 25, 3) := by decide +kernel
theorem dX5_lay_40 : decode cX5_lay 40 = .ok (.aload_n 0, 1) := by decide +kernel
theorem dX5_lay_41 : decode cX5_lay 41 = .ok (.getfield 16, 3) := by decide +kernel
theorem dX5_lay_44 : decode cX5_lay 44 = .ok (.bipush 11, 2) := by decide +kernel
theorem dX5_lay_46 : decode cX5_lay 46 = .ok (.iload_n 2, 1) := by decide +kernel
theorem dX5_lay_47 : decode cX5_lay 47 = .ok (.iadd, 1) := by decide +kernel
theorem dX5_lay_48 : decode cX5_lay 48 = .ok (.iaload, 1) := by decide +kernel
theorem dX5_lay_49 : decode cX5_lay 49 = .ok (.aload_n 0, 1) := by decide +kernel
theorem dX5_lay_50 : decode cX5_lay 50 = .ok (.getfield 16, 3) := by decide +kernel
theorem dX5_lay_53 : decode cX5_lay 53 = .ok (.iconst 0, 1) := by decide +kernel
theorem dX5_lay_54 : decode cX5_lay 54 = .ok (.iaload, 1) := by decide +kernel
theorem dX5_lay_55 : decode cX5_lay 55 = .ok (.if_icmp .ge 7, 3) := by decide +kernel
theorem dX5_lay_58 : decode cX5_lay 58 = .ok (.iconst 1, 1) := by decide +kernel
theorem dX5_lay_59 : decode cX5_lay 59 = .ok (.goto 4, 3) := by decide +kernel
theorem dX5_lay_62 : decode cX5_lay 62 = .ok (.iconst 0, 1) := by decide +kernel
theorem dX5_lay_63 : decode cX5_lay 63 = .ok (.istore_n 1, 1) := by decide +kernel
theorem dX5_lay_64 : decode cX5_lay 64 = .ok (.iinc 2 1, 3) := by decide +kernel
theorem dX5_lay_67 : decode cX5_lay 67 = .ok (.goto (-41), 3) := by decide +kernel
theorem dX5_lay_70 : decode cX5_lay 70 = .ok (.iconst 0, 1) := by decide +kernel
theorem dX5_lay_71 : decode cX5_lay 71 = .ok (.istore_n 2, 1) := by decide +kernel
theorem dX5_lay_72 : decode cX5_lay 72 = .ok (.iload_n 2, 1) := by decide +kernel
theorem dX5_lay_73 : decode cX5_lay 73 = .ok (.aload_n 0, 1) := by decide +kernel
theorem dX5_lay_74 : decode cX5_lay 74 = .ok (.getfield 16, 3) := by decide +kernel
theorem dX5_lay_77 : decode cX5_lay 77 = .ok (.iconst 1, 1) := by decide +kernel
theorem dX5_lay_78 : decode cX5_lay 78 = .ok (.iaload, 1) := by decide +kernel
theorem dX5_lay_79 : decode cX5_lay 79 = .ok (.if_icmp .ge 39, 3) := by decide +kernel
theorem dX5_lay_82 : decode cX5_lay 82 = .ok (.iload_n 1, 1) := by decide +kernel
theorem dX5_lay_83 : decode cX5_lay 83 = .ok (.ifCond .eq 27, 3) := by decide +kernel
theorem dX5_lay_86 : decode cX5_lay 86 = .ok (.aload_n 0, 1) := by decide +kernel
theorem dX5_lay_87 : decode cX5_lay 87 = .ok (.getfield 16, 3) := by decide +kernel
theorem dX5_lay_90 : decode cX5_lay 90 = .ok (.bipush 25, 2) := by decide +kernel
theorem dX5_lay_92 : decode cX5_lay 92 = .ok (.iload_n 2, 1) := by decide +kernel
theorem dX5_lay_93 : decode cX5_lay 93 = .ok (.iadd, 1) := by decide +kernel
theorem dX5_lay_94 : decode cX5_lay 94 = .ok (.iaload, 1) := by decide +kernel
theorem dX5_lay_95 : decode cX5_lay 95 = .ok (.iconst 1, 1) := by decide +kernel
theorem dX5_lay_96 : decode cX5_lay 96 = .ok (.aload_n 0, 1) := by decide +kernel
theorem dX5_lay_97 : decode cX5_lay 97 = .ok (.getfield 16, 3) := by decide +kernel
theorem dX5_lay_100 : decode cX5_lay 100 = .ok (.iconst 0, 1) := by decide +kernel
theorem dX5_lay_101 : decode cX5_lay 101 = .ok (.iaload, 1) := by decide +kernel
theorem dX5_lay_102 : decode cX5_lay 102 = .ok (.ishl, 1) := by decide +kernel
theorem dX5_lay_103 : decode cX5_lay 103 = .ok (.if_icmp .ge 7, 3) := by decide +kernel
theorem dX5_lay_106 : decode cX5_lay 106 = .ok (.iconst 1, 1) := by decide +kernel
theorem dX5_lay_107 : decode cX5_lay 107 = .ok (.goto 4, 3) := by decide +kernel
theorem dX5_lay_110 : decode cX5_lay 110 = .ok (.iconst 0, 1) := by decide +kernel
theorem dX5_lay_111 : decode cX5_lay 111 = .ok (.istore_n 1, 1) := by decide +kernel
theorem dX5_lay_112 : decode cX5_lay 112 = .ok (.iinc 2 1, 3) := by decide +kernel
theorem dX5_lay_115 : decode cX5_lay 115 = .ok (.goto (-43), 3) := by decide +kernel
theorem dX5_lay_118 : decode cX5_lay 118 = .ok (.iload_n 1, 1) := by decide +kernel
theorem dX5_lay_119 : decode cX5_lay 119 = .ok (.ifCond .ne 6, 3) := by decide +kernel
theorem dX5_lay_122 : decode cX5_lay 122 = .ok (.bipush (-2), 2) := by decide +kernel
theorem dX5_lay_124 : decode cX5_lay 124 = .ok (.ireturn, 1) := by decide +kernel
theorem dX5_lay_125 : decode cX5_lay 125 = .ok (.aload_n 0, 1) := by decide +kernel
theorem dX5_lay_126 : decode cX5_lay 126 = .ok (.invokevirtual 57, 3) := by decide +kernel
theorem dX5_lay_129 : decode cX5_lay 129 = .ok (.aload_n 0, 1) := by decide +kernel
theorem dX5_lay_130 : decode cX5_lay 130 = .ok (.getfield 13, 3) := by decide +kernel
theorem dX5_lay_133 : decode cX5_lay 133 = .ok (.iconst 0, 1) := by decide +kernel
theorem dX5_lay_134 : decode cX5_lay 134 = .ok (.iaload, 1) := by decide +kernel
theorem dX5_lay_135 : decode cX5_lay 135 = .ok (.ireturn, 1) := by decide +kernel
theorem dX5_asItIs_0 : decode cX5_asItIs 0 = .ok (.iconst 0, 1) := by decide +kernel
theorem dX5_asItIs_1 : decode cX5_asItIs 1 = .ok (.istore_n 1, 1) := by decide +kernel
theorem dX5_asItIs_2 : decode cX5_asItIs 2 = .ok (.iload_n 1, 1) := by decide +kernel
theorem dX5_asItIs_3 : decode cX5_asItIs 3 = .ok (.bipush 7, 2) := by decide +kernel
theorem dX5_asItIs_5 : decode cX5_asItIs 5 = .ok (.if_icmp .ge 35, 3) := by decide +kernel
theorem dX5_asItIs_8 : decode cX5_asItIs 8 = .ok (.aload_n 0, 1) := by decide +kernel
theorem dX5_asItIs_9 : decode cX5_asItIs 9 = .ok (.getfield 31, 3) := by decide +kernel
theorem dX5_asItIs_12 : decode cX5_asItIs 12 = .ok (.iload_n 1, 1) := by decide +kernel
theorem dX5_asItIs_13 : decode cX5_asItIs 13 = .ok (.aload_n 0, 1) := by decide +kernel
theorem dX5_asItIs_14 : decode cX5_asItIs 14 = .ok (.getfield 19, 3) := by decide +kernel
theorem dX5_asItIs_17 : decode cX5_asItIs 17 = .ok (.iload_n 1, 1) := by decide +kernel
theorem dX5_asItIs_18 : decode cX5_asItIs 18 = .ok (.iaload, 1) := by decide +kernel
theorem dX5_asItIs_19 : decode cX5_asItIs 19 = .ok (.iastore, 1) := by decide +kernel
theorem dX5_asItIs_20 : decode cX5_asItIs 20 = .ok (.aload_n 0, 1) := by decide +kernel
theorem dX5_asItIs_21 : decode cX5_asItIs 21 = .ok (.getfield 37, 3) := by decide +kernel
theorem dX5_asItIs_24 : decode cX5_asItIs 24 = .ok (.iload_n 1, 1) := by decide +kernel
theorem dX5_asItIs_25 : decode cX5_asItIs 25 = .ok (.aload_n 0, 1) := by decide +kernel
theorem dX5_asItIs_26 : decode cX5_asItIs 26 = .ok (.getfield 13, 3) := by decide +kernel
theorem dX5_asItIs_29 : decode cX5_asItIs 29 = .ok (.iconst 4, 1) := by decide +kernel
theorem dX5_asItIs_30 : decode cX5_asItIs 30 = .ok (.iload_n 1, 1) := by decide +kernel
theorem dX5_asItIs_31 : decode cX5_asItIs 31 = .ok (.iadd, 1) := by decide +kernel
theorem dX5_asItIs_32 : decode cX5_asItIs 32 = .ok (.iaload, 1) := by decide +kernel
theorem dX5_asItIs_33 : decode cX5_asItIs 33 = .ok (.iastore, 1) := by decide +kernel
theorem dX5_asItIs_34 : decode cX5_asItIs 34 = .ok (.iinc 1 1, 3) := by decide +kernel
theorem dX5_asItIs_37 : decode cX5_asItIs 37 = .ok (.goto (-35), 3) := by decide +kernel
theorem dX5_asItIs_40 : decode cX5_asItIs 40 = .ok (.aload_n 0, 1) := by decide +kernel
theorem dX5_asItIs_41 : decode cX5_asItIs 41 = .ok (.aload_n 0, 1) := by decide +kernel
theorem dX5_asItIs_42 : decode cX5_asItIs 42 = .ok (.getfield 19, 3) := by decide +kernel
theorem dX5_asItIs_45 : decode cX5_asItIs 45 = .ok (.bipush 7, 2) := by decide +kernel
theorem dX5_asItIs_47 : decode cX5_asItIs 47 = .ok (.iaload, 1) := by decide +kernel
theorem dX5_asItIs_48 : decode cX5_asItIs 48 = .ok (.putfield 99, 3) := by decide +kernel
theorem dX5_asItIs_51 : decode cX5_asItIs 51 = .ok (.aload_n 0, 1) := by decide +kernel
theorem dX5_asItIs_52 : decode cX5_asItIs 52 = .ok (.aload_n 0, 1) := by decide +kernel
theorem dX5_asItIs_53 : decode cX5_asItIs 53 = .ok (.getfield 13, 3) := by decide +kernel
theorem dX5_asItIs_56 : decode cX5_asItIs 56 = .ok (.iconst 3, 1) := by decide +kernel
theorem dX5_asItIs_57 : decode cX5_asItIs 57 = .ok (.iaload, 1) := by decide +kernel
theorem dX5_asItIs_58 : decode cX5_asItIs 58 = .ok (.putfield 102, 3) := by decide +kernel
theorem dX5_asItIs_61 : decode cX5_asItIs 61 = .ok (.aload_n 0, 1) := by decide +kernel
theorem dX5_asItIs_62 : decode cX5_asItIs 62 = .ok (.iconst 0, 1) := by decide +kernel
theorem dX5_asItIs_63 : decode cX5_asItIs 63 = .ok (.putfield 105, 3) := by decide +kernel
theorem dX5_asItIs_66 : decode cX5_asItIs 66 = .ok (.return_, 1) := by decide +kernel
theorem dX5_wants_0 : decode cX5_wants 0 = .ok (.aload_n 0, 1) := by decide +kernel
theorem dX5_wants_1 : decode cX5_wants 1 = .ok (.getfield 99, 3) := by decide +kernel
theorem dX5_wants_4 : decode cX5_wants 4 = .ok (.iload_n 1, 1) := by decide +kernel
theorem dX5_wants_5 : decode cX5_wants 5 = .ok (.ishr, 1) := by decide +kernel
theorem dX5_wants_6 : decode cX5_wants 6 = .ok (.iconst 1, 1) := by decide +kernel
theorem dX5_wants_7 : decode cX5_wants 7 = .ok (.iand, 1) := by decide +kernel
theorem dX5_wants_8 : decode cX5_wants 8 = .ok (.iconst 1, 1) := by decide +kernel
theorem dX5_wants_9 : decode cX5_wants 9 = .ok (.if_icmp .eq 12, 3) := by decide +kernel
theorem dX5_wants_12 : decode cX5_wants 12 = .ok (.aload_n 0, 1) := by decide +kernel
theorem dX5_wants_13 : decode cX5_wants 13 = .ok (.getfield 37, 3) := by decide +kernel
theorem dX5_wants_16 : decode cX5_wants 16 = .ok (.iload_n 1, 1) := by decide +kernel
theorem dX5_wants_17 : decode cX5_wants 17 = .ok (.iaload, 1) := by decide +kernel
theorem dX5_wants_18 : decode cX5_wants 18 = .ok (.ifCond .ne 5, 3) := by decide +kernel
theorem dX5_wants_21 : decode cX5_wants 21 = .ok (.iconst 1, 1) := by decide +kernel
theorem dX5_wants_22 : decode cX5_wants 22 = .ok (.ireturn, 1) := by decide +kernel
theorem dX5_wants_23 : decode cX5_wants 23 = .ok (.aload_n 0, 1) := by decide +kernel
theorem dX5_wants_24 : decode cX5_wants 24 = .ok (.getfield 13, 3) := by decide +kernel
theorem dX5_wants_27 : decode cX5_wants 27 = .ok (.bipush 11, 2) := by decide +kernel
theorem dX5_wants_29 : decode cX5_wants 29 = .ok (.iload_n 1, 1) := by decide +kernel
theorem dX5_wants_30 : decode cX5_wants 30 = .ok (.iadd, 1) := by decide +kernel
theorem dX5_wants_31 : decode cX5_wants 31 = .ok (.iaload, 1) := by decide +kernel
theorem dX5_wants_32 : decode cX5_wants 32 = .ok (.istore 4, 2) := by decide +kernel
theorem dX5_wants_34 : decode cX5_wants 34 = .ok (.aload_n 0, 1) := by decide +kernel
theorem dX5_wants_35 : decode cX5_wants 35 = .ok (.getfield 37, 3) := by decide +kernel
theorem dX5_wants_38 : decode cX5_wants 38 = .ok (.iload_n 1, 1) := by decide +kernel
theorem dX5_wants_39 : decode cX5_wants 39 = .ok (.iaload, 1) := by decide +kernel
theorem dX5_wants_40 : decode cX5_wants 40 = .ok (.iconst 1, 1) := by decide +kernel
theorem dX5_wants_41 : decode cX5_wants 41 = .ok (.if_icmp .ne 23, 3) := by decide +kernel
theorem dX5_wants_44 : decode cX5_wants 44 = .ok (.aload_n 0, 1) := by decide +kernel
theorem dX5_wants_45 : decode cX5_wants 45 = .ok (.getfield 34, 3) := by decide +kernel
theorem dX5_wants_48 : decode cX5_wants 48 = .ok (.iload_n 1, 1) := by decide +kernel
theorem dX5_wants_49 : decode cX5_wants 49 = .ok (.iaload, 1) := by decide +kernel
theorem dX5_wants_50 : decode cX5_wants 50 = .ok (.iload 4, 2) := by decide +kernel
theorem dX5_wants_52 : decode cX5_wants 52 = .ok (.ishr, 1) := by decide +kernel
theorem dX5_wants_53 : decode cX5_wants 53 = .ok (.iconst 1, 1) := by decide +kernel
theorem dX5_wants_54 : decode cX5_wants 54 = .ok (.iand, 1) := by decide +kernel
theorem dX5_wants_55 : decode cX5_wants 55 = .ok (.ifCond .ne 7, 3) := by decide +kernel
theorem dX5_wants_58 : decode cX5_wants 58 = .ok (.iconst 1, 1) := by decide +kernel
theorem dX5_wants_59 : decode cX5_wants 59 = .ok (.goto 4, 3) := by decide +kernel
theorem dX5_wants_62 : decode cX5_wants 62 = .ok (.iconst 0, 1) := by decide +kernel
theorem dX5_wants_63 : decode cX5_wants 63 = .ok (.ireturn, 1) := by decide +kernel
theorem dX5_wants_64 : decode cX5_wants 64 = .ok (.iload_n 2, 1) := by decide +kernel
theorem dX5_wants_65 : decode cX5_wants 65 = .ok (.ifCond .eq 37, 3) := by decide +kernel
theorem dX5_wants_68 : decode cX5_wants 68 = .ok (.aload_n 0, 1) := by decide +kernel
theorem dX5_wants_69 : decode cX5_wants 69 = .ok (.getfield 37, 3) := by decide +kernel
theorem dX5_wants_72 : decode cX5_wants 72 = .ok (.iload_n 1, 1) := by decide +kernel
theorem dX5_wants_73 : decode cX5_wants 73 = .ok (.iaload, 1) := by decide +kernel
theorem dX5_wants_74 : decode cX5_wants 74 = .ok (.iconst 2, 1) := by decide +kernel
theorem dX5_wants_75 : decode cX5_wants 75 = .ok (.if_icmp .ne 16, 3) := by decide +kernel
theorem dX5_wants_78 : decode cX5_wants 78 = .ok (.iload_n 3, 1) := by decide +kernel
theorem dX5_wants_79 : decode cX5_wants 79 = .ok (.iload 4, 2) := by decide +kernel
theorem dX5_wants_81 : decode cX5_wants 81 = .ok (.ishr, 1) := by decide +kernel
theorem dX5_wants_82 : decode cX5_wants 82 = .ok (.iconst 1, 1) := by decide +kernel
theorem dX5_wants_83 : decode cX5_wants 83 = .ok (.iand, 1) := by decide +kernel
theorem dX5_wants_84 : decode cX5_wants 84 = .ok (.iconst 1, 1) := by decide +kernel
theorem dX5_wants_85 : decode cX5_wants 85 = .ok (.if_icmp .ne 21, 3) := by decide +kernel
theorem dX5_wants_88 : decode cX5_wants 88 = .ok (.goto 14, 3) := by decide +kernel
theorem dX5_wants_91 : decode cX5_wants 91 = .ok (.aload_n 0, 1) := by decide +kernel
theorem dX5_wants_92 : decode cX5_wants 92 = .ok (.getfield 34, 3) := by decide +kernel
theorem dX5_wants_95 : decode cX5_wants 95 = .ok (.iload_n 1, 1) := by decide +kernel
theorem dX5_wants_96 : decode cX5_wants 96 = .ok (.iaload, 1) := by decide +kernel
theorem dX5_wants_97 : decode cX5_wants 97 = .ok (.iload_n 3, 1) := by decide +kernel
theorem dX5_wants_98 : decode cX5_wants 98 = .ok (.iand, 1) := by decide +kernel
theorem dX5_wants_99 : decode cX5_wants 99 = .ok (.ifCond .ne 7, 3) := by decide +kernel
theorem dX5_wants_102 : decode cX5_wants 102 = .ok (.iconst 1, 1) := by decide +kernel
theorem dX5_wants_103 : decode cX5_wants 103 = .ok (.goto 4, 3) := by decide +kernel
theorem dX5_wants_106 : decode cX5_wants 106 = .ok (.iconst 0, 1) := by decide +kernel
theorem dX5_wants_107 : decode cX5_wants 107 = .ok (.ireturn, 1) := by decide +kernel
theorem dX5_askedIn_0 : decode cX5_askedIn 0 = .ok (.aload_n 0, 1) := by decide +kernel
theorem dX5_askedIn_1 : decode cX5_askedIn 1 = .ok (.getfield 13, 3) := by decide +kernel
theorem dX5_askedIn_4 : decode cX5_askedIn 4 = .ok (.bipush 25, 2) := by decide +kernel
theorem dX5_askedIn_6 : decode cX5_askedIn 6 = .ok (.iload_n 1, 1) := by decide +kernel
theorem dX5_askedIn_7 : decode cX5_askedIn 7 = .ok (.iadd, 1) := by decide +kernel
theorem dX5_askedIn_8 : decode cX5_askedIn 8 = .ok (.iaload, 1) := by decide +kernel
theorem dX5_askedIn_9 : decode cX5_askedIn 9 = .ok (.aload_n 0, 1) := by decide +kernel
theorem dX5_askedIn_10 : decode cX5_askedIn 10 = .ok (.getfield 105, 3) := by decide +kernel
theorem dX5_askedIn_13 : decode cX5_askedIn 13 = .ok (.iconst (-1), 1) := by decide +kernel
theorem dX5_askedIn_14 : decode cX5_askedIn 14 = .ok (.ixor, 1) := by decide +kernel
theorem dX5_askedIn_15 : decode cX5_askedIn 15 = .ok (.iand, 1) := by decide +kernel
theorem dX5_askedIn_16 : decode cX5_askedIn 16 = .ok (.ireturn, 1) := by decide +kernel
theorem dX5_goes_0 : decode cX5_goes 0 = .ok (.iconst 0, 1) := by decide +kernel
theorem dX5_goes_1 : decode cX5_goes 1 = .ok (.istore_n 1, 1) := by decide +kernel
theorem dX5_goes_2 : decode cX5_goes 2 = .ok (.iload_n 1, 1) := by decide +kernel
theorem dX5_goes_3 : decode cX5_goes 3 = .ok (.aload_n 0, 1) := by decide +kernel
theorem dX5_goes_4 : decode cX5_goes 4 = .ok (.getfield 13, 3) := by decide +kernel
theorem dX5_goes_7 : decode cX5_goes 7 = .ok (.iconst 0, 1) := by decide +kernel
theorem dX5_goes_8 : decode cX5_goes 8 = .ok (.iaload, 1) := by decide +kernel
theorem dX5_goes_9 : decode cX5_goes 9 = .ok (.if_icmp .ge 16, 3) := by decide +kernel
theorem dX5_goes_12 : decode cX5_goes 12 = .ok (.aload_n 0, 1) := by decide +kernel
theorem dX5_goes_13 : decode cX5_goes 13 = .ok (.getfield 34, 3) := by decide +kernel
theorem dX5_goes_16 : decode cX5_goes 16 = .ok (.iload_n 1, 1) := by decide +kernel
theorem dX5_goes_17 : decode cX5_goes 17 = .ok (.iconst 0, 1) := by decide +kernel
theorem dX5_goes_18 : decode cX5_goes 18 = .ok (.iastore, 1) := by decide +kernel
theorem dX5_goes_19 : decode cX5_goes 19 = .ok (.iinc 1 1, 3) := by decide +kernel
theorem dX5_goes_22 : decode cX5_goes 22 = .ok (.goto (-20), 3) := by decide +kernel
theorem dX5_goes_25 : decode cX5_goes 25 = .ok (.iconst 0, 1) := by decide +kernel
theorem dX5_goes_26 : decode cX5_goes 26 = .ok (.istore_n 1, 1) := by decide +kernel
theorem dX5_goes_27 : decode cX5_goes 27 = .ok (.iload_n 1, 1) := by decide +kernel
theorem dX5_goes_28 : decode cX5_goes 28 = .ok (.iconst 1, 1) := by decide +kernel
theorem dX5_goes_29 : decode cX5_goes 29 = .ok (.iadd, 1) := by decide +kernel
theorem dX5_goes_30 : decode cX5_goes 30 = .ok (.aload_n 0, 1) := by decide +kernel
theorem dX5_goes_31 : decode cX5_goes 31 = .ok (.getfield 13, 3) := by decide +kernel
theorem dX5_goes_34 : decode cX5_goes 34 = .ok (.iconst 0, 1) := by decide +kernel
theorem dX5_goes_35 : decode cX5_goes 35 = .ok (.iaload, 1) := by decide +kernel
theorem dX5_goes_36 : decode cX5_goes 36 = .ok (.if_icmp .ge 68, 3) := by decide +kernel
theorem dX5_goes_39 : decode cX5_goes 39 = .ok (.aload_n 0, 1) := by decide +kernel
theorem dX5_goes_40 : decode cX5_goes 40 = .ok (.getfield 102, 3) := by decide +kernel
theorem dX5_goes_43 : decode cX5_goes 43 = .ok (.iload_n 1, 1) := by decide +kernel
theorem dX5_goes_44 : decode cX5_goes 44 = .ok (.ishr, 1) := by decide +kernel
theorem dX5_goes_45 : decode cX5_goes 45 = .ok (.iconst 1, 1) := by decide +kernel
theorem dX5_goes_46 : decode cX5_goes 46 = .ok (.iand, 1) := by decide +kernel
theorem dX5_goes_47 : decode cX5_goes 47 = .ok (.ifCond .ne 51, 3) := by decide +kernel
theorem dX5_goes_50 : decode cX5_goes 50 = .ok (.aload_n 0, 1) := by decide +kernel
theorem dX5_goes_51 : decode cX5_goes 51 = .ok (.getfield 34, 3) := by decide +kernel
theorem dX5_goes_54 : decode cX5_goes 54 = .ok (.aload_n 0, 1) := by decide +kernel
theorem dX5_goes_55 : decode cX5_goes 55 = .ok (.getfield 31, 3) := by decide +kernel
theorem dX5_goes_58 : decode cX5_goes 58 = .ok (.iload_n 1, 1) := by decide +kernel
theorem dX5_goes_59 : decode cX5_goes 59 = .ok (.iaload, 1) := by decide +kernel
theorem dX5_goes_60 : decode cX5_goes 60 = .ok (.dup2, 1) := by decide +kernel
theorem dX5_goes_61 : decode cX5_goes 61 = .ok (.iaload, 1) := by decide +kernel
theorem dX5_goes_62 : decode cX5_goes 62 = .ok (.iconst 1, 1) := by decide +kernel
theorem dX5_goes_63 : decode cX5_goes 63 = .ok (.aload_n 0, 1) := by decide +kernel
theorem dX5_goes_64 : decode cX5_goes 64 = .ok (.getfield 31, 3) := by decide +kernel
theorem dX5_goes_67 : decode cX5_goes 67 = .ok (.iload_n 1, 1) := by decide +kernel
theorem dX5_goes_68 : decode cX5_goes 68 = .ok (.iconst 1, 1) := by decide +kernel
theorem dX5_goes_69 : decode cX5_goes 69 = .ok (.iadd, 1) := by decide +kernel
theorem dX5_goes_70 : decode cX5_goes 70 = .ok (.iaload, 1) := by decide +kernel
theorem dX5_goes_71 : decode cX5_goes 71 = .ok (.ishl, 1) := by decide +kernel
theorem dX5_goes_72 : decode cX5_goes 72 = .ok (.ior, 1) := by decide +kernel
theorem dX5_goes_73 : decode cX5_goes 73 = .ok (.iastore, 1) := by decide +kernel
theorem dX5_goes_74 : decode cX5_goes 74 = .ok (.aload_n 0, 1) := by decide +kernel
theorem dX5_goes_75 : decode cX5_goes 75 = .ok (.getfield 34, 3) := by decide +kernel
theorem dX5_goes_78 : decode cX5_goes 78 = .ok (.aload_n 0, 1) := by decide +kernel
theorem dX5_goes_79 : decode cX5_goes 79 = .ok (.getfield 31, 3) := by decide +kernel
theorem dX5_goes_82 : decode cX5_goes 82 = .ok (.iload_n 1, 1) := by decide +kernel
theorem dX5_goes_83 : decode cX5_goes 83 = .ok (.iconst 1, 1) := by decide +kernel
theorem dX5_goes_84 : decode cX5_goes 84 = .ok (.iadd, 1) := by decide +kernel
theorem dX5_goes_85 : decode cX5_goes 85 = .ok (.iaload, 1) := by decide +kernel
theorem dX5_goes_86 : decode cX5_goes 86 = .ok (.dup2, 1) := by decide +kernel
theorem dX5_goes_87 : decode cX5_goes 87 = .ok (.iaload, 1) := by decide +kernel
theorem dX5_goes_88 : decode cX5_goes 88 = .ok (.iconst 1, 1) := by decide +kernel
theorem dX5_goes_89 : decode cX5_goes 89 = .ok (.aload_n 0, 1) := by decide +kernel
theorem dX5_goes_90 : decode cX5_goes 90 = .ok (.getfield 31, 3) := by decide +kernel
theorem dX5_goes_93 : decode cX5_goes 93 = .ok (.iload_n 1, 1) := by decide +kernel
theorem dX5_goes_94 : decode cX5_goes 94 = .ok (.iaload, 1) := by decide +kernel
theorem dX5_goes_95 : decode cX5_goes 95 = .ok (.ishl, 1) := by decide +kernel
theorem dX5_goes_96 : decode cX5_goes 96 = .ok (.ior, 1) := by decide +kernel
theorem dX5_goes_97 : decode cX5_goes 97 = .ok (.iastore, 1) := by decide +kernel
theorem dX5_goes_98 : decode cX5_goes 98 = .ok (.iinc 1 1, 3) := by decide +kernel
theorem dX5_goes_101 : decode cX5_goes 101 = .ok (.goto (-74), 3) := by decide +kernel
theorem dX5_goes_104 : decode cX5_goes 104 = .ok (.iconst 0, 1) := by decide +kernel
theorem dX5_goes_105 : decode cX5_goes 105 = .ok (.istore_n 1, 1) := by decide +kernel
theorem dX5_goes_106 : decode cX5_goes 106 = .ok (.iconst 0, 1) := by decide +kernel
theorem dX5_goes_107 : decode cX5_goes 107 = .ok (.istore_n 2, 1) := by decide +kernel
theorem dX5_goes_108 : decode cX5_goes 108 = .ok (.aload_n 0, 1) := by decide +kernel
theorem dX5_goes_109 : decode cX5_goes 109 = .ok (.iconst 0, 1) := by decide +kernel
theorem dX5_goes_110 : decode cX5_goes 110 = .ok (.putfield 108, 3) := by decide +kernel
theorem dX5_goes_113 : decode cX5_goes 113 = .ok (.iconst 0, 1) := by decide +kernel
theorem dX5_goes_114 : decode cX5_goes 114 = .ok (.istore_n 3, 1) := by decide +kernel
theorem dX5_goes_115 : decode cX5_goes 115 = .ok (.iload_n 3, 1) := by decide +kernel
theorem dX5_goes_116 : decode cX5_goes 116 = .ok (.aload_n 0, 1) := by decide +kernel
theorem dX5_goes_117 : decode cX5_goes 117 = .ok (.getfield 13, 3) := by decide +kernel
theorem dX5_goes_120 : decode cX5_goes 120 = .ok (.iconst 1, 1) := by decide +kernel
theorem dX5_goes_121 : decode cX5_goes 121 = .ok (.iaload, 1) := by decide +kernel
theorem dX5_goes_122 : decode cX5_goes 122 = .ok (.if_icmp .ge 113, 3) := by decide +kernel
theorem dX5_goes_125 : decode cX5_goes 125 = .ok (.iconst 0, 1) := by decide +kernel
theorem dX5_goes_126 : decode cX5_goes 126 = .ok (.istore 4, 2) := by decide +kernel
theorem dX5_goes_128 : decode cX5_goes 128 = .ok (.iconst 0, 1) := by decide +kernel
theorem dX5_goes_129 : decode cX5_goes 129 = .ok (.istore 5, 2) := by decide +kernel
theorem dX5_goes_131 : decode cX5_goes 131 = .ok (.iload 5, 2) := by decide +kernel
theorem dX5_goes_133 : decode cX5_goes 133 = .ok (.aload_n 0, 1) := by decide +kernel
theorem dX5_goes_134 : decode cX5_goes 134 = .ok (.getfield 13, 3) := by decide +kernel
theorem dX5_goes_137 : decode cX5_goes 137 = .ok (.iconst 0, 1) := by decide +kernel
theorem dX5_goes_138 : decode cX5_goes 138 = .ok (.iaload, 1) := by decide +kernel
theorem dX5_goes_139 : decode cX5_goes 139 = .ok (.if_icmp .ge 47, 3) := by decide +kernel
theorem dX5_goes_142 : decode cX5_goes 142 = .ok (.iload 4, 2) := by decide +kernel
theorem dX5_goes_144 : decode cX5_goes 144 = .ok (.aload_n 0, 1) := by decide +kernel
theorem dX5_goes_145 : decode cX5_goes 145 = .ok (.iload_n 3, 1) := by decide +kernel
theorem dX5_goes_146 : decode cX5_goes 146 = .ok (.invokevirtual 111, 3) := by decide +kernel
theorem dX5_goes_149 : decode cX5_goes 149 = .ok (.iload 5, 2) := by decide +kernel
theorem dX5_goes_151 : decode cX5_goes 151 = .ok (.ishr, 1) := by decide +kernel
theorem dX5_goes_152 : decode cX5_goes 152 = .ok (.iconst 1, 1) := by decide +kernel
theorem dX5_goes_153 : decode cX5_goes 153 = .ok (.iand, 1) := by decide +kernel
theorem dX5_goes_154 : decode cX5_goes 154 = .ok (.iconst 1, 1) := by decide +kernel
theorem dX5_goes_155 : decode cX5_goes 155 = .ok (.if_icmp .ne 21, 3) := by decide +kernel
theorem dX5_goes_158 : decode cX5_goes 158 = .ok (.aload_n 0, 1) := by decide +kernel
theorem dX5_goes_159 : decode cX5_goes 159 = .ok (.iload 5, 2) := by decide +kernel
theorem dX5_goes_161 : decode cX5_goes 161 = .ok (.iload_n 3, 1) := by decide +kernel
theorem dX5_goes_162 : decode cX5_goes 162 = .ok (.iload_n 2, 1) := by decide +kernel
theorem dX5_goes_163 : decode cX5_goes 163 = .ok (.invokevirtual 114, 3) := by decide +kernel
theorem dX5_goes_166 : decode cX5_goes 166 = .ok (.ifCond .eq 10, 3) := by decide +kernel
theorem dX5_goes_169 : decode cX5_goes 169 = .ok (.iconst 1, 1) := by decide +kernel
theorem dX5_goes_170 : decode cX5_goes 170 = .ok (.iload 5, 2) := by decide +kernel
theorem dX5_goes_172 : decode cX5_goes 172 = .ok (.ishl, 1) := by decide +kernel
theorem dX5_goes_173 : decode cX5_goes 173 = .ok (.goto 4, 3) := by decide +kernel
theorem dX5_goes_176 : decode cX5_goes 176 = .ok (.iconst 0, 1) := by decide +kernel
theorem dX5_goes_177 : decode cX5_goes 177 = .ok (.ior, 1) := by decide +kernel
theorem dX5_goes_178 : decode cX5_goes 178 = .ok (.istore 4, 2) := by decide +kernel
theorem dX5_goes_180 : decode cX5_goes 180 = .ok (.iinc 5 1, 3) := by decide +kernel
theorem dX5_goes_183 : decode cX5_goes 183 = .ok (.goto (-52), 3) := by decide +kernel
theorem dX5_goes_186 : decode cX5_goes 186 = .ok (.iload_n 1, 1) := by decide +kernel
theorem dX5_goes_187 : decode cX5_goes 187 = .ok (.iload 4, 2) := by decide +kernel
theorem dX5_goes_189 : decode cX5_goes 189 = .ok (.aload_n 0, 1) := by decide +kernel
theorem dX5_goes_190 : decode cX5_goes 190 = .ok (.iload_n 3, 1) := by decide +kernel
theorem dX5_goes_191 : decode cX5_goes 191 = .ok (.invokevirtual 111, 3) := by decide +kernel
theorem dX5_goes_194 : decode cX5_goes 194 = .ok (.if_icmp .ne 7, 3) := by decide +kernel
theorem dX5_goes_197 : decode cX5_goes 197 = .ok (.iconst 1, 1) := by decide +kernel
theorem dX5_goes_198 : decode cX5_goes 198 = .ok (.goto 4, 3) := by decide +kernel
theorem dX5_goes_201 : decode cX5_goes 201 = .ok (.iconst 0, 1) := by decide +kernel
theorem dX5_goes_202 : decode cX5_goes 202 = .ok (.iadd, 1) := by decide +kernel
theorem dX5_goes_203 : decode cX5_goes 203 = .ok (.istore_n 1, 1) := by decide +kernel
theorem dX5_goes_204 : decode cX5_goes 204 = .ok (.aload_n 0, 1) := by decide +kernel
theorem dX5_goes_205 : decode cX5_goes 205 = .ok (.dup, 1) := by decide +kernel
theorem dX5_goes_206 : decode cX5_goes 206 = .ok (.getfield 108, 3) := by decide +kernel
theorem dX5_goes_209 : decode cX5_goes 209 = .ok (.iload 4, 2) := by decide +kernel
theorem dX5_goes_211 : decode cX5_goes 211 = .ok (.invokestatic 117, 3) := by decide +kernel
theorem dX5_goes_214 : decode cX5_goes 214 = .ok (.iadd, 1) := by decide +kernel
theorem dX5_goes_215 : decode cX5_goes 215 = .ok (.putfield 108, 3) := by decide +kernel
theorem dX5_goes_218 : decode cX5_goes 218 = .ok (.aload_n 0, 1) := by decide +kernel
theorem dX5_goes_219 : decode cX5_goes 219 = .ok (.getfield 40, 3) := by decide +kernel
theorem dX5_goes_222 : decode cX5_goes 222 = .ok (.iload_n 3, 1) := by decide +kernel
theorem dX5_goes_223 : decode cX5_goes 223 = .ok (.iload 4, 2) := by decide +kernel
theorem dX5_goes_225 : decode cX5_goes 225 = .ok (.iastore, 1) := by decide +kernel
theorem dX5_goes_226 : decode cX5_goes 226 = .ok (.iload 4, 2) := by decide +kernel
theorem dX5_goes_228 : decode cX5_goes 228 = .ok (.istore_n 2, 1) := by decide +kernel
theorem dX5_goes_229 : decode cX5_goes 229 = .ok (.iinc 3 1, 3) := by decide +kernel
theorem dX5_goes_232 : decode cX5_goes 232 = .ok (.goto (-117), 3) := by decide +kernel
theorem dX5_goes_235 : decode cX5_goes 235 = .ok (.iload_n 1, 1) := by decide +kernel
theorem dX5_goes_236 : decode cX5_goes 236 = .ok (.ireturn, 1) := by decide +kernel
theorem dX5_seatOf_0 : decode cX5_seatOf 0 = .ok (.iconst 0, 1) := by decide +kernel
theorem dX5_seatOf_1 : decode cX5_seatOf 1 = .ok (.istore_n 2, 1) := by decide +kernel
theorem dX5_seatOf_2 : decode cX5_seatOf 2 = .ok (.iconst 0, 1) := by decide +kernel
theorem dX5_seatOf_3 : decode cX5_seatOf 3 = .ok (.istore_n 3, 1) := by decide +kernel
theorem dX5_seatOf_4 : decode cX5_seatOf 4 = .ok (.iload_n 3, 1) := by decide +kernel
theorem dX5_seatOf_5 : decode cX5_seatOf 5 = .ok (.aload_n 0, 1) := by decide +kernel
theorem dX5_seatOf_6 : decode cX5_seatOf 6 = .ok (.getfield 13, 3) := by decide +kernel
theorem dX5_seatOf_9 : decode cX5_seatOf 9 = .ok (.iconst 0, 1) := by decide +kernel
theorem dX5_seatOf_10 : decode cX5_seatOf 10 = .ok (.iaload, 1) := by decide +kernel
theorem dX5_seatOf_11 : decode cX5_seatOf 11 = .ok (.if_icmp .ge 25, 3) := by decide +kernel
theorem dX5_seatOf_14 : decode cX5_seatOf 14 = .ok (.aload_n 0, 1) := by decide +kernel
theorem dX5_seatOf_15 : decode cX5_seatOf 15 = .ok (.getfield 19, 3) := by decide +kernel
theorem dX5_seatOf_18 : decode cX5_seatOf 18 = .ok (.iload_n 3, 1) := by decide +kernel
theorem dX5_seatOf_19 : decode cX5_seatOf 19 = .ok (.iaload, 1) := by decide +kernel
theorem dX5_seatOf_20 : decode cX5_seatOf 20 = .ok (.iload_n 1, 1) := by decide +kernel
theorem dX5_seatOf_21 : decode cX5_seatOf 21 = .ok (.if_icmp .ne 7, 3) := by decide +kernel
theorem dX5_seatOf_24 : decode cX5_seatOf 24 = .ok (.iload_n 3, 1) := by decide +kernel
theorem dX5_seatOf_25 : decode cX5_seatOf 25 = .ok (.goto 4, 3) := by decide +kernel
theorem dX5_seatOf_28 : decode cX5_seatOf 28 = .ok (.iload_n 2, 1) := by decide +kernel
theorem dX5_seatOf_29 : decode cX5_seatOf 29 = .ok (.istore_n 2, 1) := by decide +kernel
theorem dX5_seatOf_30 : decode cX5_seatOf 30 = .ok (.iinc 3 1, 3) := by decide +kernel
theorem dX5_seatOf_33 : decode cX5_seatOf 33 = .ok (.goto (-29), 3) := by decide +kernel
theorem dX5_seatOf_36 : decode cX5_seatOf 36 = .ok (.iload_n 2, 1) := by decide +kernel
theorem dX5_seatOf_37 : decode cX5_seatOf 37 = .ok (.ireturn, 1) := by decide +kernel
theorem dX5_instrument_0 : decode cX5_instrument 0 = .ok (.aload_n 0, 1) := by decide +kernel
theorem dX5_instrument_1 : decode cX5_instrument 1 = .ok (.iload_n 1, 1) := by decide +kernel
theorem dX5_instrument_2 : decode cX5_instrument 2 = .ok (.invokevirtual 120, 3) := by decide +kernel
theorem dX5_instrument_5 : decode cX5_instrument 5 = .ok (.ifCond .ne 5, 3) := by decide +kernel
theorem dX5_instrument_8 : decode cX5_instrument 8 = .ok (.iconst (-1), 1) := by decide +kernel
theorem dX5_instrument_9 : decode cX5_instrument 9 = .ok (.ireturn, 1) := by decide +kernel
theorem dX5_instrument_10 : decode cX5_instrument 10 = .ok (.aload_n 0, 1) := by decide +kernel
theorem dX5_instrument_11 : decode cX5_instrument 11 = .ok (.invokevirtual 123, 3) := by decide +kernel
theorem dX5_instrument_14 : decode cX5_instrument 14 = .ok (.aload_n 0, 1) := by decide +kernel
theorem dX5_instrument_15 : decode cX5_instrument 15 = .ok (.invokevirtual 126, 3) := by decide +kernel
theorem dX5_instrument_18 : decode cX5_instrument 18 = .ok (.pop, 1) := by decide +kernel
theorem dX5_instrument_19 : decode cX5_instrument 19 = .ok (.iload_n 2, 1) := by decide +kernel
theorem dX5_instrument_20 : decode cX5_instrument 20 = .ok (.tableswitch 94 0 5 #[40, 49, 59, 69, 75, 87], 40) := by decide +kernel
theorem dX5_instrument_60 : decode cX5_instrument 60 = .ok (.aload_n 0, 1) := by decide +kernel
theorem dX5_instrument_61 : decode cX5_instrument 61 = .ok (.getfield 13, 3) := by decide +kernel
theorem dX5_instrument_64 : decode cX5_instrument 64 = .ok (.iconst 4, 1) := by decide +kernel
theorem dX5_instrument_65 : decode cX5_instrument 65 = .ok (.iload_n 1, 1) := by decide +kernel
theorem dX5_instrument_66 : decode cX5_instrument 66 = .ok (.iadd, 1) := by decide +kernel
theorem dX5_instrument_67 : decode cX5_instrument 67 = .ok (.iaload, 1) := by decide +kernel
theorem dX5_instrument_68 : decode cX5_instrument 68 = .ok (.ireturn, 1) := by decide +kernel
theorem dX5_instrument_69 : decode cX5_instrument 69 = .ok (.aload_n 0, 1) := by decide +kernel
theorem dX5_instrument_70 : decode cX5_instrument 70 = .ok (.getfield 13, 3) := by decide +kernel
theorem dX5_instrument_73 : decode cX5_instrument 73 = .ok (.bipush 11, 2) := by decide +kernel
theorem dX5_instrument_75 : decode cX5_instrument 75 = .ok (.iload_n 1, 1) := by decide +kernel
theorem dX5_instrument_76 : decode cX5_instrument 76 = .ok (.iadd, 1) := by decide +kernel
theorem dX5_instrument_77 : decode cX5_instrument 77 = .ok (.iaload, 1) := by decide +kernel
theorem dX5_instrument_78 : decode cX5_instrument 78 = .ok (.ireturn, 1) := by decide +kernel
theorem dX5_instrument_79 : decode cX5_instrument 79 = .ok (.aload_n 0, 1) := by decide +kernel
theorem dX5_instrument_80 : decode cX5_instrument 80 = .ok (.getfield 13, 3) := by decide +kernel
theorem dX5_instrument_83 : decode cX5_instrument 83 = .ok (.bipush 18, 2) := by decide +kernel
theorem dX5_instrument_85 : decode cX5_instrument 85 = .ok (.iload_n 1, 1) := by decide +kernel
theorem dX5_instrument_86 : decode cX5_instrument 86 = .ok (.iadd, 1) := by decide +kernel
theorem dX5_instrument_87 : decode cX5_instrument 87 = .ok (.iaload, 1) := by decide +kernel
theorem dX5_instrument_88 : decode cX5_instrument 88 = .ok (.ireturn, 1) := by decide +kernel
theorem dX5_instrument_89 : decode cX5_instrument 89 = .ok (.aload_n 0, 1) := by decide +kernel
theorem dX5_instrument_90 : decode cX5_instrument 90 = .ok (.iload_n 1, 1) := by decide +kernel
theorem dX5_instrument_91 : decode cX5_instrument 91 = .ok (.invokevirtual 129, 3) := by decide +kernel
theorem dX5_instrument_94 : decode cX5_instrument 94 = .ok (.ireturn, 1) := by decide +kernel
theorem dX5_instrument_95 : decode cX5_instrument 95 = .ok (.aload_n 0, 1) := by decide +kernel
theorem dX5_instrument_96 : decode cX5_instrument 96 = .ok (.getfield 19, 3) := by decide +kernel
theorem dX5_instrument_99 : decode cX5_instrument 99 = .ok (.bipush 7, 2) := by decide +kernel
theorem dX5_instrument_101 : decode cX5_instrument 101 = .ok (.iaload, 1) := by decide +kernel
theorem dX5_instrument_102 : decode cX5_instrument 102 = .ok (.iload_n 1, 1) := by decide +kernel
theorem dX5_instrument_103 : decode cX5_instrument 103 = .ok (.ishr, 1) := by decide +kernel
theorem dX5_instrument_104 : decode cX5_instrument 104 = .ok (.iconst 1, 1) := by decide +kernel
theorem dX5_instrument_105 : decode cX5_instrument 105 = .ok (.iand, 1) := by decide +kernel
theorem dX5_instrument_106 : decode cX5_instrument 106 = .ok (.ireturn, 1) := by decide +kernel
theorem dX5_instrument_107 : decode cX5_instrument 107 = .ok (.aload_n 0, 1) := by decide +kernel
theorem dX5_instrument_108 : decode cX5_instrument 108 = .ok (.getfield 34, 3) := by decide +kernel
theorem dX5_instrument_111 : decode cX5_instrument 111 = .ok (.iload_n 1, 1) := by decide +kernel
theorem dX5_instrument_112 : decode cX5_instrument 112 = .ok (.iaload, 1) := by decide +kernel
theorem dX5_instrument_113 : decode cX5_instrument 113 = .ok (.ireturn, 1) := by decide +kernel
theorem dX5_instrument_114 : decode cX5_instrument 114 = .ok (.iconst (-1), 1) := by decide +kernel
theorem dX5_instrument_115 : decode cX5_instrument 115 = .ok (.ireturn, 1) := by decide +kernel
theorem dX5_seat_0 : decode cX5_seat 0 = .ok (.aload_n 0, 1) := by decide +kernel
theorem dX5_seat_1 : decode cX5_seat 1 = .ok (.iload_n 1, 1) := by decide +kernel
theorem dX5_seat_2 : decode cX5_seat 2 = .ok (.invokevirtual 120, 3) := by decide +kernel
theorem dX5_seat_5 : decode cX5_seat 5 = .ok (.ifCond .eq 12, 3) := by decide +kernel
theorem dX5_seat_8 : decode cX5_seat 8 = .ok (.aload_n 0, 1) := by decide +kernel
theorem dX5_seat_9 : decode cX5_seat 9 = .ok (.getfield 19, 3) := by decide +kernel
theorem dX5_seat_12 : decode cX5_seat 12 = .ok (.iload_n 1, 1) := by decide +kernel
theorem dX5_seat_13 : decode cX5_seat 13 = .ok (.iaload, 1) := by decide +kernel
theorem dX5_seat_14 : decode cX5_seat 14 = .ok (.goto 4, 3) := by decide +kernel
theorem dX5_seat_17 : decode cX5_seat 17 = .ok (.iconst (-1), 1) := by decide +kernel
theorem dX5_seat_18 : decode cX5_seat 18 = .ok (.ireturn, 1) := by decide +kernel
theorem dX5_asked_0 : decode cX5_asked 0 = .ok (.aload_n 0, 1) := by decide +kernel
theorem dX5_asked_1 : decode cX5_asked 1 = .ok (.iload_n 1, 1) := by decide +kernel
theorem dX5_asked_2 : decode cX5_asked 2 = .ok (.invokevirtual 132, 3) := by decide +kernel
theorem dX5_asked_5 : decode cX5_asked 5 = .ok (.ifCond .eq 15, 3) := by decide +kernel
theorem dX5_asked_8 : decode cX5_asked 8 = .ok (.aload_n 0, 1) := by decide +kernel
theorem dX5_asked_9 : decode cX5_asked 9 = .ok (.getfield 13, 3) := by decide +kernel
theorem dX5_asked_12 : decode cX5_asked 12 = .ok (.bipush 25, 2) := by decide +kernel
theorem dX5_asked_14 : decode cX5_asked 14 = .ok (.iload_n 1, 1) := by decide +kernel
theorem dX5_asked_15 : decode cX5_asked 15 = .ok (.iadd, 1) := by decide +kernel
theorem dX5_asked_16 : decode cX5_asked 16 = .ok (.iaload, 1) := by decide +kernel
theorem dX5_asked_17 : decode cX5_asked 17 = .ok (.goto 4, 3) := by decide +kernel
theorem dX5_asked_20 : decode cX5_asked 20 = .ok (.iconst (-1), 1) := by decide +kernel
theorem dX5_asked_21 : decode cX5_asked 21 = .ok (.ireturn, 1) := by decide +kernel
theorem dX5_plays_0 : decode cX5_plays 0 = .ok (.aload_n 0, 1) := by decide +kernel
theorem dX5_plays_1 : decode cX5_plays 1 = .ok (.iload_n 1, 1) := by decide +kernel
theorem dX5_plays_2 : decode cX5_plays 2 = .ok (.invokevirtual 132, 3) := by decide +kernel
theorem dX5_plays_5 : decode cX5_plays 5 = .ok (.ifCond .ne 5, 3) := by decide +kernel
theorem dX5_plays_8 : decode cX5_plays 8 = .ok (.iconst (-1), 1) := by decide +kernel
theorem dX5_plays_9 : decode cX5_plays 9 = .ok (.ireturn, 1) := by decide +kernel
theorem dX5_plays_10 : decode cX5_plays 10 = .ok (.aload_n 0, 1) := by decide +kernel
theorem dX5_plays_11 : decode cX5_plays 11 = .ok (.invokevirtual 123, 3) := by decide +kernel
theorem dX5_plays_14 : decode cX5_plays 14 = .ok (.aload_n 0, 1) := by decide +kernel
theorem dX5_plays_15 : decode cX5_plays 15 = .ok (.invokevirtual 126, 3) := by decide +kernel
theorem dX5_plays_18 : decode cX5_plays 18 = .ok (.pop, 1) := by decide +kernel
theorem dX5_plays_19 : decode cX5_plays 19 = .ok (.aload_n 0, 1) := by decide +kernel
theorem dX5_plays_20 : decode cX5_plays 20 = .ok (.getfield 40, 3) := by decide +kernel
theorem dX5_plays_23 : decode cX5_plays 23 = .ok (.iload_n 1, 1) := by decide +kernel
theorem dX5_plays_24 : decode cX5_plays 24 = .ok (.iaload, 1) := by decide +kernel
theorem dX5_plays_25 : decode cX5_plays 25 = .ok (.ireturn, 1) := by decide +kernel
theorem dX5_missing_0 : decode cX5_missing 0 = .ok (.aload_n 0, 1) := by decide +kernel
theorem dX5_missing_1 : decode cX5_missing 1 = .ok (.iload_n 1, 1) := by decide +kernel
theorem dX5_missing_2 : decode cX5_missing 2 = .ok (.invokevirtual 132, 3) := by decide +kernel
theorem dX5_missing_5 : decode cX5_missing 5 = .ok (.ifCond .eq 23, 3) := by decide +kernel
theorem dX5_missing_8 : decode cX5_missing 8 = .ok (.aload_n 0, 1) := by decide +kernel
theorem dX5_missing_9 : decode cX5_missing 9 = .ok (.getfield 13, 3) := by decide +kernel
theorem dX5_missing_12 : decode cX5_missing 12 = .ok (.bipush 25, 2) := by decide +kernel
theorem dX5_missing_14 : decode cX5_missing 14 = .ok (.iload_n 1, 1) := by decide +kernel
theorem dX5_missing_15 : decode cX5_missing 15 = .ok (.iadd, 1) := by decide +kernel
theorem dX5_missing_16 : decode cX5_missing 16 = .ok (.iaload, 1) := by decide +kernel
theorem dX5_missing_17 : decode cX5_missing 17 = .ok (.aload_n 0, 1) := by decide +kernel
theorem dX5_missing_18 : decode cX5_missing 18 = .ok (.iload_n 1, 1) := by decide +kernel
theorem dX5_missing_19 : decode cX5_missing 19 = .ok (.invokevirtual 135, 3) := by decide +kernel
theorem dX5_missing_22 : decode cX5_missing 22 = .ok (.iconst (-1), 1) := by decide +kernel
theorem dX5_missing_23 : decode cX5_missing 23 = .ok (.ixor, 1) := by decide +kernel
theorem dX5_missing_24 : decode cX5_missing 24 = .ok (.iand, 1) := by decide +kernel
theorem dX5_missing_25 : decode cX5_missing 25 = .ok (.goto 4, 3) := by decide +kernel
theorem dX5_missing_28 : decode cX5_missing 28 = .ok (.iconst (-1), 1) := by decide +kernel
theorem dX5_missing_29 : decode cX5_missing 29 = .ok (.ireturn, 1) := by decide +kernel
theorem dX5_first_0 : decode cX5_first 0 = .ok (.aload_n 0, 1) := by decide +kernel
theorem dX5_first_1 : decode cX5_first 1 = .ok (.invokevirtual 123, 3) := by decide +kernel
theorem dX5_first_4 : decode cX5_first 4 = .ok (.aload_n 0, 1) := by decide +kernel
theorem dX5_first_5 : decode cX5_first 5 = .ok (.invokevirtual 126, 3) := by decide +kernel
theorem dX5_first_8 : decode cX5_first 8 = .ok (.pop, 1) := by decide +kernel
theorem dX5_first_9 : decode cX5_first 9 = .ok (.bipush (-4), 2) := by decide +kernel
theorem dX5_first_11 : decode cX5_first 11 = .ok (.istore_n 1, 1) := by decide +kernel
theorem dX5_first_12 : decode cX5_first 12 = .ok (.aload_n 0, 1) := by decide +kernel
theorem dX5_first_13 : decode cX5_first 13 = .ok (.getfield 13, 3) := by decide +kernel
theorem dX5_first_16 : decode cX5_first 16 = .ok (.iconst 1, 1) := by decide +kernel
theorem dX5_first_17 : decode cX5_first 17 = .ok (.iaload, 1) := by decide +kernel
theorem dX5_first_18 : decode cX5_first 18 = .ok (.iconst 1, 1) := by decide +kernel
theorem dX5_first_19 : decode cX5_first 19 = .ok (.isub, 1) := by decide +kernel
theorem dX5_first_20 : decode cX5_first 20 = .ok (.istore_n 2, 1) := by decide +kernel
theorem dX5_first_21 : decode cX5_first 21 = .ok (.iload_n 2, 1) := by decide +kernel
theorem dX5_first_22 : decode cX5_first 22 = .ok (.ifCond .lt 33, 3) := by decide +kernel
theorem dX5_first_25 : decode cX5_first 25 = .ok (.aload_n 0, 1) := by decide +kernel
theorem dX5_first_26 : decode cX5_first 26 = .ok (.getfield 40, 3) := by decide +kernel
theorem dX5_first_29 : decode cX5_first 29 = .ok (.iload_n 2, 1) := by decide +kernel
theorem dX5_first_30 : decode cX5_first 30 = .ok (.iaload, 1) := by decide +kernel
theorem dX5_first_31 : decode cX5_first 31 = .ok (.aload_n 0, 1) := by decide +kernel
theorem dX5_first_32 : decode cX5_first 32 = .ok (.getfield 13, 3) := by decide +kernel
theorem dX5_first_35 : decode cX5_first 35 = .ok (.bipush 25, 2) := by decide +kernel
theorem dX5_first_37 : decode cX5_first 37 = .ok (.iload_n 2, 1) := by decide +kernel
theorem dX5_first_38 : decode cX5_first 38 = .ok (.iadd, 1) := by decide +kernel
theorem dX5_first_39 : decode cX5_first 39 = .ok (.iaload, 1) := by decide +kernel
theorem dX5_first_40 : decode cX5_first 40 = .ok (.if_icmp .eq 7, 3) := by decide +kernel
theorem dX5_first_43 : decode cX5_first 43 = .ok (.iload_n 2, 1) := by decide +kernel
theorem dX5_first_44 : decode cX5_first 44 = .ok (.goto 4, 3) := by decide +kernel
theorem dX5_first_47 : decode cX5_first 47 = .ok (.iload_n 1, 1) := by decide +kernel
theorem dX5_first_48 : decode cX5_first 48 = .ok (.istore_n 1, 1) := by decide +kernel
theorem dX5_first_49 : decode cX5_first 49 = .ok (.iinc 2 (-1), 3) := by decide +kernel
theorem dX5_first_52 : decode cX5_first 52 = .ok (.goto (-31), 3) := by decide +kernel
theorem dX5_first_55 : decode cX5_first 55 = .ok (.iload_n 1, 1) := by decide +kernel
theorem dX5_first_56 : decode cX5_first 56 = .ok (.ireturn, 1) := by decide +kernel
theorem dX5_notes_0 : decode cX5_notes 0 = .ok (.iload_n 1, 1) := by decide +kernel
theorem dX5_notes_1 : decode cX5_notes 1 = .ok (.iconst 0, 1) := by decide +kernel
theorem dX5_notes_2 : decode cX5_notes 2 = .ok (.iconst 1, 1) := by decide +kernel
theorem dX5_notes_3 : decode cX5_notes 3 = .ok (.invokestatic 60, 3) := by decide +kernel
theorem dX5_notes_6 : decode cX5_notes 6 = .ok (.ifCond .ne 5, 3) := by decide +kernel
theorem dX5_notes_9 : decode cX5_notes 9 = .ok (.iconst (-1), 1) := by decide +kernel
theorem dX5_notes_10 : decode cX5_notes 10 = .ok (.ireturn, 1) := by decide +kernel
theorem dX5_notes_11 : decode cX5_notes 11 = .ok (.aload_n 0, 1) := by decide +kernel
theorem dX5_notes_12 : decode cX5_notes 12 = .ok (.invokevirtual 123, 3) := by decide +kernel
theorem dX5_notes_15 : decode cX5_notes 15 = .ok (.aload_n 0, 1) := by decide +kernel
theorem dX5_notes_16 : decode cX5_notes 16 = .ok (.invokevirtual 126, 3) := by decide +kernel
theorem dX5_notes_19 : decode cX5_notes 19 = .ok (.istore_n 2, 1) := by decide +kernel
theorem dX5_notes_20 : decode cX5_notes 20 = .ok (.iload_n 1, 1) := by decide +kernel
theorem dX5_notes_21 : decode cX5_notes 21 = .ok (.ifCond .ne 10, 3) := by decide +kernel
theorem dX5_notes_24 : decode cX5_notes 24 = .ok (.aload_n 0, 1) := by decide +kernel
theorem dX5_notes_25 : decode cX5_notes 25 = .ok (.getfield 108, 3) := by decide +kernel
theorem dX5_notes_28 : decode cX5_notes 28 = .ok (.goto 4, 3) := by decide +kernel
theorem dX5_notes_31 : decode cX5_notes 31 = .ok (.iload_n 2, 1) := by decide +kernel
theorem dX5_notes_32 : decode cX5_notes 32 = .ok (.ireturn, 1) := by decide +kernel
theorem dX5_keeps_0 : decode cX5_keeps 0 = .ok (.aload_n 0, 1) := by decide +kernel
theorem dX5_keeps_1 : decode cX5_keeps 1 = .ok (.getfield 90, 3) := by decide +kernel
theorem dX5_keeps_4 : decode cX5_keeps 4 = .ok (.bipush 8, 2) := by decide +kernel
theorem dX5_keeps_6 : decode cX5_keeps 6 = .ok (.if_icmp .ne 42, 3) := by decide +kernel
theorem dX5_keeps_9 : decode cX5_keeps 9 = .ok (.iconst 0, 1) := by decide +kernel
theorem dX5_keeps_10 : decode cX5_keeps 10 = .ok (.istore_n 1, 1) := by decide +kernel
theorem dX5_keeps_11 : decode cX5_keeps 11 = .ok (.iload_n 1, 1) := by decide +kernel
theorem dX5_keeps_12 : decode cX5_keeps 12 = .ok (.bipush 56, 2) := by decide +kernel
theorem dX5_keeps_14 : decode cX5_keeps 14 = .ok (.if_icmp .ge 24, 3) := by decide +kernel
theorem dX5_keeps_17 : decode cX5_keeps 17 = .ok (.aload_n 0, 1) := by decide +kernel
theorem dX5_keeps_18 : decode cX5_keeps 18 = .ok (.getfield 22, 3) := by decide +kernel
theorem dX5_keeps_21 : decode cX5_keeps 21 = .ok (.iload_n 1, 1) := by decide +kernel
theorem dX5_keeps_22 : decode cX5_keeps 22 = .ok (.aload_n 0, 1) := by decide +kernel
theorem dX5_keeps_23 : decode cX5_keeps 23 = .ok (.getfield 22, 3) := by decide +kernel
theorem dX5_keeps_26 : decode cX5_keeps 26 = .ok (.iload_n 1, 1) := by decide +kernel
theorem dX5_keeps_27 : decode cX5_keeps 27 = .ok (.bipush 8, 2) := by decide +kernel
theorem dX5_keeps_29 : decode cX5_keeps 29 = .ok (.iadd, 1) := by decide +kernel
theorem dX5_keeps_30 : decode cX5_keeps 30 = .ok (.iaload, 1) := by decide +kernel
theorem dX5_keeps_31 : decode cX5_keeps 31 = .ok (.iastore, 1) := by decide +kernel
theorem dX5_keeps_32 : decode cX5_keeps 32 = .ok (.iinc 1 1, 3) := by decide +kernel
theorem dX5_keeps_35 : decode cX5_keeps 35 = .ok (.goto (-24), 3) := by decide +kernel
theorem dX5_keeps_38 : decode cX5_keeps 38 = .ok (.aload_n 0, 1) := by decide +kernel
theorem dX5_keeps_39 : decode cX5_keeps 39 = .ok (.dup, 1) := by decide +kernel
theorem dX5_keeps_40 : decode cX5_keeps 40 = .ok (.getfield 90, 3) := by decide +kernel
theorem dX5_keeps_43 : decode cX5_keeps 43 = .ok (.iconst 1, 1) := by decide +kernel
theorem dX5_keeps_44 : decode cX5_keeps 44 = .ok (.isub, 1) := by decide +kernel
theorem dX5_keeps_45 : decode cX5_keeps 45 = .ok (.putfield 90, 3) := by decide +kernel
theorem dX5_keeps_48 : decode cX5_keeps 48 = .ok (.iconst 0, 1) := by decide +kernel
theorem dX5_keeps_49 : decode cX5_keeps 49 = .ok (.istore_n 1, 1) := by decide +kernel
theorem dX5_keeps_50 : decode cX5_keeps 50 = .ok (.iload_n 1, 1) := by decide +kernel
theorem dX5_keeps_51 : decode cX5_keeps 51 = .ok (.bipush 8, 2) := by decide +kernel
theorem dX5_keeps_53 : decode cX5_keeps 53 = .ok (.if_icmp .ge 29, 3) := by decide +kernel
theorem dX5_keeps_56 : decode cX5_keeps 56 = .ok (.aload_n 0, 1) := by decide +kernel
theorem dX5_keeps_57 : decode cX5_keeps 57 = .ok (.getfield 22, 3) := by decide +kernel
theorem dX5_keeps_60 : decode cX5_keeps 60 = .ok (.bipush 8, 2) := by decide +kernel
theorem dX5_keeps_62 : decode cX5_keeps 62 = .ok (.aload_n 0, 1) := by decide +kernel
theorem dX5_keeps_63 : decode cX5_keeps 63 = .ok (.getfield 90, 3) := by decide +kernel
theorem dX5_keeps_66 : decode cX5_keeps 66 = .ok (.imul, 1) := by decide +kernel
theorem dX5_keeps_67 : decode cX5_keeps 67 = .ok (.iload_n 1, 1) := by decide +kernel
theorem dX5_keeps_68 : decode cX5_keeps 68 = .ok (.iadd, 1) := by decide +kernel
theorem dX5_keeps_69 : decode cX5_keeps 69 = .ok (.aload_n 0, 1) := by decide +kernel
theorem dX5_keeps_70 : decode cX5_keeps 70 = .ok (.getfield 19, 3) := by decide +kernel
theorem dX5_keeps_73 : decode cX5_keeps 73 = .ok (.iload_n 1, 1) := by decide +kernel
theorem dX5_keeps_74 : decode cX5_keeps 74 = .ok (.iaload, 1) := by decide +kernel
theorem dX5_keeps_75 : decode cX5_keeps 75 = .ok (.iastore, 1) := by decide +kernel
theorem dX5_keeps_76 : decode cX5_keeps 76 = .ok (.iinc 1 1, 3) := by decide +kernel
theorem dX5_keeps_79 : decode cX5_keeps 79 = .ok (.goto (-29), 3) := by decide +kernel
theorem dX5_keeps_82 : decode cX5_keeps 82 = .ok (.aload_n 0, 1) := by decide +kernel
theorem dX5_keeps_83 : decode cX5_keeps 83 = .ok (.dup, 1) := by decide +kernel
theorem dX5_keeps_84 : decode cX5_keeps 84 = .ok (.getfield 90, 3) := by decide +kernel
theorem dX5_keeps_87 : decode cX5_keeps 87 = .ok (.iconst 1, 1) := by decide +kernel
theorem dX5_keeps_88 : decode cX5_keeps 88 = .ok (.iadd, 1) := by decide +kernel
theorem dX5_keeps_89 : decode cX5_keeps 89 = .ok (.putfield 90, 3) := by decide +kernel
theorem dX5_keeps_92 : decode cX5_keeps 92 = .ok (.return_, 1) := by decide +kernel
theorem dX5_change_0 : decode cX5_change 0 = .ok (.aload_n 0, 1) := by decide +kernel
theorem dX5_change_1 : decode cX5_change 1 = .ok (.iload_n 1, 1) := by decide +kernel
theorem dX5_change_2 : decode cX5_change 2 = .ok (.invokevirtual 120, 3) := by decide +kernel
theorem dX5_change_5 : decode cX5_change 5 = .ok (.ifCond .eq 16, 3) := by decide +kernel
theorem dX5_change_8 : decode cX5_change 8 = .ok (.aload_n 0, 1) := by decide +kernel
theorem dX5_change_9 : decode cX5_change 9 = .ok (.iload_n 2, 1) := by decide +kernel
theorem dX5_change_10 : decode cX5_change 10 = .ok (.invokevirtual 120, 3) := by decide +kernel
theorem dX5_change_13 : decode cX5_change 13 = .ok (.ifCond .eq 8, 3) := by decide +kernel
theorem dX5_change_16 : decode cX5_change 16 = .ok (.iload_n 1, 1) := by decide +kernel
theorem dX5_change_17 : decode cX5_change 17 = .ok (.iload_n 2, 1) := by decide +kernel
theorem dX5_change_18 : decode cX5_change 18 = .ok (.if_icmp .ne 5, 3) := by decide +kernel
theorem dX5_change_21 : decode cX5_change 21 = .ok (.iconst (-1), 1) := by decide +kernel
theorem dX5_change_22 : decode cX5_change 22 = .ok (.ireturn, 1) := by decide +kernel
theorem dX5_change_23 : decode cX5_change 23 = .ok (.aload_n 0, 1) := by decide +kernel
theorem dX5_change_24 : decode cX5_change 24 = .ok (.invokevirtual 138, 3) := by decide +kernel
theorem dX5_change_27 : decode cX5_change 27 = .ok (.aload_n 0, 1) := by decide +kernel
theorem dX5_change_28 : decode cX5_change 28 = .ok (.getfield 19, 3) := by decide +kernel
theorem dX5_change_31 : decode cX5_change 31 = .ok (.iload_n 1, 1) := by decide +kernel
theorem dX5_change_32 : decode cX5_change 32 = .ok (.iaload, 1) := by decide +kernel
theorem dX5_change_33 : decode cX5_change 33 = .ok (.istore_n 3, 1) := by decide +kernel
theorem dX5_change_34 : decode cX5_change 34 = .ok (.aload_n 0, 1) := by decide +kernel
theorem dX5_change_35 : decode cX5_change 35 = .ok (.getfield 19, 3) := by decide +kernel
theorem dX5_change_38 : decode cX5_change 38 = .ok (.iload_n 1, 1) := by decide +kernel
theorem dX5_change_39 : decode cX5_change 39 = .ok (.aload_n 0, 1) := by decide +kernel
theorem dX5_change_40 : decode cX5_change 40 = .ok (.getfield 19, 3) := by decide +kernel
theorem dX5_change_43 : decode cX5_change 43 = .ok (.iload_n 2, 1) := by decide +kernel
theorem dX5_change_44 : decode cX5_change 44 = .ok (.iaload, 1) := by decide +kernel
theorem dX5_change_45 : decode cX5_change 45 = .ok (.iastore, 1) := by decide +kernel
theorem dX5_change_46 : decode cX5_change 46 = .ok (.aload_n 0, 1) := by decide +kernel
theorem dX5_change_47 : decode cX5_change 47 = .ok (.getfield 19, 3) := by decide +kernel
theorem dX5_change_50 : decode cX5_change 50 = .ok (.iload_n 2, 1) := by decide +kernel
theorem dX5_change_51 : decode cX5_change 51 = .ok (.iload_n 3, 1) := by decide +kernel
theorem dX5_change_52 : decode cX5_change 52 = .ok (.iastore, 1) := by decide +kernel
theorem dX5_change_53 : decode cX5_change 53 = .ok (.aload_n 0, 1) := by decide +kernel
theorem dX5_change_54 : decode cX5_change 54 = .ok (.getfield 19, 3) := by decide +kernel
theorem dX5_change_57 : decode cX5_change 57 = .ok (.iload_n 1, 1) := by decide +kernel
theorem dX5_change_58 : decode cX5_change 58 = .ok (.iaload, 1) := by decide +kernel
theorem dX5_change_59 : decode cX5_change 59 = .ok (.ireturn, 1) := by decide +kernel
theorem dX5_costOf_0 : decode cX5_costOf 0 = .ok (.iconst 0, 1) := by decide +kernel
theorem dX5_costOf_1 : decode cX5_costOf 1 = .ok (.istore_n 2, 1) := by decide +kernel
theorem dX5_costOf_2 : decode cX5_costOf 2 = .ok (.iconst 0, 1) := by decide +kernel
theorem dX5_costOf_3 : decode cX5_costOf 3 = .ok (.istore_n 3, 1) := by decide +kernel
theorem dX5_costOf_4 : decode cX5_costOf 4 = .ok (.iload_n 3, 1) := by decide +kernel
theorem dX5_costOf_5 : decode cX5_costOf 5 = .ok (.aload_n 0, 1) := by decide +kernel
theorem dX5_costOf_6 : decode cX5_costOf 6 = .ok (.getfield 13, 3) := by decide +kernel
theorem dX5_costOf_9 : decode cX5_costOf 9 = .ok (.iconst 0, 1) := by decide +kernel
theorem dX5_costOf_10 : decode cX5_costOf 10 = .ok (.iaload, 1) := by decide +kernel
theorem dX5_costOf_11 : decode cX5_costOf 11 = .ok (.if_icmp .ge 34, 3) := by decide +kernel
theorem dX5_costOf_14 : decode cX5_costOf 14 = .ok (.iload_n 2, 1) := by decide +kernel
theorem dX5_costOf_15 : decode cX5_costOf 15 = .ok (.iload_n 1, 1) := by decide +kernel
theorem dX5_costOf_16 : decode cX5_costOf 16 = .ok (.iload_n 3, 1) := by decide +kernel
theorem dX5_costOf_17 : decode cX5_costOf 17 = .ok (.ishr, 1) := by decide +kernel
theorem dX5_costOf_18 : decode cX5_costOf 18 = .ok (.iconst 1, 1) := by decide +kernel
theorem dX5_costOf_19 : decode cX5_costOf 19 = .ok (.iand, 1) := by decide +kernel
theorem dX5_costOf_20 : decode cX5_costOf 20 = .ok (.iconst 1, 1) := by decide +kernel
theorem dX5_costOf_21 : decode cX5_costOf 21 = .ok (.if_icmp .ne 15, 3) := by decide +kernel
theorem dX5_costOf_24 : decode cX5_costOf 24 = .ok (.aload_n 0, 1) := by decide +kernel
theorem dX5_costOf_25 : decode cX5_costOf 25 = .ok (.getfield 13, 3) := by decide +kernel
theorem dX5_costOf_28 : decode cX5_costOf 28 = .ok (.bipush 18, 2) := by decide +kernel
theorem dX5_costOf_30 : decode cX5_costOf 30 = .ok (.iload_n 3, 1) := by decide +kernel
theorem dX5_costOf_31 : decode cX5_costOf 31 = .ok (.iadd, 1) := by decide +kernel
theorem dX5_costOf_32 : decode cX5_costOf 32 = .ok (.iaload, 1) := by decide +kernel
theorem dX5_costOf_33 : decode cX5_costOf 33 = .ok (.goto 4, 3) := by decide +kernel
theorem dX5_costOf_36 : decode cX5_costOf 36 = .ok (.iconst 0, 1) := by decide +kernel
theorem dX5_costOf_37 : decode cX5_costOf 37 = .ok (.iadd, 1) := by decide +kernel
theorem dX5_costOf_38 : decode cX5_costOf 38 = .ok (.istore_n 2, 1) := by decide +kernel
theorem dX5_costOf_39 : decode cX5_costOf 39 = .ok (.iinc 3 1, 3) := by decide +kernel
theorem dX5_costOf_42 : decode cX5_costOf 42 = .ok (.goto (-38), 3) := by decide +kernel
theorem dX5_costOf_45 : decode cX5_costOf 45 = .ok (.iload_n 2, 1) := by decide +kernel
theorem dX5_costOf_46 : decode cX5_costOf 46 = .ok (.ireturn, 1) := by decide +kernel
theorem dX5_bribe_0 : decode cX5_bribe 0 = .ok (.aload_n 0, 1) := by decide +kernel
theorem dX5_bribe_1 : decode cX5_bribe 1 = .ok (.iload_n 1, 1) := by decide +kernel
theorem dX5_bribe_2 : decode cX5_bribe 2 = .ok (.invokevirtual 120, 3) := by decide +kernel
theorem dX5_bribe_5 : decode cX5_bribe 5 = .ok (.ifCond .ne 5, 3) := by decide +kernel
theorem dX5_bribe_8 : decode cX5_bribe 8 = .ok (.iconst (-1), 1) := by decide +kernel
theorem dX5_bribe_9 : decode cX5_bribe 9 = .ok (.ireturn, 1) := by decide +kernel
theorem dX5_bribe_10 : decode cX5_bribe 10 = .ok (.aload_n 0, 1) := by decide +kernel
theorem dX5_bribe_11 : decode cX5_bribe 11 = .ok (.invokevirtual 138, 3) := by decide +kernel
theorem dX5_bribe_14 : decode cX5_bribe 14 = .ok (.aload_n 0, 1) := by decide +kernel
theorem dX5_bribe_15 : decode cX5_bribe 15 = .ok (.getfield 19, 3) := by decide +kernel
theorem dX5_bribe_18 : decode cX5_bribe 18 = .ok (.bipush 7, 2) := by decide +kernel
theorem dX5_bribe_20 : decode cX5_bribe 20 = .ok (.dup2, 1) := by decide +kernel
theorem dX5_bribe_21 : decode cX5_bribe 21 = .ok (.iaload, 1) := by decide +kernel
theorem dX5_bribe_22 : decode cX5_bribe 22 = .ok (.iconst 1, 1) := by decide +kernel
theorem dX5_bribe_23 : decode cX5_bribe 23 = .ok (.iload_n 1, 1) := by decide +kernel
theorem dX5_bribe_24 : decode cX5_bribe 24 = .ok (.ishl, 1) := by decide +kernel
theorem dX5_bribe_25 : decode cX5_bribe 25 = .ok (.ixor, 1) := by decide +kernel
theorem dX5_bribe_26 : decode cX5_bribe 26 = .ok (.iastore, 1) := by decide +kernel
theorem dX5_bribe_27 : decode cX5_bribe 27 = .ok (.aload_n 0, 1) := by decide +kernel
theorem dX5_bribe_28 : decode cX5_bribe 28 = .ok (.aload_n 0, 1) := by decide +kernel
theorem dX5_bribe_29 : decode cX5_bribe 29 = .ok (.getfield 19, 3) := by decide +kernel
theorem dX5_bribe_32 : decode cX5_bribe 32 = .ok (.bipush 7, 2) := by decide +kernel
theorem dX5_bribe_34 : decode cX5_bribe 34 = .ok (.iaload, 1) := by decide +kernel
theorem dX5_bribe_35 : decode cX5_bribe 35 = .ok (.invokevirtual 141, 3) := by decide +kernel
theorem dX5_bribe_38 : decode cX5_bribe 38 = .ok (.ireturn, 1) := by decide +kernel
theorem dX5_undo_0 : decode cX5_undo 0 = .ok (.aload_n 0, 1) := by decide +kernel
theorem dX5_undo_1 : decode cX5_undo 1 = .ok (.getfield 90, 3) := by decide +kernel
theorem dX5_undo_4 : decode cX5_undo 4 = .ok (.ifCond .ne 6, 3) := by decide +kernel
theorem dX5_undo_7 : decode cX5_undo 7 = .ok (.bipush (-2), 2) := by decide +kernel
theorem dX5_undo_9 : decode cX5_undo 9 = .ok (.ireturn, 1) := by decide +kernel
theorem dX5_undo_10 : decode cX5_undo 10 = .ok (.aload_n 0, 1) := by decide +kernel
theorem dX5_undo_11 : decode cX5_undo 11 = .ok (.dup, 1) := by decide +kernel
theorem dX5_undo_12 : decode cX5_undo 12 = .ok (.getfield 90, 3) := by decide +kernel
theorem dX5_undo_15 : decode cX5_undo 15 = .ok (.iconst 1, 1) := by decide +kernel
theorem dX5_undo_16 : decode cX5_undo 16 = .ok (.isub, 1) := by decide +kernel
theorem dX5_undo_17 : decode cX5_undo 17 = .ok (.putfield 90, 3) := by decide +kernel
theorem dX5_undo_20 : decode cX5_undo 20 = .ok (.iconst 0, 1) := by decide +kernel
theorem dX5_undo_21 : decode cX5_undo 21 = .ok (.istore_n 1, 1) := by decide +kernel
theorem dX5_undo_22 : decode cX5_undo 22 = .ok (.iload_n 1, 1) := by decide +kernel
theorem dX5_undo_23 : decode cX5_undo 23 = .ok (.bipush 8, 2) := by decide +kernel
theorem dX5_undo_25 : decode cX5_undo 25 = .ok (.if_icmp .ge 29, 3) := by decide +kernel
theorem dX5_undo_28 : decode cX5_undo 28 = .ok (.aload_n 0, 1) := by decide +kernel
theorem dX5_undo_29 : decode cX5_undo 29 = .ok (.getfield 19, 3) := by decide +kernel
theorem dX5_undo_32 : decode cX5_undo 32 = .ok (.iload_n 1, 1) := by decide +kernel
theorem dX5_undo_33 : decode cX5_undo 33 = .ok (.aload_n 0, 1) := by decide +kernel
theorem dX5_undo_34 : decode cX5_undo 34 = .ok (.getfield 22, 3) := by decide +kernel
theorem dX5_undo_37 : decode cX5_undo 37 = .ok (.bipush 8, 2) := by decide +kernel
theorem dX5_undo_39 : decode cX5_undo 39 = .ok (.aload_n 0, 1) := by decide +kernel
theorem dX5_undo_40 : decode cX5_undo 40 = .ok (.getfield 90, 3) := by decide +kernel
theorem dX5_undo_43 : decode cX5_undo 43 = .ok (.imul, 1) := by decide +kernel
theorem dX5_undo_44 : decode cX5_undo 44 = .ok (.iload_n 1, 1) := by decide +kernel
theorem dX5_undo_45 : decode cX5_undo 45 = .ok (.iadd, 1) := by decide +kernel
theorem dX5_undo_46 : decode cX5_undo 46 = .ok (.iaload, 1) := by decide +kernel
theorem dX5_undo_47 : decode cX5_undo 47 = .ok (.iastore, 1) := by decide +kernel
theorem dX5_undo_48 : decode cX5_undo 48 = .ok (.iinc 1 1, 3) := by decide +kernel
theorem dX5_undo_51 : decode cX5_undo 51 = .ok (.goto (-29), 3) := by decide +kernel
theorem dX5_undo_54 : decode cX5_undo 54 = .ok (.aload_n 0, 1) := by decide +kernel
theorem dX5_undo_55 : decode cX5_undo 55 = .ok (.getfield 90, 3) := by decide +kernel
theorem dX5_undo_58 : decode cX5_undo 58 = .ok (.ireturn, 1) := by decide +kernel
theorem dX5_firstSeating_0 : decode cX5_firstSeating 0 = .ok (.iconst 0, 1) := by decide +kernel
theorem dX5_firstSeating_1 : decode cX5_firstSeating 1 = .ok (.istore_n 1, 1) := by decide +kernel
theorem dX5_firstSeating_2 : decode cX5_firstSeating 2 = .ok (.iload_n 1, 1) := by decide +kernel
theorem dX5_firstSeating_3 : decode cX5_firstSeating 3 = .ok (.aload_n 0, 1) := by decide +kernel
theorem dX5_firstSeating_4 : decode cX5_firstSeating 4 = .ok (.getfield 13, 3) := by decide +kernel
theorem dX5_firstSeating_7 : decode cX5_firstSeating 7 = .ok (.iconst 0, 1) := by decide +kernel
theorem dX5_firstSeating_8 : decode cX5_firstSeating 8 = .ok (.iaload, 1) := by decide +kernel
theorem dX5_firstSeating_9 : decode cX5_firstSeating 9 = .ok (.if_icmp .ge 16, 3) := by decide +kernel
theorem dX5_firstSeating_12 : decode cX5_firstSeating 12 = .ok (.aload_n 0, 1) := by decide +kernel
theorem dX5_firstSeating_13 : decode cX5_firstSeating 13 = .ok (.getfield 31, 3) := by decide +kernel
theorem dX5_firstSeating_16 : decode cX5_firstSeating 16 = .ok (.iload_n 1, 1) := by decide +kernel
theorem dX5_firstSeating_17 : decode cX5_firstSeating 17 = .ok (.iload_n 1, 1) := by decide +kernel
theorem dX5_firstSeating_18 : decode cX5_firstSeating 18 = .ok (.iastore, 1) := by decide +kernel
theorem dX5_firstSeating_19 : decode cX5_firstSeating 19 = .ok (.iinc 1 1, 3) := by decide +kernel
theorem dX5_firstSeating_22 : decode cX5_firstSeating 22 = .ok (.goto (-20), 3) := by decide +kernel
theorem dX5_firstSeating_25 : decode cX5_firstSeating 25 = .ok (.return_, 1) := by decide +kernel
theorem dX5_nextSeating_0 : decode cX5_nextSeating 0 = .ok (.aload_n 0, 1) := by decide +kernel
theorem dX5_nextSeating_1 : decode cX5_nextSeating 1 = .ok (.getfield 13, 3) := by decide +kernel
theorem dX5_nextSeating_4 : decode cX5_nextSeating 4 = .ok (.iconst 0, 1) := by decide +kernel
theorem dX5_nextSeating_5 : decode cX5_nextSeating 5 = .ok (.iaload, 1) := by decide +kernel
theorem dX5_nextSeating_6 : decode cX5_nextSeating 6 = .ok (.istore_n 1, 1) := by decide +kernel
theorem dX5_nextSeating_7 : decode cX5_nextSeating 7 = .ok (.iload_n 1, 1) := by decide +kernel
theorem dX5_nextSeating_8 : decode cX5_nextSeating 8 = .ok (.iconst 2, 1) := by decide +kernel
theorem dX5_nextSeating_9 : decode cX5_nextSeating 9 = .ok (.isub, 1) := by decide +kernel
theorem dX5_nextSeating_10 : decode cX5_nextSeating 10 = .ok (.istore_n 2, 1) := by decide +kernel
theorem dX5_nextSeating_11 : decode cX5_nextSeating 11 = .ok (.iload_n 2, 1) := by decide +kernel
theorem dX5_nextSeating_12 : decode cX5_nextSeating 12 = .ok (.ifCond .lt 26, 3) := by decide +kernel
theorem dX5_nextSeating_15 : decode cX5_nextSeating 15 = .ok (.aload_n 0, 1) := by decide +kernel
theorem dX5_nextSeating_16 : decode cX5_nextSeating 16 = .ok (.getfield 31, 3) := by decide +kernel
theorem dX5_nextSeating_19 : decode cX5_nextSeating 19 = .ok (.iload_n 2, 1) := by decide +kernel
theorem dX5_nextSeating_20 : decode cX5_nextSeating 20 = .ok (.iaload, 1) := by decide +kernel
theorem dX5_nextSeating_21 : decode cX5_nextSeating 21 = .ok (.aload_n 0, 1) := by decide +kernel
theorem dX5_nextSeating_22 : decode cX5_nextSeating 22 = .ok (.getfield 31, 3) := by decide +kernel
theorem dX5_nextSeating_25 : decode cX5_nextSeating 25 = .ok (.iload_n 2, 1) := by decide +kernel
theorem dX5_nextSeating_26 : decode cX5_nextSeating 26 = .ok (.iconst 1, 1) := by decide +kernel
theorem dX5_nextSeating_27 : decode cX5_nextSeating 27 = .ok (.iadd, 1) := by decide +kernel
theorem dX5_nextSeating_28 : decode cX5_nextSeating 28 = .ok (.iaload, 1) := by decide +kernel
theorem dX5_nextSeating_29 : decode cX5_nextSeating 29 = .ok (.if_icmp .le 9, 3) := by decide +kernel
theorem dX5_nextSeating_32 : decode cX5_nextSeating 32 = .ok (.iinc 2 (-1), 3) := by decide +kernel
theorem dX5_nextSeating_35 : decode cX5_nextSeating 35 = .ok (.goto (-24), 3) := by decide +kernel
theorem dX5_nextSeating_38 : decode cX5_nextSeating 38 = .ok (.iload_n 2, 1) := by decide +kernel
theorem dX5_nextSeating_39 : decode cX5_nextSeating 39 = .ok (.ifCond .ge 5, 3) := by decide +kernel
theorem dX5_nextSeating_42 : decode cX5_nextSeating 42 = .ok (.iconst 0, 1) := by decide +kernel
theorem dX5_nextSeating_43 : decode cX5_nextSeating 43 = .ok (.ireturn, 1) := by decide +kernel
theorem dX5_nextSeating_44 : decode cX5_nextSeating 44 = .ok (.iload_n 1, 1) := by decide +kernel
theorem dX5_nextSeating_45 : decode cX5_nextSeating 45 = .ok (.iconst 1, 1) := by decide +kernel
theorem dX5_nextSeating_46 : decode cX5_nextSeating 46 = .ok (.isub, 1) := by decide +kernel
theorem dX5_nextSeating_47 : decode cX5_nextSeating 47 = .ok (.istore_n 3, 1) := by decide +kernel
theorem dX5_nextSeating_48 : decode cX5_nextSeating 48 = .ok (.aload_n 0, 1) := by decide +kernel
theorem dX5_nextSeating_49 : decode cX5_nextSeating 49 = .ok (.getfield 31, 3) := by decide +kernel
theorem dX5_nextSeating_52 : decode cX5_nextSeating 52 = .ok (.iload_n 3, 1) := by decide +kernel
theorem dX5_nextSeating_53 : decode cX5_nextSeating 53 = .ok (.iaload, 1) := by decide +kernel
theorem dX5_nextSeating_54 : decode cX5_nextSeating 54 = .ok (.aload_n 0, 1) := by decide +kernel
theorem dX5_nextSeating_55 : decode cX5_nextSeating 55 = .ok (.getfield 31, 3) := by decide +kernel
theorem dX5_nextSeating_58 : decode cX5_nextSeating 58 = .ok (.iload_n 2, 1) := by decide +kernel
theorem dX5_nextSeating_59 : decode cX5_nextSeating 59 = .ok (.iaload, 1) := by decide +kernel
theorem dX5_nextSeating_60 : decode cX5_nextSeating 60 = .ok (.if_icmp .ge 9, 3) := by decide +kernel
theorem dX5_nextSeating_63 : decode cX5_nextSeating 63 = .ok (.iinc 3 (-1), 3) := by decide +kernel
theorem dX5_nextSeating_66 : decode cX5_nextSeating 66 = .ok (.goto (-18), 3) := by decide +kernel
theorem dX5_nextSeating_69 : decode cX5_nextSeating 69 = .ok (.aload_n 0, 1) := by decide +kernel
theorem dX5_nextSeating_70 : decode cX5_nextSeating 70 = .ok (.iload_n 2, 1) := by decide +kernel
theorem dX5_nextSeating_71 : decode cX5_nextSeating 71 = .ok (.iload_n 3, 1) := by decide +kernel
theorem dX5_nextSeating_72 : decode cX5_nextSeating 72 = .ok (.invokevirtual 144, 3) := by decide +kernel
theorem dX5_nextSeating_75 : decode cX5_nextSeating 75 = .ok (.iconst 0, 1) := by decide +kernel
theorem dX5_nextSeating_76 : decode cX5_nextSeating 76 = .ok (.istore 4, 2) := by decide +kernel
theorem dX5_nextSeating_78 : decode cX5_nextSeating 78 = .ok (.iload_n 2, 1) := by decide +kernel
theorem dX5_nextSeating_79 : decode cX5_nextSeating 79 = .ok (.iconst 1, 1) := by decide +kernel
theorem dX5_nextSeating_80 : decode cX5_nextSeating 80 = .ok (.iadd, 1) := by decide +kernel
theorem dX5_nextSeating_81 : decode cX5_nextSeating 81 = .ok (.iload 4, 2) := by decide +kernel
theorem dX5_nextSeating_83 : decode cX5_nextSeating 83 = .ok (.iadd, 1) := by decide +kernel
theorem dX5_nextSeating_84 : decode cX5_nextSeating 84 = .ok (.iload_n 1, 1) := by decide +kernel
theorem dX5_nextSeating_85 : decode cX5_nextSeating 85 = .ok (.iconst 1, 1) := by decide +kernel
theorem dX5_nextSeating_86 : decode cX5_nextSeating 86 = .ok (.isub, 1) := by decide +kernel
theorem dX5_nextSeating_87 : decode cX5_nextSeating 87 = .ok (.iload 4, 2) := by decide +kernel
theorem dX5_nextSeating_89 : decode cX5_nextSeating 89 = .ok (.isub, 1) := by decide +kernel
theorem dX5_nextSeating_90 : decode cX5_nextSeating 90 = .ok (.if_icmp .ge 25, 3) := by decide +kernel
theorem dX5_nextSeating_93 : decode cX5_nextSeating 93 = .ok (.aload_n 0, 1) := by decide +kernel
theorem dX5_nextSeating_94 : decode cX5_nextSeating 94 = .ok (.iload_n 2, 1) := by decide +kernel
theorem dX5_nextSeating_95 : decode cX5_nextSeating 95 = .ok (.iconst 1, 1) := by decide +kernel
theorem dX5_nextSeating_96 : decode cX5_nextSeating 96 = .ok (.iadd, 1) := by decide +kernel
theorem dX5_nextSeating_97 : decode cX5_nextSeating 97 = .ok (.iload 4, 2) := by decide +kernel
theorem dX5_nextSeating_99 : decode cX5_nextSeating 99 = .ok (.iadd, 1) := by decide +kernel
theorem dX5_nextSeating_100 : decode cX5_nextSeating 100 = .ok (.iload_n 1, 1) := by decide +kernel
theorem dX5_nextSeating_101 : decode cX5_nextSeating 101 = .ok (.iconst 1, 1) := by decide +kernel
theorem dX5_nextSeating_102 : decode cX5_nextSeating 102 = .ok (.isub, 1) := by decide +kernel
theorem dX5_nextSeating_103 : decode cX5_nextSeating 103 = .ok (.iload 4, 2) := by decide +kernel
theorem dX5_nextSeating_105 : decode cX5_nextSeating 105 = .ok (.isub, 1) := by decide +kernel
theorem dX5_nextSeating_106 : decode cX5_nextSeating 106 = .ok (.invokevirtual 144, 3) := by decide +kernel
theorem dX5_nextSeating_109 : decode cX5_nextSeating 109 = .ok (.iinc 4 1, 3) := by decide +kernel
theorem dX5_nextSeating_112 : decode cX5_nextSeating 112 = .ok (.goto (-34), 3) := by decide +kernel
theorem dX5_nextSeating_115 : decode cX5_nextSeating 115 = .ok (.iconst 1, 1) := by decide +kernel
theorem dX5_nextSeating_116 : decode cX5_nextSeating 116 = .ok (.ireturn, 1) := by decide +kernel
theorem dX5_swaps_0 : decode cX5_swaps 0 = .ok (.aload_n 0, 1) := by decide +kernel
theorem dX5_swaps_1 : decode cX5_swaps 1 = .ok (.getfield 31, 3) := by decide +kernel
theorem dX5_swaps_4 : decode cX5_swaps 4 = .ok (.iload_n 1, 1) := by decide +kernel
theorem dX5_swaps_5 : decode cX5_swaps 5 = .ok (.iaload, 1) := by decide +kernel
theorem dX5_swaps_6 : decode cX5_swaps 6 = .ok (.istore_n 3, 1) := by decide +kernel
theorem dX5_swaps_7 : decode cX5_swaps 7 = .ok (.aload_n 0, 1) := by decide +kernel
theorem dX5_swaps_8 : decode cX5_swaps 8 = .ok (.getfield 31, 3) := by decide +kernel
theorem dX5_swaps_11 : decode cX5_swaps 11 = .ok (.iload_n 1, 1) := by decide +kernel
theorem dX5_swaps_12 : decode cX5_swaps 12 = .ok (.aload_n 0, 1) := by decide +kernel
theorem dX5_swaps_13 : decode cX5_swaps 13 = .ok (.getfield 31, 3) := by decide +kernel
theorem dX5_swaps_16 : decode cX5_swaps 16 = .ok (.iload_n 2, 1) := by decide +kernel
theorem dX5_swaps_17 : decode cX5_swaps 17 = .ok (.iaload, 1) := by decide +kernel
theorem dX5_swaps_18 : decode cX5_swaps 18 = .ok (.iastore, 1) := by decide +kernel
theorem dX5_swaps_19 : decode cX5_swaps 19 = .ok (.aload_n 0, 1) := by decide +kernel
theorem dX5_swaps_20 : decode cX5_swaps 20 = .ok (.getfield 31, 3) := by decide +kernel
theorem dX5_swaps_23 : decode cX5_swaps 23 = .ok (.iload_n 2, 1) := by decide +kernel
theorem dX5_swaps_24 : decode cX5_swaps 24 = .ok (.iload_n 3, 1) := by decide +kernel
theorem dX5_swaps_25 : decode cX5_swaps 25 = .ok (.iastore, 1) := by decide +kernel
theorem dX5_swaps_26 : decode cX5_swaps 26 = .ok (.return_, 1) := by decide +kernel
theorem dX5_best_0 : decode cX5_best 0 = .ok (.iload_n 1, 1) := by decide +kernel
theorem dX5_best_1 : decode cX5_best 1 = .ok (.iconst (-1), 1) := by decide +kernel
theorem dX5_best_2 : decode cX5_best 2 = .ok (.if_icmp .eq 13, 3) := by decide +kernel
theorem dX5_best_5 : decode cX5_best 5 = .ok (.aload_n 0, 1) := by decide +kernel
theorem dX5_best_6 : decode cX5_best 6 = .ok (.iload_n 1, 1) := by decide +kernel
theorem dX5_best_7 : decode cX5_best 7 = .ok (.invokevirtual 120, 3) := by decide +kernel
theorem dX5_best_10 : decode cX5_best 10 = .ok (.ifCond .ne 5, 3) := by decide +kernel
theorem dX5_best_13 : decode cX5_best 13 = .ok (.iconst (-1), 1) := by decide +kernel
theorem dX5_best_14 : decode cX5_best 14 = .ok (.ireturn, 1) := by decide +kernel
theorem dX5_best_15 : decode cX5_best 15 = .ok (.aload_n 0, 1) := by decide +kernel
theorem dX5_best_16 : decode cX5_best 16 = .ok (.invokevirtual 123, 3) := by decide +kernel
theorem dX5_best_19 : decode cX5_best 19 = .ok (.aload_n 0, 1) := by decide +kernel
theorem dX5_best_20 : decode cX5_best 20 = .ok (.invokevirtual 148, 3) := by decide +kernel
theorem dX5_best_23 : decode cX5_best 23 = .ok (.iconst (-1), 1) := by decide +kernel
theorem dX5_best_24 : decode cX5_best 24 = .ok (.istore_n 2, 1) := by decide +kernel
theorem dX5_best_25 : decode cX5_best 25 = .ok (.iconst 0, 1) := by decide +kernel
theorem dX5_best_26 : decode cX5_best 26 = .ok (.istore_n 3, 1) := by decide +kernel
theorem dX5_best_27 : decode cX5_best 27 = .ok (.iconst 1, 1) := by decide +kernel
theorem dX5_best_28 : decode cX5_best 28 = .ok (.istore 4, 2) := by decide +kernel
theorem dX5_best_30 : decode cX5_best 30 = .ok (.iload 4, 2) := by decide +kernel
theorem dX5_best_32 : decode cX5_best 32 = .ok (.ifCond .eq 45, 3) := by decide +kernel
theorem dX5_best_35 : decode cX5_best 35 = .ok (.aload_n 0, 1) := by decide +kernel
theorem dX5_best_36 : decode cX5_best 36 = .ok (.invokevirtual 126, 3) := by decide +kernel
theorem dX5_best_39 : decode cX5_best 39 = .ok (.pop, 1) := by decide +kernel
theorem dX5_best_40 : decode cX5_best 40 = .ok (.aload_n 0, 1) := by decide +kernel
theorem dX5_best_41 : decode cX5_best 41 = .ok (.getfield 108, 3) := by decide +kernel
theorem dX5_best_44 : decode cX5_best 44 = .ok (.iload_n 2, 1) := by decide +kernel
theorem dX5_best_45 : decode cX5_best 45 = .ok (.if_icmp .le 23, 3) := by decide +kernel
theorem dX5_best_48 : decode cX5_best 48 = .ok (.aload_n 0, 1) := by decide +kernel
theorem dX5_best_49 : decode cX5_best 49 = .ok (.getfield 108, 3) := by decide +kernel
theorem dX5_best_52 : decode cX5_best 52 = .ok (.istore_n 2, 1) := by decide +kernel
theorem dX5_best_53 : decode cX5_best 53 = .ok (.iload_n 1, 1) := by decide +kernel
theorem dX5_best_54 : decode cX5_best 54 = .ok (.ifCond .ge 7, 3) := by decide +kernel
theorem dX5_best_57 : decode cX5_best 57 = .ok (.iconst 0, 1) := by decide +kernel
theorem dX5_best_58 : decode cX5_best 58 = .ok (.goto 9, 3) := by decide +kernel
theorem dX5_best_61 : decode cX5_best 61 = .ok (.aload_n 0, 1) := by decide +kernel
theorem dX5_best_62 : decode cX5_best 62 = .ok (.getfield 31, 3) := by decide +kernel
theorem dX5_best_65 : decode cX5_best 65 = .ok (.iload_n 1, 1) := by decide +kernel
theorem dX5_best_66 : decode cX5_best 66 = .ok (.iaload, 1) := by decide +kernel
theorem dX5_best_67 : decode cX5_best 67 = .ok (.istore_n 3, 1) := by decide +kernel
theorem dX5_best_68 : decode cX5_best 68 = .ok (.aload_n 0, 1) := by decide +kernel
theorem dX5_best_69 : decode cX5_best 69 = .ok (.invokevirtual 151, 3) := by decide +kernel
theorem dX5_best_72 : decode cX5_best 72 = .ok (.istore 4, 2) := by decide +kernel
theorem dX5_best_74 : decode cX5_best 74 = .ok (.goto (-44), 3) := by decide +kernel
theorem dX5_best_77 : decode cX5_best 77 = .ok (.iload_n 1, 1) := by decide +kernel
theorem dX5_best_78 : decode cX5_best 78 = .ok (.iconst (-1), 1) := by decide +kernel
theorem dX5_best_79 : decode cX5_best 79 = .ok (.if_icmp .ne 7, 3) := by decide +kernel
theorem dX5_best_82 : decode cX5_best 82 = .ok (.iload_n 2, 1) := by decide +kernel
theorem dX5_best_83 : decode cX5_best 83 = .ok (.goto 4, 3) := by decide +kernel
theorem dX5_best_86 : decode cX5_best 86 = .ok (.iload_n 3, 1) := by decide +kernel
theorem dX5_best_87 : decode cX5_best 87 = .ok (.ireturn, 1) := by decide +kernel
theorem dX5_far_0 : decode cX5_far 0 = .ok (.iconst 0, 1) := by decide +kernel
theorem dX5_far_1 : decode cX5_far 1 = .ok (.istore_n 1, 1) := by decide +kernel
theorem dX5_far_2 : decode cX5_far 2 = .ok (.iconst 0, 1) := by decide +kernel
theorem dX5_far_3 : decode cX5_far 3 = .ok (.istore_n 2, 1) := by decide +kernel
theorem dX5_far_4 : decode cX5_far 4 = .ok (.iconst 0, 1) := by decide +kernel
theorem dX5_far_5 : decode cX5_far 5 = .ok (.istore_n 3, 1) := by decide +kernel
theorem dX5_far_6 : decode cX5_far 6 = .ok (.iload_n 3, 1) := by decide +kernel
theorem dX5_far_7 : decode cX5_far 7 = .ok (.aload_n 0, 1) := by decide +kernel
theorem dX5_far_8 : decode cX5_far 8 = .ok (.getfield 13, 3) := by decide +kernel
theorem dX5_far_11 : decode cX5_far 11 = .ok (.iconst 0, 1) := by decide +kernel
theorem dX5_far_12 : decode cX5_far 12 = .ok (.iaload, 1) := by decide +kernel
theorem dX5_far_13 : decode cX5_far 13 = .ok (.if_icmp .ge 60, 3) := by decide +kernel
theorem dX5_far_16 : decode cX5_far 16 = .ok (.iload_n 2, 1) := by decide +kernel
theorem dX5_far_17 : decode cX5_far 17 = .ok (.iload_n 1, 1) := by decide +kernel
theorem dX5_far_18 : decode cX5_far 18 = .ok (.iload_n 3, 1) := by decide +kernel
theorem dX5_far_19 : decode cX5_far 19 = .ok (.ishr, 1) := by decide +kernel
theorem dX5_far_20 : decode cX5_far 20 = .ok (.iconst 1, 1) := by decide +kernel
theorem dX5_far_21 : decode cX5_far 21 = .ok (.iand, 1) := by decide +kernel
theorem dX5_far_22 : decode cX5_far 22 = .ok (.ifCond .ne 7, 3) := by decide +kernel
theorem dX5_far_25 : decode cX5_far 25 = .ok (.iconst 1, 1) := by decide +kernel
theorem dX5_far_26 : decode cX5_far 26 = .ok (.goto 4, 3) := by decide +kernel
theorem dX5_far_29 : decode cX5_far 29 = .ok (.iconst 0, 1) := by decide +kernel
theorem dX5_far_30 : decode cX5_far 30 = .ok (.iadd, 1) := by decide +kernel
theorem dX5_far_31 : decode cX5_far 31 = .ok (.istore_n 2, 1) := by decide +kernel
theorem dX5_far_32 : decode cX5_far 32 = .ok (.iload_n 3, 1) := by decide +kernel
theorem dX5_far_33 : decode cX5_far 33 = .ok (.istore 4, 2) := by decide +kernel
theorem dX5_far_35 : decode cX5_far 35 = .ok (.iload_n 1, 1) := by decide +kernel
theorem dX5_far_36 : decode cX5_far 36 = .ok (.iload 4, 2) := by decide +kernel
theorem dX5_far_38 : decode cX5_far 38 = .ok (.ishr, 1) := by decide +kernel
theorem dX5_far_39 : decode cX5_far 39 = .ok (.iconst 1, 1) := by decide +kernel
theorem dX5_far_40 : decode cX5_far 40 = .ok (.iand, 1) := by decide +kernel
theorem dX5_far_41 : decode cX5_far 41 = .ok (.ifCond .ne 26, 3) := by decide +kernel
theorem dX5_far_44 : decode cX5_far 44 = .ok (.iload_n 1, 1) := by decide +kernel
theorem dX5_far_45 : decode cX5_far 45 = .ok (.iconst 1, 1) := by decide +kernel
theorem dX5_far_46 : decode cX5_far 46 = .ok (.iload 4, 2) := by decide +kernel
theorem dX5_far_48 : decode cX5_far 48 = .ok (.ishl, 1) := by decide +kernel
theorem dX5_far_49 : decode cX5_far 49 = .ok (.ior, 1) := by decide +kernel
theorem dX5_far_50 : decode cX5_far 50 = .ok (.istore_n 1, 1) := by decide +kernel
theorem dX5_far_51 : decode cX5_far 51 = .ok (.aload_n 0, 1) := by decide +kernel
theorem dX5_far_52 : decode cX5_far 52 = .ok (.aload_n 0, 1) := by decide +kernel
theorem dX5_far_53 : decode cX5_far 53 = .ok (.getfield 31, 3) := by decide +kernel
theorem dX5_far_56 : decode cX5_far 56 = .ok (.iload 4, 2) := by decide +kernel
theorem dX5_far_58 : decode cX5_far 58 = .ok (.iaload, 1) := by decide +kernel
theorem dX5_far_59 : decode cX5_far 59 = .ok (.invokevirtual 129, 3) := by decide +kernel
theorem dX5_far_62 : decode cX5_far 62 = .ok (.istore 4, 2) := by decide +kernel
theorem dX5_far_64 : decode cX5_far 64 = .ok (.goto (-29), 3) := by decide +kernel
theorem dX5_far_67 : decode cX5_far 67 = .ok (.iinc 3 1, 3) := by decide +kernel
theorem dX5_far_70 : decode cX5_far 70 = .ok (.goto (-64), 3) := by decide +kernel
theorem dX5_far_73 : decode cX5_far 73 = .ok (.aload_n 0, 1) := by decide +kernel
theorem dX5_far_74 : decode cX5_far 74 = .ok (.getfield 13, 3) := by decide +kernel
theorem dX5_far_77 : decode cX5_far 77 = .ok (.iconst 0, 1) := by decide +kernel
theorem dX5_far_78 : decode cX5_far 78 = .ok (.iaload, 1) := by decide +kernel
theorem dX5_far_79 : decode cX5_far 79 = .ok (.iload_n 2, 1) := by decide +kernel
theorem dX5_far_80 : decode cX5_far 80 = .ok (.isub, 1) := by decide +kernel
theorem dX5_far_81 : decode cX5_far 81 = .ok (.ireturn, 1) := by decide +kernel
theorem dX5_changes_0 : decode cX5_changes 0 = .ok (.aload_n 0, 1) := by decide +kernel
theorem dX5_changes_1 : decode cX5_changes 1 = .ok (.invokevirtual 123, 3) := by decide +kernel
theorem dX5_changes_4 : decode cX5_changes 4 = .ok (.aload_n 0, 1) := by decide +kernel
theorem dX5_changes_5 : decode cX5_changes 5 = .ok (.invokevirtual 148, 3) := by decide +kernel
theorem dX5_changes_8 : decode cX5_changes 8 = .ok (.bipush (-4), 2) := by decide +kernel
theorem dX5_changes_10 : decode cX5_changes 10 = .ok (.istore_n 1, 1) := by decide +kernel
theorem dX5_changes_11 : decode cX5_changes 11 = .ok (.iconst 1, 1) := by decide +kernel
theorem dX5_changes_12 : decode cX5_changes 12 = .ok (.istore_n 2, 1) := by decide +kernel
theorem dX5_changes_13 : decode cX5_changes 13 = .ok (.iload_n 2, 1) := by decide +kernel
theorem dX5_changes_14 : decode cX5_changes 14 = .ok (.ifCond .eq 46, 3) := by decide +kernel
theorem dX5_changes_17 : decode cX5_changes 17 = .ok (.aload_n 0, 1) := by decide +kernel
theorem dX5_changes_18 : decode cX5_changes 18 = .ok (.invokevirtual 126, 3) := by decide +kernel
theorem dX5_changes_21 : decode cX5_changes 21 = .ok (.aload_n 0, 1) := by decide +kernel
theorem dX5_changes_22 : decode cX5_changes 22 = .ok (.getfield 13, 3) := by decide +kernel
theorem dX5_changes_25 : decode cX5_changes 25 = .ok (.iconst 1, 1) := by decide +kernel
theorem dX5_changes_26 : decode cX5_changes 26 = .ok (.iaload, 1) := by decide +kernel
theorem dX5_changes_27 : decode cX5_changes 27 = .ok (.if_icmp .ne 25, 3) := by decide +kernel
theorem dX5_changes_30 : decode cX5_changes 30 = .ok (.aload_n 0, 1) := by decide +kernel
theorem dX5_changes_31 : decode cX5_changes 31 = .ok (.invokevirtual 155, 3) := by decide +kernel
theorem dX5_changes_34 : decode cX5_changes 34 = .ok (.istore_n 3, 1) := by decide +kernel
theorem dX5_changes_35 : decode cX5_changes 35 = .ok (.iload_n 1, 1) := by decide +kernel
theorem dX5_changes_36 : decode cX5_changes 36 = .ok (.bipush (-4), 2) := by decide +kernel
theorem dX5_changes_38 : decode cX5_changes 38 = .ok (.if_icmp .eq 8, 3) := by decide +kernel
theorem dX5_changes_41 : decode cX5_changes 41 = .ok (.iload_n 3, 1) := by decide +kernel
theorem dX5_changes_42 : decode cX5_changes 42 = .ok (.iload_n 1, 1) := by decide +kernel
theorem dX5_changes_43 : decode cX5_changes 43 = .ok (.if_icmp .ge 7, 3) := by decide +kernel
theorem dX5_changes_46 : decode cX5_changes 46 = .ok (.iload_n 3, 1) := by decide +kernel
theorem dX5_changes_47 : decode cX5_changes 47 = .ok (.goto 4, 3) := by decide +kernel
theorem dX5_changes_50 : decode cX5_changes 50 = .ok (.iload_n 1, 1) := by decide +kernel
theorem dX5_changes_51 : decode cX5_changes 51 = .ok (.istore_n 1, 1) := by decide +kernel
theorem dX5_changes_52 : decode cX5_changes 52 = .ok (.aload_n 0, 1) := by decide +kernel
theorem dX5_changes_53 : decode cX5_changes 53 = .ok (.invokevirtual 151, 3) := by decide +kernel
theorem dX5_changes_56 : decode cX5_changes 56 = .ok (.istore_n 2, 1) := by decide +kernel
theorem dX5_changes_57 : decode cX5_changes 57 = .ok (.goto (-44), 3) := by decide +kernel
theorem dX5_changes_60 : decode cX5_changes 60 = .ok (.iload_n 1, 1) := by decide +kernel
theorem dX5_changes_61 : decode cX5_changes 61 = .ok (.ireturn, 1) := by decide +kernel
theorem dX5_help_0 : decode cX5_help 0 = .ok (.iload_n 1, 1) := by decide +kernel
theorem dX5_help_1 : decode cX5_help 1 = .ok (.iconst 0, 1) := by decide +kernel
theorem dX5_help_2 : decode cX5_help 2 = .ok (.iconst 1, 1) := by decide +kernel
theorem dX5_help_3 : decode cX5_help 3 = .ok (.invokestatic 60, 3) := by decide +kernel
theorem dX5_help_6 : decode cX5_help 6 = .ok (.ifCond .ne 5, 3) := by decide +kernel
theorem dX5_help_9 : decode cX5_help 9 = .ok (.iconst (-1), 1) := by decide +kernel
theorem dX5_help_10 : decode cX5_help 10 = .ok (.ireturn, 1) := by decide +kernel
theorem dX5_help_11 : decode cX5_help 11 = .ok (.aload_n 0, 1) := by decide +kernel
theorem dX5_help_12 : decode cX5_help 12 = .ok (.invokevirtual 123, 3) := by decide +kernel
theorem dX5_help_15 : decode cX5_help 15 = .ok (.aload_n 0, 1) := by decide +kernel
theorem dX5_help_16 : decode cX5_help 16 = .ok (.invokevirtual 126, 3) := by decide +kernel
theorem dX5_help_19 : decode cX5_help 19 = .ok (.pop, 1) := by decide +kernel
theorem dX5_help_20 : decode cX5_help 20 = .ok (.aload_n 0, 1) := by decide +kernel
theorem dX5_help_21 : decode cX5_help 21 = .ok (.getfield 108, 3) := by decide +kernel
theorem dX5_help_24 : decode cX5_help 24 = .ok (.istore_n 2, 1) := by decide +kernel
theorem dX5_help_25 : decode cX5_help 25 = .ok (.bipush (-4), 2) := by decide +kernel
theorem dX5_help_27 : decode cX5_help 27 = .ok (.istore_n 3, 1) := by decide +kernel
theorem dX5_help_28 : decode cX5_help 28 = .ok (.iconst 0, 1) := by decide +kernel
theorem dX5_help_29 : decode cX5_help 29 = .ok (.istore 4, 2) := by decide +kernel
theorem dX5_help_31 : decode cX5_help 31 = .ok (.iload 4, 2) := by decide +kernel
theorem dX5_help_33 : decode cX5_help 33 = .ok (.aload_n 0, 1) := by decide +kernel
theorem dX5_help_34 : decode cX5_help 34 = .ok (.getfield 13, 3) := by decide +kernel
theorem dX5_help_37 : decode cX5_help 37 = .ok (.iconst 0, 1) := by decide +kernel
theorem dX5_help_38 : decode cX5_help 38 = .ok (.iaload, 1) := by decide +kernel
theorem dX5_help_39 : decode cX5_help 39 = .ok (.if_icmp .ge 91, 3) := by decide +kernel
theorem dX5_help_42 : decode cX5_help 42 = .ok (.iload 4, 2) := by decide +kernel
theorem dX5_help_44 : decode cX5_help 44 = .ok (.iconst 1, 1) := by decide +kernel
theorem dX5_help_45 : decode cX5_help 45 = .ok (.iadd, 1) := by decide +kernel
theorem dX5_help_46 : decode cX5_help 46 = .ok (.istore 5, 2) := by decide +kernel
theorem dX5_help_48 : decode cX5_help 48 = .ok (.iload 5, 2) := by decide +kernel
theorem dX5_help_50 : decode cX5_help 50 = .ok (.aload_n 0, 1) := by decide +kernel
theorem dX5_help_51 : decode cX5_help 51 = .ok (.getfield 13, 3) := by decide +kernel
theorem dX5_help_54 : decode cX5_help 54 = .ok (.iconst 0, 1) := by decide +kernel
theorem dX5_help_55 : decode cX5_help 55 = .ok (.iaload, 1) := by decide +kernel
theorem dX5_help_56 : decode cX5_help 56 = .ok (.if_icmp .ge 68, 3) := by decide +kernel
theorem dX5_help_59 : decode cX5_help 59 = .ok (.aload_n 0, 1) := by decide +kernel
theorem dX5_help_60 : decode cX5_help 60 = .ok (.iload 4, 2) := by decide +kernel
theorem dX5_help_62 : decode cX5_help 62 = .ok (.iload 5, 2) := by decide +kernel
theorem dX5_help_64 : decode cX5_help 64 = .ok (.invokevirtual 144, 3) := by decide +kernel
theorem dX5_help_67 : decode cX5_help 67 = .ok (.aload_n 0, 1) := by decide +kernel
theorem dX5_help_68 : decode cX5_help 68 = .ok (.invokevirtual 126, 3) := by decide +kernel
theorem dX5_help_71 : decode cX5_help 71 = .ok (.pop, 1) := by decide +kernel
theorem dX5_help_72 : decode cX5_help 72 = .ok (.aload_n 0, 1) := by decide +kernel
theorem dX5_help_73 : decode cX5_help 73 = .ok (.getfield 108, 3) := by decide +kernel
theorem dX5_help_76 : decode cX5_help 76 = .ok (.iload_n 2, 1) := by decide +kernel
theorem dX5_help_77 : decode cX5_help 77 = .ok (.if_icmp .le 14, 3) := by decide +kernel
theorem dX5_help_80 : decode cX5_help 80 = .ok (.bipush 8, 2) := by decide +kernel
theorem dX5_help_82 : decode cX5_help 82 = .ok (.iload 4, 2) := by decide +kernel
theorem dX5_help_84 : decode cX5_help 84 = .ok (.imul, 1) := by decide +kernel
theorem dX5_help_85 : decode cX5_help 85 = .ok (.iload 5, 2) := by decide +kernel
theorem dX5_help_87 : decode cX5_help 87 = .ok (.iadd, 1) := by decide +kernel
theorem dX5_help_88 : decode cX5_help 88 = .ok (.goto 4, 3) := by decide +kernel
theorem dX5_help_91 : decode cX5_help 91 = .ok (.iload_n 3, 1) := by decide +kernel
theorem dX5_help_92 : decode cX5_help 92 = .ok (.istore_n 3, 1) := by decide +kernel
theorem dX5_help_93 : decode cX5_help 93 = .ok (.aload_n 0, 1) := by decide +kernel
theorem dX5_help_94 : decode cX5_help 94 = .ok (.getfield 108, 3) := by decide +kernel
theorem dX5_help_97 : decode cX5_help 97 = .ok (.iload_n 2, 1) := by decide +kernel
theorem dX5_help_98 : decode cX5_help 98 = .ok (.if_icmp .le 10, 3) := by decide +kernel
theorem dX5_help_101 : decode cX5_help 101 = .ok (.aload_n 0, 1) := by decide +kernel
theorem dX5_help_102 : decode cX5_help 102 = .ok (.getfield 108, 3) := by decide +kernel
theorem dX5_help_105 : decode cX5_help 105 = .ok (.goto 4, 3) := by decide +kernel
theorem dX5_help_108 : decode cX5_help 108 = .ok (.iload_n 2, 1) := by decide +kernel
theorem dX5_help_109 : decode cX5_help 109 = .ok (.istore_n 2, 1) := by decide +kernel
theorem dX5_help_110 : decode cX5_help 110 = .ok (.aload_n 0, 1) := by decide +kernel
theorem dX5_help_111 : decode cX5_help 111 = .ok (.iload 4, 2) := by decide +kernel
theorem dX5_help_113 : decode cX5_help 113 = .ok (.iload 5, 2) := by decide +kernel
theorem dX5_help_115 : decode cX5_help 115 = .ok (.invokevirtual 144, 3) := by decide +kernel
theorem dX5_help_118 : decode cX5_help 118 = .ok (.iinc 5 1, 3) := by decide +kernel
theorem dX5_help_121 : decode cX5_help 121 = .ok (.goto (-73), 3) := by decide +kernel
theorem dX5_help_124 : decode cX5_help 124 = .ok (.iinc 4 1, 3) := by decide +kernel
theorem dX5_help_127 : decode cX5_help 127 = .ok (.goto (-96), 3) := by decide +kernel
theorem dX5_help_130 : decode cX5_help 130 = .ok (.iload_n 1, 1) := by decide +kernel
theorem dX5_help_131 : decode cX5_help 131 = .ok (.ifCond .eq 9, 3) := by decide +kernel
theorem dX5_help_134 : decode cX5_help 134 = .ok (.iload_n 3, 1) := by decide +kernel
theorem dX5_help_135 : decode cX5_help 135 = .ok (.bipush (-4), 2) := by decide +kernel
theorem dX5_help_137 : decode cX5_help 137 = .ok (.if_icmp .ne 7, 3) := by decide +kernel
theorem dX5_help_140 : decode cX5_help 140 = .ok (.iload_n 3, 1) := by decide +kernel
theorem dX5_help_141 : decode cX5_help 141 = .ok (.goto 4, 3) := by decide +kernel
theorem dX5_help_144 : decode cX5_help 144 = .ok (.iload_n 2, 1) := by decide +kernel
theorem dX5_help_145 : decode cX5_help 145 = .ok (.ireturn, 1) := by decide +kernel
theorem dX5_bribes_0 : decode cX5_bribes 0 = .ok (.iload_n 1, 1) := by decide +kernel
theorem dX5_bribes_1 : decode cX5_bribes 1 = .ok (.iconst 0, 1) := by decide +kernel
theorem dX5_bribes_2 : decode cX5_bribes 2 = .ok (.iconst 1, 1) := by decide +kernel
theorem dX5_bribes_3 : decode cX5_bribes 3 = .ok (.invokestatic 60, 3) := by decide +kernel
theorem dX5_bribes_6 : decode cX5_bribes 6 = .ok (.ifCond .ne 5, 3) := by decide +kernel
theorem dX5_bribes_9 : decode cX5_bribes 9 = .ok (.iconst (-1), 1) := by decide +kernel
theorem dX5_bribes_10 : decode cX5_bribes 10 = .ok (.ireturn, 1) := by decide +kernel
theorem dX5_bribes_11 : decode cX5_bribes 11 = .ok (.aload_n 0, 1) := by decide +kernel
theorem dX5_bribes_12 : decode cX5_bribes 12 = .ok (.invokevirtual 123, 3) := by decide +kernel
theorem dX5_bribes_15 : decode cX5_bribes 15 = .ok (.iconst 1, 1) := by decide +kernel
theorem dX5_bribes_16 : decode cX5_bribes 16 = .ok (.aload_n 0, 1) := by decide +kernel
theorem dX5_bribes_17 : decode cX5_bribes 17 = .ok (.getfield 13, 3) := by decide +kernel
theorem dX5_bribes_20 : decode cX5_bribes 20 = .ok (.iconst 0, 1) := by decide +kernel
theorem dX5_bribes_21 : decode cX5_bribes 21 = .ok (.iaload, 1) := by decide +kernel
theorem dX5_bribes_22 : decode cX5_bribes 22 = .ok (.ishl, 1) := by decide +kernel
theorem dX5_bribes_23 : decode cX5_bribes 23 = .ok (.iconst 1, 1) := by decide +kernel
theorem dX5_bribes_24 : decode cX5_bribes 24 = .ok (.isub, 1) := by decide +kernel
theorem dX5_bribes_25 : decode cX5_bribes 25 = .ok (.istore_n 2, 1) := by decide +kernel
theorem dX5_bribes_26 : decode cX5_bribes 26 = .ok (.iload_n 2, 1) := by decide +kernel
theorem dX5_bribes_27 : decode cX5_bribes 27 = .ok (.istore_n 3, 1) := by decide +kernel
theorem dX5_bribes_28 : decode cX5_bribes 28 = .ok (.iload_n 3, 1) := by decide +kernel
theorem dX5_bribes_29 : decode cX5_bribes 29 = .ok (.ifCond .lt 46, 3) := by decide +kernel
theorem dX5_bribes_32 : decode cX5_bribes 32 = .ok (.aload_n 0, 1) := by decide +kernel
theorem dX5_bribes_33 : decode cX5_bribes 33 = .ok (.iload_n 3, 1) := by decide +kernel
theorem dX5_bribes_34 : decode cX5_bribes 34 = .ok (.putfield 99, 3) := by decide +kernel
theorem dX5_bribes_37 : decode cX5_bribes 37 = .ok (.aload_n 0, 1) := by decide +kernel
theorem dX5_bribes_38 : decode cX5_bribes 38 = .ok (.iload_n 3, 1) := by decide +kernel
theorem dX5_bribes_39 : decode cX5_bribes 39 = .ok (.invokevirtual 141, 3) := by decide +kernel
theorem dX5_bribes_42 : decode cX5_bribes 42 = .ok (.aload_n 0, 1) := by decide +kernel
theorem dX5_bribes_43 : decode cX5_bribes 43 = .ok (.iload_n 2, 1) := by decide +kernel
theorem dX5_bribes_44 : decode cX5_bribes 44 = .ok (.invokevirtual 141, 3) := by decide +kernel
theorem dX5_bribes_47 : decode cX5_bribes 47 = .ok (.if_icmp .gt 20, 3) := by decide +kernel
theorem dX5_bribes_50 : decode cX5_bribes 50 = .ok (.aload_n 0, 1) := by decide +kernel
theorem dX5_bribes_51 : decode cX5_bribes 51 = .ok (.invokevirtual 126, 3) := by decide +kernel
theorem dX5_bribes_54 : decode cX5_bribes 54 = .ok (.aload_n 0, 1) := by decide +kernel
theorem dX5_bribes_55 : decode cX5_bribes 55 = .ok (.getfield 13, 3) := by decide +kernel
theorem dX5_bribes_58 : decode cX5_bribes 58 = .ok (.iconst 1, 1) := by decide +kernel
theorem dX5_bribes_59 : decode cX5_bribes 59 = .ok (.iaload, 1) := by decide +kernel
theorem dX5_bribes_60 : decode cX5_bribes 60 = .ok (.if_icmp .ne 7, 3) := by decide +kernel
theorem dX5_bribes_63 : decode cX5_bribes 63 = .ok (.iload_n 3, 1) := by decide +kernel
theorem dX5_bribes_64 : decode cX5_bribes 64 = .ok (.goto 4, 3) := by decide +kernel
theorem dX5_bribes_67 : decode cX5_bribes 67 = .ok (.iload_n 2, 1) := by decide +kernel
theorem dX5_bribes_68 : decode cX5_bribes 68 = .ok (.istore_n 2, 1) := by decide +kernel
theorem dX5_bribes_69 : decode cX5_bribes 69 = .ok (.iinc 3 (-1), 3) := by decide +kernel
theorem dX5_bribes_72 : decode cX5_bribes 72 = .ok (.goto (-44), 3) := by decide +kernel
theorem dX5_bribes_75 : decode cX5_bribes 75 = .ok (.iload_n 1, 1) := by decide +kernel
theorem dX5_bribes_76 : decode cX5_bribes 76 = .ok (.ifCond .ne 7, 3) := by decide +kernel
theorem dX5_bribes_79 : decode cX5_bribes 79 = .ok (.iload_n 2, 1) := by decide +kernel
theorem dX5_bribes_80 : decode cX5_bribes 80 = .ok (.goto 8, 3) := by decide +kernel
theorem dX5_bribes_83 : decode cX5_bribes 83 = .ok (.aload_n 0, 1) := by decide +kernel
theorem dX5_bribes_84 : decode cX5_bribes 84 = .ok (.iload_n 2, 1) := by decide +kernel
theorem dX5_bribes_85 : decode cX5_bribes 85 = .ok (.invokevirtual 141, 3) := by decide +kernel
theorem dX5_bribes_88 : decode cX5_bribes 88 = .ok (.ireturn, 1) := by decide +kernel
theorem dX5_rests_0 : decode cX5_rests 0 = .ok (.aload_n 0, 1) := by decide +kernel
theorem dX5_rests_1 : decode cX5_rests 1 = .ok (.invokevirtual 123, 3) := by decide +kernel
theorem dX5_rests_4 : decode cX5_rests 4 = .ok (.aload_n 0, 1) := by decide +kernel
theorem dX5_rests_5 : decode cX5_rests 5 = .ok (.invokevirtual 126, 3) := by decide +kernel
theorem dX5_rests_8 : decode cX5_rests 8 = .ok (.pop, 1) := by decide +kernel
theorem dX5_rests_9 : decode cX5_rests 9 = .ok (.iconst 0, 1) := by decide +kernel
theorem dX5_rests_10 : decode cX5_rests 10 = .ok (.istore_n 1, 1) := by decide +kernel
theorem dX5_rests_11 : decode cX5_rests 11 = .ok (.iconst 0, 1) := by decide +kernel
theorem dX5_rests_12 : decode cX5_rests 12 = .ok (.istore_n 2, 1) := by decide +kernel
theorem dX5_rests_13 : decode cX5_rests 13 = .ok (.iload_n 2, 1) := by decide +kernel
theorem dX5_rests_14 : decode cX5_rests 14 = .ok (.aload_n 0, 1) := by decide +kernel
theorem dX5_rests_15 : decode cX5_rests 15 = .ok (.getfield 13, 3) := by decide +kernel
theorem dX5_rests_18 : decode cX5_rests 18 = .ok (.iconst 1, 1) := by decide +kernel
theorem dX5_rests_19 : decode cX5_rests 19 = .ok (.iaload, 1) := by decide +kernel
theorem dX5_rests_20 : decode cX5_rests 20 = .ok (.if_icmp .ge 33, 3) := by decide +kernel
theorem dX5_rests_23 : decode cX5_rests 23 = .ok (.iload_n 1, 1) := by decide +kernel
theorem dX5_rests_24 : decode cX5_rests 24 = .ok (.aload_n 0, 1) := by decide +kernel
theorem dX5_rests_25 : decode cX5_rests 25 = .ok (.getfield 13, 3) := by decide +kernel
theorem dX5_rests_28 : decode cX5_rests 28 = .ok (.bipush 25, 2) := by decide +kernel
theorem dX5_rests_30 : decode cX5_rests 30 = .ok (.iload_n 2, 1) := by decide +kernel
theorem dX5_rests_31 : decode cX5_rests 31 = .ok (.iadd, 1) := by decide +kernel
theorem dX5_rests_32 : decode cX5_rests 32 = .ok (.iaload, 1) := by decide +kernel
theorem dX5_rests_33 : decode cX5_rests 33 = .ok (.aload_n 0, 1) := by decide +kernel
theorem dX5_rests_34 : decode cX5_rests 34 = .ok (.getfield 40, 3) := by decide +kernel
theorem dX5_rests_37 : decode cX5_rests 37 = .ok (.iload_n 2, 1) := by decide +kernel
theorem dX5_rests_38 : decode cX5_rests 38 = .ok (.iaload, 1) := by decide +kernel
theorem dX5_rests_39 : decode cX5_rests 39 = .ok (.iconst (-1), 1) := by decide +kernel
theorem dX5_rests_40 : decode cX5_rests 40 = .ok (.ixor, 1) := by decide +kernel
theorem dX5_rests_41 : decode cX5_rests 41 = .ok (.iand, 1) := by decide +kernel
theorem dX5_rests_42 : decode cX5_rests 42 = .ok (.invokestatic 117, 3) := by decide +kernel
theorem dX5_rests_45 : decode cX5_rests 45 = .ok (.iadd, 1) := by decide +kernel
theorem dX5_rests_46 : decode cX5_rests 46 = .ok (.istore_n 1, 1) := by decide +kernel
theorem dX5_rests_47 : decode cX5_rests 47 = .ok (.iinc 2 1, 3) := by decide +kernel
theorem dX5_rests_50 : decode cX5_rests 50 = .ok (.goto (-37), 3) := by decide +kernel
theorem dX5_rests_53 : decode cX5_rests 53 = .ok (.iload_n 1, 1) := by decide +kernel
theorem dX5_rests_54 : decode cX5_rests 54 = .ok (.ireturn, 1) := by decide +kernel
theorem dX5_silence_0 : decode cX5_silence 0 = .ok (.aload_n 0, 1) := by decide +kernel
theorem dX5_silence_1 : decode cX5_silence 1 = .ok (.iload_n 1, 1) := by decide +kernel
theorem dX5_silence_2 : decode cX5_silence 2 = .ok (.invokevirtual 120, 3) := by decide +kernel
theorem dX5_silence_5 : decode cX5_silence 5 = .ok (.ifCond .ne 5, 3) := by decide +kernel
theorem dX5_silence_8 : decode cX5_silence 8 = .ok (.iconst (-1), 1) := by decide +kernel
theorem dX5_silence_9 : decode cX5_silence 9 = .ok (.ireturn, 1) := by decide +kernel
theorem dX5_silence_10 : decode cX5_silence 10 = .ok (.aload_n 0, 1) := by decide +kernel
theorem dX5_silence_11 : decode cX5_silence 11 = .ok (.invokevirtual 123, 3) := by decide +kernel
theorem dX5_silence_14 : decode cX5_silence 14 = .ok (.aload_n 0, 1) := by decide +kernel
theorem dX5_silence_15 : decode cX5_silence 15 = .ok (.invokevirtual 126, 3) := by decide +kernel
theorem dX5_silence_18 : decode cX5_silence 18 = .ok (.pop, 1) := by decide +kernel
theorem dX5_silence_19 : decode cX5_silence 19 = .ok (.aload_n 0, 1) := by decide +kernel
theorem dX5_silence_20 : decode cX5_silence 20 = .ok (.getfield 108, 3) := by decide +kernel
theorem dX5_silence_23 : decode cX5_silence 23 = .ok (.istore_n 2, 1) := by decide +kernel
theorem dX5_silence_24 : decode cX5_silence 24 = .ok (.aload_n 0, 1) := by decide +kernel
theorem dX5_silence_25 : decode cX5_silence 25 = .ok (.iconst 1, 1) := by decide +kernel
theorem dX5_silence_26 : decode cX5_silence 26 = .ok (.iload_n 1, 1) := by decide +kernel
theorem dX5_silence_27 : decode cX5_silence 27 = .ok (.ishl, 1) := by decide +kernel
theorem dX5_silence_28 : decode cX5_silence 28 = .ok (.putfield 105, 3) := by decide +kernel
theorem dX5_silence_31 : decode cX5_silence 31 = .ok (.aload_n 0, 1) := by decide +kernel
theorem dX5_silence_32 : decode cX5_silence 32 = .ok (.invokevirtual 126, 3) := by decide +kernel
theorem dX5_silence_35 : decode cX5_silence 35 = .ok (.pop, 1) := by decide +kernel
theorem dX5_silence_36 : decode cX5_silence 36 = .ok (.aload_n 0, 1) := by decide +kernel
theorem dX5_silence_37 : decode cX5_silence 37 = .ok (.iconst 0, 1) := by decide +kernel
theorem dX5_silence_38 : decode cX5_silence 38 = .ok (.putfield 105, 3) := by decide +kernel
theorem dX5_silence_41 : decode cX5_silence 41 = .ok (.iload_n 2, 1) := by decide +kernel
theorem dX5_silence_42 : decode cX5_silence 42 = .ok (.aload_n 0, 1) := by decide +kernel
theorem dX5_silence_43 : decode cX5_silence 43 = .ok (.getfield 108, 3) := by decide +kernel
theorem dX5_silence_46 : decode cX5_silence 46 = .ok (.isub, 1) := by decide +kernel
theorem dX5_silence_47 : decode cX5_silence 47 = .ok (.bipush 100, 2) := by decide +kernel
theorem dX5_silence_49 : decode cX5_silence 49 = .ok (.iadd, 1) := by decide +kernel
theorem dX5_silence_50 : decode cX5_silence 50 = .ok (.ireturn, 1) := by decide +kernel
theorem dX5_alike_0 : decode cX5_alike 0 = .ok (.aload_n 0, 1) := by decide +kernel
theorem dX5_alike_1 : decode cX5_alike 1 = .ok (.invokevirtual 123, 3) := by decide +kernel
theorem dX5_alike_4 : decode cX5_alike 4 = .ok (.aload_n 0, 1) := by decide +kernel
theorem dX5_alike_5 : decode cX5_alike 5 = .ok (.invokevirtual 126, 3) := by decide +kernel
theorem dX5_alike_8 : decode cX5_alike 8 = .ok (.pop, 1) := by decide +kernel
theorem dX5_alike_9 : decode cX5_alike 9 = .ok (.iconst 0, 1) := by decide +kernel
theorem dX5_alike_10 : decode cX5_alike 10 = .ok (.istore_n 1, 1) := by decide +kernel
theorem dX5_alike_11 : decode cX5_alike 11 = .ok (.iload_n 1, 1) := by decide +kernel
theorem dX5_alike_12 : decode cX5_alike 12 = .ok (.aload_n 0, 1) := by decide +kernel
theorem dX5_alike_13 : decode cX5_alike 13 = .ok (.getfield 13, 3) := by decide +kernel
theorem dX5_alike_16 : decode cX5_alike 16 = .ok (.iconst 1, 1) := by decide +kernel
theorem dX5_alike_17 : decode cX5_alike 17 = .ok (.iaload, 1) := by decide +kernel
theorem dX5_alike_18 : decode cX5_alike 18 = .ok (.if_icmp .ge 21, 3) := by decide +kernel
theorem dX5_alike_21 : decode cX5_alike 21 = .ok (.aload_n 0, 1) := by decide +kernel
theorem dX5_alike_22 : decode cX5_alike 22 = .ok (.getfield 43, 3) := by decide +kernel
theorem dX5_alike_25 : decode cX5_alike 25 = .ok (.iload_n 1, 1) := by decide +kernel
theorem dX5_alike_26 : decode cX5_alike 26 = .ok (.aload_n 0, 1) := by decide +kernel
theorem dX5_alike_27 : decode cX5_alike 27 = .ok (.getfield 40, 3) := by decide +kernel
theorem dX5_alike_30 : decode cX5_alike 30 = .ok (.iload_n 1, 1) := by decide +kernel
theorem dX5_alike_31 : decode cX5_alike 31 = .ok (.iaload, 1) := by decide +kernel
theorem dX5_alike_32 : decode cX5_alike 32 = .ok (.iastore, 1) := by decide +kernel
theorem dX5_alike_33 : decode cX5_alike 33 = .ok (.iinc 1 1, 3) := by decide +kernel
theorem dX5_alike_36 : decode cX5_alike 36 = .ok (.goto (-25), 3) := by decide +kernel
theorem dX5_alike_39 : decode cX5_alike 39 = .ok (.aload_n 0, 1) := by decide +kernel
theorem dX5_alike_40 : decode cX5_alike 40 = .ok (.invokevirtual 148, 3) := by decide +kernel
theorem dX5_alike_43 : decode cX5_alike 43 = .ok (.iconst 0, 1) := by decide +kernel
theorem dX5_alike_44 : decode cX5_alike 44 = .ok (.istore_n 1, 1) := by decide +kernel
theorem dX5_alike_45 : decode cX5_alike 45 = .ok (.iconst 1, 1) := by decide +kernel
theorem dX5_alike_46 : decode cX5_alike 46 = .ok (.istore_n 2, 1) := by decide +kernel
theorem dX5_alike_47 : decode cX5_alike 47 = .ok (.iload_n 2, 1) := by decide +kernel
theorem dX5_alike_48 : decode cX5_alike 48 = .ok (.ifCond .eq 77, 3) := by decide +kernel
theorem dX5_alike_51 : decode cX5_alike 51 = .ok (.aload_n 0, 1) := by decide +kernel
theorem dX5_alike_52 : decode cX5_alike 52 = .ok (.invokevirtual 126, 3) := by decide +kernel
theorem dX5_alike_55 : decode cX5_alike 55 = .ok (.pop, 1) := by decide +kernel
theorem dX5_alike_56 : decode cX5_alike 56 = .ok (.iconst 1, 1) := by decide +kernel
theorem dX5_alike_57 : decode cX5_alike 57 = .ok (.istore_n 3, 1) := by decide +kernel
theorem dX5_alike_58 : decode cX5_alike 58 = .ok (.iconst 0, 1) := by decide +kernel
theorem dX5_alike_59 : decode cX5_alike 59 = .ok (.istore 4, 2) := by decide +kernel
theorem dX5_alike_61 : decode cX5_alike 61 = .ok (.iload 4, 2) := by decide +kernel
theorem dX5_alike_63 : decode cX5_alike 63 = .ok (.aload_n 0, 1) := by decide +kernel
theorem dX5_alike_64 : decode cX5_alike 64 = .ok (.getfield 13, 3) := by decide +kernel
theorem dX5_alike_67 : decode cX5_alike 67 = .ok (.iconst 1, 1) := by decide +kernel
theorem dX5_alike_68 : decode cX5_alike 68 = .ok (.iaload, 1) := by decide +kernel
theorem dX5_alike_69 : decode cX5_alike 69 = .ok (.if_icmp .ge 36, 3) := by decide +kernel
theorem dX5_alike_72 : decode cX5_alike 72 = .ok (.iload_n 3, 1) := by decide +kernel
theorem dX5_alike_73 : decode cX5_alike 73 = .ok (.ifCond .eq 24, 3) := by decide +kernel
theorem dX5_alike_76 : decode cX5_alike 76 = .ok (.aload_n 0, 1) := by decide +kernel
theorem dX5_alike_77 : decode cX5_alike 77 = .ok (.getfield 40, 3) := by decide +kernel
theorem dX5_alike_80 : decode cX5_alike 80 = .ok (.iload 4, 2) := by decide +kernel
theorem dX5_alike_82 : decode cX5_alike 82 = .ok (.iaload, 1) := by decide +kernel
theorem dX5_alike_83 : decode cX5_alike 83 = .ok (.aload_n 0, 1) := by decide +kernel
theorem dX5_alike_84 : decode cX5_alike 84 = .ok (.getfield 43, 3) := by decide +kernel
theorem dX5_alike_87 : decode cX5_alike 87 = .ok (.iload 4, 2) := by decide +kernel
theorem dX5_alike_89 : decode cX5_alike 89 = .ok (.iaload, 1) := by decide +kernel
theorem dX5_alike_90 : decode cX5_alike 90 = .ok (.if_icmp .ne 7, 3) := by decide +kernel
theorem dX5_alike_93 : decode cX5_alike 93 = .ok (.iconst 1, 1) := by decide +kernel
theorem dX5_alike_94 : decode cX5_alike 94 = .ok (.goto 4, 3) := by decide +kernel
theorem dX5_alike_97 : decode cX5_alike 97 = .ok (.iconst 0, 1) := by decide +kernel
theorem dX5_alike_98 : decode cX5_alike 98 = .ok (.istore_n 3, 1) := by decide +kernel
theorem dX5_alike_99 : decode cX5_alike 99 = .ok (.iinc 4 1, 3) := by decide +kernel
theorem dX5_alike_102 : decode cX5_alike 102 = .ok (.goto (-41), 3) := by decide +kernel
theorem dX5_alike_105 : decode cX5_alike 105 = .ok (.iload_n 1, 1) := by decide +kernel
theorem dX5_alike_106 : decode cX5_alike 106 = .ok (.iload_n 3, 1) := by decide +kernel
theorem dX5_alike_107 : decode cX5_alike 107 = .ok (.ifCond .eq 7, 3) := by decide +kernel
theorem dX5_alike_110 : decode cX5_alike 110 = .ok (.iconst 1, 1) := by decide +kernel
theorem dX5_alike_111 : decode cX5_alike 111 = .ok (.goto 4, 3) := by decide +kernel
theorem dX5_alike_114 : decode cX5_alike 114 = .ok (.iconst 0, 1) := by decide +kernel
theorem dX5_alike_115 : decode cX5_alike 115 = .ok (.iadd, 1) := by decide +kernel
theorem dX5_alike_116 : decode cX5_alike 116 = .ok (.istore_n 1, 1) := by decide +kernel
theorem dX5_alike_117 : decode cX5_alike 117 = .ok (.aload_n 0, 1) := by decide +kernel
theorem dX5_alike_118 : decode cX5_alike 118 = .ok (.invokevirtual 151, 3) := by decide +kernel
theorem dX5_alike_121 : decode cX5_alike 121 = .ok (.istore_n 2, 1) := by decide +kernel
theorem dX5_alike_122 : decode cX5_alike 122 = .ok (.goto (-75), 3) := by decide +kernel
theorem dX5_alike_125 : decode cX5_alike 125 = .ok (.iload_n 1, 1) := by decide +kernel
theorem dX5_alike_126 : decode cX5_alike 126 = .ok (.ireturn, 1) := by decide +kernel
theorem dX5_share_0 : decode cX5_share 0 = .ok (.aload_n 0, 1) := by decide +kernel
theorem dX5_share_1 : decode cX5_share 1 = .ok (.invokevirtual 123, 3) := by decide +kernel
theorem dX5_share_4 : decode cX5_share 4 = .ok (.aload_n 0, 1) := by decide +kernel
theorem dX5_share_5 : decode cX5_share 5 = .ok (.invokevirtual 148, 3) := by decide +kernel
theorem dX5_share_8 : decode cX5_share 8 = .ok (.iconst 0, 1) := by decide +kernel
theorem dX5_share_9 : decode cX5_share 9 = .ok (.istore_n 3, 1) := by decide +kernel
theorem dX5_share_10 : decode cX5_share 10 = .ok (.iconst 0, 1) := by decide +kernel
theorem dX5_share_11 : decode cX5_share 11 = .ok (.istore 4, 2) := by decide +kernel
theorem dX5_share_13 : decode cX5_share 13 = .ok (.iconst 1, 1) := by decide +kernel
theorem dX5_share_14 : decode cX5_share 14 = .ok (.istore 5, 2) := by decide +kernel
theorem dX5_share_16 : decode cX5_share 16 = .ok (.iload 5, 2) := by decide +kernel
theorem dX5_share_18 : decode cX5_share 18 = .ok (.ifCond .eq 60, 3) := by decide +kernel
theorem dX5_share_21 : decode cX5_share 21 = .ok (.aload_n 0, 1) := by decide +kernel
theorem dX5_share_22 : decode cX5_share 22 = .ok (.invokevirtual 126, 3) := by decide +kernel
theorem dX5_share_25 : decode cX5_share 25 = .ok (.istore 6, 2) := by decide +kernel
theorem dX5_share_27 : decode cX5_share 27 = .ok (.iload_n 3, 1) := by decide +kernel
theorem dX5_share_28 : decode cX5_share 28 = .ok (.iload_n 1, 1) := by decide +kernel
theorem dX5_share_29 : decode cX5_share 29 = .ok (.ifCond .ge 22, 3) := by decide +kernel
theorem dX5_share_32 : decode cX5_share 32 = .ok (.iload 6, 2) := by decide +kernel
theorem dX5_share_34 : decode cX5_share 34 = .ok (.aload_n 0, 1) := by decide +kernel
theorem dX5_share_35 : decode cX5_share 35 = .ok (.getfield 13, 3) := by decide +kernel
theorem dX5_share_38 : decode cX5_share 38 = .ok (.iconst 1, 1) := by decide +kernel
theorem dX5_share_39 : decode cX5_share 39 = .ok (.iaload, 1) := by decide +kernel
theorem dX5_share_40 : decode cX5_share 40 = .ok (.if_icmp .ne 7, 3) := by decide +kernel
theorem dX5_share_43 : decode cX5_share 43 = .ok (.iconst 1, 1) := by decide +kernel
theorem dX5_share_44 : decode cX5_share 44 = .ok (.goto 20, 3) := by decide +kernel
theorem dX5_share_47 : decode cX5_share 47 = .ok (.iconst 0, 1) := by decide +kernel
theorem dX5_share_48 : decode cX5_share 48 = .ok (.goto 16, 3) := by decide +kernel
theorem dX5_share_51 : decode cX5_share 51 = .ok (.aload_n 0, 1) := by decide +kernel
theorem dX5_share_52 : decode cX5_share 52 = .ok (.getfield 108, 3) := by decide +kernel
theorem dX5_share_55 : decode cX5_share 55 = .ok (.iload_n 1, 1) := by decide +kernel
theorem dX5_share_56 : decode cX5_share 56 = .ok (.if_icmp .lt 7, 3) := by decide +kernel
theorem dX5_share_59 : decode cX5_share 59 = .ok (.iconst 1, 1) := by decide +kernel
theorem dX5_share_60 : decode cX5_share 60 = .ok (.goto 4, 3) := by decide +kernel
theorem dX5_share_63 : decode cX5_share 63 = .ok (.iconst 0, 1) := by decide +kernel
theorem dX5_share_64 : decode cX5_share 64 = .ok (.iadd, 1) := by decide +kernel
theorem dX5_share_65 : decode cX5_share 65 = .ok (.istore_n 3, 1) := by decide +kernel
theorem dX5_share_66 : decode cX5_share 66 = .ok (.iinc 4 1, 3) := by decide +kernel
theorem dX5_share_69 : decode cX5_share 69 = .ok (.aload_n 0, 1) := by decide +kernel
theorem dX5_share_70 : decode cX5_share 70 = .ok (.invokevirtual 151, 3) := by decide +kernel
theorem dX5_share_73 : decode cX5_share 73 = .ok (.istore 5, 2) := by decide +kernel
theorem dX5_share_75 : decode cX5_share 75 = .ok (.goto (-59), 3) := by decide +kernel
theorem dX5_share_78 : decode cX5_share 78 = .ok (.iload_n 3, 1) := by decide +kernel
theorem dX5_share_79 : decode cX5_share 79 = .ok (.istore 6, 2) := by decide +kernel
theorem dX5_share_81 : decode cX5_share 81 = .ok (.iload 4, 2) := by decide +kernel
theorem dX5_share_83 : decode cX5_share 83 = .ok (.istore 7, 2) := by decide +kernel
theorem dX5_share_85 : decode cX5_share 85 = .ok (.iload 7, 2) := by decide +kernel
theorem dX5_share_87 : decode cX5_share 87 = .ok (.ifCond .le 21, 3) := by decide +kernel
theorem dX5_share_90 : decode cX5_share 90 = .ok (.iload 6, 2) := by decide +kernel
theorem dX5_share_92 : decode cX5_share 92 = .ok (.iload 7, 2) := by decide +kernel
theorem dX5_share_94 : decode cX5_share 94 = .ok (.irem, 1) := by decide +kernel
theorem dX5_share_95 : decode cX5_share 95 = .ok (.istore 8, 2) := by decide +kernel
theorem dX5_share_97 : decode cX5_share 97 = .ok (.iload 7, 2) := by decide +kernel
theorem dX5_share_99 : decode cX5_share 99 = .ok (.istore 6, 2) := by decide +kernel
theorem dX5_share_101 : decode cX5_share 101 = .ok (.iload 8, 2) := by decide +kernel
theorem dX5_share_103 : decode cX5_share 103 = .ok (.istore 7, 2) := by decide +kernel
theorem dX5_share_105 : decode cX5_share 105 = .ok (.goto (-20), 3) := by decide +kernel
theorem dX5_share_108 : decode cX5_share 108 = .ok (.iload_n 2, 1) := by decide +kernel
theorem dX5_share_109 : decode cX5_share 109 = .ok (.ifCond .ne 10, 3) := by decide +kernel
theorem dX5_share_112 : decode cX5_share 112 = .ok (.iload_n 3, 1) := by decide +kernel
theorem dX5_share_113 : decode cX5_share 113 = .ok (.iload 6, 2) := by decide +kernel
theorem dX5_share_115 : decode cX5_share 115 = .ok (.idiv, 1) := by decide +kernel
theorem dX5_share_116 : decode cX5_share 116 = .ok (.goto 8, 3) := by decide +kernel
theorem dX5_share_119 : decode cX5_share 119 = .ok (.iload 4, 2) := by decide +kernel
theorem dX5_share_121 : decode cX5_share 121 = .ok (.iload 6, 2) := by decide +kernel
theorem dX5_share_123 : decode cX5_share 123 = .ok (.idiv, 1) := by decide +kernel
theorem dX5_share_124 : decode cX5_share 124 = .ok (.ireturn, 1) := by decide +kernel
theorem dX5_odds_0 : decode cX5_odds 0 = .ok (.iload_n 1, 1) := by decide +kernel
theorem dX5_odds_1 : decode cX5_odds 1 = .ok (.iconst 0, 1) := by decide +kernel
theorem dX5_odds_2 : decode cX5_odds 2 = .ok (.iconst 1, 1) := by decide +kernel
theorem dX5_odds_3 : decode cX5_odds 3 = .ok (.invokestatic 60, 3) := by decide +kernel
theorem dX5_odds_6 : decode cX5_odds 6 = .ok (.ifCond .eq 12, 3) := by decide +kernel
theorem dX5_odds_9 : decode cX5_odds 9 = .ok (.aload_n 0, 1) := by decide +kernel
theorem dX5_odds_10 : decode cX5_odds 10 = .ok (.iconst (-1), 1) := by decide +kernel
theorem dX5_odds_11 : decode cX5_odds 11 = .ok (.iload_n 1, 1) := by decide +kernel
theorem dX5_odds_12 : decode cX5_odds 12 = .ok (.invokevirtual 158, 3) := by decide +kernel
theorem dX5_odds_15 : decode cX5_odds 15 = .ok (.goto 4, 3) := by decide +kernel
theorem dX5_odds_18 : decode cX5_odds 18 = .ok (.iconst (-1), 1) := by decide +kernel
theorem dX5_odds_19 : decode cX5_odds 19 = .ok (.ireturn, 1) := by decide +kernel
theorem dX5_atLeast_0 : decode cX5_atLeast 0 = .ok (.iload_n 1, 1) := by decide +kernel
theorem dX5_atLeast_1 : decode cX5_atLeast 1 = .ok (.iconst 0, 1) := by decide +kernel
theorem dX5_atLeast_2 : decode cX5_atLeast 2 = .ok (.bipush 56, 2) := by decide +kernel
theorem dX5_atLeast_4 : decode cX5_atLeast 4 = .ok (.invokestatic 60, 3) := by decide +kernel
theorem dX5_atLeast_7 : decode cX5_atLeast 7 = .ok (.ifCond .eq 21, 3) := by decide +kernel
theorem dX5_atLeast_10 : decode cX5_atLeast 10 = .ok (.iload_n 2, 1) := by decide +kernel
theorem dX5_atLeast_11 : decode cX5_atLeast 11 = .ok (.iconst 0, 1) := by decide +kernel
theorem dX5_atLeast_12 : decode cX5_atLeast 12 = .ok (.iconst 1, 1) := by decide +kernel
theorem dX5_atLeast_13 : decode cX5_atLeast 13 = .ok (.invokestatic 60, 3) := by decide +kernel
theorem dX5_atLeast_16 : decode cX5_atLeast 16 = .ok (.ifCond .eq 12, 3) := by decide +kernel
theorem dX5_atLeast_19 : decode cX5_atLeast 19 = .ok (.aload_n 0, 1) := by decide +kernel
theorem dX5_atLeast_20 : decode cX5_atLeast 20 = .ok (.iload_n 1, 1) := by decide +kernel
theorem dX5_atLeast_21 : decode cX5_atLeast 21 = .ok (.iload_n 2, 1) := by decide +kernel
theorem dX5_atLeast_22 : decode cX5_atLeast 22 = .ok (.invokevirtual 158, 3) := by decide +kernel
theorem dX5_atLeast_25 : decode cX5_atLeast 25 = .ok (.goto 4, 3) := by decide +kernel
theorem dX5_atLeast_28 : decode cX5_atLeast 28 = .ok (.iconst (-1), 1) := by decide +kernel
theorem dX5_atLeast_29 : decode cX5_atLeast 29 = .ok (.ireturn, 1) := by decide +kernel
theorem dX5_heard_0 : decode cX5_heard 0 = .ok (.aload_n 0, 1) := by decide +kernel
theorem dX5_heard_1 : decode cX5_heard 1 = .ok (.iload_n 1, 1) := by decide +kernel
theorem dX5_heard_2 : decode cX5_heard 2 = .ok (.invokevirtual 120, 3) := by decide +kernel
theorem dX5_heard_5 : decode cX5_heard 5 = .ok (.ifCond .eq 20, 3) := by decide +kernel
theorem dX5_heard_8 : decode cX5_heard 8 = .ok (.aload_n 0, 1) := by decide +kernel
theorem dX5_heard_9 : decode cX5_heard 9 = .ok (.iload_n 2, 1) := by decide +kernel
theorem dX5_heard_10 : decode cX5_heard 10 = .ok (.invokevirtual 132, 3) := by decide +kernel
theorem dX5_heard_13 : decode cX5_heard 13 = .ok (.ifCond .eq 12, 3) := by decide +kernel
theorem dX5_heard_16 : decode cX5_heard 16 = .ok (.iload_n 3, 1) := by decide +kernel
theorem dX5_heard_17 : decode cX5_heard 17 = .ok (.iconst 0, 1) := by decide +kernel
theorem dX5_heard_18 : decode cX5_heard 18 = .ok (.iconst 1, 1) := by decide +kernel
theorem dX5_heard_19 : decode cX5_heard 19 = .ok (.invokestatic 60, 3) := by decide +kernel
theorem dX5_heard_22 : decode cX5_heard 22 = .ok (.ifCond .ne 5, 3) := by decide +kernel
theorem dX5_heard_25 : decode cX5_heard 25 = .ok (.iconst (-1), 1) := by decide +kernel
theorem dX5_heard_26 : decode cX5_heard 26 = .ok (.ireturn, 1) := by decide +kernel
theorem dX5_heard_27 : decode cX5_heard 27 = .ok (.aload_n 0, 1) := by decide +kernel
theorem dX5_heard_28 : decode cX5_heard 28 = .ok (.getfield 96, 3) := by decide +kernel
theorem dX5_heard_31 : decode cX5_heard 31 = .ok (.bipush 8, 2) := by decide +kernel
theorem dX5_heard_33 : decode cX5_heard 33 = .ok (.if_icmp .ne 6, 3) := by decide +kernel
theorem dX5_heard_36 : decode cX5_heard 36 = .ok (.bipush (-3), 2) := by decide +kernel
theorem dX5_heard_38 : decode cX5_heard 38 = .ok (.ireturn, 1) := by decide +kernel
theorem dX5_heard_39 : decode cX5_heard 39 = .ok (.aload_n 0, 1) := by decide +kernel
theorem dX5_heard_40 : decode cX5_heard 40 = .ok (.getfield 28, 3) := by decide +kernel
theorem dX5_heard_43 : decode cX5_heard 43 = .ok (.aload_n 0, 1) := by decide +kernel
theorem dX5_heard_44 : decode cX5_heard 44 = .ok (.getfield 96, 3) := by decide +kernel
theorem dX5_heard_47 : decode cX5_heard 47 = .ok (.bipush 100, 2) := by decide +kernel
theorem dX5_heard_49 : decode cX5_heard 49 = .ok (.iload_n 1, 1) := by decide +kernel
theorem dX5_heard_50 : decode cX5_heard 50 = .ok (.imul, 1) := by decide +kernel
theorem dX5_heard_51 : decode cX5_heard 51 = .ok (.bipush 10, 2) := by decide +kernel
theorem dX5_heard_53 : decode cX5_heard 53 = .ok (.iload_n 2, 1) := by decide +kernel
theorem dX5_heard_54 : decode cX5_heard 54 = .ok (.imul, 1) := by decide +kernel
theorem dX5_heard_55 : decode cX5_heard 55 = .ok (.iadd, 1) := by decide +kernel
theorem dX5_heard_56 : decode cX5_heard 56 = .ok (.iload_n 3, 1) := by decide +kernel
theorem dX5_heard_57 : decode cX5_heard 57 = .ok (.iadd, 1) := by decide +kernel
theorem dX5_heard_58 : decode cX5_heard 58 = .ok (.iastore, 1) := by decide +kernel
theorem dX5_heard_59 : decode cX5_heard 59 = .ok (.aload_n 0, 1) := by decide +kernel
theorem dX5_heard_60 : decode cX5_heard 60 = .ok (.dup, 1) := by decide +kernel
theorem dX5_heard_61 : decode cX5_heard 61 = .ok (.getfield 96, 3) := by decide +kernel
theorem dX5_heard_64 : decode cX5_heard 64 = .ok (.iconst 1, 1) := by decide +kernel
theorem dX5_heard_65 : decode cX5_heard 65 = .ok (.iadd, 1) := by decide +kernel
theorem dX5_heard_66 : decode cX5_heard 66 = .ok (.putfield 96, 3) := by decide +kernel
theorem dX5_heard_69 : decode cX5_heard 69 = .ok (.aload_n 0, 1) := by decide +kernel
theorem dX5_heard_70 : decode cX5_heard 70 = .ok (.getfield 96, 3) := by decide +kernel
theorem dX5_heard_73 : decode cX5_heard 73 = .ok (.ireturn, 1) := by decide +kernel
theorem dX5_forget_0 : decode cX5_forget 0 = .ok (.aload_n 0, 1) := by decide +kernel
theorem dX5_forget_1 : decode cX5_forget 1 = .ok (.getfield 96, 3) := by decide +kernel
theorem dX5_forget_4 : decode cX5_forget 4 = .ok (.istore_n 1, 1) := by decide +kernel
theorem dX5_forget_5 : decode cX5_forget 5 = .ok (.aload_n 0, 1) := by decide +kernel
theorem dX5_forget_6 : decode cX5_forget 6 = .ok (.iconst 0, 1) := by decide +kernel
theorem dX5_forget_7 : decode cX5_forget 7 = .ok (.putfield 96, 3) := by decide +kernel
theorem dX5_forget_10 : decode cX5_forget 10 = .ok (.iload_n 1, 1) := by decide +kernel
theorem dX5_forget_11 : decode cX5_forget 11 = .ok (.ireturn, 1) := by decide +kernel
theorem dX5_kinds_0 : decode cX5_kinds 0 = .ok (.aload_n 0, 1) := by decide +kernel
theorem dX5_kinds_1 : decode cX5_kinds 1 = .ok (.iload_n 1, 1) := by decide +kernel
theorem dX5_kinds_2 : decode cX5_kinds 2 = .ok (.invokevirtual 120, 3) := by decide +kernel
theorem dX5_kinds_5 : decode cX5_kinds 5 = .ok (.ifCond .ne 5, 3) := by decide +kernel
theorem dX5_kinds_8 : decode cX5_kinds 8 = .ok (.iconst (-1), 1) := by decide +kernel
theorem dX5_kinds_9 : decode cX5_kinds 9 = .ok (.ireturn, 1) := by decide +kernel
theorem dX5_kinds_10 : decode cX5_kinds 10 = .ok (.aload_n 0, 1) := by decide +kernel
theorem dX5_kinds_11 : decode cX5_kinds 11 = .ok (.invokevirtual 123, 3) := by decide +kernel
theorem dX5_kinds_14 : decode cX5_kinds 14 = .ok (.aload_n 0, 1) := by decide +kernel
theorem dX5_kinds_15 : decode cX5_kinds 15 = .ok (.dup, 1) := by decide +kernel
theorem dX5_kinds_16 : decode cX5_kinds 16 = .ok (.getfield 99, 3) := by decide +kernel
theorem dX5_kinds_19 : decode cX5_kinds 19 = .ok (.iconst 1, 1) := by decide +kernel
theorem dX5_kinds_20 : decode cX5_kinds 20 = .ok (.iload_n 1, 1) := by decide +kernel
theorem dX5_kinds_21 : decode cX5_kinds 21 = .ok (.ishl, 1) := by decide +kernel
theorem dX5_kinds_22 : decode cX5_kinds 22 = .ok (.iconst (-1), 1) := by decide +kernel
theorem dX5_kinds_23 : decode cX5_kinds 23 = .ok (.ixor, 1) := by decide +kernel
theorem dX5_kinds_24 : decode cX5_kinds 24 = .ok (.iand, 1) := by decide +kernel
theorem dX5_kinds_25 : decode cX5_kinds 25 = .ok (.putfield 99, 3) := by decide +kernel
theorem dX5_kinds_28 : decode cX5_kinds 28 = .ok (.iconst 0, 1) := by decide +kernel
theorem dX5_kinds_29 : decode cX5_kinds 29 = .ok (.istore_n 2, 1) := by decide +kernel
theorem dX5_kinds_30 : decode cX5_kinds 30 = .ok (.iconst 0, 1) := by decide +kernel
theorem dX5_kinds_31 : decode cX5_kinds 31 = .ok (.istore_n 3, 1) := by decide +kernel
theorem dX5_kinds_32 : decode cX5_kinds 32 = .ok (.iload_n 3, 1) := by decide +kernel
theorem dX5_kinds_33 : decode cX5_kinds 33 = .ok (.iconst 4, 1) := by decide +kernel
theorem dX5_kinds_34 : decode cX5_kinds 34 = .ok (.if_icmp .ge 118, 3) := by decide +kernel
theorem dX5_kinds_37 : decode cX5_kinds 37 = .ok (.aload_n 0, 1) := by decide +kernel
theorem dX5_kinds_38 : decode cX5_kinds 38 = .ok (.getfield 37, 3) := by decide +kernel
theorem dX5_kinds_41 : decode cX5_kinds 41 = .ok (.iload_n 1, 1) := by decide +kernel
theorem dX5_kinds_42 : decode cX5_kinds 42 = .ok (.iload_n 3, 1) := by decide +kernel
theorem dX5_kinds_43 : decode cX5_kinds 43 = .ok (.iastore, 1) := by decide +kernel
theorem dX5_kinds_44 : decode cX5_kinds 44 = .ok (.aload_n 0, 1) := by decide +kernel
theorem dX5_kinds_45 : decode cX5_kinds 45 = .ok (.invokevirtual 126, 3) := by decide +kernel
theorem dX5_kinds_48 : decode cX5_kinds 48 = .ok (.pop, 1) := by decide +kernel
theorem dX5_kinds_49 : decode cX5_kinds 49 = .ok (.iconst 1, 1) := by decide +kernel
theorem dX5_kinds_50 : decode cX5_kinds 50 = .ok (.istore 4, 2) := by decide +kernel
theorem dX5_kinds_52 : decode cX5_kinds 52 = .ok (.iconst 0, 1) := by decide +kernel
theorem dX5_kinds_53 : decode cX5_kinds 53 = .ok (.istore 5, 2) := by decide +kernel
theorem dX5_kinds_55 : decode cX5_kinds 55 = .ok (.iload 5, 2) := by decide +kernel
theorem dX5_kinds_57 : decode cX5_kinds 57 = .ok (.aload_n 0, 1) := by decide +kernel
theorem dX5_kinds_58 : decode cX5_kinds 58 = .ok (.getfield 96, 3) := by decide +kernel
theorem dX5_kinds_61 : decode cX5_kinds 61 = .ok (.if_icmp .ge 70, 3) := by decide +kernel
theorem dX5_kinds_64 : decode cX5_kinds 64 = .ok (.iload 4, 2) := by decide +kernel
theorem dX5_kinds_66 : decode cX5_kinds 66 = .ok (.ifCond .eq 56, 3) := by decide +kernel
theorem dX5_kinds_69 : decode cX5_kinds 69 = .ok (.aload_n 0, 1) := by decide +kernel
theorem dX5_kinds_70 : decode cX5_kinds 70 = .ok (.getfield 28, 3) := by decide +kernel
theorem dX5_kinds_73 : decode cX5_kinds 73 = .ok (.iload 5, 2) := by decide +kernel
theorem dX5_kinds_75 : decode cX5_kinds 75 = .ok (.iaload, 1) := by decide +kernel
theorem dX5_kinds_76 : decode cX5_kinds 76 = .ok (.bipush 100, 2) := by decide +kernel
theorem dX5_kinds_78 : decode cX5_kinds 78 = .ok (.idiv, 1) := by decide +kernel
theorem dX5_kinds_79 : decode cX5_kinds 79 = .ok (.iload_n 1, 1) := by decide +kernel
theorem dX5_kinds_80 : decode cX5_kinds 80 = .ok (.if_icmp .ne 38, 3) := by decide +kernel
theorem dX5_kinds_83 : decode cX5_kinds 83 = .ok (.aload_n 0, 1) := by decide +kernel
theorem dX5_kinds_84 : decode cX5_kinds 84 = .ok (.getfield 40, 3) := by decide +kernel
theorem dX5_kinds_87 : decode cX5_kinds 87 = .ok (.aload_n 0, 1) := by decide +kernel
theorem dX5_kinds_88 : decode cX5_kinds 88 = .ok (.getfield 28, 3) := by decide +kernel
theorem dX5_kinds_91 : decode cX5_kinds 91 = .ok (.iload 5, 2) := by decide +kernel
theorem dX5_kinds_93 : decode cX5_kinds 93 = .ok (.iaload, 1) := by decide +kernel
theorem dX5_kinds_94 : decode cX5_kinds 94 = .ok (.bipush 10, 2) := by decide +kernel
theorem dX5_kinds_96 : decode cX5_kinds 96 = .ok (.idiv, 1) := by decide +kernel
theorem dX5_kinds_97 : decode cX5_kinds 97 = .ok (.bipush 10, 2) := by decide +kernel
theorem dX5_kinds_99 : decode cX5_kinds 99 = .ok (.irem, 1) := by decide +kernel
theorem dX5_kinds_100 : decode cX5_kinds 100 = .ok (.iaload, 1) := by decide +kernel
theorem dX5_kinds_101 : decode cX5_kinds 101 = .ok (.iload_n 1, 1) := by decide +kernel
theorem dX5_kinds_102 : decode cX5_kinds 102 = .ok (.ishr, 1) := by decide +kernel
theorem dX5_kinds_103 : decode cX5_kinds 103 = .ok (.iconst 1, 1) := by decide +kernel
theorem dX5_kinds_104 : decode cX5_kinds 104 = .ok (.iand, 1) := by decide +kernel
theorem dX5_kinds_105 : decode cX5_kinds 105 = .ok (.aload_n 0, 1) := by decide +kernel
theorem dX5_kinds_106 : decode cX5_kinds 106 = .ok (.getfield 28, 3) := by decide +kernel
theorem dX5_kinds_109 : decode cX5_kinds 109 = .ok (.iload 5, 2) := by decide +kernel
theorem dX5_kinds_111 : decode cX5_kinds 111 = .ok (.iaload, 1) := by decide +kernel
theorem dX5_kinds_112 : decode cX5_kinds 112 = .ok (.bipush 10, 2) := by decide +kernel
theorem dX5_kinds_114 : decode cX5_kinds 114 = .ok (.irem, 1) := by decide +kernel
theorem dX5_kinds_115 : decode cX5_kinds 115 = .ok (.if_icmp .ne 7, 3) := by decide +kernel
theorem dX5_kinds_118 : decode cX5_kinds 118 = .ok (.iconst 1, 1) := by decide +kernel
theorem dX5_kinds_119 : decode cX5_kinds 119 = .ok (.goto 4, 3) := by decide +kernel
theorem dX5_kinds_122 : decode cX5_kinds 122 = .ok (.iconst 0, 1) := by decide +kernel
theorem dX5_kinds_123 : decode cX5_kinds 123 = .ok (.istore 4, 2) := by decide +kernel
theorem dX5_kinds_125 : decode cX5_kinds 125 = .ok (.iinc 5 1, 3) := by decide +kernel
theorem dX5_kinds_128 : decode cX5_kinds 128 = .ok (.goto (-73), 3) := by decide +kernel
theorem dX5_kinds_131 : decode cX5_kinds 131 = .ok (.iload_n 2, 1) := by decide +kernel
theorem dX5_kinds_132 : decode cX5_kinds 132 = .ok (.iload 4, 2) := by decide +kernel
theorem dX5_kinds_134 : decode cX5_kinds 134 = .ok (.ifCond .eq 9, 3) := by decide +kernel
theorem dX5_kinds_137 : decode cX5_kinds 137 = .ok (.iconst 1, 1) := by decide +kernel
theorem dX5_kinds_138 : decode cX5_kinds 138 = .ok (.iload_n 3, 1) := by decide +kernel
theorem dX5_kinds_139 : decode cX5_kinds 139 = .ok (.ishl, 1) := by decide +kernel
theorem dX5_kinds_140 : decode cX5_kinds 140 = .ok (.goto 4, 3) := by decide +kernel
theorem dX5_kinds_143 : decode cX5_kinds 143 = .ok (.iconst 0, 1) := by decide +kernel
theorem dX5_kinds_144 : decode cX5_kinds 144 = .ok (.ior, 1) := by decide +kernel
theorem dX5_kinds_145 : decode cX5_kinds 145 = .ok (.istore_n 2, 1) := by decide +kernel
theorem dX5_kinds_146 : decode cX5_kinds 146 = .ok (.iinc 3 1, 3) := by decide +kernel
theorem dX5_kinds_149 : decode cX5_kinds 149 = .ok (.goto (-117), 3) := by decide +kernel
theorem dX5_kinds_152 : decode cX5_kinds 152 = .ok (.iload_n 2, 1) := by decide +kernel
theorem dX5_kinds_153 : decode cX5_kinds 153 = .ok (.ireturn, 1) := by decide +kernel
theorem dX5_hall_0 : decode cX5_hall 0 = .ok (.iload_n 1, 1) := by decide +kernel
theorem dX5_hall_1 : decode cX5_hall 1 = .ok (.iconst 0, 1) := by decide +kernel
theorem dX5_hall_2 : decode cX5_hall 2 = .ok (.aload_n 0, 1) := by decide +kernel
theorem dX5_hall_3 : decode cX5_hall 3 = .ok (.getfield 13, 3) := by decide +kernel
theorem dX5_hall_6 : decode cX5_hall 6 = .ok (.iconst 0, 1) := by decide +kernel
theorem dX5_hall_7 : decode cX5_hall 7 = .ok (.iaload, 1) := by decide +kernel
theorem dX5_hall_8 : decode cX5_hall 8 = .ok (.iconst 2, 1) := by decide +kernel
theorem dX5_hall_9 : decode cX5_hall 9 = .ok (.isub, 1) := by decide +kernel
theorem dX5_hall_10 : decode cX5_hall 10 = .ok (.invokestatic 60, 3) := by decide +kernel
theorem dX5_hall_13 : decode cX5_hall 13 = .ok (.ifCond .ne 11, 3) := by decide +kernel
theorem dX5_hall_16 : decode cX5_hall 16 = .ok (.iload_n 1, 1) := by decide +kernel
theorem dX5_hall_17 : decode cX5_hall 17 = .ok (.bipush 9, 2) := by decide +kernel
theorem dX5_hall_19 : decode cX5_hall 19 = .ok (.if_icmp .eq 5, 3) := by decide +kernel
theorem dX5_hall_22 : decode cX5_hall 22 = .ok (.iconst (-1), 1) := by decide +kernel
theorem dX5_hall_23 : decode cX5_hall 23 = .ok (.ireturn, 1) := by decide +kernel
theorem dX5_hall_24 : decode cX5_hall 24 = .ok (.aload_n 0, 1) := by decide +kernel
theorem dX5_hall_25 : decode cX5_hall 25 = .ok (.invokevirtual 123, 3) := by decide +kernel
theorem dX5_hall_28 : decode cX5_hall 28 = .ok (.aload_n 0, 1) := by decide +kernel
theorem dX5_hall_29 : decode cX5_hall 29 = .ok (.iload_n 1, 1) := by decide +kernel
theorem dX5_hall_30 : decode cX5_hall 30 = .ok (.bipush 9, 2) := by decide +kernel
theorem dX5_hall_32 : decode cX5_hall 32 = .ok (.if_icmp .ne 7, 3) := by decide +kernel
theorem dX5_hall_35 : decode cX5_hall 35 = .ok (.iconst 0, 1) := by decide +kernel
theorem dX5_hall_36 : decode cX5_hall 36 = .ok (.goto 6, 3) := by decide +kernel
theorem dX5_hall_39 : decode cX5_hall 39 = .ok (.iconst 1, 1) := by decide +kernel
theorem dX5_hall_40 : decode cX5_hall 40 = .ok (.iload_n 1, 1) := by decide +kernel
theorem dX5_hall_41 : decode cX5_hall 41 = .ok (.ishl, 1) := by decide +kernel
theorem dX5_hall_42 : decode cX5_hall 42 = .ok (.putfield 102, 3) := by decide +kernel
theorem dX5_hall_45 : decode cX5_hall 45 = .ok (.aload_n 0, 1) := by decide +kernel
theorem dX5_hall_46 : decode cX5_hall 46 = .ok (.invokevirtual 126, 3) := by decide +kernel
theorem dX5_hall_49 : decode cX5_hall 49 = .ok (.pop, 1) := by decide +kernel
theorem dX5_hall_50 : decode cX5_hall 50 = .ok (.aload_n 0, 1) := by decide +kernel
theorem dX5_hall_51 : decode cX5_hall 51 = .ok (.getfield 108, 3) := by decide +kernel
theorem dX5_hall_54 : decode cX5_hall 54 = .ok (.ireturn, 1) := by decide +kernel
theorem dX5_tour_0 : decode cX5_tour 0 = .ok (.iload_n 1, 1) := by decide +kernel
theorem dX5_tour_1 : decode cX5_tour 1 = .ok (.iconst 0, 1) := by decide +kernel
theorem dX5_tour_2 : decode cX5_tour 2 = .ok (.sipush 9999, 3) := by decide +kernel
theorem dX5_tour_5 : decode cX5_tour 5 = .ok (.invokestatic 60, 3) := by decide +kernel
theorem dX5_tour_8 : decode cX5_tour 8 = .ok (.ifCond .eq 22, 3) := by decide +kernel
theorem dX5_tour_11 : decode cX5_tour 11 = .ok (.iload_n 2, 1) := by decide +kernel
theorem dX5_tour_12 : decode cX5_tour 12 = .ok (.iconst 1, 1) := by decide +kernel
theorem dX5_tour_13 : decode cX5_tour 13 = .ok (.bipush 20, 2) := by decide +kernel
theorem dX5_tour_15 : decode cX5_tour 15 = .ok (.invokestatic 60, 3) := by decide +kernel
theorem dX5_tour_18 : decode cX5_tour 18 = .ok (.ifCond .eq 12, 3) := by decide +kernel
theorem dX5_tour_21 : decode cX5_tour 21 = .ok (.iload_n 3, 1) := by decide +kernel
theorem dX5_tour_22 : decode cX5_tour 22 = .ok (.iconst 0, 1) := by decide +kernel
theorem dX5_tour_23 : decode cX5_tour 23 = .ok (.iconst 1, 1) := by decide +kernel
theorem dX5_tour_24 : decode cX5_tour 24 = .ok (.invokestatic 60, 3) := by decide +kernel
theorem dX5_tour_27 : decode cX5_tour 27 = .ok (.ifCond .ne 5, 3) := by decide +kernel
theorem dX5_tour_30 : decode cX5_tour 30 = .ok (.iconst (-1), 1) := by decide +kernel
theorem dX5_tour_31 : decode cX5_tour 31 = .ok (.ireturn, 1) := by decide +kernel
theorem dX5_tour_32 : decode cX5_tour 32 = .ok (.aload_n 0, 1) := by decide +kernel
theorem dX5_tour_33 : decode cX5_tour 33 = .ok (.invokevirtual 123, 3) := by decide +kernel
theorem dX5_tour_36 : decode cX5_tour 36 = .ok (.iconst 0, 1) := by decide +kernel
theorem dX5_tour_37 : decode cX5_tour 37 = .ok (.istore 4, 2) := by decide +kernel
theorem dX5_tour_39 : decode cX5_tour 39 = .ok (.iconst 0, 1) := by decide +kernel
theorem dX5_tour_40 : decode cX5_tour 40 = .ok (.istore 5, 2) := by decide +kernel
theorem dX5_tour_42 : decode cX5_tour 42 = .ok (.iconst 0, 1) := by decide +kernel
theorem dX5_tour_43 : decode cX5_tour 43 = .ok (.istore 6, 2) := by decide +kernel
theorem dX5_tour_45 : decode cX5_tour 45 = .ok (.iload 6, 2) := by decide +kernel
theorem dX5_tour_47 : decode cX5_tour 47 = .ok (.iload_n 2, 1) := by decide +kernel
theorem dX5_tour_48 : decode cX5_tour 48 = .ok (.if_icmp .ge 109, 3) := by decide +kernel
theorem dX5_tour_51 : decode cX5_tour 51 = .ok (.ldc2_w 161, 3) := by decide +kernel
theorem dX5_tour_54 : decode cX5_tour 54 = .ok (.iload_n 1, 1) := by decide +kernel
theorem dX5_tour_55 : decode cX5_tour 55 = .ok (.i2l, 1) := by decide +kernel
theorem dX5_tour_56 : decode cX5_tour 56 = .ok (.lmul, 1) := by decide +kernel
theorem dX5_tour_57 : decode cX5_tour 57 = .ok (.ldc2_w 163, 3) := by decide +kernel
theorem dX5_tour_60 : decode cX5_tour 60 = .ok (.iload 6, 2) := by decide +kernel
theorem dX5_tour_62 : decode cX5_tour 62 = .ok (.i2l, 1) := by decide +kernel
theorem dX5_tour_63 : decode cX5_tour 63 = .ok (.lmul, 1) := by decide +kernel
theorem dX5_tour_64 : decode cX5_tour 64 = .ok (.ladd, 1) := by decide +kernel
theorem dX5_tour_65 : decode cX5_tour 65 = .ok (.lconst 1, 1) := by decide +kernel
theorem dX5_tour_66 : decode cX5_tour 66 = .ok (.ladd, 1) := by decide +kernel
theorem dX5_tour_67 : decode cX5_tour 67 = .ok (.lstore 7, 2) := by decide +kernel
theorem dX5_tour_69 : decode cX5_tour 69 = .ok (.lload 7, 2) := by decide +kernel
theorem dX5_tour_71 : decode cX5_tour 71 = .ok (.lload 7, 2) := by decide +kernel
theorem dX5_tour_73 : decode cX5_tour 73 = .ok (.lmul, 1) := by decide +kernel
theorem dX5_tour_74 : decode cX5_tour 74 = .ok (.ldc2_w 165, 3) := by decide +kernel
theorem dX5_tour_77 : decode cX5_tour 77 = .ok (.lrem, 1) := by decide +kernel
theorem dX5_tour_78 : decode cX5_tour 78 = .ok (.l2i, 1) := by decide +kernel
theorem dX5_tour_79 : decode cX5_tour 79 = .ok (.iconst 4, 1) := by decide +kernel
theorem dX5_tour_80 : decode cX5_tour 80 = .ok (.idiv, 1) := by decide +kernel
theorem dX5_tour_81 : decode cX5_tour 81 = .ok (.istore 9, 2) := by decide +kernel
theorem dX5_tour_83 : decode cX5_tour 83 = .ok (.aload_n 0, 1) := by decide +kernel
theorem dX5_tour_84 : decode cX5_tour 84 = .ok (.iload 9, 2) := by decide +kernel
theorem dX5_tour_86 : decode cX5_tour 86 = .ok (.aload_n 0, 1) := by decide +kernel
theorem dX5_tour_87 : decode cX5_tour 87 = .ok (.getfield 13, 3) := by decide +kernel
theorem dX5_tour_90 : decode cX5_tour 90 = .ok (.iconst 0, 1) := by decide +kernel
theorem dX5_tour_91 : decode cX5_tour 91 = .ok (.iaload, 1) := by decide +kernel
theorem dX5_tour_92 : decode cX5_tour 92 = .ok (.irem, 1) := by decide +kernel
theorem dX5_tour_93 : decode cX5_tour 93 = .ok (.iload 9, 2) := by decide +kernel
theorem dX5_tour_95 : decode cX5_tour 95 = .ok (.bipush 8, 2) := by decide +kernel
theorem dX5_tour_97 : decode cX5_tour 97 = .ok (.idiv, 1) := by decide +kernel
theorem dX5_tour_98 : decode cX5_tour 98 = .ok (.aload_n 0, 1) := by decide +kernel
theorem dX5_tour_99 : decode cX5_tour 99 = .ok (.getfield 13, 3) := by decide +kernel
theorem dX5_tour_102 : decode cX5_tour 102 = .ok (.iconst 0, 1) := by decide +kernel
theorem dX5_tour_103 : decode cX5_tour 103 = .ok (.iaload, 1) := by decide +kernel
theorem dX5_tour_104 : decode cX5_tour 104 = .ok (.irem, 1) := by decide +kernel
theorem dX5_tour_105 : decode cX5_tour 105 = .ok (.invokevirtual 144, 3) := by decide +kernel
theorem dX5_tour_108 : decode cX5_tour 108 = .ok (.iload 4, 2) := by decide +kernel
theorem dX5_tour_110 : decode cX5_tour 110 = .ok (.aload_n 0, 1) := by decide +kernel
theorem dX5_tour_111 : decode cX5_tour 111 = .ok (.invokevirtual 126, 3) := by decide +kernel
theorem dX5_tour_114 : decode cX5_tour 114 = .ok (.aload_n 0, 1) := by decide +kernel
theorem dX5_tour_115 : decode cX5_tour 115 = .ok (.getfield 13, 3) := by decide +kernel
theorem dX5_tour_118 : decode cX5_tour 118 = .ok (.iconst 1, 1) := by decide +kernel
theorem dX5_tour_119 : decode cX5_tour 119 = .ok (.iaload, 1) := by decide +kernel
theorem dX5_tour_120 : decode cX5_tour 120 = .ok (.if_icmp .ne 7, 3) := by decide +kernel
theorem dX5_tour_123 : decode cX5_tour 123 = .ok (.iconst 1, 1) := by decide +kernel
theorem dX5_tour_124 : decode cX5_tour 124 = .ok (.goto 4, 3) := by decide +kernel
theorem dX5_tour_127 : decode cX5_tour 127 = .ok (.iconst 0, 1) := by decide +kernel
theorem dX5_tour_128 : decode cX5_tour 128 = .ok (.iadd, 1) := by decide +kernel
theorem dX5_tour_129 : decode cX5_tour 129 = .ok (.istore 4, 2) := by decide +kernel
theorem dX5_tour_131 : decode cX5_tour 131 = .ok (.aload_n 0, 1) := by decide +kernel
theorem dX5_tour_132 : decode cX5_tour 132 = .ok (.getfield 108, 3) := by decide +kernel
theorem dX5_tour_135 : decode cX5_tour 135 = .ok (.iload 5, 2) := by decide +kernel
theorem dX5_tour_137 : decode cX5_tour 137 = .ok (.if_icmp .le 10, 3) := by decide +kernel
theorem dX5_tour_140 : decode cX5_tour 140 = .ok (.aload_n 0, 1) := by decide +kernel
theorem dX5_tour_141 : decode cX5_tour 141 = .ok (.getfield 108, 3) := by decide +kernel
theorem dX5_tour_144 : decode cX5_tour 144 = .ok (.goto 5, 3) := by decide +kernel
theorem dX5_tour_147 : decode cX5_tour 147 = .ok (.iload 5, 2) := by decide +kernel
theorem dX5_tour_149 : decode cX5_tour 149 = .ok (.istore 5, 2) := by decide +kernel
theorem dX5_tour_151 : decode cX5_tour 151 = .ok (.iinc 6 1, 3) := by decide +kernel
theorem dX5_tour_154 : decode cX5_tour 154 = .ok (.goto (-109), 3) := by decide +kernel
theorem dX5_tour_157 : decode cX5_tour 157 = .ok (.iload_n 3, 1) := by decide +kernel
theorem dX5_tour_158 : decode cX5_tour 158 = .ok (.ifCond .ne 8, 3) := by decide +kernel
theorem dX5_tour_161 : decode cX5_tour 161 = .ok (.iload 4, 2) := by decide +kernel
theorem dX5_tour_163 : decode cX5_tour 163 = .ok (.goto 5, 3) := by decide +kernel
theorem dX5_tour_166 : decode cX5_tour 166 = .ok (.iload 5, 2) := by decide +kernel
theorem dX5_tour_168 : decode cX5_tour 168 = .ok (.ireturn, 1) := by decide +kernel
theorem dX5_keep_0 : decode cX5_keep 0 = .ok (.aload_n 0, 1) := by decide +kernel
theorem dX5_keep_1 : decode cX5_keep 1 = .ok (.getfield 93, 3) := by decide +kernel
theorem dX5_keep_4 : decode cX5_keep 4 = .ok (.iconst 2, 1) := by decide +kernel
theorem dX5_keep_5 : decode cX5_keep 5 = .ok (.if_icmp .ne 6, 3) := by decide +kernel
theorem dX5_keep_8 : decode cX5_keep 8 = .ok (.bipush (-3), 2) := by decide +kernel
theorem dX5_keep_10 : decode cX5_keep 10 = .ok (.ireturn, 1) := by decide +kernel
theorem dX5_keep_11 : decode cX5_keep 11 = .ok (.iconst 0, 1) := by decide +kernel
theorem dX5_keep_12 : decode cX5_keep 12 = .ok (.istore_n 1, 1) := by decide +kernel
theorem dX5_keep_13 : decode cX5_keep 13 = .ok (.iload_n 1, 1) := by decide +kernel
theorem dX5_keep_14 : decode cX5_keep 14 = .ok (.bipush 8, 2) := by decide +kernel
theorem dX5_keep_16 : decode cX5_keep 16 = .ok (.if_icmp .ge 29, 3) := by decide +kernel
theorem dX5_keep_19 : decode cX5_keep 19 = .ok (.aload_n 0, 1) := by decide +kernel
theorem dX5_keep_20 : decode cX5_keep 20 = .ok (.getfield 25, 3) := by decide +kernel
theorem dX5_keep_23 : decode cX5_keep 23 = .ok (.bipush 8, 2) := by decide +kernel
theorem dX5_keep_25 : decode cX5_keep 25 = .ok (.aload_n 0, 1) := by decide +kernel
theorem dX5_keep_26 : decode cX5_keep 26 = .ok (.getfield 93, 3) := by decide +kernel
theorem dX5_keep_29 : decode cX5_keep 29 = .ok (.imul, 1) := by decide +kernel
theorem dX5_keep_30 : decode cX5_keep 30 = .ok (.iload_n 1, 1) := by decide +kernel
theorem dX5_keep_31 : decode cX5_keep 31 = .ok (.iadd, 1) := by decide +kernel
theorem dX5_keep_32 : decode cX5_keep 32 = .ok (.aload_n 0, 1) := by decide +kernel
theorem dX5_keep_33 : decode cX5_keep 33 = .ok (.getfield 19, 3) := by decide +kernel
theorem dX5_keep_36 : decode cX5_keep 36 = .ok (.iload_n 1, 1) := by decide +kernel
theorem dX5_keep_37 : decode cX5_keep 37 = .ok (.iaload, 1) := by decide +kernel
theorem dX5_keep_38 : decode cX5_keep 38 = .ok (.iastore, 1) := by decide +kernel
theorem dX5_keep_39 : decode cX5_keep 39 = .ok (.iinc 1 1, 3) := by decide +kernel
theorem dX5_keep_42 : decode cX5_keep 42 = .ok (.goto (-29), 3) := by decide +kernel
theorem dX5_keep_45 : decode cX5_keep 45 = .ok (.aload_n 0, 1) := by decide +kernel
theorem dX5_keep_46 : decode cX5_keep 46 = .ok (.dup, 1) := by decide +kernel
theorem dX5_keep_47 : decode cX5_keep 47 = .ok (.getfield 93, 3) := by decide +kernel
theorem dX5_keep_50 : decode cX5_keep 50 = .ok (.iconst 1, 1) := by decide +kernel
theorem dX5_keep_51 : decode cX5_keep 51 = .ok (.iadd, 1) := by decide +kernel
theorem dX5_keep_52 : decode cX5_keep 52 = .ok (.putfield 93, 3) := by decide +kernel
theorem dX5_keep_55 : decode cX5_keep 55 = .ok (.aload_n 0, 1) := by decide +kernel
theorem dX5_keep_56 : decode cX5_keep 56 = .ok (.getfield 93, 3) := by decide +kernel
theorem dX5_keep_59 : decode cX5_keep 59 = .ok (.ireturn, 1) := by decide +kernel
theorem dX5_back_0 : decode cX5_back 0 = .ok (.aload_n 0, 1) := by decide +kernel
theorem dX5_back_1 : decode cX5_back 1 = .ok (.getfield 93, 3) := by decide +kernel
theorem dX5_back_4 : decode cX5_back 4 = .ok (.ifCond .ne 6, 3) := by decide +kernel
theorem dX5_back_7 : decode cX5_back 7 = .ok (.bipush (-2), 2) := by decide +kernel
theorem dX5_back_9 : decode cX5_back 9 = .ok (.ireturn, 1) := by decide +kernel
theorem dX5_back_10 : decode cX5_back 10 = .ok (.aload_n 0, 1) := by decide +kernel
theorem dX5_back_11 : decode cX5_back 11 = .ok (.dup, 1) := by decide +kernel
theorem dX5_back_12 : decode cX5_back 12 = .ok (.getfield 93, 3) := by decide +kernel
theorem dX5_back_15 : decode cX5_back 15 = .ok (.iconst 1, 1) := by decide +kernel
theorem dX5_back_16 : decode cX5_back 16 = .ok (.isub, 1) := by decide +kernel
theorem dX5_back_17 : decode cX5_back 17 = .ok (.putfield 93, 3) := by decide +kernel
theorem dX5_back_20 : decode cX5_back 20 = .ok (.iconst 0, 1) := by decide +kernel
theorem dX5_back_21 : decode cX5_back 21 = .ok (.istore_n 1, 1) := by decide +kernel
theorem dX5_back_22 : decode cX5_back 22 = .ok (.iload_n 1, 1) := by decide +kernel
theorem dX5_back_23 : decode cX5_back 23 = .ok (.bipush 8, 2) := by decide +kernel
theorem dX5_back_25 : decode cX5_back 25 = .ok (.if_icmp .ge 29, 3) := by decide +kernel
theorem dX5_back_28 : decode cX5_back 28 = .ok (.aload_n 0, 1) := by decide +kernel
theorem dX5_back_29 : decode cX5_back 29 = .ok (.getfield 19, 3) := by decide +kernel
theorem dX5_back_32 : decode cX5_back 32 = .ok (.iload_n 1, 1) := by decide +kernel
theorem dX5_back_33 : decode cX5_back 33 = .ok (.aload_n 0, 1) := by decide +kernel
theorem dX5_back_34 : decode cX5_back 34 = .ok (.getfield 25, 3) := by decide +kernel
theorem dX5_back_37 : decode cX5_back 37 = .ok (.bipush 8, 2) := by decide +kernel
theorem dX5_back_39 : decode cX5_back 39 = .ok (.aload_n 0, 1) := by decide +kernel
theorem dX5_back_40 : decode cX5_back 40 = .ok (.getfield 93, 3) := by decide +kernel
theorem dX5_back_43 : decode cX5_back 43 = .ok (.imul, 1) := by decide +kernel
theorem dX5_back_44 : decode cX5_back 44 = .ok (.iload_n 1, 1) := by decide +kernel
theorem dX5_back_45 : decode cX5_back 45 = .ok (.iadd, 1) := by decide +kernel
theorem dX5_back_46 : decode cX5_back 46 = .ok (.iaload, 1) := by decide +kernel
theorem dX5_back_47 : decode cX5_back 47 = .ok (.iastore, 1) := by decide +kernel
theorem dX5_back_48 : decode cX5_back 48 = .ok (.iinc 1 1, 3) := by decide +kernel
theorem dX5_back_51 : decode cX5_back 51 = .ok (.goto (-29), 3) := by decide +kernel
theorem dX5_back_54 : decode cX5_back 54 = .ok (.aload_n 0, 1) := by decide +kernel
theorem dX5_back_55 : decode cX5_back 55 = .ok (.iconst 0, 1) := by decide +kernel
theorem dX5_back_56 : decode cX5_back 56 = .ok (.putfield 90, 3) := by decide +kernel
theorem dX5_back_59 : decode cX5_back 59 = .ok (.aload_n 0, 1) := by decide +kernel
theorem dX5_back_60 : decode cX5_back 60 = .ok (.getfield 93, 3) := by decide +kernel
theorem dX5_back_63 : decode cX5_back 63 = .ok (.ireturn, 1) := by decide +kernel
theorem dX5_count_0 : decode cX5_count 0 = .ok (.iload_n 1, 1) := by decide +kernel
theorem dX5_count_1 : decode cX5_count 1 = .ok (.tableswitch 102 0 7 #[47, 54, 61, 71, 82, 87, 92, 97], 47) := by decide +kernel
theorem dX5_count_48 : decode cX5_count 48 = .ok (.aload_n 0, 1) := by decide +kernel
theorem dX5_count_49 : decode cX5_count 49 = .ok (.getfield 13, 3) := by decide +kernel
theorem dX5_count_52 : decode cX5_count 52 = .ok (.iconst 0, 1) := by decide +kernel
theorem dX5_count_53 : decode cX5_count 53 = .ok (.iaload, 1) := by decide +kernel
theorem dX5_count_54 : decode cX5_count 54 = .ok (.ireturn, 1) := by decide +kernel
theorem dX5_count_55 : decode cX5_count 55 = .ok (.aload_n 0, 1) := by decide +kernel
theorem dX5_count_56 : decode cX5_count 56 = .ok (.getfield 13, 3) := by decide +kernel
theorem dX5_count_59 : decode cX5_count 59 = .ok (.iconst 1, 1) := by decide +kernel
theorem dX5_count_60 : decode cX5_count 60 = .ok (.iaload, 1) := by decide +kernel
theorem dX5_count_61 : decode cX5_count 61 = .ok (.ireturn, 1) := by decide +kernel
theorem dX5_count_62 : decode cX5_count 62 = .ok (.aload_n 0, 1) := by decide +kernel
theorem dX5_count_63 : decode cX5_count 63 = .ok (.getfield 13, 3) := by decide +kernel
theorem dX5_count_66 : decode cX5_count 66 = .ok (.iconst 3, 1) := by decide +kernel
theorem dX5_count_67 : decode cX5_count 67 = .ok (.iaload, 1) := by decide +kernel
theorem dX5_count_68 : decode cX5_count 68 = .ok (.invokestatic 117, 3) := by decide +kernel
theorem dX5_count_71 : decode cX5_count 71 = .ok (.ireturn, 1) := by decide +kernel
theorem dX5_count_72 : decode cX5_count 72 = .ok (.aload_n 0, 1) := by decide +kernel
theorem dX5_count_73 : decode cX5_count 73 = .ok (.getfield 19, 3) := by decide +kernel
theorem dX5_count_76 : decode cX5_count 76 = .ok (.bipush 7, 2) := by decide +kernel
theorem dX5_count_78 : decode cX5_count 78 = .ok (.iaload, 1) := by decide +kernel
theorem dX5_count_79 : decode cX5_count 79 = .ok (.invokestatic 117, 3) := by decide +kernel
theorem dX5_count_82 : decode cX5_count 82 = .ok (.ireturn, 1) := by decide +kernel
theorem dX5_count_83 : decode cX5_count 83 = .ok (.aload_n 0, 1) := by decide +kernel
theorem dX5_count_84 : decode cX5_count 84 = .ok (.getfield 96, 3) := by decide +kernel
theorem dX5_count_87 : decode cX5_count 87 = .ok (.ireturn, 1) := by decide +kernel
theorem dX5_count_88 : decode cX5_count 88 = .ok (.aload_n 0, 1) := by decide +kernel
theorem dX5_count_89 : decode cX5_count 89 = .ok (.getfield 90, 3) := by decide +kernel
theorem dX5_count_92 : decode cX5_count 92 = .ok (.ireturn, 1) := by decide +kernel
theorem dX5_count_93 : decode cX5_count 93 = .ok (.aload_n 0, 1) := by decide +kernel
theorem dX5_count_94 : decode cX5_count 94 = .ok (.getfield 93, 3) := by decide +kernel
theorem dX5_count_97 : decode cX5_count 97 = .ok (.ireturn, 1) := by decide +kernel
theorem dX5_count_98 : decode cX5_count 98 = .ok (.aload_n 0, 1) := by decide +kernel
theorem dX5_count_99 : decode cX5_count 99 = .ok (.getfield 64, 3) := by decide +kernel
theorem dX5_count_102 : decode cX5_count 102 = .ok (.ireturn, 1) := by decide +kernel
theorem dX5_count_103 : decode cX5_count 103 = .ok (.iconst (-1), 1) := by decide +kernel
theorem dX5_count_104 : decode cX5_count 104 = .ok (.ireturn, 1) := by decide +kernel
theorem dJ6_bitCount_0f7a4_0 : decode cJ6_bitCount_0f7a4 0 = .ok (.iload_n 0, 1) := by decide +kernel
theorem dJ6_bitCount_0f7a4_1 : decode cJ6_bitCount_0f7a4 1 = .ok (.iload_n 0, 1) := by decide +kernel
theorem dJ6_bitCount_0f7a4_2 : decode cJ6_bitCount_0f7a4 2 = .ok (.iconst 1, 1) := by decide +kernel
theorem dJ6_bitCount_0f7a4_3 : decode cJ6_bitCount_0f7a4 3 = .ok (.iushr, 1) := by decide +kernel
theorem dJ6_bitCount_0f7a4_4 : decode cJ6_bitCount_0f7a4 4 = .ok (.ldc_w 265, 3) := by decide +kernel
theorem dJ6_bitCount_0f7a4_7 : decode cJ6_bitCount_0f7a4 7 = .ok (.iand, 1) := by decide +kernel
theorem dJ6_bitCount_0f7a4_8 : decode cJ6_bitCount_0f7a4 8 = .ok (.isub, 1) := by decide +kernel
theorem dJ6_bitCount_0f7a4_9 : decode cJ6_bitCount_0f7a4 9 = .ok (.istore_n 0, 1) := by decide +kernel
theorem dJ6_bitCount_0f7a4_10 : decode cJ6_bitCount_0f7a4 10 = .ok (.iload_n 0, 1) := by decide +kernel
theorem dJ6_bitCount_0f7a4_11 : decode cJ6_bitCount_0f7a4 11 = .ok (.ldc_w 266, 3) := by decide +kernel
theorem dJ6_bitCount_0f7a4_14 : decode cJ6_bitCount_0f7a4 14 = .ok (.iand, 1) := by decide +kernel
theorem dJ6_bitCount_0f7a4_15 : decode cJ6_bitCount_0f7a4 15 = .ok (.iload_n 0, 1) := by decide +kernel
theorem dJ6_bitCount_0f7a4_16 : decode cJ6_bitCount_0f7a4 16 = .ok (.iconst 2, 1) := by decide +kernel
theorem dJ6_bitCount_0f7a4_17 : decode cJ6_bitCount_0f7a4 17 = .ok (.iushr, 1) := by decide +kernel
theorem dJ6_bitCount_0f7a4_18 : decode cJ6_bitCount_0f7a4 18 = .ok (.ldc_w 266, 3) := by decide +kernel
theorem dJ6_bitCount_0f7a4_21 : decode cJ6_bitCount_0f7a4 21 = .ok (.iand, 1) := by decide +kernel
theorem dJ6_bitCount_0f7a4_22 : decode cJ6_bitCount_0f7a4 22 = .ok (.iadd, 1) := by decide +kernel
theorem dJ6_bitCount_0f7a4_23 : decode cJ6_bitCount_0f7a4 23 = .ok (.istore_n 0, 1) := by decide +kernel
theorem dJ6_bitCount_0f7a4_24 : decode cJ6_bitCount_0f7a4 24 = .ok (.iload_n 0, 1) := by decide +kernel
theorem dJ6_bitCount_0f7a4_25 : decode cJ6_bitCount_0f7a4 25 = .ok (.iload_n 0, 1) := by decide +kernel
theorem dJ6_bitCount_0f7a4_26 : decode cJ6_bitCount_0f7a4 26 = .ok (.iconst 4, 1) := by decide +kernel
theorem dJ6_bitCount_0f7a4_27 : decode cJ6_bitCount_0f7a4 27 = .ok (.iushr, 1) := by decide +kernel
theorem dJ6_bitCount_0f7a4_28 : decode cJ6_bitCount_0f7a4 28 = .ok (.iadd, 1) := by decide +kernel
theorem dJ6_bitCount_0f7a4_29 : decode cJ6_bitCount_0f7a4 29 = .ok (.ldc_w 267, 3) := by decide +kernel
theorem dJ6_bitCount_0f7a4_32 : decode cJ6_bitCount_0f7a4 32 = .ok (.iand, 1) := by decide +kernel
theorem dJ6_bitCount_0f7a4_33 : decode cJ6_bitCount_0f7a4 33 = .ok (.istore_n 0, 1) := by decide +kernel
theorem dJ6_bitCount_0f7a4_34 : decode cJ6_bitCount_0f7a4 34 = .ok (.iload_n 0, 1) := by decide +kernel
theorem dJ6_bitCount_0f7a4_35 : decode cJ6_bitCount_0f7a4 35 = .ok (.iload_n 0, 1) := by decide +kernel
theorem dJ6_bitCount_0f7a4_36 : decode cJ6_bitCount_0f7a4 36 = .ok (.bipush 8, 2) := by decide +kernel
theorem dJ6_bitCount_0f7a4_38 : decode cJ6_bitCount_0f7a4 38 = .ok (.iushr, 1) := by decide +kernel
theorem dJ6_bitCount_0f7a4_39 : decode cJ6_bitCount_0f7a4 39 = .ok (.iadd, 1) := by decide +kernel
theorem dJ6_bitCount_0f7a4_40 : decode cJ6_bitCount_0f7a4 40 = .ok (.istore_n 0, 1) := by decide +kernel
theorem dJ6_bitCount_0f7a4_41 : decode cJ6_bitCount_0f7a4 41 = .ok (.iload_n 0, 1) := by decide +kernel
theorem dJ6_bitCount_0f7a4_42 : decode cJ6_bitCount_0f7a4 42 = .ok (.iload_n 0, 1) := by decide +kernel
theorem dJ6_bitCount_0f7a4_43 : decode cJ6_bitCount_0f7a4 43 = .ok (.bipush 16, 2) := by decide +kernel
theorem dJ6_bitCount_0f7a4_45 : decode cJ6_bitCount_0f7a4 45 = .ok (.iushr, 1) := by decide +kernel
theorem dJ6_bitCount_0f7a4_46 : decode cJ6_bitCount_0f7a4 46 = .ok (.iadd, 1) := by decide +kernel
theorem dJ6_bitCount_0f7a4_47 : decode cJ6_bitCount_0f7a4 47 = .ok (.istore_n 0, 1) := by decide +kernel
theorem dJ6_bitCount_0f7a4_48 : decode cJ6_bitCount_0f7a4 48 = .ok (.iload_n 0, 1) := by decide +kernel
theorem dJ6_bitCount_0f7a4_49 : decode cJ6_bitCount_0f7a4 49 = .ok (.bipush 63, 2) := by decide +kernel
theorem dJ6_bitCount_0f7a4_51 : decode cJ6_bitCount_0f7a4 51 = .ok (.iand, 1) := by decide +kernel
theorem dJ6_bitCount_0f7a4_52 : decode cJ6_bitCount_0f7a4 52 = .ok (.ireturn, 1) := by decide +kernel
theorem dJ7_fill_53178_0 : decode cJ7_fill_53178 0 = .ok (.iconst 0, 1) := by decide +kernel
theorem dJ7_fill_53178_1 : decode cJ7_fill_53178 1 = .ok (.istore_n 2, 1) := by decide +kernel
theorem dJ7_fill_53178_2 : decode cJ7_fill_53178 2 = .ok (.aload_n 0, 1) := by decide +kernel
theorem dJ7_fill_53178_3 : decode cJ7_fill_53178 3 = .ok (.arraylength, 1) := by decide +kernel
theorem dJ7_fill_53178_4 : decode cJ7_fill_53178 4 = .ok (.istore_n 3, 1) := by decide +kernel
theorem dJ7_fill_53178_5 : decode cJ7_fill_53178 5 = .ok (.iload_n 2, 1) := by decide +kernel
theorem dJ7_fill_53178_6 : decode cJ7_fill_53178 6 = .ok (.iload_n 3, 1) := by decide +kernel
theorem dJ7_fill_53178_7 : decode cJ7_fill_53178 7 = .ok (.if_icmp .ge 13, 3) := by decide +kernel
theorem dJ7_fill_53178_10 : decode cJ7_fill_53178 10 = .ok (.aload_n 0, 1) := by decide +kernel
theorem dJ7_fill_53178_11 : decode cJ7_fill_53178 11 = .ok (.iload_n 2, 1) := by decide +kernel
theorem dJ7_fill_53178_12 : decode cJ7_fill_53178 12 = .ok (.iload_n 1, 1) := by decide +kernel
theorem dJ7_fill_53178_13 : decode cJ7_fill_53178 13 = .ok (.iastore, 1) := by decide +kernel
theorem dJ7_fill_53178_14 : decode cJ7_fill_53178 14 = .ok (.iinc 2 1, 3) := by decide +kernel
theorem dJ7_fill_53178_17 : decode cJ7_fill_53178 17 = .ok (.goto (-12), 3) := by decide +kernel
theorem dJ7_fill_53178_20 : decode cJ7_fill_53178 20 = .ok (.return_, 1) := by decide +kernel
theorem dL_law_0 : decode cL_law 0 = .ok (.new 7, 3) := by decide +kernel
theorem dL_law_3 : decode cL_law 3 = .ok (.dup, 1) := by decide +kernel
theorem dL_law_4 : decode cL_law 4 = .ok (.invokespecial 9, 3) := by decide +kernel
theorem dL_law_7 : decode cL_law 7 = .ok (.astore_n 1, 1) := by decide +kernel
theorem dL_law_8 : decode cL_law 8 = .ok (.new 10, 3) := by decide +kernel
theorem dL_law_11 : decode cL_law 11 = .ok (.dup, 1) := by decide +kernel
theorem dL_law_12 : decode cL_law 12 = .ok (.invokespecial 12, 3) := by decide +kernel
theorem dL_law_15 : decode cL_law 15 = .ok (.astore_n 2, 1) := by decide +kernel
theorem dL_law_16 : decode cL_law 16 = .ok (.iconst 0, 1) := by decide +kernel
theorem dL_law_17 : decode cL_law 17 = .ok (.istore_n 3, 1) := by decide +kernel
theorem dL_law_18 : decode cL_law 18 = .ok (.iload_n 3, 1) := by decide +kernel
theorem dL_law_19 : decode cL_law 19 = .ok (.aload_n 0, 1) := by decide +kernel
theorem dL_law_20 : decode cL_law 20 = .ok (.arraylength, 1) := by decide +kernel
theorem dL_law_21 : decode cL_law 21 = .ok (.iconst 4, 1) := by decide +kernel
theorem dL_law_22 : decode cL_law 22 = .ok (.isub, 1) := by decide +kernel
theorem dL_law_23 : decode cL_law 23 = .ok (.if_icmp .gt 828, 3) := by decide +kernel
theorem dL_law_26 : decode cL_law 26 = .ok (.aload_n 0, 1) := by decide +kernel
theorem dL_law_27 : decode cL_law 27 = .ok (.iload_n 3, 1) := by decide +kernel
theorem dL_law_28 : decode cL_law 28 = .ok (.iaload, 1) := by decide +kernel
theorem dL_law_29 : decode cL_law 29 = .ok (.bipush 31, 2) := by decide +kernel
theorem dL_law_31 : decode cL_law 31 = .ok (.iand, 1) := by decide +kernel
theorem dL_law_32 : decode cL_law 32 = .ok (.tableswitch 813 0 30 #[140, 163, 176, 189, 202, 235, 258, 281, 304, 327, 340, 363, 396, 419, 432, 455, 468, 491, 514, 527, 550, 563, 586, 619, 662, 675, 698, 721, 764, 777, 790], 140) := by decide +kernel
theorem dL_law_172 : decode cL_law 172 = .ok (.aload_n 1, 1) := by decide +kernel
theorem dL_law_173 : decode cL_law 173 = .ok (.aload_n 0, 1) := by decide +kernel
theorem dL_law_174 : decode cL_law 174 = .ok (.iload_n 3, 1) := by decide +kernel
theorem dL_law_175 : decode cL_law 175 = .ok (.iconst 1, 1) := by decide +kernel
theorem dL_law_176 : decode cL_law 176 = .ok (.iadd, 1) := by decide +kernel
theorem dL_law_177 : decode cL_law 177 = .ok (.iaload, 1) := by decide +kernel
theorem dL_law_178 : decode cL_law 178 = .ok (.invokevirtual 13, 3) := by decide +kernel
theorem dL_law_181 : decode cL_law 181 = .ok (.aload_n 2, 1) := by decide +kernel
theorem dL_law_182 : decode cL_law 182 = .ok (.aload_n 0, 1) := by decide +kernel
theorem dL_law_183 : decode cL_law 183 = .ok (.iload_n 3, 1) := by decide +kernel
theorem dL_law_184 : decode cL_law 184 = .ok (.iconst 1, 1) := by decide +kernel
theorem dL_law_185 : decode cL_law 185 = .ok (.iadd, 1) := by decide +kernel
theorem dL_law_186 : decode cL_law 186 = .ok (.iaload, 1) := by decide +kernel
theorem dL_law_187 : decode cL_law 187 = .ok (.invokevirtual 17, 3) := by decide +kernel
theorem dL_law_190 : decode cL_law 190 = .ok (.if_icmp .eq 655, 3) := by decide +kernel
theorem dL_law_193 : decode cL_law 193 = .ok (.iconst 0, 1) := by decide +kernel
theorem dL_law_194 : decode cL_law 194 = .ok (.ireturn, 1) := by decide +kernel
theorem dL_law_195 : decode cL_law 195 = .ok (.aload_n 1, 1) := by decide +kernel
theorem dL_law_196 : decode cL_law 196 = .ok (.invokevirtual 18, 3) := by decide +kernel
theorem dL_law_199 : decode cL_law 199 = .ok (.aload_n 2, 1) := by decide +kernel
theorem dL_law_200 : decode cL_law 200 = .ok (.invokevirtual 22, 3) := by decide +kernel
theorem dL_law_203 : decode cL_law 203 = .ok (.if_icmp .eq 642, 3) := by decide +kernel
theorem dL_law_206 : decode cL_law 206 = .ok (.iconst 0, 1) := by decide +kernel
theorem dL_law_207 : decode cL_law 207 = .ok (.ireturn, 1) := by decide +kernel
theorem dL_law_208 : decode cL_law 208 = .ok (.aload_n 1, 1) := by decide +kernel
theorem dL_law_209 : decode cL_law 209 = .ok (.invokevirtual 23, 3) := by decide +kernel
theorem dL_law_212 : decode cL_law 212 = .ok (.aload_n 2, 1) := by decide +kernel
theorem dL_law_213 : decode cL_law 213 = .ok (.invokevirtual 26, 3) := by decide +kernel
theorem dL_law_216 : decode cL_law 216 = .ok (.if_icmp .eq 629, 3) := by decide +kernel
theorem dL_law_219 : decode cL_law 219 = .ok (.iconst 0, 1) := by decide +kernel
theorem dL_law_220 : decode cL_law 220 = .ok (.ireturn, 1) := by decide +kernel
theorem dL_law_221 : decode cL_law 221 = .ok (.aload_n 1, 1) := by decide +kernel
theorem dL_law_222 : decode cL_law 222 = .ok (.invokevirtual 27, 3) := by decide +kernel
theorem dL_law_225 : decode cL_law 225 = .ok (.aload_n 2, 1) := by decide +kernel
theorem dL_law_226 : decode cL_law 226 = .ok (.invokevirtual 30, 3) := by decide +kernel
theorem dL_law_229 : decode cL_law 229 = .ok (.if_icmp .eq 616, 3) := by decide +kernel
theorem dL_law_232 : decode cL_law 232 = .ok (.iconst 0, 1) := by decide +kernel
theorem dL_law_233 : decode cL_law 233 = .ok (.ireturn, 1) := by decide +kernel
theorem dL_law_234 : decode cL_law 234 = .ok (.aload_n 1, 1) := by decide +kernel
theorem dL_law_235 : decode cL_law 235 = .ok (.aload_n 0, 1) := by decide +kernel
theorem dL_law_236 : decode cL_law 236 = .ok (.iload_n 3, 1) := by decide +kernel
theorem dL_law_237 : decode cL_law 237 = .ok (.iconst 1, 1) := by decide +kernel
theorem dL_law_238 : decode cL_law 238 = .ok (.iadd, 1) := by decide +kernel
theorem dL_law_239 : decode cL_law 239 = .ok (.iaload, 1) := by decide +kernel
theorem dL_law_240 : decode cL_law 240 = .ok (.aload_n 0, 1) := by decide +kernel
theorem dL_law_241 : decode cL_law 241 = .ok (.iload_n 3, 1) := by decide +kernel
theorem dL_law_242 : decode cL_law 242 = .ok (.iconst 2, 1) := by decide +kernel
theorem dL_law_243 : decode cL_law 243 = .ok (.iadd, 1) := by decide +kernel
theorem dL_law_244 : decode cL_law 244 = .ok (.iaload, 1) := by decide +kernel
theorem dL_law_245 : decode cL_law 245 = .ok (.invokevirtual 31, 3) := by decide +kernel
theorem dL_law_248 : decode cL_law 248 = .ok (.aload_n 2, 1) := by decide +kernel
theorem dL_law_249 : decode cL_law 249 = .ok (.aload_n 0, 1) := by decide +kernel
theorem dL_law_250 : decode cL_law 250 = .ok (.iload_n 3, 1) := by decide +kernel
theorem dL_law_251 : decode cL_law 251 = .ok (.iconst 1, 1) := by decide +kernel
theorem dL_law_252 : decode cL_law 252 = .ok (.iadd, 1) := by decide +kernel
theorem dL_law_253 : decode cL_law 253 = .ok (.iaload, 1) := by decide +kernel
theorem dL_law_254 : decode cL_law 254 = .ok (.aload_n 0, 1) := by decide +kernel
theorem dL_law_255 : decode cL_law 255 = .ok (.iload_n 3, 1) := by decide +kernel
theorem dL_law_256 : decode cL_law 256 = .ok (.iconst 2, 1) := by decide +kernel
theorem dL_law_257 : decode cL_law 257 = .ok (.iadd, 1) := by decide +kernel
theorem dL_law_258 : decode cL_law 258 = .ok (.iaload, 1) := by decide +kernel
theorem dL_law_259 : decode cL_law 259 = .ok (.invokevirtual 35, 3) := by decide +kernel
theorem dL_law_262 : decode cL_law 262 = .ok (.if_icmp .eq 583, 3) := by decide +kernel
theorem dL_law_265 : decode cL_law 265 = .ok (.iconst 0, 1) := by decide +kernel
theorem dL_law_266 : decode cL_law 266 = .ok (.ireturn, 1) := by decide +kernel
theorem dL_law_267 : decode cL_law 267 = .ok (.aload_n 1, 1) := by decide +kernel
theorem dL_law_268 : decode cL_law 268 = .ok (.aload_n 0, 1) := by decide +kernel
theorem dL_law_269 : decode cL_law 269 = .ok (.iload_n 3, 1) := by decide +kernel
theorem dL_law_270 : decode cL_law 270 = .ok (.iconst 1, 1) := by decide +kernel
theorem dL_law_271 : decode cL_law 271 = .ok (.iadd, 1) := by decide +kernel
theorem dL_law_272 : decode cL_law 272 = .ok (.iaload, 1) := by decide +kernel
theorem dL_law_273 : decode cL_law 273 = .ok (.invokevirtual 36, 3) := by decide +kernel
theorem dL_law_276 : decode cL_law 276 = .ok (.aload_n 2, 1) := by decide +kernel
theorem dL_law_277 : decode cL_law 277 = .ok (.aload_n 0, 1) := by decide +kernel
theorem dL_law_278 : decode cL_law 278 = .ok (.iload_n 3, 1) := by decide +kernel
theorem dL_law_279 : decode cL_law 279 = .ok (.iconst 1, 1) := by decide +kernel
theorem dL_law_280 : decode cL_law 280 = .ok (.iadd, 1) := by decide +kernel
theorem dL_law_281 : decode cL_law 281 = .ok (.iaload, 1) := by decide +kernel
theorem dL_law_282 : decode cL_law 282 = .ok (.invokevirtual 39, 3) := by decide +kernel
theorem dL_law_285 : decode cL_law 285 = .ok (.if_icmp .eq 560, 3) := by decide +kernel
theorem dL_law_288 : decode cL_law 288 = .ok (.iconst 0, 1) := by decide +kernel
theorem dL_law_289 : decode cL_law 289 = .ok (.ireturn, 1) := by decide +kernel
theorem dL_law_290 : decode cL_law 290 = .ok (.aload_n 1, 1) := by decide +kernel
theorem dL_law_291 : decode cL_law 291 = .ok (.aload_n 0, 1) := by decide +kernel
theorem dL_law_292 : decode cL_law 292 = .ok (.iload_n 3, 1) := by decide +kernel
theorem dL_law_293 : decode cL_law 293 = .ok (.iconst 1, 1) := by decide +kernel
theorem dL_law_294 : decode cL_law 294 = .ok (.iadd, 1) := by decide +kernel
theorem dL_law_295 : decode cL_law 295 = .ok (.iaload, 1) := by decide +kernel
theorem dL_law_296 : decode cL_law 296 = .ok (.invokevirtual 40, 3) := by decide +kernel
theorem dL_law_299 : decode cL_law 299 = .ok (.aload_n 2, 1) := by decide +kernel
theorem dL_law_300 : decode cL_law 300 = .ok (.aload_n 0, 1) := by decide +kernel
theorem dL_law_301 : decode cL_law 301 = .ok (.iload_n 3, 1) := by decide +kernel
theorem dL_law_302 : decode cL_law 302 = .ok (.iconst 1, 1) := by decide +kernel
theorem dL_law_303 : decode cL_law 303 = .ok (.iadd, 1) := by decide +kernel
theorem dL_law_304 : decode cL_law 304 = .ok (.iaload, 1) := by decide +kernel
theorem dL_law_305 : decode cL_law 305 = .ok (.invokevirtual 43, 3) := by decide +kernel
theorem dL_law_308 : decode cL_law 308 = .ok (.if_icmp .eq 537, 3) := by decide +kernel
theorem dL_law_311 : decode cL_law 311 = .ok (.iconst 0, 1) := by decide +kernel
theorem dL_law_312 : decode cL_law 312 = .ok (.ireturn, 1) := by decide +kernel
theorem dL_law_313 : decode cL_law 313 = .ok (.aload_n 1, 1) := by decide +kernel
theorem dL_law_314 : decode cL_law 314 = .ok (.aload_n 0, 1) := by decide +kernel
theorem dL_law_315 : decode cL_law 315 = .ok (.iload_n 3, 1) := by decide +kernel
theorem dL_law_316 : decode cL_law 316 = .ok (.iconst 1, 1) := by decide +kernel
theorem dL_law_317 : decode cL_law 317 = .ok (.iadd, 1) := by decide +kernel
theorem dL_law_318 : decode cL_law 318 = .ok (.iaload, 1) := by decide +kernel
theorem dL_law_319 : decode cL_law 319 = .ok (.invokevirtual 44, 3) := by decide +kernel
theorem dL_law_322 : decode cL_law 322 = .ok (.aload_n 2, 1) := by decide +kernel
theorem dL_law_323 : decode cL_law 323 = .ok (.aload_n 0, 1) := by decide +kernel
theorem dL_law_324 : decode cL_law 324 = .ok (.iload_n 3, 1) := by decide +kernel
theorem dL_law_325 : decode cL_law 325 = .ok (.iconst 1, 1) := by decide +kernel
theorem dL_law_326 : decode cL_law 326 = .ok (.iadd, 1) := by decide +kernel
theorem dL_law_327 : decode cL_law 327 = .ok (.iaload, 1) := by decide +kernel
theorem dL_law_328 : decode cL_law 328 = .ok (.invokevirtual 47, 3) := by decide +kernel
theorem dL_law_331 : decode cL_law 331 = .ok (.if_icmp .eq 514, 3) := by decide +kernel
theorem dL_law_334 : decode cL_law 334 = .ok (.iconst 0, 1) := by decide +kernel
theorem dL_law_335 : decode cL_law 335 = .ok (.ireturn, 1) := by decide +kernel
theorem dL_law_336 : decode cL_law 336 = .ok (.aload_n 1, 1) := by decide +kernel
theorem dL_law_337 : decode cL_law 337 = .ok (.aload_n 0, 1) := by decide +kernel
theorem dL_law_338 : decode cL_law 338 = .ok (.iload_n 3, 1) := by decide +kernel
theorem dL_law_339 : decode cL_law 339 = .ok (.iconst 1, 1) := by decide +kernel
theorem dL_law_340 : decode cL_law 340 = .ok (.iadd, 1) := by decide +kernel
theorem dL_law_341 : decode cL_law 341 = .ok (.iaload, 1) := by decide +kernel
theorem dL_law_342 : decode cL_law 342 = .ok (.invokevirtual 48, 3) := by decide +kernel
theorem dL_law_345 : decode cL_law 345 = .ok (.aload_n 2, 1) := by decide +kernel
theorem dL_law_346 : decode cL_law 346 = .ok (.aload_n 0, 1) := by decide +kernel
theorem dL_law_347 : decode cL_law 347 = .ok (.iload_n 3, 1) := by decide +kernel
theorem dL_law_348 : decode cL_law 348 = .ok (.iconst 1, 1) := by decide +kernel
theorem dL_law_349 : decode cL_law 349 = .ok (.iadd, 1) := by decide +kernel
theorem dL_law_350 : decode cL_law 350 = .ok (.iaload, 1) := by decide +kernel
theorem dL_law_351 : decode cL_law 351 = .ok (.invokevirtual 51, 3) := by decide +kernel
theorem dL_law_354 : decode cL_law 354 = .ok (.if_icmp .eq 491, 3) := by decide +kernel
theorem dL_law_357 : decode cL_law 357 = .ok (.iconst 0, 1) := by decide +kernel
theorem dL_law_358 : decode cL_law 358 = .ok (.ireturn, 1) := by decide +kernel
theorem dL_law_359 : decode cL_law 359 = .ok (.aload_n 1, 1) := by decide +kernel
theorem dL_law_360 : decode cL_law 360 = .ok (.invokevirtual 52, 3) := by decide +kernel
theorem dL_law_363 : decode cL_law 363 = .ok (.aload_n 2, 1) := by decide +kernel
theorem dL_law_364 : decode cL_law 364 = .ok (.invokevirtual 55, 3) := by decide +kernel
theorem dL_law_367 : decode cL_law 367 = .ok (.if_icmp .eq 478, 3) := by decide +kernel
theorem dL_law_370 : decode cL_law 370 = .ok (.iconst 0, 1) := by decide +kernel
theorem dL_law_371 : decode cL_law 371 = .ok (.ireturn, 1) := by decide +kernel
theorem dL_law_372 : decode cL_law 372 = .ok (.aload_n 1, 1) := by decide +kernel
theorem dL_law_373 : decode cL_law 373 = .ok (.aload_n 0, 1) := by decide +kernel
theorem dL_law_374 : decode cL_law 374 = .ok (.iload_n 3, 1) := by decide +kernel
theorem dL_law_375 : decode cL_law 375 = .ok (.iconst 1, 1) := by decide +kernel
theorem dL_law_376 : decode cL_law 376 = .ok (.iadd, 1) := by decide +kernel
theorem dL_law_377 : decode cL_law 377 = .ok (.iaload, 1) := by decide +kernel
theorem dL_law_378 : decode cL_law 378 = .ok (.invokevirtual 56, 3) := by decide +kernel
theorem dL_law_381 : decode cL_law 381 = .ok (.aload_n 2, 1) := by decide +kernel
theorem dL_law_382 : decode cL_law 382 = .ok (.aload_n 0, 1) := by decide +kernel
theorem dL_law_383 : decode cL_law 383 = .ok (.iload_n 3, 1) := by decide +kernel
theorem dL_law_384 : decode cL_law 384 = .ok (.iconst 1, 1) := by decide +kernel
theorem dL_law_385 : decode cL_law 385 = .ok (.iadd, 1) := by decide +kernel
theorem dL_law_386 : decode cL_law 386 = .ok (.iaload, 1) := by decide +kernel
theorem dL_law_387 : decode cL_law 387 = .ok (.invokevirtual 59, 3) := by decide +kernel
theorem dL_law_390 : decode cL_law 390 = .ok (.if_icmp .eq 455, 3) := by decide +kernel
theorem dL_law_393 : decode cL_law 393 = .ok (.iconst 0, 1) := by decide +kernel
theorem dL_law_394 : decode cL_law 394 = .ok (.ireturn, 1) := by decide +kernel
theorem dL_law_395 : decode cL_law 395 = .ok (.aload_n 1, 1) := by decide +kernel
theorem dL_law_396 : decode cL_law 396 = .ok (.aload_n 0, 1) := by decide +kernel
theorem dL_law_397 : decode cL_law 397 = .ok (.iload_n 3, 1) := by decide +kernel
theorem dL_law_398 : decode cL_law 398 = .ok (.iconst 1, 1) := by decide +kernel
theorem dL_law_399 : decode cL_law 399 = .ok (.iadd, 1) := by decide +kernel
theorem dL_law_400 : decode cL_law 400 = .ok (.iaload, 1) := by decide +kernel
theorem dL_law_401 : decode cL_law 401 = .ok (.aload_n 0, 1) := by decide +kernel
theorem dL_law_402 : decode cL_law 402 = .ok (.iload_n 3, 1) := by decide +kernel
theorem dL_law_403 : decode cL_law 403 = .ok (.iconst 2, 1) := by decide +kernel
theorem dL_law_404 : decode cL_law 404 = .ok (.iadd, 1) := by decide +kernel
theorem dL_law_405 : decode cL_law 405 = .ok (.iaload, 1) := by decide +kernel
theorem dL_law_406 : decode cL_law 406 = .ok (.invokevirtual 60, 3) := by decide +kernel
theorem dL_law_409 : decode cL_law 409 = .ok (.aload_n 2, 1) := by decide +kernel
theorem dL_law_410 : decode cL_law 410 = .ok (.aload_n 0, 1) := by decide +kernel
theorem dL_law_411 : decode cL_law 411 = .ok (.iload_n 3, 1) := by decide +kernel
theorem dL_law_412 : decode cL_law 412 = .ok (.iconst 1, 1) := by decide +kernel
theorem dL_law_413 : decode cL_law 413 = .ok (.iadd, 1) := by decide +kernel
theorem dL_law_414 : decode cL_law 414 = .ok (.iaload, 1) := by decide +kernel
theorem dL_law_415 : decode cL_law 415 = .ok (.aload_n 0, 1) := by decide +kernel
theorem dL_law_416 : decode cL_law 416 = .ok (.iload_n 3, 1) := by decide +kernel
theorem dL_law_417 : decode cL_law 417 = .ok (.iconst 2, 1) := by decide +kernel
theorem dL_law_418 : decode cL_law 418 = .ok (.iadd, 1) := by decide +kernel
theorem dL_law_419 : decode cL_law 419 = .ok (.iaload, 1) := by decide +kernel
theorem dL_law_420 : decode cL_law 420 = .ok (.invokevirtual 63, 3) := by decide +kernel
theorem dL_law_423 : decode cL_law 423 = .ok (.if_icmp .eq 422, 3) := by decide +kernel
theorem dL_law_426 : decode cL_law 426 = .ok (.iconst 0, 1) := by decide +kernel
theorem dL_law_427 : decode cL_law 427 = .ok (.ireturn, 1) := by decide +kernel
theorem dL_law_428 : decode cL_law 428 = .ok (.aload_n 1, 1) := by decide +kernel
theorem dL_law_429 : decode cL_law 429 = .ok (.aload_n 0, 1) := by decide +kernel
theorem dL_law_430 : decode cL_law 430 = .ok (.iload_n 3, 1) := by decide +kernel
theorem dL_law_431 : decode cL_law 431 = .ok (.iconst 1, 1) := by decide +kernel
theorem dL_law_432 : decode cL_law 432 = .ok (.iadd, 1) := by decide +kernel
theorem dL_law_433 : decode cL_law 433 = .ok (.iaload, 1) := by decide +kernel
theorem dL_law_434 : decode cL_law 434 = .ok (.invokevirtual 64, 3) := by decide +kernel
theorem dL_law_437 : decode cL_law 437 = .ok (.aload_n 2, 1) := by decide +kernel
theorem dL_law_438 : decode cL_law 438 = .ok (.aload_n 0, 1) := by decide +kernel
theorem dL_law_439 : decode cL_law 439 = .ok (.iload_n 3, 1) := by decide +kernel
theorem dL_law_440 : decode cL_law 440 = .ok (.iconst 1, 1) := by decide +kernel
theorem dL_law_441 : decode cL_law 441 = .ok (.iadd, 1) := by decide +kernel
theorem dL_law_442 : decode cL_law 442 = .ok (.iaload, 1) := by decide +kernel
theorem dL_law_443 : decode cL_law 443 = .ok (.invokevirtual 67, 3) := by decide +kernel
theorem dL_law_446 : decode cL_law 446 = .ok (.if_icmp .eq 399, 3) := by decide +kernel
theorem dL_law_449 : decode cL_law 449 = .ok (.iconst 0, 1) := by decide +kernel
theorem dL_law_450 : decode cL_law 450 = .ok (.ireturn, 1) := by decide +kernel
theorem dL_law_451 : decode cL_law 451 = .ok (.aload_n 1, 1) := by decide +kernel
theorem dL_law_452 : decode cL_law 452 = .ok (.invokevirtual 68, 3) := by decide +kernel
theorem dL_law_455 : decode cL_law 455 = .ok (.aload_n 2, 1) := by decide +kernel
theorem dL_law_456 : decode cL_law 456 = .ok (.invokevirtual 71, 3) := by decide +kernel
theorem dL_law_459 : decode cL_law 459 = .ok (.if_icmp .eq 386, 3) := by decide +kernel
theorem dL_law_462 : decode cL_law 462 = .ok (.iconst 0, 1) := by decide +kernel
theorem dL_law_463 : decode cL_law 463 = .ok (.ireturn, 1) := by decide +kernel
theorem dL_law_464 : decode cL_law 464 = .ok (.aload_n 1, 1) := by decide +kernel
theorem dL_law_465 : decode cL_law 465 = .ok (.aload_n 0, 1) := by decide +kernel
theorem dL_law_466 : decode cL_law 466 = .ok (.iload_n 3, 1) := by decide +kernel
theorem dL_law_467 : decode cL_law 467 = .ok (.iconst 1, 1) := by decide +kernel
theorem dL_law_468 : decode cL_law 468 = .ok (.iadd, 1) := by decide +kernel
theorem dL_law_469 : decode cL_law 469 = .ok (.iaload, 1) := by decide +kernel
theorem dL_law_470 : decode cL_law 470 = .ok (.invokevirtual 72, 3) := by decide +kernel
theorem dL_law_473 : decode cL_law 473 = .ok (.aload_n 2, 1) := by decide +kernel
theorem dL_law_474 : decode cL_law 474 = .ok (.aload_n 0, 1) := by decide +kernel
theorem dL_law_475 : decode cL_law 475 = .ok (.iload_n 3, 1) := by decide +kernel
theorem dL_law_476 : decode cL_law 476 = .ok (.iconst 1, 1) := by decide +kernel
theorem dL_law_477 : decode cL_law 477 = .ok (.iadd, 1) := by decide +kernel
theorem dL_law_478 : decode cL_law 478 = .ok (.iaload, 1) := by decide +kernel
theorem dL_law_479 : decode cL_law 479 = .ok (.invokevirtual 75, 3) := by decide +kernel
theorem dL_law_482 : decode cL_law 482 = .ok (.if_icmp .eq 363, 3) := by decide +kernel
theorem dL_law_485 : decode cL_law 485 = .ok (.iconst 0, 1) := by decide +kernel
theorem dL_law_486 : decode cL_law 486 = .ok (.ireturn, 1) := by decide +kernel
theorem dL_law_487 : decode cL_law 487 = .ok (.aload_n 1, 1) := by decide +kernel
theorem dL_law_488 : decode cL_law 488 = .ok (.invokevirtual 76, 3) := by decide +kernel
theorem dL_law_491 : decode cL_law 491 = .ok (.aload_n 2, 1) := by decide +kernel
theorem dL_law_492 : decode cL_law 492 = .ok (.invokevirtual 79, 3) := by decide +kernel
theorem dL_law_495 : decode cL_law 495 = .ok (.if_icmp .eq 350, 3) := by decide +kernel
theorem dL_law_498 : decode cL_law 498 = .ok (.iconst 0, 1) := by decide +kernel
theorem dL_law_499 : decode cL_law 499 = .ok (.ireturn, 1) := by decide +kernel
theorem dL_law_500 : decode cL_law 500 = .ok (.aload_n 1, 1) := by decide +kernel
theorem dL_law_501 : decode cL_law 501 = .ok (.aload_n 0, 1) := by decide +kernel
theorem dL_law_502 : decode cL_law 502 = .ok (.iload_n 3, 1) := by decide +kernel
theorem dL_law_503 : decode cL_law 503 = .ok (.iconst 1, 1) := by decide +kernel
theorem dL_law_504 : decode cL_law 504 = .ok (.iadd, 1) := by decide +kernel
theorem dL_law_505 : decode cL_law 505 = .ok (.iaload, 1) := by decide +kernel
theorem dL_law_506 : decode cL_law 506 = .ok (.invokevirtual 80, 3) := by decide +kernel
theorem dL_law_509 : decode cL_law 509 = .ok (.aload_n 2, 1) := by decide +kernel
theorem dL_law_510 : decode cL_law 510 = .ok (.aload_n 0, 1) := by decide +kernel
theorem dL_law_511 : decode cL_law 511 = .ok (.iload_n 3, 1) := by decide +kernel
theorem dL_law_512 : decode cL_law 512 = .ok (.iconst 1, 1) := by decide +kernel
theorem dL_law_513 : decode cL_law 513 = .ok (.iadd, 1) := by decide +kernel
theorem dL_law_514 : decode cL_law 514 = .ok (.iaload, 1) := by decide +kernel
theorem dL_law_515 : decode cL_law 515 = .ok (.invokevirtual 83, 3) := by decide +kernel
theorem dL_law_518 : decode cL_law 518 = .ok (.if_icmp .eq 327, 3) := by decide +kernel
theorem dL_law_521 : decode cL_law 521 = .ok (.iconst 0, 1) := by decide +kernel
theorem dL_law_522 : decode cL_law 522 = .ok (.ireturn, 1) := by decide +kernel
theorem dL_law_523 : decode cL_law 523 = .ok (.aload_n 1, 1) := by decide +kernel
theorem dL_law_524 : decode cL_law 524 = .ok (.aload_n 0, 1) := by decide +kernel
theorem dL_law_525 : decode cL_law 525 = .ok (.iload_n 3, 1) := by decide +kernel
theorem dL_law_526 : decode cL_law 526 = .ok (.iconst 1, 1) := by decide +kernel
theorem dL_law_527 : decode cL_law 527 = .ok (.iadd, 1) := by decide +kernel
theorem dL_law_528 : decode cL_law 528 = .ok (.iaload, 1) := by decide +kernel
theorem dL_law_529 : decode cL_law 529 = .ok (.invokevirtual 84, 3) := by decide +kernel
theorem dL_law_532 : decode cL_law 532 = .ok (.aload_n 2, 1) := by decide +kernel
theorem dL_law_533 : decode cL_law 533 = .ok (.aload_n 0, 1) := by decide +kernel
theorem dL_law_534 : decode cL_law 534 = .ok (.iload_n 3, 1) := by decide +kernel
theorem dL_law_535 : decode cL_law 535 = .ok (.iconst 1, 1) := by decide +kernel
theorem dL_law_536 : decode cL_law 536 = .ok (.iadd, 1) := by decide +kernel
theorem dL_law_537 : decode cL_law 537 = .ok (.iaload, 1) := by decide +kernel
theorem dL_law_538 : decode cL_law 538 = .ok (.invokevirtual 87, 3) := by decide +kernel
theorem dL_law_541 : decode cL_law 541 = .ok (.if_icmp .eq 304, 3) := by decide +kernel
theorem dL_law_544 : decode cL_law 544 = .ok (.iconst 0, 1) := by decide +kernel
theorem dL_law_545 : decode cL_law 545 = .ok (.ireturn, 1) := by decide +kernel
theorem dL_law_546 : decode cL_law 546 = .ok (.aload_n 1, 1) := by decide +kernel
theorem dL_law_547 : decode cL_law 547 = .ok (.invokevirtual 88, 3) := by decide +kernel
theorem dL_law_550 : decode cL_law 550 = .ok (.aload_n 2, 1) := by decide +kernel
theorem dL_law_551 : decode cL_law 551 = .ok (.invokevirtual 91, 3) := by decide +kernel
theorem dL_law_554 : decode cL_law 554 = .ok (.if_icmp .eq 291, 3) := by decide +kernel
theorem dL_law_557 : decode cL_law 557 = .ok (.iconst 0, 1) := by decide +kernel
theorem dL_law_558 : decode cL_law 558 = .ok (.ireturn, 1) := by decide +kernel
theorem dL_law_559 : decode cL_law 559 = .ok (.aload_n 1, 1) := by decide +kernel
theorem dL_law_560 : decode cL_law 560 = .ok (.aload_n 0, 1) := by decide +kernel
theorem dL_law_561 : decode cL_law 561 = .ok (.iload_n 3, 1) := by decide +kernel
theorem dL_law_562 : decode cL_law 562 = .ok (.iconst 1, 1) := by decide +kernel
theorem dL_law_563 : decode cL_law 563 = .ok (.iadd, 1) := by decide +kernel
theorem dL_law_564 : decode cL_law 564 = .ok (.iaload, 1) := by decide +kernel
theorem dL_law_565 : decode cL_law 565 = .ok (.invokevirtual 92, 3) := by decide +kernel
theorem dL_law_568 : decode cL_law 568 = .ok (.aload_n 2, 1) := by decide +kernel
theorem dL_law_569 : decode cL_law 569 = .ok (.aload_n 0, 1) := by decide +kernel
theorem dL_law_570 : decode cL_law 570 = .ok (.iload_n 3, 1) := by decide +kernel
theorem dL_law_571 : decode cL_law 571 = .ok (.iconst 1, 1) := by decide +kernel
theorem dL_law_572 : decode cL_law 572 = .ok (.iadd, 1) := by decide +kernel
theorem dL_law_573 : decode cL_law 573 = .ok (.iaload, 1) := by decide +kernel
theorem dL_law_574 : decode cL_law 574 = .ok (.invokevirtual 95, 3) := by decide +kernel
theorem dL_law_577 : decode cL_law 577 = .ok (.if_icmp .eq 268, 3) := by decide +kernel
theorem dL_law_580 : decode cL_law 580 = .ok (.iconst 0, 1) := by decide +kernel
theorem dL_law_581 : decode cL_law 581 = .ok (.ireturn, 1) := by decide +kernel
theorem dL_law_582 : decode cL_law 582 = .ok (.aload_n 1, 1) := by decide +kernel
theorem dL_law_583 : decode cL_law 583 = .ok (.invokevirtual 96, 3) := by decide +kernel
theorem dL_law_586 : decode cL_law 586 = .ok (.aload_n 2, 1) := by decide +kernel
theorem dL_law_587 : decode cL_law 587 = .ok (.invokevirtual 99, 3) := by decide +kernel
theorem dL_law_590 : decode cL_law 590 = .ok (.if_icmp .eq 255, 3) := by decide +kernel
theorem dL_law_593 : decode cL_law 593 = .ok (.iconst 0, 1) := by decide +kernel
theorem dL_law_594 : decode cL_law 594 = .ok (.ireturn, 1) := by decide +kernel
theorem dL_law_595 : decode cL_law 595 = .ok (.aload_n 1, 1) := by decide +kernel
theorem dL_law_596 : decode cL_law 596 = .ok (.aload_n 0, 1) := by decide +kernel
theorem dL_law_597 : decode cL_law 597 = .ok (.iload_n 3, 1) := by decide +kernel
theorem dL_law_598 : decode cL_law 598 = .ok (.iconst 1, 1) := by decide +kernel
theorem dL_law_599 : decode cL_law 599 = .ok (.iadd, 1) := by decide +kernel
theorem dL_law_600 : decode cL_law 600 = .ok (.iaload, 1) := by decide +kernel
theorem dL_law_601 : decode cL_law 601 = .ok (.invokevirtual 100, 3) := by decide +kernel
theorem dL_law_604 : decode cL_law 604 = .ok (.aload_n 2, 1) := by decide +kernel
theorem dL_law_605 : decode cL_law 605 = .ok (.aload_n 0, 1) := by decide +kernel
theorem dL_law_606 : decode cL_law 606 = .ok (.iload_n 3, 1) := by decide +kernel
theorem dL_law_607 : decode cL_law 607 = .ok (.iconst 1, 1) := by decide +kernel
theorem dL_law_608 : decode cL_law 608 = .ok (.iadd, 1) := by decide +kernel
theorem dL_law_609 : decode cL_law 609 = .ok (.iaload, 1) := by decide +kernel
theorem dL_law_610 : decode cL_law 610 = .ok (.invokevirtual 103, 3) := by decide +kernel
theorem dL_law_613 : decode cL_law 613 = .ok (.if_icmp .eq 232, 3) := by decide +kernel
theorem dL_law_616 : decode cL_law 616 = .ok (.iconst 0, 1) := by decide +kernel
theorem dL_law_617 : decode cL_law 617 = .ok (.ireturn, 1) := by decide +kernel
theorem dL_law_618 : decode cL_law 618 = .ok (.aload_n 1, 1) := by decide +kernel
theorem dL_law_619 : decode cL_law 619 = .ok (.aload_n 0, 1) := by decide +kernel
theorem dL_law_620 : decode cL_law 620 = .ok (.iload_n 3, 1) := by decide +kernel
theorem dL_law_621 : decode cL_law 621 = .ok (.iconst 1, 1) := by decide +kernel
theorem dL_law_622 : decode cL_law 622 = .ok (.iadd, 1) := by decide +kernel
theorem dL_law_623 : decode cL_law 623 = .ok (.iaload, 1) := by decide +kernel
theorem dL_law_624 : decode cL_law 624 = .ok (.aload_n 0, 1) := by decide +kernel
theorem dL_law_625 : decode cL_law 625 = .ok (.iload_n 3, 1) := by decide +kernel
theorem dL_law_626 : decode cL_law 626 = .ok (.iconst 2, 1) := by decide +kernel
theorem dL_law_627 : decode cL_law 627 = .ok (.iadd, 1) := by decide +kernel
theorem dL_law_628 : decode cL_law 628 = .ok (.iaload, 1) := by decide +kernel
theorem dL_law_629 : decode cL_law 629 = .ok (.invokevirtual 104, 3) := by decide +kernel
theorem dL_law_632 : decode cL_law 632 = .ok (.aload_n 2, 1) := by decide +kernel
theorem dL_law_633 : decode cL_law 633 = .ok (.aload_n 0, 1) := by decide +kernel
theorem dL_law_634 : decode cL_law 634 = .ok (.iload_n 3, 1) := by decide +kernel
theorem dL_law_635 : decode cL_law 635 = .ok (.iconst 1, 1) := by decide +kernel
theorem dL_law_636 : decode cL_law 636 = .ok (.iadd, 1) := by decide +kernel
theorem dL_law_637 : decode cL_law 637 = .ok (.iaload, 1) := by decide +kernel
theorem dL_law_638 : decode cL_law 638 = .ok (.aload_n 0, 1) := by decide +kernel
theorem dL_law_639 : decode cL_law 639 = .ok (.iload_n 3, 1) := by decide +kernel
theorem dL_law_640 : decode cL_law 640 = .ok (.iconst 2, 1) := by decide +kernel
theorem dL_law_641 : decode cL_law 641 = .ok (.iadd, 1) := by decide +kernel
theorem dL_law_642 : decode cL_law 642 = .ok (.iaload, 1) := by decide +kernel
theorem dL_law_643 : decode cL_law 643 = .ok (.invokevirtual 107, 3) := by decide +kernel
theorem dL_law_646 : decode cL_law 646 = .ok (.if_icmp .eq 199, 3) := by decide +kernel
theorem dL_law_649 : decode cL_law 649 = .ok (.iconst 0, 1) := by decide +kernel
theorem dL_law_650 : decode cL_law 650 = .ok (.ireturn, 1) := by decide +kernel
theorem dL_law_651 : decode cL_law 651 = .ok (.aload_n 1, 1) := by decide +kernel
theorem dL_law_652 : decode cL_law 652 = .ok (.aload_n 0, 1) := by decide +kernel
theorem dL_law_653 : decode cL_law 653 = .ok (.iload_n 3, 1) := by decide +kernel
theorem dL_law_654 : decode cL_law 654 = .ok (.iconst 1, 1) := by decide +kernel
theorem dL_law_655 : decode cL_law 655 = .ok (.iadd, 1) := by decide +kernel
theorem dL_law_656 : decode cL_law 656 = .ok (.iaload, 1) := by decide +kernel
theorem dL_law_657 : decode cL_law 657 = .ok (.aload_n 0, 1) := by decide +kernel
theorem dL_law_658 : decode cL_law 658 = .ok (.iload_n 3, 1) := by decide +kernel
theorem dL_law_659 : decode cL_law 659 = .ok (.iconst 2, 1) := by decide +kernel
theorem dL_law_660 : decode cL_law 660 = .ok (.iadd, 1) := by decide +kernel
theorem dL_law_661 : decode cL_law 661 = .ok (.iaload, 1) := by decide +kernel
theorem dL_law_662 : decode cL_law 662 = .ok (.aload_n 0, 1) := by decide +kernel
theorem dL_law_663 : decode cL_law 663 = .ok (.iload_n 3, 1) := by decide +kernel
theorem dL_law_664 : decode cL_law 664 = .ok (.iconst 3, 1) := by decide +kernel
theorem dL_law_665 : decode cL_law 665 = .ok (.iadd, 1) := by decide +kernel
theorem dL_law_666 : decode cL_law 666 = .ok (.iaload, 1) := by decide +kernel
theorem dL_law_667 : decode cL_law 667 = .ok (.invokevirtual 108, 3) := by decide +kernel
theorem dL_law_670 : decode cL_law 670 = .ok (.aload_n 2, 1) := by decide +kernel
theorem dL_law_671 : decode cL_law 671 = .ok (.aload_n 0, 1) := by decide +kernel
theorem dL_law_672 : decode cL_law 672 = .ok (.iload_n 3, 1) := by decide +kernel
theorem dL_law_673 : decode cL_law 673 = .ok (.iconst 1, 1) := by decide +kernel
theorem dL_law_674 : decode cL_law 674 = .ok (.iadd, 1) := by decide +kernel
theorem dL_law_675 : decode cL_law 675 = .ok (.iaload, 1) := by decide +kernel
theorem dL_law_676 : decode cL_law 676 = .ok (.aload_n 0, 1) := by decide +kernel
theorem dL_law_677 : decode cL_law 677 = .ok (.iload_n 3, 1) := by decide +kernel
theorem dL_law_678 : decode cL_law 678 = .ok (.iconst 2, 1) := by decide +kernel
theorem dL_law_679 : decode cL_law 679 = .ok (.iadd, 1) := by decide +kernel
theorem dL_law_680 : decode cL_law 680 = .ok (.iaload, 1) := by decide +kernel
theorem dL_law_681 : decode cL_law 681 = .ok (.aload_n 0, 1) := by decide +kernel
theorem dL_law_682 : decode cL_law 682 = .ok (.iload_n 3, 1) := by decide +kernel
theorem dL_law_683 : decode cL_law 683 = .ok (.iconst 3, 1) := by decide +kernel
theorem dL_law_684 : decode cL_law 684 = .ok (.iadd, 1) := by decide +kernel
theorem dL_law_685 : decode cL_law 685 = .ok (.iaload, 1) := by decide +kernel
theorem dL_law_686 : decode cL_law 686 = .ok (.invokevirtual 112, 3) := by decide +kernel
theorem dL_law_689 : decode cL_law 689 = .ok (.if_icmp .eq 156, 3) := by decide +kernel
theorem dL_law_692 : decode cL_law 692 = .ok (.iconst 0, 1) := by decide +kernel
theorem dL_law_693 : decode cL_law 693 = .ok (.ireturn, 1) := by decide +kernel
theorem dL_law_694 : decode cL_law 694 = .ok (.aload_n 1, 1) := by decide +kernel
theorem dL_law_695 : decode cL_law 695 = .ok (.invokevirtual 113, 3) := by decide +kernel
theorem dL_law_698 : decode cL_law 698 = .ok (.aload_n 2, 1) := by decide +kernel
theorem dL_law_699 : decode cL_law 699 = .ok (.invokevirtual 116, 3) := by decide +kernel
theorem dL_law_702 : decode cL_law 702 = .ok (.if_icmp .eq 143, 3) := by decide +kernel
theorem dL_law_705 : decode cL_law 705 = .ok (.iconst 0, 1) := by decide +kernel
theorem dL_law_706 : decode cL_law 706 = .ok (.ireturn, 1) := by decide +kernel
theorem dL_law_707 : decode cL_law 707 = .ok (.aload_n 1, 1) := by decide +kernel
theorem dL_law_708 : decode cL_law 708 = .ok (.aload_n 0, 1) := by decide +kernel
theorem dL_law_709 : decode cL_law 709 = .ok (.iload_n 3, 1) := by decide +kernel
theorem dL_law_710 : decode cL_law 710 = .ok (.iconst 1, 1) := by decide +kernel
theorem dL_law_711 : decode cL_law 711 = .ok (.iadd, 1) := by decide +kernel
theorem dL_law_712 : decode cL_law 712 = .ok (.iaload, 1) := by decide +kernel
theorem dL_law_713 : decode cL_law 713 = .ok (.invokevirtual 117, 3) := by decide +kernel
theorem dL_law_716 : decode cL_law 716 = .ok (.aload_n 2, 1) := by decide +kernel
theorem dL_law_717 : decode cL_law 717 = .ok (.aload_n 0, 1) := by decide +kernel
theorem dL_law_718 : decode cL_law 718 = .ok (.iload_n 3, 1) := by decide +kernel
theorem dL_law_719 : decode cL_law 719 = .ok (.iconst 1, 1) := by decide +kernel
theorem dL_law_720 : decode cL_law 720 = .ok (.iadd, 1) := by decide +kernel
theorem dL_law_721 : decode cL_law 721 = .ok (.iaload, 1) := by decide +kernel
theorem dL_law_722 : decode cL_law 722 = .ok (.invokevirtual 120, 3) := by decide +kernel
theorem dL_law_725 : decode cL_law 725 = .ok (.if_icmp .eq 120, 3) := by decide +kernel
theorem dL_law_728 : decode cL_law 728 = .ok (.iconst 0, 1) := by decide +kernel
theorem dL_law_729 : decode cL_law 729 = .ok (.ireturn, 1) := by decide +kernel
theorem dL_law_730 : decode cL_law 730 = .ok (.aload_n 1, 1) := by decide +kernel
theorem dL_law_731 : decode cL_law 731 = .ok (.aload_n 0, 1) := by decide +kernel
theorem dL_law_732 : decode cL_law 732 = .ok (.iload_n 3, 1) := by decide +kernel
theorem dL_law_733 : decode cL_law 733 = .ok (.iconst 1, 1) := by decide +kernel
theorem dL_law_734 : decode cL_law 734 = .ok (.iadd, 1) := by decide +kernel
theorem dL_law_735 : decode cL_law 735 = .ok (.iaload, 1) := by decide +kernel
theorem dL_law_736 : decode cL_law 736 = .ok (.invokevirtual 121, 3) := by decide +kernel
theorem dL_law_739 : decode cL_law 739 = .ok (.aload_n 2, 1) := by decide +kernel
theorem dL_law_740 : decode cL_law 740 = .ok (.aload_n 0, 1) := by decide +kernel
theorem dL_law_741 : decode cL_law 741 = .ok (.iload_n 3, 1) := by decide +kernel
theorem dL_law_742 : decode cL_law 742 = .ok (.iconst 1, 1) := by decide +kernel
theorem dL_law_743 : decode cL_law 743 = .ok (.iadd, 1) := by decide +kernel
theorem dL_law_744 : decode cL_law 744 = .ok (.iaload, 1) := by decide +kernel
theorem dL_law_745 : decode cL_law 745 = .ok (.invokevirtual 124, 3) := by decide +kernel
theorem dL_law_748 : decode cL_law 748 = .ok (.if_icmp .eq 97, 3) := by decide +kernel
theorem dL_law_751 : decode cL_law 751 = .ok (.iconst 0, 1) := by decide +kernel
theorem dL_law_752 : decode cL_law 752 = .ok (.ireturn, 1) := by decide +kernel
theorem dL_law_753 : decode cL_law 753 = .ok (.aload_n 1, 1) := by decide +kernel
theorem dL_law_754 : decode cL_law 754 = .ok (.aload_n 0, 1) := by decide +kernel
theorem dL_law_755 : decode cL_law 755 = .ok (.iload_n 3, 1) := by decide +kernel
theorem dL_law_756 : decode cL_law 756 = .ok (.iconst 1, 1) := by decide +kernel
theorem dL_law_757 : decode cL_law 757 = .ok (.iadd, 1) := by decide +kernel
theorem dL_law_758 : decode cL_law 758 = .ok (.iaload, 1) := by decide +kernel
theorem dL_law_759 : decode cL_law 759 = .ok (.aload_n 0, 1) := by decide +kernel
theorem dL_law_760 : decode cL_law 760 = .ok (.iload_n 3, 1) := by decide +kernel
theorem dL_law_761 : decode cL_law 761 = .ok (.iconst 2, 1) := by decide +kernel
theorem dL_law_762 : decode cL_law 762 = .ok (.iadd, 1) := by decide +kernel
theorem dL_law_763 : decode cL_law 763 = .ok (.iaload, 1) := by decide +kernel
theorem dL_law_764 : decode cL_law 764 = .ok (.aload_n 0, 1) := by decide +kernel
theorem dL_law_765 : decode cL_law 765 = .ok (.iload_n 3, 1) := by decide +kernel
theorem dL_law_766 : decode cL_law 766 = .ok (.iconst 3, 1) := by decide +kernel
theorem dL_law_767 : decode cL_law 767 = .ok (.iadd, 1) := by decide +kernel
theorem dL_law_768 : decode cL_law 768 = .ok (.iaload, 1) := by decide +kernel
theorem dL_law_769 : decode cL_law 769 = .ok (.invokevirtual 125, 3) := by decide +kernel
theorem dL_law_772 : decode cL_law 772 = .ok (.aload_n 2, 1) := by decide +kernel
theorem dL_law_773 : decode cL_law 773 = .ok (.aload_n 0, 1) := by decide +kernel
theorem dL_law_774 : decode cL_law 774 = .ok (.iload_n 3, 1) := by decide +kernel
theorem dL_law_775 : decode cL_law 775 = .ok (.iconst 1, 1) := by decide +kernel
theorem dL_law_776 : decode cL_law 776 = .ok (.iadd, 1) := by decide +kernel
theorem dL_law_777 : decode cL_law 777 = .ok (.iaload, 1) := by decide +kernel
theorem dL_law_778 : decode cL_law 778 = .ok (.aload_n 0, 1) := by decide +kernel
theorem dL_law_779 : decode cL_law 779 = .ok (.iload_n 3, 1) := by decide +kernel
theorem dL_law_780 : decode cL_law 780 = .ok (.iconst 2, 1) := by decide +kernel
theorem dL_law_781 : decode cL_law 781 = .ok (.iadd, 1) := by decide +kernel
theorem dL_law_782 : decode cL_law 782 = .ok (.iaload, 1) := by decide +kernel
theorem dL_law_783 : decode cL_law 783 = .ok (.aload_n 0, 1) := by decide +kernel
theorem dL_law_784 : decode cL_law 784 = .ok (.iload_n 3, 1) := by decide +kernel
theorem dL_law_785 : decode cL_law 785 = .ok (.iconst 3, 1) := by decide +kernel
theorem dL_law_786 : decode cL_law 786 = .ok (.iadd, 1) := by decide +kernel
theorem dL_law_787 : decode cL_law 787 = .ok (.iaload, 1) := by decide +kernel
theorem dL_law_788 : decode cL_law 788 = .ok (.invokevirtual 128, 3) := by decide +kernel
theorem dL_law_791 : decode cL_law 791 = .ok (.if_icmp .eq 54, 3) := by decide +kernel
theorem dL_law_794 : decode cL_law 794 = .ok (.iconst 0, 1) := by decide +kernel
theorem dL_law_795 : decode cL_law 795 = .ok (.ireturn, 1) := by decide +kernel
theorem dL_law_796 : decode cL_law 796 = .ok (.aload_n 1, 1) := by decide +kernel
theorem dL_law_797 : decode cL_law 797 = .ok (.invokevirtual 129, 3) := by decide +kernel
theorem dL_law_800 : decode cL_law 800 = .ok (.aload_n 2, 1) := by decide +kernel
theorem dL_law_801 : decode cL_law 801 = .ok (.invokevirtual 132, 3) := by decide +kernel
theorem dL_law_804 : decode cL_law 804 = .ok (.if_icmp .eq 41, 3) := by decide +kernel
theorem dL_law_807 : decode cL_law 807 = .ok (.iconst 0, 1) := by decide +kernel
theorem dL_law_808 : decode cL_law 808 = .ok (.ireturn, 1) := by decide +kernel
theorem dL_law_809 : decode cL_law 809 = .ok (.aload_n 1, 1) := by decide +kernel
theorem dL_law_810 : decode cL_law 810 = .ok (.invokevirtual 133, 3) := by decide +kernel
theorem dL_law_813 : decode cL_law 813 = .ok (.aload_n 2, 1) := by decide +kernel
theorem dL_law_814 : decode cL_law 814 = .ok (.invokevirtual 136, 3) := by decide +kernel
theorem dL_law_817 : decode cL_law 817 = .ok (.if_icmp .eq 28, 3) := by decide +kernel
theorem dL_law_820 : decode cL_law 820 = .ok (.iconst 0, 1) := by decide +kernel
theorem dL_law_821 : decode cL_law 821 = .ok (.ireturn, 1) := by decide +kernel
theorem dL_law_822 : decode cL_law 822 = .ok (.aload_n 1, 1) := by decide +kernel
theorem dL_law_823 : decode cL_law 823 = .ok (.aload_n 0, 1) := by decide +kernel
theorem dL_law_824 : decode cL_law 824 = .ok (.iload_n 3, 1) := by decide +kernel
theorem dL_law_825 : decode cL_law 825 = .ok (.iconst 1, 1) := by decide +kernel
theorem dL_law_826 : decode cL_law 826 = .ok (.iadd, 1) := by decide +kernel
theorem dL_law_827 : decode cL_law 827 = .ok (.iaload, 1) := by decide +kernel
theorem dL_law_828 : decode cL_law 828 = .ok (.invokevirtual 137, 3) := by decide +kernel
theorem dL_law_831 : decode cL_law 831 = .ok (.aload_n 2, 1) := by decide +kernel
theorem dL_law_832 : decode cL_law 832 = .ok (.aload_n 0, 1) := by decide +kernel
theorem dL_law_833 : decode cL_law 833 = .ok (.iload_n 3, 1) := by decide +kernel
theorem dL_law_834 : decode cL_law 834 = .ok (.iconst 1, 1) := by decide +kernel
theorem dL_law_835 : decode cL_law 835 = .ok (.iadd, 1) := by decide +kernel
theorem dL_law_836 : decode cL_law 836 = .ok (.iaload, 1) := by decide +kernel
theorem dL_law_837 : decode cL_law 837 = .ok (.invokevirtual 140, 3) := by decide +kernel
theorem dL_law_840 : decode cL_law 840 = .ok (.if_icmp .eq 5, 3) := by decide +kernel
theorem dL_law_843 : decode cL_law 843 = .ok (.iconst 0, 1) := by decide +kernel
theorem dL_law_844 : decode cL_law 844 = .ok (.ireturn, 1) := by decide +kernel
theorem dL_law_845 : decode cL_law 845 = .ok (.iinc 3 4, 3) := by decide +kernel
theorem dL_law_848 : decode cL_law 848 = .ok (.goto (-830), 3) := by decide +kernel
theorem dL_law_851 : decode cL_law 851 = .ok (.iconst 1, 1) := by decide +kernel
theorem dL_law_852 : decode cL_law 852 = .ok (.ireturn, 1) := by decide +kernel
abbrev vwCl : List vw_C := [(RX0, TX0, 9), (RX1, TX1, 4), (RX2, TX2, 4), (RX3, TX3, 11), (RX4, TX4, 17), (RX5, TX5, 21)]
