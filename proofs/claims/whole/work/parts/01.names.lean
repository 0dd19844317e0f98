-- ===== PART A: goes FIRST, ahead of the names: the tables' words, and 'selects' of the private methods out of them =====
/-- a private method of a class that the tables say can be made, by its rows of tables_1 -/
def lw_okq (q : MethodName × Nat) : Prop := (q.1.cls ≠ "java/lang/invoke/MethodHandle" ∧ q.1.cls ≠ "java/lang/invoke/VarHandle") ∧ Cond.instantiable q.1.cls q.2 ∈ tables_1 ∧ Cond.privateMethod q.1 ∈ tables_1 ∧ Cond.instanceMethod q.1 ∈ tables_1
theorem lw_p0 : lw_okq (⟨"LentSundays$Laws", "addShortLaw", "(III)V"⟩, 4) := ⟨⟨by decide +kernel, by decide +kernel⟩, List.mem_of_getElem? (i := 268) (by decide +kernel), List.mem_of_getElem? (i := 295) (by decide +kernel), List.mem_of_getElem? (i := 296) (by decide +kernel)⟩
theorem lw_p1 : lw_okq (⟨"LentSundays$Text", "isPeaceful", "(I)Z"⟩, 17) := ⟨⟨by decide +kernel, by decide +kernel⟩, List.mem_of_getElem? (i := 262) (by decide +kernel), List.mem_of_getElem? (i := 311) (by decide +kernel), List.mem_of_getElem? (i := 312) (by decide +kernel)⟩
theorem lw_p2 : lw_okq (⟨"LentSundays$Tokens", "behindBlanks", "(LLentSundays$Tape;I)I"⟩, 5) := ⟨⟨by decide +kernel, by decide +kernel⟩, List.mem_of_getElem? (i := 53) (by decide +kernel), List.mem_of_getElem? (i := 463) (by decide +kernel), List.mem_of_getElem? (i := 464) (by decide +kernel)⟩
theorem lw_p3 : lw_okq (⟨"LentSundays$Tokens", "cutOne", "(LLentSundays$Tape;I)I"⟩, 5) := ⟨⟨by decide +kernel, by decide +kernel⟩, List.mem_of_getElem? (i := 53) (by decide +kernel), List.mem_of_getElem? (i := 470) (by decide +kernel), List.mem_of_getElem? (i := 471) (by decide +kernel)⟩
theorem lw_p4 : lw_okq (⟨"LentSundays$Tokens", "cutLetters", "(LLentSundays$Tape;I)I"⟩, 5) := ⟨⟨by decide +kernel, by decide +kernel⟩, List.mem_of_getElem? (i := 53) (by decide +kernel), List.mem_of_getElem? (i := 477) (by decide +kernel), List.mem_of_getElem? (i := 478) (by decide +kernel)⟩
theorem lw_p5 : lw_okq (⟨"LentSundays$Tokens", "kindOf", "(J)I"⟩, 5) := ⟨⟨by decide +kernel, by decide +kernel⟩, List.mem_of_getElem? (i := 53) (by decide +kernel), List.mem_of_getElem? (i := 481) (by decide +kernel), List.mem_of_getElem? (i := 482) (by decide +kernel)⟩
theorem lw_p6 : lw_okq (⟨"LentSundays$Tokens", "add", "(IIJ)V"⟩, 5) := ⟨⟨by decide +kernel, by decide +kernel⟩, List.mem_of_getElem? (i := 53) (by decide +kernel), List.mem_of_getElem? (i := 485) (by decide +kernel), List.mem_of_getElem? (i := 486) (by decide +kernel)⟩
theorem lw_p7 : lw_okq (⟨"LentSundays$Tokens", "cutDigits", "(LLentSundays$Tape;I)I"⟩, 5) := ⟨⟨by decide +kernel, by decide +kernel⟩, List.mem_of_getElem? (i := 53) (by decide +kernel), List.mem_of_getElem? (i := 492) (by decide +kernel), List.mem_of_getElem? (i := 493) (by decide +kernel)⟩
theorem lw_p8 : lw_okq (⟨"LentSundays$Reader", "kind", "()I"⟩, 6) := ⟨⟨by decide +kernel, by decide +kernel⟩, List.mem_of_getElem? (i := 47) (by decide +kernel), List.mem_of_getElem? (i := 556) (by decide +kernel), List.mem_of_getElem? (i := 557) (by decide +kernel)⟩
theorem lw_p9 : lw_okq (⟨"LentSundays$Reader", "readTell", "(LLentSundays$Text;)Z"⟩, 6) := ⟨⟨by decide +kernel, by decide +kernel⟩, List.mem_of_getElem? (i := 47) (by decide +kernel), List.mem_of_getElem? (i := 560) (by decide +kernel), List.mem_of_getElem? (i := 561) (by decide +kernel)⟩
theorem lw_p10 : lw_okq (⟨"LentSundays$Reader", "readSunday", "(LLentSundays$Text;)Z"⟩, 6) := ⟨⟨by decide +kernel, by decide +kernel⟩, List.mem_of_getElem? (i := 47) (by decide +kernel), List.mem_of_getElem? (i := 564) (by decide +kernel), List.mem_of_getElem? (i := 565) (by decide +kernel)⟩
theorem lw_p11 : lw_okq (⟨"LentSundays$Reader", "fail", "(I)Z"⟩, 6) := ⟨⟨by decide +kernel, by decide +kernel⟩, List.mem_of_getElem? (i := 47) (by decide +kernel), List.mem_of_getElem? (i := 568) (by decide +kernel), List.mem_of_getElem? (i := 569) (by decide +kernel)⟩
theorem lw_p12 : lw_okq (⟨"LentSundays$Reader", "take", "(I)Z"⟩, 6) := ⟨⟨by decide +kernel, by decide +kernel⟩, List.mem_of_getElem? (i := 47) (by decide +kernel), List.mem_of_getElem? (i := 572) (by decide +kernel), List.mem_of_getElem? (i := 573) (by decide +kernel)⟩
theorem lw_p13 : lw_okq (⟨"LentSundays$Reader", "takeNewName", "(LLentSundays$Text;)Z"⟩, 6) := ⟨⟨by decide +kernel, by decide +kernel⟩, List.mem_of_getElem? (i := 47) (by decide +kernel), List.mem_of_getElem? (i := 576) (by decide +kernel), List.mem_of_getElem? (i := 577) (by decide +kernel)⟩
theorem lw_p14 : lw_okq (⟨"LentSundays$Reader", "keepLate", "(II)V"⟩, 6) := ⟨⟨by decide +kernel, by decide +kernel⟩, List.mem_of_getElem? (i := 47) (by decide +kernel), List.mem_of_getElem? (i := 588) (by decide +kernel), List.mem_of_getElem? (i := 589) (by decide +kernel)⟩
theorem lw_p15 : lw_okq (⟨"LentSundays$Reader", "takeInt", "(II)Z"⟩, 6) := ⟨⟨by decide +kernel, by decide +kernel⟩, List.mem_of_getElem? (i := 47) (by decide +kernel), List.mem_of_getElem? (i := 592) (by decide +kernel), List.mem_of_getElem? (i := 593) (by decide +kernel)⟩
def lw_privs_1 : List (MethodName × Nat) := [(⟨"LentSundays$Laws", "addShortLaw", "(III)V"⟩, 4), (⟨"LentSundays$Text", "isPeaceful", "(I)Z"⟩, 17), (⟨"LentSundays$Tokens", "behindBlanks", "(LLentSundays$Tape;I)I"⟩, 5), (⟨"LentSundays$Tokens", "cutOne", "(LLentSundays$Tape;I)I"⟩, 5), (⟨"LentSundays$Tokens", "cutLetters", "(LLentSundays$Tape;I)I"⟩, 5), (⟨"LentSundays$Tokens", "kindOf", "(J)I"⟩, 5), (⟨"LentSundays$Tokens", "add", "(IIJ)V"⟩, 5), (⟨"LentSundays$Tokens", "cutDigits", "(LLentSundays$Tape;I)I"⟩, 5), (⟨"LentSundays$Reader", "kind", "()I"⟩, 6), (⟨"LentSundays$Reader", "readTell", "(LLentSundays$Text;)Z"⟩, 6), (⟨"LentSundays$Reader", "readSunday", "(LLentSundays$Text;)Z"⟩, 6), (⟨"LentSundays$Reader", "fail", "(I)Z"⟩, 6), (⟨"LentSundays$Reader", "take", "(I)Z"⟩, 6), (⟨"LentSundays$Reader", "takeNewName", "(LLentSundays$Text;)Z"⟩, 6), (⟨"LentSundays$Reader", "keepLate", "(II)V"⟩, 6), (⟨"LentSundays$Reader", "takeInt", "(II)Z"⟩, 6)]
theorem lw_r1 : ∀ q ∈ lw_privs_1, lw_okq q := List.forall_mem_cons.mpr ⟨lw_p0, List.forall_mem_cons.mpr ⟨lw_p1, List.forall_mem_cons.mpr ⟨lw_p2, List.forall_mem_cons.mpr ⟨lw_p3, List.forall_mem_cons.mpr ⟨lw_p4, List.forall_mem_cons.mpr ⟨lw_p5, List.forall_mem_cons.mpr ⟨lw_p6, List.forall_mem_cons.mpr ⟨lw_p7, List.forall_mem_cons.mpr ⟨lw_p8, List.forall_mem_cons.mpr ⟨lw_p9, List.forall_mem_cons.mpr ⟨lw_p10, List.forall_mem_cons.mpr ⟨lw_p11, List.forall_mem_cons.mpr ⟨lw_p12, List.forall_mem_cons.mpr ⟨lw_p13, List.forall_mem_cons.mpr ⟨lw_p14, List.forall_mem_cons.mpr ⟨lw_p15, fun _ h => absurd h List.not_mem_nil⟩⟩⟩⟩⟩⟩⟩⟩⟩⟩⟩⟩⟩⟩⟩⟩
theorem lw_p16 : lw_okq (⟨"LentSundays$Reader", "intBehind", "(I)I"⟩, 6) := ⟨⟨by decide +kernel, by decide +kernel⟩, List.mem_of_getElem? (i := 47) (by decide +kernel), List.mem_of_getElem? (i := 596) (by decide +kernel), List.mem_of_getElem? (i := 597) (by decide +kernel)⟩
theorem lw_p17 : lw_okq (⟨"LentSundays$Reader", "readGuest", "(LLentSundays$Text;)Z"⟩, 6) := ⟨⟨by decide +kernel, by decide +kernel⟩, List.mem_of_getElem? (i := 47) (by decide +kernel), List.mem_of_getElem? (i := 604) (by decide +kernel), List.mem_of_getElem? (i := 605) (by decide +kernel)⟩
theorem lw_p18 : lw_okq (⟨"LentSundays$Reader", "readFoes", "(LLentSundays$Text;)Z"⟩, 6) := ⟨⟨by decide +kernel, by decide +kernel⟩, List.mem_of_getElem? (i := 47) (by decide +kernel), List.mem_of_getElem? (i := 612) (by decide +kernel), List.mem_of_getElem? (i := 613) (by decide +kernel)⟩
theorem lw_p19 : lw_okq (⟨"LentSundays$Reader", "readLaw", "(LLentSundays$Laws;I)Z"⟩, 6) := ⟨⟨by decide +kernel, by decide +kernel⟩, List.mem_of_getElem? (i := 47) (by decide +kernel), List.mem_of_getElem? (i := 625) (by decide +kernel), List.mem_of_getElem? (i := 626) (by decide +kernel)⟩
theorem lw_p20 : lw_okq (⟨"LentSundays$Reader", "readSum", "(LLentSundays$Laws;I)Z"⟩, 6) := ⟨⟨by decide +kernel, by decide +kernel⟩, List.mem_of_getElem? (i := 47) (by decide +kernel), List.mem_of_getElem? (i := 630) (by decide +kernel), List.mem_of_getElem? (i := 631) (by decide +kernel)⟩
theorem lw_p21 : lw_okq (⟨"LentSundays$Reader", "readProduct", "(LLentSundays$Laws;I)Z"⟩, 6) := ⟨⟨by decide +kernel, by decide +kernel⟩, List.mem_of_getElem? (i := 47) (by decide +kernel), List.mem_of_getElem? (i := 634) (by decide +kernel), List.mem_of_getElem? (i := 635) (by decide +kernel)⟩
theorem lw_p22 : lw_okq (⟨"LentSundays$Reader", "readUnit", "(LLentSundays$Laws;I)Z"⟩, 6) := ⟨⟨by decide +kernel, by decide +kernel⟩, List.mem_of_getElem? (i := 47) (by decide +kernel), List.mem_of_getElem? (i := 638) (by decide +kernel), List.mem_of_getElem? (i := 639) (by decide +kernel)⟩
theorem lw_p23 : lw_okq (⟨"LentSundays", "isSunday", "(I)Z"⟩, 12) := ⟨⟨by decide +kernel, by decide +kernel⟩, List.mem_of_getElem? (i := 22) (by decide +kernel), List.mem_of_getElem? (i := 660) (by decide +kernel), List.mem_of_getElem? (i := 661) (by decide +kernel)⟩
theorem lw_p24 : lw_okq (⟨"LentSundays$House", "setSunday", "(LLentSundays$Text;LLentSundays$State;I)V"⟩, 2) := ⟨⟨by decide +kernel, by decide +kernel⟩, List.mem_of_getElem? (i := 211) (by decide +kernel), List.mem_of_getElem? (i := 672) (by decide +kernel), List.mem_of_getElem? (i := 673) (by decide +kernel)⟩
theorem lw_p25 : lw_okq (⟨"LentSundays$House", "answerHeld", "(LLentSundays$Laws;I)I"⟩, 2) := ⟨⟨by decide +kernel, by decide +kernel⟩, List.mem_of_getElem? (i := 211) (by decide +kernel), List.mem_of_getElem? (i := 696) (by decide +kernel), List.mem_of_getElem? (i := 697) (by decide +kernel)⟩
theorem lw_p26 : lw_okq (⟨"LentSundays", "isGuest", "(I)Z"⟩, 12) := ⟨⟨by decide +kernel, by decide +kernel⟩, List.mem_of_getElem? (i := 22) (by decide +kernel), List.mem_of_getElem? (i := 714) (by decide +kernel), List.mem_of_getElem? (i := 715) (by decide +kernel)⟩
theorem lw_p27 : lw_okq (⟨"LentSundays", "couldGoIn", "(III)Z"⟩, 12) := ⟨⟨by decide +kernel, by decide +kernel⟩, List.mem_of_getElem? (i := 22) (by decide +kernel), List.mem_of_getElem? (i := 752) (by decide +kernel), List.mem_of_getElem? (i := 753) (by decide +kernel)⟩
theorem lw_p28 : lw_okq (⟨"LentSundays", "isWeeks", "(I)Z"⟩, 12) := ⟨⟨by decide +kernel, by decide +kernel⟩, List.mem_of_getElem? (i := 22) (by decide +kernel), List.mem_of_getElem? (i := 789) (by decide +kernel), List.mem_of_getElem? (i := 790) (by decide +kernel)⟩
theorem lw_p29 : lw_okq (⟨"LentSundays$House", "payAndRest", "(LLentSundays$Text;LLentSundays$State;)V"⟩, 2) := ⟨⟨by decide +kernel, by decide +kernel⟩, List.mem_of_getElem? (i := 211) (by decide +kernel), List.mem_of_getElem? (i := 797) (by decide +kernel), List.mem_of_getElem? (i := 798) (by decide +kernel)⟩
theorem lw_p30 : lw_okq (⟨"LentSundays$House", "wear", "(LLentSundays$Text;LLentSundays$State;)V"⟩, 2) := ⟨⟨by decide +kernel, by decide +kernel⟩, List.mem_of_getElem? (i := 211) (by decide +kernel), List.mem_of_getElem? (i := 802) (by decide +kernel), List.mem_of_getElem? (i := 803) (by decide +kernel)⟩
theorem lw_p31 : lw_okq (⟨"LentSundays$House", "bury", "(LLentSundays$Text;LLentSundays$State;I)V"⟩, 2) := ⟨⟨by decide +kernel, by decide +kernel⟩, List.mem_of_getElem? (i := 211) (by decide +kernel), List.mem_of_getElem? (i := 807) (by decide +kernel), List.mem_of_getElem? (i := 808) (by decide +kernel)⟩
def lw_privs_2 : List (MethodName × Nat) := [(⟨"LentSundays$Reader", "intBehind", "(I)I"⟩, 6), (⟨"LentSundays$Reader", "readGuest", "(LLentSundays$Text;)Z"⟩, 6), (⟨"LentSundays$Reader", "readFoes", "(LLentSundays$Text;)Z"⟩, 6), (⟨"LentSundays$Reader", "readLaw", "(LLentSundays$Laws;I)Z"⟩, 6), (⟨"LentSundays$Reader", "readSum", "(LLentSundays$Laws;I)Z"⟩, 6), (⟨"LentSundays$Reader", "readProduct", "(LLentSundays$Laws;I)Z"⟩, 6), (⟨"LentSundays$Reader", "readUnit", "(LLentSundays$Laws;I)Z"⟩, 6), (⟨"LentSundays", "isSunday", "(I)Z"⟩, 12), (⟨"LentSundays$House", "setSunday", "(LLentSundays$Text;LLentSundays$State;I)V"⟩, 2), (⟨"LentSundays$House", "answerHeld", "(LLentSundays$Laws;I)I"⟩, 2), (⟨"LentSundays", "isGuest", "(I)Z"⟩, 12), (⟨"LentSundays", "couldGoIn", "(III)Z"⟩, 12), (⟨"LentSundays", "isWeeks", "(I)Z"⟩, 12), (⟨"LentSundays$House", "payAndRest", "(LLentSundays$Text;LLentSundays$State;)V"⟩, 2), (⟨"LentSundays$House", "wear", "(LLentSundays$Text;LLentSundays$State;)V"⟩, 2), (⟨"LentSundays$House", "bury", "(LLentSundays$Text;LLentSundays$State;I)V"⟩, 2)]
theorem lw_r2 : ∀ q ∈ lw_privs_2, lw_okq q := List.forall_mem_cons.mpr ⟨lw_p16, List.forall_mem_cons.mpr ⟨lw_p17, List.forall_mem_cons.mpr ⟨lw_p18, List.forall_mem_cons.mpr ⟨lw_p19, List.forall_mem_cons.mpr ⟨lw_p20, List.forall_mem_cons.mpr ⟨lw_p21, List.forall_mem_cons.mpr ⟨lw_p22, List.forall_mem_cons.mpr ⟨lw_p23, List.forall_mem_cons.mpr ⟨lw_p24, List.forall_mem_cons.mpr ⟨lw_p25, List.forall_mem_cons.mpr ⟨lw_p26, List.forall_mem_cons.mpr ⟨lw_p27, List.forall_mem_cons.mpr ⟨lw_p28, List.forall_mem_cons.mpr ⟨lw_p29, List.forall_mem_cons.mpr ⟨lw_p30, List.forall_mem_cons.mpr ⟨lw_p31, fun _ h => absurd h List.not_mem_nil⟩⟩⟩⟩⟩⟩⟩⟩⟩⟩⟩⟩⟩⟩⟩⟩
theorem lw_p32 : lw_okq (⟨"LentSundays", "isOneOfTwo", "(I)Z"⟩, 12) := ⟨⟨by decide +kernel, by decide +kernel⟩, List.mem_of_getElem? (i := 22) (by decide +kernel), List.mem_of_getElem? (i := 831) (by decide +kernel), List.mem_of_getElem? (i := 832) (by decide +kernel)⟩
theorem lw_p33 : lw_okq (⟨"LentSundays$Planner", "mostWith", "(II)I"⟩, 3) := ⟨⟨by decide +kernel, by decide +kernel⟩, List.mem_of_getElem? (i := 224) (by decide +kernel), List.mem_of_getElem? (i := 862) (by decide +kernel), List.mem_of_getElem? (i := 863) (by decide +kernel)⟩
theorem lw_p34 : lw_okq (⟨"LentSundays$Planner", "leastPart", "(II)I"⟩, 3) := ⟨⟨by decide +kernel, by decide +kernel⟩, List.mem_of_getElem? (i := 224) (by decide +kernel), List.mem_of_getElem? (i := 875) (by decide +kernel), List.mem_of_getElem? (i := 876) (by decide +kernel)⟩
theorem lw_p35 : lw_okq (⟨"LentSundays$Planner", "leastWith", "(LLentSundays$Text;III)I"⟩, 3) := ⟨⟨by decide +kernel, by decide +kernel⟩, List.mem_of_getElem? (i := 224) (by decide +kernel), List.mem_of_getElem? (i := 888) (by decide +kernel), List.mem_of_getElem? (i := 889) (by decide +kernel)⟩
theorem lw_p36 : lw_okq (⟨"LentSundays", "sundaysFitting", "(I)I"⟩, 12) := ⟨⟨by decide +kernel, by decide +kernel⟩, List.mem_of_getElem? (i := 22) (by decide +kernel), List.mem_of_getElem? (i := 920) (by decide +kernel), List.mem_of_getElem? (i := 921) (by decide +kernel)⟩
theorem lw_p37 : lw_okq (⟨"LentSundays", "earlierOnes", "(II)I"⟩, 12) := ⟨⟨by decide +kernel, by decide +kernel⟩, List.mem_of_getElem? (i := 22) (by decide +kernel), List.mem_of_getElem? (i := 928) (by decide +kernel), List.mem_of_getElem? (i := 929) (by decide +kernel)⟩
theorem lw_p38 : lw_okq (⟨"LentSundays", "firstWeary", "()I"⟩, 12) := ⟨⟨by decide +kernel, by decide +kernel⟩, List.mem_of_getElem? (i := 22) (by decide +kernel), List.mem_of_getElem? (i := 958) (by decide +kernel), List.mem_of_getElem? (i := 959) (by decide +kernel)⟩
theorem lw_p39 : lw_okq (⟨"LentSundays$Clues", "agrees", "(LLentSundays$Text;II)Z"⟩, 3) := ⟨⟨by decide +kernel, by decide +kernel⟩, List.mem_of_getElem? (i := 244) (by decide +kernel), List.mem_of_getElem? (i := 1023) (by decide +kernel), List.mem_of_getElem? (i := 1024) (by decide +kernel)⟩
theorem lw_p40 : lw_okq (⟨"LentSundays", "moneyDue", "()I"⟩, 12) := ⟨⟨by decide +kernel, by decide +kernel⟩, List.mem_of_getElem? (i := 22) (by decide +kernel), List.mem_of_getElem? (i := 1057) (by decide +kernel), List.mem_of_getElem? (i := 1058) (by decide +kernel)⟩
theorem lw_p41 : lw_okq (⟨"LentSundays", "sumOf", "([I)I"⟩, 12) := ⟨⟨by decide +kernel, by decide +kernel⟩, List.mem_of_getElem? (i := 22) (by decide +kernel), List.mem_of_getElem? (i := 1061) (by decide +kernel), List.mem_of_getElem? (i := 1062) (by decide +kernel)⟩
theorem lw_p42 : lw_okq (⟨"LentSundays", "clashingPairs", "()I"⟩, 12) := ⟨⟨by decide +kernel, by decide +kernel⟩, List.mem_of_getElem? (i := 22) (by decide +kernel), List.mem_of_getElem? (i := 1065) (by decide +kernel), List.mem_of_getElem? (i := 1066) (by decide +kernel)⟩
theorem lw_p43 : lw_okq (⟨"LentSundays", "sundaysWithGuests", "()I"⟩, 12) := ⟨⟨by decide +kernel, by decide +kernel⟩, List.mem_of_getElem? (i := 22) (by decide +kernel), List.mem_of_getElem? (i := 1069) (by decide +kernel), List.mem_of_getElem? (i := 1070) (by decide +kernel)⟩
theorem lw_p44 : lw_okq (⟨"LentSundays", "guestsFittingAny", "()I"⟩, 12) := ⟨⟨by decide +kernel, by decide +kernel⟩, List.mem_of_getElem? (i := 22) (by decide +kernel), List.mem_of_getElem? (i := 1073) (by decide +kernel), List.mem_of_getElem? (i := 1074) (by decide +kernel)⟩
theorem lw_p45 : lw_okq (⟨"LentSundays", "hoursNotSold", "()I"⟩, 12) := ⟨⟨by decide +kernel, by decide +kernel⟩, List.mem_of_getElem? (i := 22) (by decide +kernel), List.mem_of_getElem? (i := 1077) (by decide +kernel), List.mem_of_getElem? (i := 1078) (by decide +kernel)⟩
theorem lw_p46 : lw_okq (⟨"LentSundays", "feesOfLiving", "()I"⟩, 12) := ⟨⟨by decide +kernel, by decide +kernel⟩, List.mem_of_getElem? (i := 22) (by decide +kernel), List.mem_of_getElem? (i := 1081) (by decide +kernel), List.mem_of_getElem? (i := 1082) (by decide +kernel)⟩
theorem lw_p47 : lw_okq (⟨"LentSundaysModel", "plain", "(I)V"⟩, 67) := ⟨⟨by decide +kernel, by decide +kernel⟩, List.mem_of_getElem? (i := 1085) (by decide +kernel), List.mem_of_getElem? (i := 1091) (by decide +kernel), List.mem_of_getElem? (i := 1092) (by decide +kernel)⟩
def lw_privs_3 : List (MethodName × Nat) := [(⟨"LentSundays", "isOneOfTwo", "(I)Z"⟩, 12), (⟨"LentSundays$Planner", "mostWith", "(II)I"⟩, 3), (⟨"LentSundays$Planner", "leastPart", "(II)I"⟩, 3), (⟨"LentSundays$Planner", "leastWith", "(LLentSundays$Text;III)I"⟩, 3), (⟨"LentSundays", "sundaysFitting", "(I)I"⟩, 12), (⟨"LentSundays", "earlierOnes", "(II)I"⟩, 12), (⟨"LentSundays", "firstWeary", "()I"⟩, 12), (⟨"LentSundays$Clues", "agrees", "(LLentSundays$Text;II)Z"⟩, 3), (⟨"LentSundays", "moneyDue", "()I"⟩, 12), (⟨"LentSundays", "sumOf", "([I)I"⟩, 12), (⟨"LentSundays", "clashingPairs", "()I"⟩, 12), (⟨"LentSundays", "sundaysWithGuests", "()I"⟩, 12), (⟨"LentSundays", "guestsFittingAny", "()I"⟩, 12), (⟨"LentSundays", "hoursNotSold", "()I"⟩, 12), (⟨"LentSundays", "feesOfLiving", "()I"⟩, 12), (⟨"LentSundaysModel", "plain", "(I)V"⟩, 67)]
theorem lw_r3 : ∀ q ∈ lw_privs_3, lw_okq q := List.forall_mem_cons.mpr ⟨lw_p32, List.forall_mem_cons.mpr ⟨lw_p33, List.forall_mem_cons.mpr ⟨lw_p34, List.forall_mem_cons.mpr ⟨lw_p35, List.forall_mem_cons.mpr ⟨lw_p36, List.forall_mem_cons.mpr ⟨lw_p37, List.forall_mem_cons.mpr ⟨lw_p38, List.forall_mem_cons.mpr ⟨lw_p39, List.forall_mem_cons.mpr ⟨lw_p40, List.forall_mem_cons.mpr ⟨lw_p41, List.forall_mem_cons.mpr ⟨lw_p42, List.forall_mem_cons.mpr ⟨lw_p43, List.forall_mem_cons.mpr ⟨lw_p44, List.forall_mem_cons.mpr ⟨lw_p45, List.forall_mem_cons.mpr ⟨lw_p46, List.forall_mem_cons.mpr ⟨lw_p47, fun _ h => absurd h List.not_mem_nil⟩⟩⟩⟩⟩⟩⟩⟩⟩⟩⟩⟩⟩⟩⟩⟩
theorem lw_p48 : lw_okq (⟨"LentSundaysModel", "begins", "()V"⟩, 67) := ⟨⟨by decide +kernel, by decide +kernel⟩, List.mem_of_getElem? (i := 1085) (by decide +kernel), List.mem_of_getElem? (i := 1102) (by decide +kernel), List.mem_of_getElem? (i := 1103) (by decide +kernel)⟩
theorem lw_p49 : lw_okq (⟨"LentSundaysModel", "keepsRow", "()V"⟩, 67) := ⟨⟨by decide +kernel, by decide +kernel⟩, List.mem_of_getElem? (i := 1085) (by decide +kernel), List.mem_of_getElem? (i := 1106) (by decide +kernel), List.mem_of_getElem? (i := 1107) (by decide +kernel)⟩
theorem lw_p50 : lw_okq (⟨"LentSundaysModel", "put", "(I)V"⟩, 67) := ⟨⟨by decide +kernel, by decide +kernel⟩, List.mem_of_getElem? (i := 1085) (by decide +kernel), List.mem_of_getElem? (i := 1315) (by decide +kernel), List.mem_of_getElem? (i := 1316) (by decide +kernel)⟩
theorem lw_p51 : lw_okq (⟨"LentSundaysModel", "cut", "()V"⟩, 67) := ⟨⟨by decide +kernel, by decide +kernel⟩, List.mem_of_getElem? (i := 1085) (by decide +kernel), List.mem_of_getElem? (i := 1327) (by decide +kernel), List.mem_of_getElem? (i := 1328) (by decide +kernel)⟩
theorem lw_p52 : lw_okq (⟨"LentSundaysModel", "byteAt", "(I)I"⟩, 67) := ⟨⟨by decide +kernel, by decide +kernel⟩, List.mem_of_getElem? (i := 1085) (by decide +kernel), List.mem_of_getElem? (i := 1331) (by decide +kernel), List.mem_of_getElem? (i := 1332) (by decide +kernel)⟩
theorem lw_p53 : lw_okq (⟨"LentSundaysModel", "token", "(IIIJ)V"⟩, 67) := ⟨⟨by decide +kernel, by decide +kernel⟩, List.mem_of_getElem? (i := 1085) (by decide +kernel), List.mem_of_getElem? (i := 1335) (by decide +kernel), List.mem_of_getElem? (i := 1336) (by decide +kernel)⟩
theorem lw_p54 : lw_okq (⟨"LentSundaysModel", "sign", "(III)I"⟩, 67) := ⟨⟨by decide +kernel, by decide +kernel⟩, List.mem_of_getElem? (i := 1085) (by decide +kernel), List.mem_of_getElem? (i := 1345) (by decide +kernel), List.mem_of_getElem? (i := 1346) (by decide +kernel)⟩
theorem lw_p55 : lw_okq (⟨"LentSundaysModel", "is", "(I)Z"⟩, 67) := ⟨⟨by decide +kernel, by decide +kernel⟩, List.mem_of_getElem? (i := 1085) (by decide +kernel), List.mem_of_getElem? (i := 1349) (by decide +kernel), List.mem_of_getElem? (i := 1350) (by decide +kernel)⟩
theorem lw_p56 : lw_okq (⟨"LentSundaysModel", "tellOne", "()V"⟩, 67) := ⟨⟨by decide +kernel, by decide +kernel⟩, List.mem_of_getElem? (i := 1085) (by decide +kernel), List.mem_of_getElem? (i := 1353) (by decide +kernel), List.mem_of_getElem? (i := 1354) (by decide +kernel)⟩
theorem lw_p57 : lw_okq (⟨"LentSundaysModel", "roomFor", "(II)V"⟩, 67) := ⟨⟨by decide +kernel, by decide +kernel⟩, List.mem_of_getElem? (i := 1085) (by decide +kernel), List.mem_of_getElem? (i := 1357) (by decide +kernel), List.mem_of_getElem? (i := 1358) (by decide +kernel)⟩
theorem lw_p58 : lw_okq (⟨"LentSundaysModel", "fail", "(I)V"⟩, 67) := ⟨⟨by decide +kernel, by decide +kernel⟩, List.mem_of_getElem? (i := 1085) (by decide +kernel), List.mem_of_getElem? (i := 1361) (by decide +kernel), List.mem_of_getElem? (i := 1362) (by decide +kernel)⟩
theorem lw_p59 : lw_okq (⟨"LentSundaysModel", "goesOn", "()V"⟩, 67) := ⟨⟨by decide +kernel, by decide +kernel⟩, List.mem_of_getElem? (i := 1085) (by decide +kernel), List.mem_of_getElem? (i := 1365) (by decide +kernel), List.mem_of_getElem? (i := 1366) (by decide +kernel)⟩
theorem lw_p60 : lw_okq (⟨"LentSundaysModel", "named", "()I"⟩, 67) := ⟨⟨by decide +kernel, by decide +kernel⟩, List.mem_of_getElem? (i := 1085) (by decide +kernel), List.mem_of_getElem? (i := 1369) (by decide +kernel), List.mem_of_getElem? (i := 1370) (by decide +kernel)⟩
theorem lw_p61 : lw_okq (⟨"LentSundaysModel", "must", "(I)V"⟩, 67) := ⟨⟨by decide +kernel, by decide +kernel⟩, List.mem_of_getElem? (i := 1085) (by decide +kernel), List.mem_of_getElem? (i := 1373) (by decide +kernel), List.mem_of_getElem? (i := 1374) (by decide +kernel)⟩
theorem lw_p62 : lw_okq (⟨"LentSundaysModel", "wrong", "(II)V"⟩, 67) := ⟨⟨by decide +kernel, by decide +kernel⟩, List.mem_of_getElem? (i := 1085) (by decide +kernel), List.mem_of_getElem? (i := 1377) (by decide +kernel), List.mem_of_getElem? (i := 1378) (by decide +kernel)⟩
theorem lw_p63 : lw_okq (⟨"LentSundaysModel", "bounded", "(II)I"⟩, 67) := ⟨⟨by decide +kernel, by decide +kernel⟩, List.mem_of_getElem? (i := 1085) (by decide +kernel), List.mem_of_getElem? (i := 1381) (by decide +kernel), List.mem_of_getElem? (i := 1382) (by decide +kernel)⟩
def lw_privs_4 : List (MethodName × Nat) := [(⟨"LentSundaysModel", "begins", "()V"⟩, 67), (⟨"LentSundaysModel", "keepsRow", "()V"⟩, 67), (⟨"LentSundaysModel", "put", "(I)V"⟩, 67), (⟨"LentSundaysModel", "cut", "()V"⟩, 67), (⟨"LentSundaysModel", "byteAt", "(I)I"⟩, 67), (⟨"LentSundaysModel", "token", "(IIIJ)V"⟩, 67), (⟨"LentSundaysModel", "sign", "(III)I"⟩, 67), (⟨"LentSundaysModel", "is", "(I)Z"⟩, 67), (⟨"LentSundaysModel", "tellOne", "()V"⟩, 67), (⟨"LentSundaysModel", "roomFor", "(II)V"⟩, 67), (⟨"LentSundaysModel", "fail", "(I)V"⟩, 67), (⟨"LentSundaysModel", "goesOn", "()V"⟩, 67), (⟨"LentSundaysModel", "named", "()I"⟩, 67), (⟨"LentSundaysModel", "must", "(I)V"⟩, 67), (⟨"LentSundaysModel", "wrong", "(II)V"⟩, 67), (⟨"LentSundaysModel", "bounded", "(II)I"⟩, 67)]
theorem lw_r4 : ∀ q ∈ lw_privs_4, lw_okq q := List.forall_mem_cons.mpr ⟨lw_p48, List.forall_mem_cons.mpr ⟨lw_p49, List.forall_mem_cons.mpr ⟨lw_p50, List.forall_mem_cons.mpr ⟨lw_p51, List.forall_mem_cons.mpr ⟨lw_p52, List.forall_mem_cons.mpr ⟨lw_p53, List.forall_mem_cons.mpr ⟨lw_p54, List.forall_mem_cons.mpr ⟨lw_p55, List.forall_mem_cons.mpr ⟨lw_p56, List.forall_mem_cons.mpr ⟨lw_p57, List.forall_mem_cons.mpr ⟨lw_p58, List.forall_mem_cons.mpr ⟨lw_p59, List.forall_mem_cons.mpr ⟨lw_p60, List.forall_mem_cons.mpr ⟨lw_p61, List.forall_mem_cons.mpr ⟨lw_p62, List.forall_mem_cons.mpr ⟨lw_p63, fun _ h => absurd h List.not_mem_nil⟩⟩⟩⟩⟩⟩⟩⟩⟩⟩⟩⟩⟩⟩⟩⟩
theorem lw_p64 : lw_okq (⟨"LentSundaysModel", "endsName", "(II)V"⟩, 67) := ⟨⟨by decide +kernel, by decide +kernel⟩, List.mem_of_getElem? (i := 1085) (by decide +kernel), List.mem_of_getElem? (i := 1385) (by decide +kernel), List.mem_of_getElem? (i := 1386) (by decide +kernel)⟩
theorem lw_p65 : lw_okq (⟨"LentSundaysModel", "tellFoes", "()V"⟩, 67) := ⟨⟨by decide +kernel, by decide +kernel⟩, List.mem_of_getElem? (i := 1085) (by decide +kernel), List.mem_of_getElem? (i := 1389) (by decide +kernel), List.mem_of_getElem? (i := 1390) (by decide +kernel)⟩
theorem lw_p66 : lw_okq (⟨"LentSundaysModel", "known", "()I"⟩, 67) := ⟨⟨by decide +kernel, by decide +kernel⟩, List.mem_of_getElem? (i := 1085) (by decide +kernel), List.mem_of_getElem? (i := 1393) (by decide +kernel), List.mem_of_getElem? (i := 1394) (by decide +kernel)⟩
theorem lw_p67 : lw_okq (⟨"LentSundaysModel", "toldInt", "(II)I"⟩, 67) := ⟨⟨by decide +kernel, by decide +kernel⟩, List.mem_of_getElem? (i := 1085) (by decide +kernel), List.mem_of_getElem? (i := 1397) (by decide +kernel), List.mem_of_getElem? (i := 1398) (by decide +kernel)⟩
theorem lw_p68 : lw_okq (⟨"LentSundaysModel", "tellLaw", "(I)V"⟩, 67) := ⟨⟨by decide +kernel, by decide +kernel⟩, List.mem_of_getElem? (i := 1085) (by decide +kernel), List.mem_of_getElem? (i := 1401) (by decide +kernel), List.mem_of_getElem? (i := 1402) (by decide +kernel)⟩
theorem lw_p69 : lw_okq (⟨"LentSundaysModel", "expression", "()V"⟩, 67) := ⟨⟨by decide +kernel, by decide +kernel⟩, List.mem_of_getElem? (i := 1085) (by decide +kernel), List.mem_of_getElem? (i := 1405) (by decide +kernel), List.mem_of_getElem? (i := 1406) (by decide +kernel)⟩
theorem lw_p70 : lw_okq (⟨"LentSundaysModel", "unit", "()V"⟩, 67) := ⟨⟨by decide +kernel, by decide +kernel⟩, List.mem_of_getElem? (i := 1085) (by decide +kernel), List.mem_of_getElem? (i := 1409) (by decide +kernel), List.mem_of_getElem? (i := 1410) (by decide +kernel)⟩
theorem lw_p71 : lw_okq (⟨"LentSundaysModel", "emit", "(II)V"⟩, 67) := ⟨⟨by decide +kernel, by decide +kernel⟩, List.mem_of_getElem? (i := 1085) (by decide +kernel), List.mem_of_getElem? (i := 1413) (by decide +kernel), List.mem_of_getElem? (i := 1414) (by decide +kernel)⟩
theorem lw_p72 : lw_okq (⟨"LentSundaysModel", "comesOut", "(Z)V"⟩, 67) := ⟨⟨by decide +kernel, by decide +kernel⟩, List.mem_of_getElem? (i := 1085) (by decide +kernel), List.mem_of_getElem? (i := 1417) (by decide +kernel), List.mem_of_getElem? (i := 1418) (by decide +kernel)⟩
theorem lw_p73 : lw_okq (⟨"LentSundaysModel", "term", "()V"⟩, 67) := ⟨⟨by decide +kernel, by decide +kernel⟩, List.mem_of_getElem? (i := 1085) (by decide +kernel), List.mem_of_getElem? (i := 1421) (by decide +kernel), List.mem_of_getElem? (i := 1422) (by decide +kernel)⟩
theorem lw_p74 : lw_okq (⟨"LentSundaysModel", "isSunday", "(I)Z"⟩, 67) := ⟨⟨by decide +kernel, by decide +kernel⟩, List.mem_of_getElem? (i := 1085) (by decide +kernel), List.mem_of_getElem? (i := 1433) (by decide +kernel), List.mem_of_getElem? (i := 1434) (by decide +kernel)⟩
theorem lw_p75 : lw_okq (⟨"LentSundaysModel", "copies", "()V"⟩, 67) := ⟨⟨by decide +kernel, by decide +kernel⟩, List.mem_of_getElem? (i := 1085) (by decide +kernel), List.mem_of_getElem? (i := 1440) (by decide +kernel), List.mem_of_getElem? (i := 1441) (by decide +kernel)⟩
theorem lw_p76 : lw_okq (⟨"LentSundaysModel", "guestBits", "(I)I"⟩, 67) := ⟨⟨by decide +kernel, by decide +kernel⟩, List.mem_of_getElem? (i := 1085) (by decide +kernel), List.mem_of_getElem? (i := 1444) (by decide +kernel), List.mem_of_getElem? (i := 1445) (by decide +kernel)⟩
theorem lw_p77 : lw_okq (⟨"LentSundaysModel", "wearsOf", "(I)I"⟩, 67) := ⟨⟨by decide +kernel, by decide +kernel⟩, List.mem_of_getElem? (i := 1085) (by decide +kernel), List.mem_of_getElem? (i := 1448) (by decide +kernel), List.mem_of_getElem? (i := 1449) (by decide +kernel)⟩
theorem lw_p78 : lw_okq (⟨"LentSundaysModel", "looksAll", "(I)V"⟩, 67) := ⟨⟨by decide +kernel, by decide +kernel⟩, List.mem_of_getElem? (i := 1085) (by decide +kernel), List.mem_of_getElem? (i := 1452) (by decide +kernel), List.mem_of_getElem? (i := 1453) (by decide +kernel)⟩
theorem lw_p79 : lw_okq (⟨"LentSundaysModel", "looksAt", "(I)V"⟩, 67) := ⟨⟨by decide +kernel, by decide +kernel⟩, List.mem_of_getElem? (i := 1085) (by decide +kernel), List.mem_of_getElem? (i := 1456) (by decide +kernel), List.mem_of_getElem? (i := 1457) (by decide +kernel)⟩
def lw_privs_5 : List (MethodName × Nat) := [(⟨"LentSundaysModel", "endsName", "(II)V"⟩, 67), (⟨"LentSundaysModel", "tellFoes", "()V"⟩, 67), (⟨"LentSundaysModel", "known", "()I"⟩, 67), (⟨"LentSundaysModel", "toldInt", "(II)I"⟩, 67), (⟨"LentSundaysModel", "tellLaw", "(I)V"⟩, 67), (⟨"LentSundaysModel", "expression", "()V"⟩, 67), (⟨"LentSundaysModel", "unit", "()V"⟩, 67), (⟨"LentSundaysModel", "emit", "(II)V"⟩, 67), (⟨"LentSundaysModel", "comesOut", "(Z)V"⟩, 67), (⟨"LentSundaysModel", "term", "()V"⟩, 67), (⟨"LentSundaysModel", "isSunday", "(I)Z"⟩, 67), (⟨"LentSundaysModel", "copies", "()V"⟩, 67), (⟨"LentSundaysModel", "guestBits", "(I)I"⟩, 67), (⟨"LentSundaysModel", "wearsOf", "(I)I"⟩, 67), (⟨"LentSundaysModel", "looksAll", "(I)V"⟩, 67), (⟨"LentSundaysModel", "looksAt", "(I)V"⟩, 67)]
theorem lw_r5 : ∀ q ∈ lw_privs_5, lw_okq q := List.forall_mem_cons.mpr ⟨lw_p64, List.forall_mem_cons.mpr ⟨lw_p65, List.forall_mem_cons.mpr ⟨lw_p66, List.forall_mem_cons.mpr ⟨lw_p67, List.forall_mem_cons.mpr ⟨lw_p68, List.forall_mem_cons.mpr ⟨lw_p69, List.forall_mem_cons.mpr ⟨lw_p70, List.forall_mem_cons.mpr ⟨lw_p71, List.forall_mem_cons.mpr ⟨lw_p72, List.forall_mem_cons.mpr ⟨lw_p73, List.forall_mem_cons.mpr ⟨lw_p74, List.forall_mem_cons.mpr ⟨lw_p75, List.forall_mem_cons.mpr ⟨lw_p76, List.forall_mem_cons.mpr ⟨lw_p77, List.forall_mem_cons.mpr ⟨lw_p78, List.forall_mem_cons.mpr ⟨lw_p79, fun _ h => absurd h List.not_mem_nil⟩⟩⟩⟩⟩⟩⟩⟩⟩⟩⟩⟩⟩⟩⟩⟩
theorem lw_p80 : lw_okq (⟨"LentSundaysModel", "hoursTaken", "(I)I"⟩, 67) := ⟨⟨by decide +kernel, by decide +kernel⟩, List.mem_of_getElem? (i := 1085) (by decide +kernel), List.mem_of_getElem? (i := 1460) (by decide +kernel), List.mem_of_getElem? (i := 1461) (by decide +kernel)⟩
theorem lw_p81 : lw_okq (⟨"LentSundaysModel", "lawTells", "(II)I"⟩, 67) := ⟨⟨by decide +kernel, by decide +kernel⟩, List.mem_of_getElem? (i := 1085) (by decide +kernel), List.mem_of_getElem? (i := 1467) (by decide +kernel), List.mem_of_getElem? (i := 1468) (by decide +kernel)⟩
theorem lw_p82 : lw_okq (⟨"LentSundaysModel", "termOf", "(II)I"⟩, 67) := ⟨⟨by decide +kernel, by decide +kernel⟩, List.mem_of_getElem? (i := 1085) (by decide +kernel), List.mem_of_getElem? (i := 1474) (by decide +kernel), List.mem_of_getElem? (i := 1475) (by decide +kernel)⟩
theorem lw_p83 : lw_okq (⟨"LentSundaysModel", "sellsOf", "(I)I"⟩, 67) := ⟨⟨by decide +kernel, by decide +kernel⟩, List.mem_of_getElem? (i := 1085) (by decide +kernel), List.mem_of_getElem? (i := 1478) (by decide +kernel), List.mem_of_getElem? (i := 1479) (by decide +kernel)⟩
theorem lw_p84 : lw_okq (⟨"LentSundaysModel", "isGuest", "(I)Z"⟩, 67) := ⟨⟨by decide +kernel, by decide +kernel⟩, List.mem_of_getElem? (i := 1085) (by decide +kernel), List.mem_of_getElem? (i := 1486) (by decide +kernel), List.mem_of_getElem? (i := 1487) (by decide +kernel)⟩
theorem lw_p85 : lw_okq (⟨"LentSundaysModel", "fromAt", "(I)I"⟩, 67) := ⟨⟨by decide +kernel, by decide +kernel⟩, List.mem_of_getElem? (i := 1085) (by decide +kernel), List.mem_of_getElem? (i := 1490) (by decide +kernel), List.mem_of_getElem? (i := 1491) (by decide +kernel)⟩
theorem lw_p86 : lw_okq (⟨"LentSundaysModel", "paysOf", "(I)I"⟩, 67) := ⟨⟨by decide +kernel, by decide +kernel⟩, List.mem_of_getElem? (i := 1085) (by decide +kernel), List.mem_of_getElem? (i := 1494) (by decide +kernel), List.mem_of_getElem? (i := 1495) (by decide +kernel)⟩
theorem lw_p87 : lw_okq (⟨"LentSundaysModel", "othersOf", "(I)I"⟩, 67) := ⟨⟨by decide +kernel, by decide +kernel⟩, List.mem_of_getElem? (i := 1085) (by decide +kernel), List.mem_of_getElem? (i := 1498) (by decide +kernel), List.mem_of_getElem? (i := 1499) (by decide +kernel)⟩
theorem lw_p88 : lw_okq (⟨"LentSundaysModel", "paysAt", "(III)I"⟩, 67) := ⟨⟨by decide +kernel, by decide +kernel⟩, List.mem_of_getElem? (i := 1085) (by decide +kernel), List.mem_of_getElem? (i := 1502) (by decide +kernel), List.mem_of_getElem? (i := 1503) (by decide +kernel)⟩
theorem lw_p89 : lw_okq (⟨"LentSundaysModel", "looks", "(III)V"⟩, 67) := ⟨⟨by decide +kernel, by decide +kernel⟩, List.mem_of_getElem? (i := 1085) (by decide +kernel), List.mem_of_getElem? (i := 1506) (by decide +kernel), List.mem_of_getElem? (i := 1507) (by decide +kernel)⟩
theorem lw_p90 : lw_okq (⟨"LentSundaysModel", "restsOf", "(I)I"⟩, 67) := ⟨⟨by decide +kernel, by decide +kernel⟩, List.mem_of_getElem? (i := 1085) (by decide +kernel), List.mem_of_getElem? (i := 1510) (by decide +kernel), List.mem_of_getElem? (i := 1511) (by decide +kernel)⟩
theorem lw_p91 : lw_okq (⟨"LentSundaysModel", "restsAt", "(III)I"⟩, 67) := ⟨⟨by decide +kernel, by decide +kernel⟩, List.mem_of_getElem? (i := 1085) (by decide +kernel), List.mem_of_getElem? (i := 1514) (by decide +kernel), List.mem_of_getElem? (i := 1515) (by decide +kernel)⟩
theorem lw_p92 : lw_okq (⟨"LentSundaysModel", "whoIsAt", "(II)I"⟩, 67) := ⟨⟨by decide +kernel, by decide +kernel⟩, List.mem_of_getElem? (i := 1085) (by decide +kernel), List.mem_of_getElem? (i := 1522) (by decide +kernel), List.mem_of_getElem? (i := 1523) (by decide +kernel)⟩
theorem lw_p93 : lw_okq (⟨"LentSundaysModel", "tillAt", "(I)I"⟩, 67) := ⟨⟨by decide +kernel, by decide +kernel⟩, List.mem_of_getElem? (i := 1085) (by decide +kernel), List.mem_of_getElem? (i := 1526) (by decide +kernel), List.mem_of_getElem? (i := 1527) (by decide +kernel)⟩
theorem lw_p94 : lw_okq (⟨"LentSundaysModel", "mayGoIn", "(II)Z"⟩, 67) := ⟨⟨by decide +kernel, by decide +kernel⟩, List.mem_of_getElem? (i := 1085) (by decide +kernel), List.mem_of_getElem? (i := 1534) (by decide +kernel), List.mem_of_getElem? (i := 1535) (by decide +kernel)⟩
theorem lw_p95 : lw_okq (⟨"LentSundaysModel", "doesFit", "(II)Z"⟩, 67) := ⟨⟨by decide +kernel, by decide +kernel⟩, List.mem_of_getElem? (i := 1085) (by decide +kernel), List.mem_of_getElem? (i := 1538) (by decide +kernel), List.mem_of_getElem? (i := 1539) (by decide +kernel)⟩
def lw_privs_6 : List (MethodName × Nat) := [(⟨"LentSundaysModel", "hoursTaken", "(I)I"⟩, 67), (⟨"LentSundaysModel", "lawTells", "(II)I"⟩, 67), (⟨"LentSundaysModel", "termOf", "(II)I"⟩, 67), (⟨"LentSundaysModel", "sellsOf", "(I)I"⟩, 67), (⟨"LentSundaysModel", "isGuest", "(I)Z"⟩, 67), (⟨"LentSundaysModel", "fromAt", "(I)I"⟩, 67), (⟨"LentSundaysModel", "paysOf", "(I)I"⟩, 67), (⟨"LentSundaysModel", "othersOf", "(I)I"⟩, 67), (⟨"LentSundaysModel", "paysAt", "(III)I"⟩, 67), (⟨"LentSundaysModel", "looks", "(III)V"⟩, 67), (⟨"LentSundaysModel", "restsOf", "(I)I"⟩, 67), (⟨"LentSundaysModel", "restsAt", "(III)I"⟩, 67), (⟨"LentSundaysModel", "whoIsAt", "(II)I"⟩, 67), (⟨"LentSundaysModel", "tillAt", "(I)I"⟩, 67), (⟨"LentSundaysModel", "mayGoIn", "(II)Z"⟩, 67), (⟨"LentSundaysModel", "doesFit", "(II)Z"⟩, 67)]
theorem lw_r6 : ∀ q ∈ lw_privs_6, lw_okq q := List.forall_mem_cons.mpr ⟨lw_p80, List.forall_mem_cons.mpr ⟨lw_p81, List.forall_mem_cons.mpr ⟨lw_p82, List.forall_mem_cons.mpr ⟨lw_p83, List.forall_mem_cons.mpr ⟨lw_p84, List.forall_mem_cons.mpr ⟨lw_p85, List.forall_mem_cons.mpr ⟨lw_p86, List.forall_mem_cons.mpr ⟨lw_p87, List.forall_mem_cons.mpr ⟨lw_p88, List.forall_mem_cons.mpr ⟨lw_p89, List.forall_mem_cons.mpr ⟨lw_p90, List.forall_mem_cons.mpr ⟨lw_p91, List.forall_mem_cons.mpr ⟨lw_p92, List.forall_mem_cons.mpr ⟨lw_p93, List.forall_mem_cons.mpr ⟨lw_p94, List.forall_mem_cons.mpr ⟨lw_p95, fun _ h => absurd h List.not_mem_nil⟩⟩⟩⟩⟩⟩⟩⟩⟩⟩⟩⟩⟩⟩⟩⟩
theorem lw_p96 : lw_okq (⟨"LentSundaysModel", "clashBits", "(I)I"⟩, 67) := ⟨⟨by decide +kernel, by decide +kernel⟩, List.mem_of_getElem? (i := 1085) (by decide +kernel), List.mem_of_getElem? (i := 1542) (by decide +kernel), List.mem_of_getElem? (i := 1543) (by decide +kernel)⟩
theorem lw_p97 : lw_okq (⟨"LentSundaysModel", "doClash", "(II)Z"⟩, 67) := ⟨⟨by decide +kernel, by decide +kernel⟩, List.mem_of_getElem? (i := 1085) (by decide +kernel), List.mem_of_getElem? (i := 1546) (by decide +kernel), List.mem_of_getElem? (i := 1547) (by decide +kernel)⟩
theorem lw_p98 : lw_okq (⟨"LentSundaysModel", "records", "()V"⟩, 67) := ⟨⟨by decide +kernel, by decide +kernel⟩, List.mem_of_getElem? (i := 1085) (by decide +kernel), List.mem_of_getElem? (i := 1550) (by decide +kernel), List.mem_of_getElem? (i := 1551) (by decide +kernel)⟩
theorem lw_p99 : lw_okq (⟨"LentSundaysModel", "goes", "(I)V"⟩, 67) := ⟨⟨by decide +kernel, by decide +kernel⟩, List.mem_of_getElem? (i := 1085) (by decide +kernel), List.mem_of_getElem? (i := 1573) (by decide +kernel), List.mem_of_getElem? (i := 1574) (by decide +kernel)⟩
theorem lw_p100 : lw_okq (⟨"LentSundaysModel", "weekGoes", "()V"⟩, 67) := ⟨⟨by decide +kernel, by decide +kernel⟩, List.mem_of_getElem? (i := 1085) (by decide +kernel), List.mem_of_getElem? (i := 1577) (by decide +kernel), List.mem_of_getElem? (i := 1578) (by decide +kernel)⟩
theorem lw_p101 : lw_okq (⟨"LentSundaysModel", "dueAll", "()I"⟩, 67) := ⟨⟨by decide +kernel, by decide +kernel⟩, List.mem_of_getElem? (i := 1085) (by decide +kernel), List.mem_of_getElem? (i := 1581) (by decide +kernel), List.mem_of_getElem? (i := 1582) (by decide +kernel)⟩
theorem lw_p102 : lw_okq (⟨"LentSundaysModel", "restsIn", "(I)V"⟩, 67) := ⟨⟨by decide +kernel, by decide +kernel⟩, List.mem_of_getElem? (i := 1085) (by decide +kernel), List.mem_of_getElem? (i := 1585) (by decide +kernel), List.mem_of_getElem? (i := 1586) (by decide +kernel)⟩
theorem lw_p103 : lw_okq (⟨"LentSundaysModel", "mayDie", "(I)V"⟩, 67) := ⟨⟨by decide +kernel, by decide +kernel⟩, List.mem_of_getElem? (i := 1085) (by decide +kernel), List.mem_of_getElem? (i := 1589) (by decide +kernel), List.mem_of_getElem? (i := 1590) (by decide +kernel)⟩
theorem lw_p104 : lw_okq (⟨"LentSundaysModel", "lotOf", "(I)I"⟩, 67) := ⟨⟨by decide +kernel, by decide +kernel⟩, List.mem_of_getElem? (i := 1085) (by decide +kernel), List.mem_of_getElem? (i := 1593) (by decide +kernel), List.mem_of_getElem? (i := 1594) (by decide +kernel)⟩
theorem lw_p105 : lw_okq (⟨"LentSundaysModel", "fillsValues", "()V"⟩, 67) := ⟨⟨by decide +kernel, by decide +kernel⟩, List.mem_of_getElem? (i := 1085) (by decide +kernel), List.mem_of_getElem? (i := 1609) (by decide +kernel), List.mem_of_getElem? (i := 1610) (by decide +kernel)⟩
theorem lw_p106 : lw_okq (⟨"LentSundaysModel", "valueAt", "(II)I"⟩, 67) := ⟨⟨by decide +kernel, by decide +kernel⟩, List.mem_of_getElem? (i := 1085) (by decide +kernel), List.mem_of_getElem? (i := 1613) (by decide +kernel), List.mem_of_getElem? (i := 1614) (by decide +kernel)⟩
theorem lw_p107 : lw_okq (⟨"LentSundaysModel", "fillsBest", "()V"⟩, 67) := ⟨⟨by decide +kernel, by decide +kernel⟩, List.mem_of_getElem? (i := 1085) (by decide +kernel), List.mem_of_getElem? (i := 1624) (by decide +kernel), List.mem_of_getElem? (i := 1625) (by decide +kernel)⟩
theorem lw_p108 : lw_okq (⟨"LentSundaysModel", "canBe", "(III)Z"⟩, 67) := ⟨⟨by decide +kernel, by decide +kernel⟩, List.mem_of_getElem? (i := 1085) (by decide +kernel), List.mem_of_getElem? (i := 1628) (by decide +kernel), List.mem_of_getElem? (i := 1629) (by decide +kernel)⟩
theorem lw_p109 : lw_okq (⟨"LentSundaysModel", "bestWith", "(III)I"⟩, 67) := ⟨⟨by decide +kernel, by decide +kernel⟩, List.mem_of_getElem? (i := 1085) (by decide +kernel), List.mem_of_getElem? (i := 1635) (by decide +kernel), List.mem_of_getElem? (i := 1636) (by decide +kernel)⟩
theorem lw_p110 : lw_okq (⟨"LentSundaysModel", "livingBits", "()I"⟩, 67) := ⟨⟨by decide +kernel, by decide +kernel⟩, List.mem_of_getElem? (i := 1085) (by decide +kernel), List.mem_of_getElem? (i := 1639) (by decide +kernel), List.mem_of_getElem? (i := 1640) (by decide +kernel)⟩
theorem lw_p111 : lw_okq (⟨"LentSundaysModel", "leastFor", "(II)I"⟩, 67) := ⟨⟨by decide +kernel, by decide +kernel⟩, List.mem_of_getElem? (i := 1085) (by decide +kernel), List.mem_of_getElem? (i := 1643) (by decide +kernel), List.mem_of_getElem? (i := 1644) (by decide +kernel)⟩
def lw_privs_7 : List (MethodName × Nat) := [(⟨"LentSundaysModel", "clashBits", "(I)I"⟩, 67), (⟨"LentSundaysModel", "doClash", "(II)Z"⟩, 67), (⟨"LentSundaysModel", "records", "()V"⟩, 67), (⟨"LentSundaysModel", "goes", "(I)V"⟩, 67), (⟨"LentSundaysModel", "weekGoes", "()V"⟩, 67), (⟨"LentSundaysModel", "dueAll", "()I"⟩, 67), (⟨"LentSundaysModel", "restsIn", "(I)V"⟩, 67), (⟨"LentSundaysModel", "mayDie", "(I)V"⟩, 67), (⟨"LentSundaysModel", "lotOf", "(I)I"⟩, 67), (⟨"LentSundaysModel", "fillsValues", "()V"⟩, 67), (⟨"LentSundaysModel", "valueAt", "(II)I"⟩, 67), (⟨"LentSundaysModel", "fillsBest", "()V"⟩, 67), (⟨"LentSundaysModel", "canBe", "(III)Z"⟩, 67), (⟨"LentSundaysModel", "bestWith", "(III)I"⟩, 67), (⟨"LentSundaysModel", "livingBits", "()I"⟩, 67), (⟨"LentSundaysModel", "leastFor", "(II)I"⟩, 67)]
theorem lw_r7 : ∀ q ∈ lw_privs_7, lw_okq q := List.forall_mem_cons.mpr ⟨lw_p96, List.forall_mem_cons.mpr ⟨lw_p97, List.forall_mem_cons.mpr ⟨lw_p98, List.forall_mem_cons.mpr ⟨lw_p99, List.forall_mem_cons.mpr ⟨lw_p100, List.forall_mem_cons.mpr ⟨lw_p101, List.forall_mem_cons.mpr ⟨lw_p102, List.forall_mem_cons.mpr ⟨lw_p103, List.forall_mem_cons.mpr ⟨lw_p104, List.forall_mem_cons.mpr ⟨lw_p105, List.forall_mem_cons.mpr ⟨lw_p106, List.forall_mem_cons.mpr ⟨lw_p107, List.forall_mem_cons.mpr ⟨lw_p108, List.forall_mem_cons.mpr ⟨lw_p109, List.forall_mem_cons.mpr ⟨lw_p110, List.forall_mem_cons.mpr ⟨lw_p111, fun _ h => absurd h List.not_mem_nil⟩⟩⟩⟩⟩⟩⟩⟩⟩⟩⟩⟩⟩⟩⟩⟩
theorem lw_p112 : lw_okq (⟨"LentSundaysModel", "areAllIn", "(II)Z"⟩, 67) := ⟨⟨by decide +kernel, by decide +kernel⟩, List.mem_of_getElem? (i := 1085) (by decide +kernel), List.mem_of_getElem? (i := 1651) (by decide +kernel), List.mem_of_getElem? (i := 1652) (by decide +kernel)⟩
theorem lw_p113 : lw_okq (⟨"LentSundaysModel", "isCalm", "(I)Z"⟩, 67) := ⟨⟨by decide +kernel, by decide +kernel⟩, List.mem_of_getElem? (i := 1085) (by decide +kernel), List.mem_of_getElem? (i := 1659) (by decide +kernel), List.mem_of_getElem? (i := 1660) (by decide +kernel)⟩
theorem lw_p114 : lw_okq (⟨"LentSundaysModel", "isTangle", "(I)Z"⟩, 67) := ⟨⟨by decide +kernel, by decide +kernel⟩, List.mem_of_getElem? (i := 1085) (by decide +kernel), List.mem_of_getElem? (i := 1667) (by decide +kernel), List.mem_of_getElem? (i := 1668) (by decide +kernel)⟩
theorem lw_p115 : lw_okq (⟨"LentSundaysModel", "fitBits", "(I)I"⟩, 67) := ⟨⟨by decide +kernel, by decide +kernel⟩, List.mem_of_getElem? (i := 1085) (by decide +kernel), List.mem_of_getElem? (i := 1679) (by decide +kernel), List.mem_of_getElem? (i := 1680) (by decide +kernel)⟩
theorem lw_p116 : lw_okq (⟨"LentSundaysModel", "copiesStill", "()V"⟩, 67) := ⟨⟨by decide +kernel, by decide +kernel⟩, List.mem_of_getElem? (i := 1085) (by decide +kernel), List.mem_of_getElem? (i := 1711) (by decide +kernel), List.mem_of_getElem? (i := 1712) (by decide +kernel)⟩
theorem lw_p117 : lw_okq (⟨"LentSundaysModel", "isWeary", "(I)Z"⟩, 67) := ⟨⟨by decide +kernel, by decide +kernel⟩, List.mem_of_getElem? (i := 1085) (by decide +kernel), List.mem_of_getElem? (i := 1719) (by decide +kernel), List.mem_of_getElem? (i := 1720) (by decide +kernel)⟩
theorem lw_p118 : lw_okq (⟨"LentSundaysModel", "isForSale", "(I)Z"⟩, 67) := ⟨⟨by decide +kernel, by decide +kernel⟩, List.mem_of_getElem? (i := 1085) (by decide +kernel), List.mem_of_getElem? (i := 1731) (by decide +kernel), List.mem_of_getElem? (i := 1732) (by decide +kernel)⟩
theorem lw_p119 : lw_okq (⟨"LentSundaysModel", "whoseBits", "(I)I"⟩, 67) := ⟨⟨by decide +kernel, by decide +kernel⟩, List.mem_of_getElem? (i := 1085) (by decide +kernel), List.mem_of_getElem? (i := 1767) (by decide +kernel), List.mem_of_getElem? (i := 1768) (by decide +kernel)⟩
theorem lw_p120 : lw_okq (⟨"LentSundaysModel", "isThere", "(II)Z"⟩, 67) := ⟨⟨by decide +kernel, by decide +kernel⟩, List.mem_of_getElem? (i := 1085) (by decide +kernel), List.mem_of_getElem? (i := 1771) (by decide +kernel), List.mem_of_getElem? (i := 1772) (by decide +kernel)⟩
theorem lw_p121 : lw_okq (⟨"LentSundaysModel", "sumNow", "(II)I"⟩, 67) := ⟨⟨by decide +kernel, by decide +kernel⟩, List.mem_of_getElem? (i := 1085) (by decide +kernel), List.mem_of_getElem? (i := 1791) (by decide +kernel), List.mem_of_getElem? (i := 1792) (by decide +kernel)⟩
def lw_privs_8 : List (MethodName × Nat) := [(⟨"LentSundaysModel", "areAllIn", "(II)Z"⟩, 67), (⟨"LentSundaysModel", "isCalm", "(I)Z"⟩, 67), (⟨"LentSundaysModel", "isTangle", "(I)Z"⟩, 67), (⟨"LentSundaysModel", "fitBits", "(I)I"⟩, 67), (⟨"LentSundaysModel", "copiesStill", "()V"⟩, 67), (⟨"LentSundaysModel", "isWeary", "(I)Z"⟩, 67), (⟨"LentSundaysModel", "isForSale", "(I)Z"⟩, 67), (⟨"LentSundaysModel", "whoseBits", "(I)I"⟩, 67), (⟨"LentSundaysModel", "isThere", "(II)Z"⟩, 67), (⟨"LentSundaysModel", "sumNow", "(II)I"⟩, 67)]
theorem lw_r8 : ∀ q ∈ lw_privs_8, lw_okq q := List.forall_mem_cons.mpr ⟨lw_p112, List.forall_mem_cons.mpr ⟨lw_p113, List.forall_mem_cons.mpr ⟨lw_p114, List.forall_mem_cons.mpr ⟨lw_p115, List.forall_mem_cons.mpr ⟨lw_p116, List.forall_mem_cons.mpr ⟨lw_p117, List.forall_mem_cons.mpr ⟨lw_p118, List.forall_mem_cons.mpr ⟨lw_p119, List.forall_mem_cons.mpr ⟨lw_p120, List.forall_mem_cons.mpr ⟨lw_p121, fun _ h => absurd h List.not_mem_nil⟩⟩⟩⟩⟩⟩⟩⟩⟩⟩
def lw_privs : List (MethodName × Nat) := lw_privs_1 ++ (lw_privs_2 ++ (lw_privs_3 ++ (lw_privs_4 ++ (lw_privs_5 ++ (lw_privs_6 ++ (lw_privs_7 ++ (lw_privs_8)))))))
def lw_tbl : List Cond := k2_sels lw_privs ++ tables_1
theorem lw_privs_ok : ∀ q ∈ lw_privs, lw_okq q := by
  show ∀ q ∈ lw_privs_1 ++ (lw_privs_2 ++ (lw_privs_3 ++ (lw_privs_4 ++ (lw_privs_5 ++ (lw_privs_6 ++ (lw_privs_7 ++ (lw_privs_8))))))), lw_okq q
  exact List.forall_mem_append.mpr ⟨lw_r1, List.forall_mem_append.mpr ⟨lw_r2, List.forall_mem_append.mpr ⟨lw_r3, List.forall_mem_append.mpr ⟨lw_r4, List.forall_mem_append.mpr ⟨lw_r5, List.forall_mem_append.mpr ⟨lw_r6, List.forall_mem_append.mpr ⟨lw_r7, lw_r8⟩⟩⟩⟩⟩⟩⟩

/-! ===== BEGIN printed: names, fields, word lists, decode rows ===== -/
def RX0 : String := "LentSundays$Clues"
def TX0 : u_T := fun k => match k with
  | 0 => ("LentSundays$Clues", "many", "I", false)
  | 1 => ("LentSundays$Clues", "hours", "[I", true)
  | _ => ("LentSundays$Clues", "there", "[Z", true)
def tyX0 : Nat → FieldType := fun k => match k with
  | 0 => .int
  | 1 => .array .int
  | _ => .array .boolean
abbrev wsX00 : List Cond := u_ws RX0 TX0 3
theorem nmX0 : ∀ a, a < 3 → ∀ b, b < 3 → a ≠ b → (TX0 a).2.1 ≠ (TX0 b).2.1 := by decide +kernel
theorem tyX0_ok : ∀ k, k < 3 → parseFieldDescriptor (TX0 k).2.2.1 = some (tyX0 k) := by decide +kernel
abbrev cX0_init : ByteArray := prog_2_method_1_code
def yX0_init : MethodName := ⟨RX0, "<init>", "()V"⟩
abbrev cX0_add : ByteArray := prog_2_method_2_code
def yX0_add : MethodName := ⟨RX0, "add", "(IZ)I"⟩
abbrev cX0_guestsLeft : ByteArray := prog_2_method_3_code
def yX0_guestsLeft : MethodName := ⟨RX0, "guestsLeft", "(LLentSundays$Text;I)I"⟩
abbrev cX0_agrees : ByteArray := prog_2_method_4_code
def yX0_agrees : MethodName := ⟨RX0, "agrees", "(LLentSundays$Text;II)Z"⟩
abbrev cX0_hourToLook : ByteArray := prog_2_method_5_code
def yX0_hourToLook : MethodName := ⟨RX0, "hourToLook", "(LLentSundays$Text;I)I"⟩
abbrev cX0_seenAt : ByteArray := prog_2_method_6_code
def yX0_seenAt : MethodName := ⟨RX0, "seenAt", "(LLentSundays$Text;II)I"⟩
def RX1 : String := "LentSundays$House"
def TX1 : u_T := fun k => match k with
  | 0 => ("LentSundays$House", "vars", "[I", true)
  | _ => ("LentSundays$House", "stack", "[I", true)
def tyX1 : Nat → FieldType := fun k => match k with
  | 0 => .array .int
  | _ => .array .int
abbrev wsX10 : List Cond := u_ws RX1 TX1 2
theorem nmX1 : ∀ a, a < 2 → ∀ b, b < 2 → a ≠ b → (TX1 a).2.1 ≠ (TX1 b).2.1 := by decide +kernel
theorem tyX1_ok : ∀ k, k < 2 → parseFieldDescriptor (TX1 k).2.2.1 = some (tyX1 k) := by decide +kernel
abbrev cX1_init : ByteArray := prog_3_method_1_code
def yX1_init : MethodName := ⟨RX1, "<init>", "()V"⟩
abbrev cX1_ofGuestNow : ByteArray := prog_3_method_2_code
def yX1_ofGuestNow : MethodName := ⟨RX1, "ofGuestNow", "(ILLentSundays$Text;LLentSundays$State;I)I"⟩
abbrev cX1_ofGuest : ByteArray := prog_3_method_3_code
def yX1_ofGuest : MethodName := ⟨RX1, "ofGuest", "(ILLentSundays$Text;LLentSundays$State;III)I"⟩
abbrev cX1_ofSunday : ByteArray := prog_3_method_4_code
def yX1_ofSunday : MethodName := ⟨RX1, "ofSunday", "(ILLentSundays$Text;LLentSundays$State;I)I"⟩
abbrev cX1_setSunday : ByteArray := prog_3_method_5_code
def yX1_setSunday : MethodName := ⟨RX1, "setSunday", "(LLentSundays$Text;LLentSundays$State;I)V"⟩
abbrev cX1_answerHeld : ByteArray := prog_3_method_6_code
def yX1_answerHeld : MethodName := ⟨RX1, "answerHeld", "(LLentSundays$Laws;I)I"⟩
abbrev cX1_passWeek : ByteArray := prog_3_method_7_code
def yX1_passWeek : MethodName := ⟨RX1, "passWeek", "(LLentSundays$Text;LLentSundays$State;)V"⟩
abbrev cX1_passDeadlyWeeks : ByteArray := prog_3_method_8_code
def yX1_passDeadlyWeeks : MethodName := ⟨RX1, "passDeadlyWeeks", "(LLentSundays$Text;LLentSundays$State;II)V"⟩
abbrev cX1_payAndRest : ByteArray := prog_3_method_9_code
def yX1_payAndRest : MethodName := ⟨RX1, "payAndRest", "(LLentSundays$Text;LLentSundays$State;)V"⟩
abbrev cX1_wear : ByteArray := prog_3_method_10_code
def yX1_wear : MethodName := ⟨RX1, "wear", "(LLentSundays$Text;LLentSundays$State;)V"⟩
abbrev cX1_bury : ByteArray := prog_3_method_11_code
def yX1_bury : MethodName := ⟨RX1, "bury", "(LLentSundays$Text;LLentSundays$State;I)V"⟩
abbrev cX1_lot : ByteArray := prog_3_method_12_code
def yX1_lot : MethodName := ⟨RX1, "lot", "(II)I"⟩
abbrev cX1_stir : ByteArray := prog_3_method_13_code
def yX1_stir : MethodName := ⟨RX1, "stir", "(II)I"⟩
def RX2 : String := "LentSundays$Laws"
def TX2 : u_T := fun k => match k with
  | 0 => ("LentSundays$Laws", "steps", "[I", true)
  | 1 => ("LentSundays$Laws", "values", "[I", true)
  | 2 => ("LentSundays$Laws", "starts", "[I", true)
  | _ => ("LentSundays$Laws", "many", "I", false)
def tyX2 : Nat → FieldType := fun k => match k with
  | 0 => .array .int
  | 1 => .array .int
  | 2 => .array .int
  | _ => .int
abbrev wsX20 : List Cond := u_ws RX2 TX2 4
theorem nmX2 : ∀ a, a < 4 → ∀ b, b < 4 → a ≠ b → (TX2 a).2.1 ≠ (TX2 b).2.1 := by decide +kernel
theorem tyX2_ok : ∀ k, k < 4 → parseFieldDescriptor (TX2 k).2.2.1 = some (tyX2 k) := by decide +kernel
abbrev cX2_init : ByteArray := prog_4_method_1_code
def yX2_init : MethodName := ⟨RX2, "<init>", "()V"⟩
abbrev cX2_begin : ByteArray := prog_4_method_2_code
def yX2_begin : MethodName := ⟨RX2, "begin", "()V"⟩
abbrev cX2_addShortLaw : ByteArray := prog_4_method_3_code
def yX2_addShortLaw : MethodName := ⟨RX2, "addShortLaw", "(III)V"⟩
abbrev cX2_startLaw : ByteArray := prog_4_method_4_code
def yX2_startLaw : MethodName := ⟨RX2, "startLaw", "(I)V"⟩
abbrev cX2_add : ByteArray := prog_4_method_5_code
def yX2_add : MethodName := ⟨RX2, "add", "(II)I"⟩
abbrev cX2_aimBehind : ByteArray := prog_4_method_6_code
def yX2_aimBehind : MethodName := ⟨RX2, "aimBehind", "(I)V"⟩
abbrev cX2_answer : ByteArray := prog_4_method_7_code
def yX2_answer : MethodName := ⟨RX2, "answer", "(I[I[I)I"⟩
abbrev cX2_reckon : ByteArray := prog_4_method_8_code
def yX2_reckon : MethodName := ⟨RX2, "reckon", "(III)I"⟩
def RX3 : String := "LentSundays$Planner"
def TX3 : u_T := fun k => match k with
  | 0 => ("LentSundays$Planner", "values", "[[I", true)
  | 1 => ("LentSundays$Planner", "table", "[[I", true)
  | _ => ("LentSundays$Planner", "pays", "[I", true)
def tyX3 : Nat → FieldType := fun k => match k with
  | 0 => .array (.array .int)
  | 1 => .array (.array .int)
  | _ => .array .int
abbrev wsX30 : List Cond := u_ws RX3 TX3 3
theorem nmX3 : ∀ a, a < 3 → ∀ b, b < 3 → a ≠ b → (TX3 a).2.1 ≠ (TX3 b).2.1 := by decide +kernel
theorem tyX3_ok : ∀ k, k < 3 → parseFieldDescriptor (TX3 k).2.2.1 = some (tyX3 k) := by decide +kernel
abbrev cX3_init : ByteArray := prog_5_method_1_code
def yX3_init : MethodName := ⟨RX3, "<init>", "()V"⟩
abbrev cX3_valueSets : ByteArray := prog_5_method_2_code
def yX3_valueSets : MethodName := ⟨RX3, "valueSets", "(LLentSundays$House;LLentSundays$Text;LLentSundays$State;I)V"⟩
abbrev cX3_livingFit : ByteArray := prog_5_method_3_code
def yX3_livingFit : MethodName := ⟨RX3, "livingFit", "(LLentSundays$Text;LLentSundays$State;I)I"⟩
abbrev cX3_bestSet : ByteArray := prog_5_method_4_code
def yX3_bestSet : MethodName := ⟨RX3, "bestSet", "(LLentSundays$Text;I)I"⟩
abbrev cX3_letAll : ByteArray := prog_5_method_5_code
def yX3_letAll : MethodName := ⟨RX3, "letAll", "(LLentSundays$Text;)V"⟩
abbrev cX3_mostWith : ByteArray := prog_5_method_6_code
def yX3_mostWith : MethodName := ⟨RX3, "mostWith", "(II)I"⟩
abbrev cX3_setLetIn : ByteArray := prog_5_method_7_code
def yX3_setLetIn : MethodName := ⟨RX3, "setLetIn", "(LLentSundays$Text;II)I"⟩
abbrev cX3_leastPart : ByteArray := prog_5_method_8_code
def yX3_leastPart : MethodName := ⟨RX3, "leastPart", "(II)I"⟩
abbrev cX3_leastCost : ByteArray := prog_5_method_9_code
def yX3_leastCost : MethodName := ⟨RX3, "leastCost", "(LLentSundays$Text;LLentSundays$State;)I"⟩
abbrev cX3_leastWith : ByteArray := prog_5_method_10_code
def yX3_leastWith : MethodName := ⟨RX3, "leastWith", "(LLentSundays$Text;III)I"⟩
abbrev cX3_fewestColours : ByteArray := prog_5_method_11_code
def yX3_fewestColours : MethodName := ⟨RX3, "fewestColours", "(LLentSundays$Text;I)I"⟩
abbrev cX3_largestTangle : ByteArray := prog_5_method_12_code
def yX3_largestTangle : MethodName := ⟨RX3, "largestTangle", "(LLentSundays$Text;I)I"⟩
abbrev cX3_isTangle : ByteArray := prog_5_method_13_code
def yX3_isTangle : MethodName := ⟨RX3, "isTangle", "(LLentSundays$Text;I)Z"⟩
def RX4 : String := "LentSundays$Reader"
def TX4 : u_T := fun k => match k with
  | 0 => ("LentSundays$Reader", "fault", "I", false)
  | 1 => ("LentSundays$Reader", "faultPlace", "I", false)
  | 2 => ("LentSundays$Reader", "tokens", "LLentSundays$Tokens;", true)
  | 3 => ("LentSundays$Reader", "next", "I", false)
  | 4 => ("LentSundays$Reader", "lateFault", "I", false)
  | _ => ("LentSundays$Reader", "latePlace", "I", false)
def tyX4 : Nat → FieldType := fun k => match k with
  | 0 => .int
  | 1 => .int
  | 2 => .object "LentSundays$Tokens"
  | 3 => .int
  | 4 => .int
  | _ => .int
abbrev wsX40 : List Cond := u_ws RX4 TX4 6
theorem nmX4 : ∀ a, a < 6 → ∀ b, b < 6 → a ≠ b → (TX4 a).2.1 ≠ (TX4 b).2.1 := by decide +kernel
theorem tyX4_ok : ∀ k, k < 6 → parseFieldDescriptor (TX4 k).2.2.1 = some (tyX4 k) := by decide +kernel
abbrev cX4_init : ByteArray := prog_6_method_1_code
def yX4_init : MethodName := ⟨RX4, "<init>", "()V"⟩
abbrev cX4_readTape : ByteArray := prog_6_method_2_code
def yX4_readTape : MethodName := ⟨RX4, "readTape", "(LLentSundays$Tape;LLentSundays$Text;)V"⟩
abbrev cX4_kind : ByteArray := prog_6_method_3_code
def yX4_kind : MethodName := ⟨RX4, "kind", "()I"⟩
abbrev cX4_readTell : ByteArray := prog_6_method_4_code
def yX4_readTell : MethodName := ⟨RX4, "readTell", "(LLentSundays$Text;)Z"⟩
abbrev cX4_readSunday : ByteArray := prog_6_method_5_code
def yX4_readSunday : MethodName := ⟨RX4, "readSunday", "(LLentSundays$Text;)Z"⟩
abbrev cX4_readGuest : ByteArray := prog_6_method_6_code
def yX4_readGuest : MethodName := ⟨RX4, "readGuest", "(LLentSundays$Text;)Z"⟩
abbrev cX4_readFoes : ByteArray := prog_6_method_7_code
def yX4_readFoes : MethodName := ⟨RX4, "readFoes", "(LLentSundays$Text;)Z"⟩
abbrev cX4_readLaw : ByteArray := prog_6_method_8_code
def yX4_readLaw : MethodName := ⟨RX4, "readLaw", "(LLentSundays$Laws;I)Z"⟩
abbrev cX4_readSum : ByteArray := prog_6_method_9_code
def yX4_readSum : MethodName := ⟨RX4, "readSum", "(LLentSundays$Laws;I)Z"⟩
abbrev cX4_readProduct : ByteArray := prog_6_method_10_code
def yX4_readProduct : MethodName := ⟨RX4, "readProduct", "(LLentSundays$Laws;I)Z"⟩
abbrev cX4_readUnit : ByteArray := prog_6_method_11_code
def yX4_readUnit : MethodName := ⟨RX4, "readUnit", "(LLentSundays$Laws;I)Z"⟩
abbrev cX4_take : ByteArray := prog_6_method_12_code
def yX4_take : MethodName := ⟨RX4, "take", "(I)Z"⟩
abbrev cX4_takeInt : ByteArray := prog_6_method_13_code
def yX4_takeInt : MethodName := ⟨RX4, "takeInt", "(II)Z"⟩
abbrev cX4_takeNewName : ByteArray := prog_6_method_14_code
def yX4_takeNewName : MethodName := ⟨RX4, "takeNewName", "(LLentSundays$Text;)Z"⟩
abbrev cX4_intBehind : ByteArray := prog_6_method_15_code
def yX4_intBehind : MethodName := ⟨RX4, "intBehind", "(I)I"⟩
abbrev cX4_fail : ByteArray := prog_6_method_16_code
def yX4_fail : MethodName := ⟨RX4, "fail", "(I)Z"⟩
abbrev cX4_keepLate : ByteArray := prog_6_method_17_code
def yX4_keepLate : MethodName := ⟨RX4, "keepLate", "(II)V"⟩
def RX5 : String := "LentSundays$State"
def TX5 : u_T := fun k => match k with
  | 0 => ("LentSundays$State", "week", "I", false)
  | 1 => ("LentSundays$State", "money", "I", false)
  | 2 => ("LentSundays$State", "dead", "I", false)
  | 3 => ("LentSundays$State", "sold", "I", false)
  | 4 => ("LentSundays$State", "in", "[I", true)
  | 5 => ("LentSundays$State", "worn", "[I", true)
  | _ => ("LentSundays$State", "rested", "[I", true)
def tyX5 : Nat → FieldType := fun k => match k with
  | 0 => .int
  | 1 => .int
  | 2 => .int
  | 3 => .int
  | 4 => .array .int
  | 5 => .array .int
  | _ => .array .int
abbrev wsX50 : List Cond := u_ws RX5 TX5 7
theorem nmX5 : ∀ a, a < 7 → ∀ b, b < 7 → a ≠ b → (TX5 a).2.1 ≠ (TX5 b).2.1 := by decide +kernel
theorem tyX5_ok : ∀ k, k < 7 → parseFieldDescriptor (TX5 k).2.2.1 = some (tyX5 k) := by decide +kernel
abbrev cX5_init : ByteArray := prog_7_method_1_code
def yX5_init : MethodName := ⟨RX5, "<init>", "()V"⟩
abbrev cX5_begin : ByteArray := prog_7_method_2_code
def yX5_begin : MethodName := ⟨RX5, "begin", "()V"⟩
abbrev cX5_copyFrom : ByteArray := prog_7_method_3_code
def yX5_copyFrom : MethodName := ⟨RX5, "copyFrom", "(LLentSundays$State;)V"⟩
abbrev cX5_isDead : ByteArray := prog_7_method_4_code
def yX5_isDead : MethodName := ⟨RX5, "isDead", "(I)Z"⟩
abbrev cX5_isSold : ByteArray := prog_7_method_5_code
def yX5_isSold : MethodName := ⟨RX5, "isSold", "(I)Z"⟩
abbrev cX5_isIn : ByteArray := prog_7_method_6_code
def yX5_isIn : MethodName := ⟨RX5, "isIn", "(II)Z"⟩
abbrev cX5_whereIs : ByteArray := prog_7_method_7_code
def yX5_whereIs : MethodName := ⟨RX5, "whereIs", "(I)I"⟩
abbrev cX5_takeOut : ByteArray := prog_7_method_8_code
def yX5_takeOut : MethodName := ⟨RX5, "takeOut", "(I)V"⟩
abbrev cX5_allIn : ByteArray := prog_7_method_9_code
def yX5_allIn : MethodName := ⟨RX5, "allIn", "()I"⟩
abbrev cX5_alive : ByteArray := prog_7_method_10_code
def yX5_alive : MethodName := ⟨RX5, "alive", "(LLentSundays$Text;)I"⟩
def RX6 : String := "LentSundays$Tape"
def TX6 : u_T := fun k => match k with
  | 0 => ("LentSundays$Tape", "bytes", "[B", true)
  | _ => ("LentSundays$Tape", "length", "I", false)
def tyX6 : Nat → FieldType := fun k => match k with
  | 0 => .array .byte
  | _ => .int
abbrev wsX60 : List Cond := u_ws RX6 TX6 2
theorem nmX6 : ∀ a, a < 2 → ∀ b, b < 2 → a ≠ b → (TX6 a).2.1 ≠ (TX6 b).2.1 := by decide +kernel
theorem tyX6_ok : ∀ k, k < 2 → parseFieldDescriptor (TX6 k).2.2.1 = some (tyX6 k) := by decide +kernel
abbrev cX6_init : ByteArray := prog_8_method_1_code
def yX6_init : MethodName := ⟨RX6, "<init>", "()V"⟩
abbrev cX6_hasRoomFor : ByteArray := prog_8_method_2_code
def yX6_hasRoomFor : MethodName := ⟨RX6, "hasRoomFor", "(I)Z"⟩
abbrev cX6_addFour : ByteArray := prog_8_method_3_code
def yX6_addFour : MethodName := ⟨RX6, "addFour", "(I)V"⟩
def RX7 : String := "LentSundays$Text"
def TX7 : u_T := fun k => match k with
  | 0 => ("LentSundays$Text", "sundays", "I", false)
  | 1 => ("LentSundays$Text", "longs", "[I", true)
  | 2 => ("LentSundays$Text", "worths", "[I", true)
  | 3 => ("LentSundays$Text", "guests", "I", false)
  | 4 => ("LentSundays$Text", "hour", "[I", true)
  | 5 => ("LentSundays$Text", "hours", "[I", true)
  | 6 => ("LentSundays$Text", "fees", "[I", true)
  | 7 => ("LentSundays$Text", "foes", "I", false)
  | 8 => ("LentSundays$Text", "death", "I", false)
  | 9 => ("LentSundays$Text", "seed", "I", false)
  | 10 => ("LentSundays$Text", "laws", "LLentSundays$Laws;", true)
  | 11 => ("LentSundays$Text", "clashes", "[I", true)
  | 12 => ("LentSundays$Text", "spans", "[J", true)
  | 13 => ("LentSundays$Text", "peaceful", "[Z", true)
  | 14 => ("LentSundays$Text", "foesOf", "[I", true)
  | 15 => ("LentSundays$Text", "sundayNames", "[J", true)
  | _ => ("LentSundays$Text", "guestNames", "[J", true)
def tyX7 : Nat → FieldType := fun k => match k with
  | 0 => .int
  | 1 => .array .int
  | 2 => .array .int
  | 3 => .int
  | 4 => .array .int
  | 5 => .array .int
  | 6 => .array .int
  | 7 => .int
  | 8 => .int
  | 9 => .int
  | 10 => .object "LentSundays$Laws"
  | 11 => .array .int
  | 12 => .array .long
  | 13 => .array .boolean
  | 14 => .array .int
  | 15 => .array .long
  | _ => .array .long
abbrev wsX70 : List Cond := u_ws RX7 TX7 17
theorem nmX7 : ∀ a, a < 17 → ∀ b, b < 17 → a ≠ b → (TX7 a).2.1 ≠ (TX7 b).2.1 := by decide +kernel
theorem tyX7_ok : ∀ k, k < 17 → parseFieldDescriptor (TX7 k).2.2.1 = some (tyX7 k) := by decide +kernel
abbrev cX7_init : ByteArray := prog_9_method_1_code
def yX7_init : MethodName := ⟨RX7, "<init>", "()V"⟩
abbrev cX7_begin : ByteArray := prog_9_method_2_code
def yX7_begin : MethodName := ⟨RX7, "begin", "()V"⟩
abbrev cX7_addSunday : ByteArray := prog_9_method_3_code
def yX7_addSunday : MethodName := ⟨RX7, "addSunday", "(JII)V"⟩
abbrev cX7_addGuest : ByteArray := prog_9_method_4_code
def yX7_addGuest : MethodName := ⟨RX7, "addGuest", "(JIII)V"⟩
abbrev cX7_addFoes : ByteArray := prog_9_method_5_code
def yX7_addFoes : MethodName := ⟨RX7, "addFoes", "(II)V"⟩
abbrev cX7_areFoes : ByteArray := prog_9_method_6_code
def yX7_areFoes : MethodName := ⟨RX7, "areFoes", "(II)Z"⟩
abbrev cX7_isNamed : ByteArray := prog_9_method_7_code
def yX7_isNamed : MethodName := ⟨RX7, "isNamed", "(J)Z"⟩
abbrev cX7_guestNamed : ByteArray := prog_9_method_8_code
def yX7_guestNamed : MethodName := ⟨RX7, "guestNamed", "(J)I"⟩
abbrev cX7_findClashes : ByteArray := prog_9_method_9_code
def yX7_findClashes : MethodName := ⟨RX7, "findClashes", "()V"⟩
abbrev cX7_isPeaceful : ByteArray := prog_9_method_10_code
def yX7_isPeaceful : MethodName := ⟨RX7, "isPeaceful", "(I)Z"⟩
abbrev cX7_spanOf : ByteArray := prog_9_method_11_code
def yX7_spanOf : MethodName := ⟨RX7, "spanOf", "(I)J"⟩
abbrev cX7_hoursOf : ByteArray := prog_9_method_12_code
def yX7_hoursOf : MethodName := ⟨RX7, "hoursOf", "(I)I"⟩
abbrev cX7_isThere : ByteArray := prog_9_method_13_code
def yX7_isThere : MethodName := ⟨RX7, "isThere", "(II)Z"⟩
abbrev cX7_isLongEnough : ByteArray := prog_9_method_14_code
def yX7_isLongEnough : MethodName := ⟨RX7, "isLongEnough", "(II)Z"⟩
def RX8 : String := "LentSundays$Tokens"
def TX8 : u_T := fun k => match k with
  | 0 => ("LentSundays$Tokens", "kinds", "[I", true)
  | 1 => ("LentSundays$Tokens", "places", "[I", true)
  | 2 => ("LentSundays$Tokens", "values", "[J", true)
  | 3 => ("LentSundays$Tokens", "words", "[J", true)
  | _ => ("LentSundays$Tokens", "many", "I", false)
def tyX8 : Nat → FieldType := fun k => match k with
  | 0 => .array .int
  | 1 => .array .int
  | 2 => .array .long
  | 3 => .array .long
  | _ => .int
abbrev wsX80 : List Cond := u_ws RX8 TX8 5
theorem nmX8 : ∀ a, a < 5 → ∀ b, b < 5 → a ≠ b → (TX8 a).2.1 ≠ (TX8 b).2.1 := by decide +kernel
theorem tyX8_ok : ∀ k, k < 5 → parseFieldDescriptor (TX8 k).2.2.1 = some (tyX8 k) := by decide +kernel
abbrev cX8_init : ByteArray := prog_10_method_1_code
def yX8_init : MethodName := ⟨RX8, "<init>", "()V"⟩
abbrev cX8_cut : ByteArray := prog_10_method_2_code
def yX8_cut : MethodName := ⟨RX8, "cut", "(LLentSundays$Tape;)V"⟩
abbrev cX8_behindBlanks : ByteArray := prog_10_method_3_code
def yX8_behindBlanks : MethodName := ⟨RX8, "behindBlanks", "(LLentSundays$Tape;I)I"⟩
abbrev cX8_cutOne : ByteArray := prog_10_method_4_code
def yX8_cutOne : MethodName := ⟨RX8, "cutOne", "(LLentSundays$Tape;I)I"⟩
abbrev cX8_cutLetters : ByteArray := prog_10_method_5_code
def yX8_cutLetters : MethodName := ⟨RX8, "cutLetters", "(LLentSundays$Tape;I)I"⟩
abbrev cX8_cutDigits : ByteArray := prog_10_method_6_code
def yX8_cutDigits : MethodName := ⟨RX8, "cutDigits", "(LLentSundays$Tape;I)I"⟩
abbrev cX8_kindOf : ByteArray := prog_10_method_7_code
def yX8_kindOf : MethodName := ⟨RX8, "kindOf", "(J)I"⟩
abbrev cX8_add : ByteArray := prog_10_method_8_code
def yX8_add : MethodName := ⟨RX8, "add", "(IIJ)V"⟩
abbrev cX8_isBlank : ByteArray := prog_10_method_9_code
def yX8_isBlank : MethodName := ⟨RX8, "isBlank", "(B)Z"⟩
abbrev cX8_isLetter : ByteArray := prog_10_method_10_code
def yX8_isLetter : MethodName := ⟨RX8, "isLetter", "(B)Z"⟩
abbrev cX8_isDigit : ByteArray := prog_10_method_11_code
def yX8_isDigit : MethodName := ⟨RX8, "isDigit", "(B)Z"⟩
def RX9 : String := "LentSundays$Trail"
def TX9 : u_T := fun k => match k with
  | 0 => ("LentSundays$Trail", "many", "I", false)
  | 1 => ("LentSundays$Trail", "ring", "[LLentSundays$State;", true)
  | _ => ("LentSundays$Trail", "next", "I", false)
def tyX9 : Nat → FieldType := fun k => match k with
  | 0 => .int
  | 1 => .array (.object "LentSundays$State")
  | _ => .int
abbrev wsX90 : List Cond := u_ws RX9 TX9 3
theorem nmX9 : ∀ a, a < 3 → ∀ b, b < 3 → a ≠ b → (TX9 a).2.1 ≠ (TX9 b).2.1 := by decide +kernel
theorem tyX9_ok : ∀ k, k < 3 → parseFieldDescriptor (TX9 k).2.2.1 = some (tyX9 k) := by decide +kernel
abbrev cX9_init : ByteArray := prog_11_method_1_code
def yX9_init : MethodName := ⟨RX9, "<init>", "()V"⟩
abbrev cX9_keep : ByteArray := prog_11_method_2_code
def yX9_keep : MethodName := ⟨RX9, "keep", "(LLentSundays$State;)V"⟩
abbrev cX9_takeBack : ByteArray := prog_11_method_3_code
def yX9_takeBack : MethodName := ⟨RX9, "takeBack", "(LLentSundays$State;)Z"⟩
def RX10 : String := "LentSundays"
def TX10 : u_T := fun k => match k with
  | 0 => ("LentSundays", "tape", "LLentSundays$Tape;", true)
  | 1 => ("LentSundays", "reader", "LLentSundays$Reader;", true)
  | 2 => ("LentSundays", "now", "LLentSundays$State;", true)
  | 3 => ("LentSundays", "ahead", "LLentSundays$State;", true)
  | 4 => ("LentSundays", "trail", "LLentSundays$Trail;", true)
  | 5 => ("LentSundays", "slots", "[LLentSundays$State;", true)
  | 6 => ("LentSundays", "house", "LLentSundays$House;", true)
  | 7 => ("LentSundays", "planner", "LLentSundays$Planner;", true)
  | 8 => ("LentSundays", "clues", "LLentSundays$Clues;", true)
  | 9 => ("LentSundays", "text", "LLentSundays$Text;", false)
  | 10 => ("LentSundays", "spare", "LLentSundays$Text;", false)
  | _ => ("LentSundays", "heldSlots", "I", false)
def tyX10 : Nat → FieldType := fun k => match k with
  | 0 => .object "LentSundays$Tape"
  | 1 => .object "LentSundays$Reader"
  | 2 => .object "LentSundays$State"
  | 3 => .object "LentSundays$State"
  | 4 => .object "LentSundays$Trail"
  | 5 => .array (.object "LentSundays$State")
  | 6 => .object "LentSundays$House"
  | 7 => .object "LentSundays$Planner"
  | 8 => .object "LentSundays$Clues"
  | 9 => .object "LentSundays$Text"
  | 10 => .object "LentSundays$Text"
  | _ => .int
abbrev wsX100 : List Cond := u_ws RX10 TX10 12
theorem nmX10 : ∀ a, a < 12 → ∀ b, b < 12 → a ≠ b → (TX10 a).2.1 ≠ (TX10 b).2.1 := by decide +kernel
theorem tyX10_ok : ∀ k, k < 12 → parseFieldDescriptor (TX10 k).2.2.1 = some (tyX10 k) := by decide +kernel
abbrev cX10_init : ByteArray := prog_1_method_1_code
def yX10_init : MethodName := ⟨RX10, "<init>", "()V"⟩
abbrev cX10_feed : ByteArray := prog_1_method_2_code
def yX10_feed : MethodName := ⟨RX10, "feed", "(IIIII)I"⟩
abbrev cX10_back : ByteArray := prog_1_method_3_code
def yX10_back : MethodName := ⟨RX10, "back", "(I)I"⟩
abbrev cX10_read : ByteArray := prog_1_method_4_code
def yX10_read : MethodName := ⟨RX10, "read", "()I"⟩
abbrev cX10_place : ByteArray := prog_1_method_5_code
def yX10_place : MethodName := ⟨RX10, "place", "()I"⟩
abbrev cX10_sunday : ByteArray := prog_1_method_6_code
def yX10_sunday : MethodName := ⟨RX10, "sunday", "(II)I"⟩
abbrev cX10_guest : ByteArray := prog_1_method_7_code
def yX10_guest : MethodName := ⟨RX10, "guest", "(II)I"⟩
abbrev cX10_at : ByteArray := prog_1_method_8_code
def yX10_at : MethodName := ⟨RX10, "at", "(II)I"⟩
abbrev cX10_letIn : ByteArray := prog_1_method_9_code
def yX10_letIn : MethodName := ⟨RX10, "letIn", "(II)Z"⟩
abbrev cX10_putOut : ByteArray := prog_1_method_10_code
def yX10_putOut : MethodName := ⟨RX10, "putOut", "(I)Z"⟩
abbrev cX10_sell : ByteArray := prog_1_method_11_code
def yX10_sell : MethodName := ⟨RX10, "sell", "(I)I"⟩
abbrev cX10_air : ByteArray := prog_1_method_12_code
def yX10_air : MethodName := ⟨RX10, "air", "(I)Z"⟩
abbrev cX10_weeks : ByteArray := prog_1_method_13_code
def yX10_weeks : MethodName := ⟨RX10, "weeks", "(I)I"⟩
abbrev cX10_undo : ByteArray := prog_1_method_14_code
def yX10_undo : MethodName := ⟨RX10, "undo", "()Z"⟩
abbrev cX10_alone : ByteArray := prog_1_method_15_code
def yX10_alone : MethodName := ⟨RX10, "alone", "(II)I"⟩
abbrev cX10_letting : ByteArray := prog_1_method_16_code
def yX10_letting : MethodName := ⟨RX10, "letting", "(I)I"⟩
abbrev cX10_fewest : ByteArray := prog_1_method_17_code
def yX10_fewest : MethodName := ⟨RX10, "fewest", "(I)I"⟩
abbrev cX10_colours : ByteArray := prog_1_method_18_code
def yX10_colours : MethodName := ⟨RX10, "colours", "()I"⟩
abbrev cX10_tangle : ByteArray := prog_1_method_19_code
def yX10_tangle : MethodName := ⟨RX10, "tangle", "(I)I"⟩
abbrev cX10_fitting : ByteArray := prog_1_method_20_code
def yX10_fitting : MethodName := ⟨RX10, "fitting", "(I)I"⟩
abbrev cX10_row : ByteArray := prog_1_method_21_code
def yX10_row : MethodName := ⟨RX10, "row", "(II)I"⟩
abbrev cX10_change : ByteArray := prog_1_method_22_code
def yX10_change : MethodName := ⟨RX10, "change", "(II)I"⟩
abbrev cX10_payer : ByteArray := prog_1_method_23_code
def yX10_payer : MethodName := ⟨RX10, "payer", "(I)I"⟩
abbrev cX10_idle : ByteArray := prog_1_method_24_code
def yX10_idle : MethodName := ⟨RX10, "idle", "()I"⟩
abbrev cX10_used : ByteArray := prog_1_method_25_code
def yX10_used : MethodName := ⟨RX10, "used", "(II)I"⟩
abbrev cX10_first : ByteArray := prog_1_method_26_code
def yX10_first : MethodName := ⟨RX10, "first", "(I)I"⟩
abbrev cX10_gap : ByteArray := prog_1_method_27_code
def yX10_gap : MethodName := ⟨RX10, "gap", "(II)I"⟩
abbrev cX10_room : ByteArray := prog_1_method_28_code
def yX10_room : MethodName := ⟨RX10, "room", "(I)I"⟩
abbrev cX10_price : ByteArray := prog_1_method_29_code
def yX10_price : MethodName := ⟨RX10, "price", "(II)I"⟩
abbrev cX10_best : ByteArray := prog_1_method_30_code
def yX10_best : MethodName := ⟨RX10, "best", "(III)I"⟩
abbrev cX10_weary : ByteArray := prog_1_method_31_code
def yX10_weary : MethodName := ⟨RX10, "weary", "(I)I"⟩
abbrev cX10_earned : ByteArray := prog_1_method_32_code
def yX10_earned : MethodName := ⟨RX10, "earned", "(I)I"⟩
abbrev cX10_rivals : ByteArray := prog_1_method_33_code
def yX10_rivals : MethodName := ⟨RX10, "rivals", "(I)I"⟩
abbrev cX10_then : ByteArray := prog_1_method_34_code
def yX10_then : MethodName := ⟨RX10, "then", "(III)I"⟩
abbrev cX10_wornIn : ByteArray := prog_1_method_35_code
def yX10_wornIn : MethodName := ⟨RX10, "wornIn", "(II)I"⟩
abbrev cX10_year : ByteArray := prog_1_method_36_code
def yX10_year : MethodName := ⟨RX10, "year", "(III)I"⟩
abbrev cX10_tell : ByteArray := prog_1_method_37_code
def yX10_tell : MethodName := ⟨RX10, "tell", "(IZ)I"⟩
abbrev cX10_forget : ByteArray := prog_1_method_38_code
def yX10_forget : MethodName := ⟨RX10, "forget", "()I"⟩
abbrev cX10_whose : ByteArray := prog_1_method_39_code
def yX10_whose : MethodName := ⟨RX10, "whose", "(II)I"⟩
abbrev cX10_look : ByteArray := prog_1_method_40_code
def yX10_look : MethodName := ⟨RX10, "look", "(I)I"⟩
abbrev cX10_hold : ByteArray := prog_1_method_41_code
def yX10_hold : MethodName := ⟨RX10, "hold", "(I)Z"⟩
abbrev cX10_restore : ByteArray := prog_1_method_42_code
def yX10_restore : MethodName := ⟨RX10, "restore", "(I)Z"⟩
abbrev cX10_count : ByteArray := prog_1_method_43_code
def yX10_count : MethodName := ⟨RX10, "count", "(I)I"⟩
abbrev cX10_isSunday : ByteArray := prog_1_method_44_code
def yX10_isSunday : MethodName := ⟨RX10, "isSunday", "(I)Z"⟩
abbrev cX10_isGuest : ByteArray := prog_1_method_45_code
def yX10_isGuest : MethodName := ⟨RX10, "isGuest", "(I)Z"⟩
abbrev cX10_isWeeks : ByteArray := prog_1_method_46_code
def yX10_isWeeks : MethodName := ⟨RX10, "isWeeks", "(I)Z"⟩
abbrev cX10_isOneOfTwo : ByteArray := prog_1_method_47_code
def yX10_isOneOfTwo : MethodName := ⟨RX10, "isOneOfTwo", "(I)Z"⟩
abbrev cX10_couldGoIn : ByteArray := prog_1_method_48_code
def yX10_couldGoIn : MethodName := ⟨RX10, "couldGoIn", "(III)Z"⟩
abbrev cX10_sundaysFitting : ByteArray := prog_1_method_49_code
def yX10_sundaysFitting : MethodName := ⟨RX10, "sundaysFitting", "(I)I"⟩
abbrev cX10_earlierOnes : ByteArray := prog_1_method_50_code
def yX10_earlierOnes : MethodName := ⟨RX10, "earlierOnes", "(II)I"⟩
abbrev cX10_firstWeary : ByteArray := prog_1_method_51_code
def yX10_firstWeary : MethodName := ⟨RX10, "firstWeary", "()I"⟩
abbrev cX10_moneyDue : ByteArray := prog_1_method_52_code
def yX10_moneyDue : MethodName := ⟨RX10, "moneyDue", "()I"⟩
abbrev cX10_sumOf : ByteArray := prog_1_method_53_code
def yX10_sumOf : MethodName := ⟨RX10, "sumOf", "([I)I"⟩
abbrev cX10_clashingPairs : ByteArray := prog_1_method_54_code
def yX10_clashingPairs : MethodName := ⟨RX10, "clashingPairs", "()I"⟩
abbrev cX10_sundaysWithGuests : ByteArray := prog_1_method_55_code
def yX10_sundaysWithGuests : MethodName := ⟨RX10, "sundaysWithGuests", "()I"⟩
abbrev cX10_guestsFittingAny : ByteArray := prog_1_method_56_code
def yX10_guestsFittingAny : MethodName := ⟨RX10, "guestsFittingAny", "()I"⟩
abbrev cX10_hoursNotSold : ByteArray := prog_1_method_57_code
def yX10_hoursNotSold : MethodName := ⟨RX10, "hoursNotSold", "()I"⟩
abbrev cX10_feesOfLiving : ByteArray := prog_1_method_58_code
def yX10_feesOfLiving : MethodName := ⟨RX10, "feesOfLiving", "()I"⟩
def RX11 : String := "LentSundaysModel"
def TX11 : u_T := fun k => match k with
  | 0 => ("LentSundaysModel", "thrown", "I", false)
  | 1 => ("LentSundaysModel", "tape", "[B", true)
  | 2 => ("LentSundaysModel", "taped", "I", false)
  | 3 => ("LentSundaysModel", "text", "[B", true)
  | 4 => ("LentSundaysModel", "size", "I", false)
  | 5 => ("LentSundaysModel", "tKind", "[I", true)
  | 6 => ("LentSundaysModel", "tPlace", "[I", true)
  | 7 => ("LentSundaysModel", "tValue", "[I", true)
  | 8 => ("LentSundaysModel", "tName", "[J", true)
  | 9 => ("LentSundaysModel", "keys", "[J", true)
  | 10 => ("LentSundaysModel", "tokens", "I", false)
  | 11 => ("LentSundaysModel", "t", "I", false)
  | 12 => ("LentSundaysModel", "open", "I", false)
  | 13 => ("LentSundaysModel", "fault", "I", false)
  | 14 => ("LentSundaysModel", "faultPlace", "I", false)
  | 15 => ("LentSundaysModel", "worst", "I", false)
  | 16 => ("LentSundaysModel", "worstPlace", "I", false)
  | 17 => ("LentSundaysModel", "place", "I", false)
  | 18 => ("LentSundaysModel", "live", "I", false)
  | 19 => ("LentSundaysModel", "side", "I", false)
  | 20 => ("LentSundaysModel", "names", "I", false)
  | 21 => ("LentSundaysModel", "nameOf", "[J", true)
  | 22 => ("LentSundaysModel", "nameAt", "[I", true)
  | 23 => ("LentSundaysModel", "sundays", "[I", true)
  | 24 => ("LentSundaysModel", "longOf", "[I", true)
  | 25 => ("LentSundaysModel", "worthOf", "[I", true)
  | 26 => ("LentSundaysModel", "guests", "[I", true)
  | 27 => ("LentSundaysModel", "fromOf", "[I", true)
  | 28 => ("LentSundaysModel", "hoursOf", "[I", true)
  | 29 => ("LentSundaysModel", "feeOf", "[I", true)
  | 30 => ("LentSundaysModel", "foesOf", "[I", true)
  | 31 => ("LentSundaysModel", "foes", "[I", true)
  | 32 => ("LentSundaysModel", "death", "[I", true)
  | 33 => ("LentSundaysModel", "seed", "[I", true)
  | 34 => ("LentSundaysModel", "lawFirst", "[I", true)
  | 35 => ("LentSundaysModel", "lawLast", "[I", true)
  | 36 => ("LentSundaysModel", "branches", "I", false)
  | 37 => ("LentSundaysModel", "hasTest", "[Z", true)
  | 38 => ("LentSundaysModel", "testFrom", "[I", true)
  | 39 => ("LentSundaysModel", "testMid", "[I", true)
  | 40 => ("LentSundaysModel", "testTo", "[I", true)
  | 41 => ("LentSundaysModel", "termTo", "[I", true)
  | 42 => ("LentSundaysModel", "codes", "I", false)
  | 43 => ("LentSundaysModel", "code", "[I", true)
  | 44 => ("LentSundaysModel", "codeInt", "[I", true)
  | 45 => ("LentSundaysModel", "waits", "[I", true)
  | 46 => ("LentSundaysModel", "waiting", "I", false)
  | 47 => ("LentSundaysModel", "variables", "[I", true)
  | 48 => ("LentSundaysModel", "pile", "[I", true)
  | 49 => ("LentSundaysModel", "isBroken", "Z", false)
  | 50 => ("LentSundaysModel", "now", "[I", true)
  | 51 => ("LentSundaysModel", "row", "[I", true)
  | 52 => ("LentSundaysModel", "lots", "I", false)
  | 53 => ("LentSundaysModel", "isStill", "Z", false)
  | 54 => ("LentSundaysModel", "restsNow", "[I", true)
  | 55 => ("LentSundaysModel", "wearsNow", "[I", true)
  | 56 => ("LentSundaysModel", "undos", "I", false)
  | 57 => ("LentSundaysModel", "history", "[I", true)
  | 58 => ("LentSundaysModel", "valueOf", "[I", true)
  | 59 => ("LentSundaysModel", "bestTo", "[I", true)
  | 60 => ("LentSundaysModel", "areIn", "[Z", true)
  | 61 => ("LentSundaysModel", "coloursOf", "[I", true)
  | 62 => ("LentSundaysModel", "tolds", "I", false)
  | 63 => ("LentSundaysModel", "toldHour", "[I", true)
  | 64 => ("LentSundaysModel", "toldSo", "[Z", true)
  | 65 => ("LentSundaysModel", "isHeld", "[Z", true)
  | _ => ("LentSundaysModel", "heldRows", "[I", true)
def tyX11 : Nat → FieldType := fun k => match k with
  | 0 => .int
  | 1 => .array .byte
  | 2 => .int
  | 3 => .array .byte
  | 4 => .int
  | 5 => .array .int
  | 6 => .array .int
  | 7 => .array .int
  | 8 => .array .long
  | 9 => .array .long
  | 10 => .int
  | 11 => .int
  | 12 => .int
  | 13 => .int
  | 14 => .int
  | 15 => .int
  | 16 => .int
  | 17 => .int
  | 18 => .int
  | 19 => .int
  | 20 => .int
  | 21 => .array .long
  | 22 => .array .int
  | 23 => .array .int
  | 24 => .array .int
  | 25 => .array .int
  | 26 => .array .int
  | 27 => .array .int
  | 28 => .array .int
  | 29 => .array .int
  | 30 => .array .int
  | 31 => .array .int
  | 32 => .array .int
  | 33 => .array .int
  | 34 => .array .int
  | 35 => .array .int
  | 36 => .int
  | 37 => .array .boolean
  | 38 => .array .int
  | 39 => .array .int
  | 40 => .array .int
  | 41 => .array .int
  | 42 => .int
  | 43 => .array .int
  | 44 => .array .int
  | 45 => .array .int
  | 46 => .int
  | 47 => .array .int
  | 48 => .array .int
  | 49 => .boolean
  | 50 => .array .int
  | 51 => .array .int
  | 52 => .int
  | 53 => .boolean
  | 54 => .array .int
  | 55 => .array .int
  | 56 => .int
  | 57 => .array .int
  | 58 => .array .int
  | 59 => .array .int
  | 60 => .array .boolean
  | 61 => .array .int
  | 62 => .int
  | 63 => .array .int
  | 64 => .array .boolean
  | 65 => .array .boolean
  | _ => .array .int
abbrev wsX110 : List Cond := u_ws RX11 TX11 67
theorem nmX11 : ∀ a, a < 67 → ∀ b, b < 67 → a ≠ b → (TX11 a).2.1 ≠ (TX11 b).2.1 := by decide +kernel
theorem tyX11_ok : ∀ k, k < 67 → parseFieldDescriptor (TX11 k).2.2.1 = some (tyX11 k) := by decide +kernel
abbrev cX11_init : ByteArray := prog_13_method_2_code
def yX11_init : MethodName := ⟨RX11, "<init>", "()V"⟩
abbrev cX11_feed : ByteArray := prog_13_method_3_code
def yX11_feed : MethodName := ⟨RX11, "feed", "(IIIII)I"⟩
abbrev cX11_put : ByteArray := prog_13_method_4_code
def yX11_put : MethodName := ⟨RX11, "put", "(I)V"⟩
abbrev cX11_back : ByteArray := prog_13_method_5_code
def yX11_back : MethodName := ⟨RX11, "back", "(I)I"⟩
abbrev cX11_byteAt : ByteArray := prog_13_method_6_code
def yX11_byteAt : MethodName := ⟨RX11, "byteAt", "(I)I"⟩
abbrev cX11_isDigit : ByteArray := prog_13_method_7_code
def yX11_isDigit : MethodName := ⟨RX11, "isDigit", "(I)Z"⟩
abbrev cX11_isLetter : ByteArray := prog_13_method_8_code
def yX11_isLetter : MethodName := ⟨RX11, "isLetter", "(I)Z"⟩
abbrev cX11_appends : ByteArray := prog_13_method_9_code
def yX11_appends : MethodName := ⟨RX11, "appends", "(JI)J"⟩
abbrev cX11_word : ByteArray := prog_13_method_10_code
def yX11_word : MethodName := ⟨RX11, "word", "(IIIIIII)J"⟩
abbrev cX11_token : ByteArray := prog_13_method_11_code
def yX11_token : MethodName := ⟨RX11, "token", "(IIIJ)V"⟩
abbrev cX11_cut : ByteArray := prog_13_method_12_code
def yX11_cut : MethodName := ⟨RX11, "cut", "()V"⟩
abbrev cX11_sign : ByteArray := prog_13_method_13_code
def yX11_sign : MethodName := ⟨RX11, "sign", "(III)I"⟩
abbrev cX11_is : ByteArray := prog_13_method_14_code
def yX11_is : MethodName := ⟨RX11, "is", "(I)Z"⟩
abbrev cX11_fail : ByteArray := prog_13_method_15_code
def yX11_fail : MethodName := ⟨RX11, "fail", "(I)V"⟩
abbrev cX11_wrong : ByteArray := prog_13_method_16_code
def yX11_wrong : MethodName := ⟨RX11, "wrong", "(II)V"⟩
abbrev cX11_goesOn : ByteArray := prog_13_method_17_code
def yX11_goesOn : MethodName := ⟨RX11, "goesOn", "()V"⟩
abbrev cX11_must : ByteArray := prog_13_method_18_code
def yX11_must : MethodName := ⟨RX11, "must", "(I)V"⟩
abbrev cX11_plain : ByteArray := prog_13_method_19_code
def yX11_plain : MethodName := ⟨RX11, "plain", "(I)V"⟩
abbrev cX11_read : ByteArray := prog_13_method_20_code
def yX11_read : MethodName := ⟨RX11, "read", "()I"⟩
abbrev cX11_place : ByteArray := prog_13_method_21_code
def yX11_place : MethodName := ⟨RX11, "place", "()I"⟩
abbrev cX11_roomFor : ByteArray := prog_13_method_22_code
def yX11_roomFor : MethodName := ⟨RX11, "roomFor", "(II)V"⟩
abbrev cX11_toldInt : ByteArray := prog_13_method_23_code
def yX11_toldInt : MethodName := ⟨RX11, "toldInt", "(II)I"⟩
abbrev cX11_tellOne : ByteArray := prog_13_method_24_code
def yX11_tellOne : MethodName := ⟨RX11, "tellOne", "()V"⟩
abbrev cX11_named : ByteArray := prog_13_method_25_code
def yX11_named : MethodName := ⟨RX11, "named", "()I"⟩
abbrev cX11_endsName : ByteArray := prog_13_method_26_code
def yX11_endsName : MethodName := ⟨RX11, "endsName", "(II)V"⟩
abbrev cX11_known : ByteArray := prog_13_method_27_code
def yX11_known : MethodName := ⟨RX11, "known", "()I"⟩
abbrev cX11_bounded : ByteArray := prog_13_method_28_code
def yX11_bounded : MethodName := ⟨RX11, "bounded", "(II)I"⟩
abbrev cX11_tellFoes : ByteArray := prog_13_method_29_code
def yX11_tellFoes : MethodName := ⟨RX11, "tellFoes", "()V"⟩
abbrev cX11_tellLaw : ByteArray := prog_13_method_30_code
def yX11_tellLaw : MethodName := ⟨RX11, "tellLaw", "(I)V"⟩
abbrev cX11_term : ByteArray := prog_13_method_31_code
def yX11_term : MethodName := ⟨RX11, "term", "()V"⟩
abbrev cX11_emit : ByteArray := prog_13_method_32_code
def yX11_emit : MethodName := ⟨RX11, "emit", "(II)V"⟩
abbrev cX11_comesOut : ByteArray := prog_13_method_33_code
def yX11_comesOut : MethodName := ⟨RX11, "comesOut", "(Z)V"⟩
abbrev cX11_expression : ByteArray := prog_13_method_34_code
def yX11_expression : MethodName := ⟨RX11, "expression", "()V"⟩
abbrev cX11_unit : ByteArray := prog_13_method_35_code
def yX11_unit : MethodName := ⟨RX11, "unit", "()V"⟩
abbrev cX11_termOf : ByteArray := prog_13_method_36_code
def yX11_termOf : MethodName := ⟨RX11, "termOf", "(II)I"⟩
abbrev cX11_in : ByteArray := prog_13_method_37_code
def yX11_in : MethodName := ⟨RX11, "in", "(III)Z"⟩
abbrev cX11_within : ByteArray := prog_13_method_38_code
def yX11_within : MethodName := ⟨RX11, "within", "(III)I"⟩
abbrev cX11_bits : ByteArray := prog_13_method_39_code
def yX11_bits : MethodName := ⟨RX11, "bits", "(I)I"⟩
abbrev cX11_isSunday : ByteArray := prog_13_method_40_code
def yX11_isSunday : MethodName := ⟨RX11, "isSunday", "(I)Z"⟩
abbrev cX11_isGuest : ByteArray := prog_13_method_41_code
def yX11_isGuest : MethodName := ⟨RX11, "isGuest", "(I)Z"⟩
abbrev cX11_begins : ByteArray := prog_13_method_42_code
def yX11_begins : MethodName := ⟨RX11, "begins", "()V"⟩
abbrev cX11_keepsRow : ByteArray := prog_13_method_43_code
def yX11_keepsRow : MethodName := ⟨RX11, "keepsRow", "()V"⟩
abbrev cX11_copies : ByteArray := prog_13_method_44_code
def yX11_copies : MethodName := ⟨RX11, "copies", "()V"⟩
abbrev cX11_copiesStill : ByteArray := prog_13_method_45_code
def yX11_copiesStill : MethodName := ⟨RX11, "copiesStill", "()V"⟩
abbrev cX11_mixed : ByteArray := prog_13_method_46_code
def yX11_mixed : MethodName := ⟨RX11, "mixed", "(II)I"⟩
abbrev cX11_lotOf : ByteArray := prog_13_method_47_code
def yX11_lotOf : MethodName := ⟨RX11, "lotOf", "(I)I"⟩
abbrev cX11_fromAt : ByteArray := prog_13_method_48_code
def yX11_fromAt : MethodName := ⟨RX11, "fromAt", "(I)I"⟩
abbrev cX11_tillAt : ByteArray := prog_13_method_49_code
def yX11_tillAt : MethodName := ⟨RX11, "tillAt", "(I)I"⟩
abbrev cX11_doClash : ByteArray := prog_13_method_50_code
def yX11_doClash : MethodName := ⟨RX11, "doClash", "(II)Z"⟩
abbrev cX11_clashBits : ByteArray := prog_13_method_51_code
def yX11_clashBits : MethodName := ⟨RX11, "clashBits", "(I)I"⟩
abbrev cX11_doesFit : ByteArray := prog_13_method_52_code
def yX11_doesFit : MethodName := ⟨RX11, "doesFit", "(II)Z"⟩
abbrev cX11_guestBits : ByteArray := prog_13_method_53_code
def yX11_guestBits : MethodName := ⟨RX11, "guestBits", "(I)I"⟩
abbrev cX11_whoIsAt : ByteArray := prog_13_method_54_code
def yX11_whoIsAt : MethodName := ⟨RX11, "whoIsAt", "(II)I"⟩
abbrev cX11_hoursTaken : ByteArray := prog_13_method_55_code
def yX11_hoursTaken : MethodName := ⟨RX11, "hoursTaken", "(I)I"⟩
abbrev cX11_livingBits : ByteArray := prog_13_method_56_code
def yX11_livingBits : MethodName := ⟨RX11, "livingBits", "()I"⟩
abbrev cX11_lawTells : ByteArray := prog_13_method_57_code
def yX11_lawTells : MethodName := ⟨RX11, "lawTells", "(II)I"⟩
abbrev cX11_looksAt : ByteArray := prog_13_method_58_code
def yX11_looksAt : MethodName := ⟨RX11, "looksAt", "(I)V"⟩
abbrev cX11_looks : ByteArray := prog_13_method_59_code
def yX11_looks : MethodName := ⟨RX11, "looks", "(III)V"⟩
abbrev cX11_paysAt : ByteArray := prog_13_method_60_code
def yX11_paysAt : MethodName := ⟨RX11, "paysAt", "(III)I"⟩
abbrev cX11_restsAt : ByteArray := prog_13_method_61_code
def yX11_restsAt : MethodName := ⟨RX11, "restsAt", "(III)I"⟩
abbrev cX11_looksAll : ByteArray := prog_13_method_62_code
def yX11_looksAll : MethodName := ⟨RX11, "looksAll", "(I)V"⟩
abbrev cX11_wearsOf : ByteArray := prog_13_method_63_code
def yX11_wearsOf : MethodName := ⟨RX11, "wearsOf", "(I)I"⟩
abbrev cX11_sellsOf : ByteArray := prog_13_method_64_code
def yX11_sellsOf : MethodName := ⟨RX11, "sellsOf", "(I)I"⟩
abbrev cX11_othersOf : ByteArray := prog_13_method_65_code
def yX11_othersOf : MethodName := ⟨RX11, "othersOf", "(I)I"⟩
abbrev cX11_paysOf : ByteArray := prog_13_method_66_code
def yX11_paysOf : MethodName := ⟨RX11, "paysOf", "(I)I"⟩
abbrev cX11_restsOf : ByteArray := prog_13_method_67_code
def yX11_restsOf : MethodName := ⟨RX11, "restsOf", "(I)I"⟩
abbrev cX11_dueAll : ByteArray := prog_13_method_68_code
def yX11_dueAll : MethodName := ⟨RX11, "dueAll", "()I"⟩
abbrev cX11_restsIn : ByteArray := prog_13_method_69_code
def yX11_restsIn : MethodName := ⟨RX11, "restsIn", "(I)V"⟩
abbrev cX11_mayDie : ByteArray := prog_13_method_70_code
def yX11_mayDie : MethodName := ⟨RX11, "mayDie", "(I)V"⟩
abbrev cX11_weekGoes : ByteArray := prog_13_method_71_code
def yX11_weekGoes : MethodName := ⟨RX11, "weekGoes", "()V"⟩
abbrev cX11_goes : ByteArray := prog_13_method_72_code
def yX11_goes : MethodName := ⟨RX11, "goes", "(I)V"⟩
abbrev cX11_sunday : ByteArray := prog_13_method_73_code
def yX11_sunday : MethodName := ⟨RX11, "sunday", "(II)I"⟩
abbrev cX11_guest : ByteArray := prog_13_method_74_code
def yX11_guest : MethodName := ⟨RX11, "guest", "(II)I"⟩
abbrev cX11_at : ByteArray := prog_13_method_75_code
def yX11_at : MethodName := ⟨RX11, "at", "(II)I"⟩
abbrev cX11_records : ByteArray := prog_13_method_76_code
def yX11_records : MethodName := ⟨RX11, "records", "()V"⟩
abbrev cX11_mayGoIn : ByteArray := prog_13_method_77_code
def yX11_mayGoIn : MethodName := ⟨RX11, "mayGoIn", "(II)Z"⟩
abbrev cX11_letIn : ByteArray := prog_13_method_78_code
def yX11_letIn : MethodName := ⟨RX11, "letIn", "(II)Z"⟩
abbrev cX11_putOut : ByteArray := prog_13_method_79_code
def yX11_putOut : MethodName := ⟨RX11, "putOut", "(I)Z"⟩
abbrev cX11_sell : ByteArray := prog_13_method_80_code
def yX11_sell : MethodName := ⟨RX11, "sell", "(I)I"⟩
abbrev cX11_air : ByteArray := prog_13_method_81_code
def yX11_air : MethodName := ⟨RX11, "air", "(I)Z"⟩
abbrev cX11_isLong : ByteArray := prog_13_method_82_code
def yX11_isLong : MethodName := ⟨RX11, "isLong", "(I)Z"⟩
abbrev cX11_weeks : ByteArray := prog_13_method_83_code
def yX11_weeks : MethodName := ⟨RX11, "weeks", "(I)I"⟩
abbrev cX11_undo : ByteArray := prog_13_method_84_code
def yX11_undo : MethodName := ⟨RX11, "undo", "()Z"⟩
abbrev cX11_lowestOf : ByteArray := prog_13_method_85_code
def yX11_lowestOf : MethodName := ⟨RX11, "lowestOf", "(I)I"⟩
abbrev cX11_isPart : ByteArray := prog_13_method_86_code
def yX11_isPart : MethodName := ⟨RX11, "isPart", "(II)Z"⟩
abbrev cX11_valueAt : ByteArray := prog_13_method_87_code
def yX11_valueAt : MethodName := ⟨RX11, "valueAt", "(II)I"⟩
abbrev cX11_fillsValues : ByteArray := prog_13_method_88_code
def yX11_fillsValues : MethodName := ⟨RX11, "fillsValues", "()V"⟩
abbrev cX11_alone : ByteArray := prog_13_method_89_code
def yX11_alone : MethodName := ⟨RX11, "alone", "(II)I"⟩
abbrev cX11_bestWith : ByteArray := prog_13_method_90_code
def yX11_bestWith : MethodName := ⟨RX11, "bestWith", "(III)I"⟩
abbrev cX11_canBe : ByteArray := prog_13_method_91_code
def yX11_canBe : MethodName := ⟨RX11, "canBe", "(III)Z"⟩
abbrev cX11_fillsBest : ByteArray := prog_13_method_92_code
def yX11_fillsBest : MethodName := ⟨RX11, "fillsBest", "()V"⟩
abbrev cX11_leastFor : ByteArray := prog_13_method_93_code
def yX11_leastFor : MethodName := ⟨RX11, "leastFor", "(II)I"⟩
abbrev cX11_letting : ByteArray := prog_13_method_94_code
def yX11_letting : MethodName := ⟨RX11, "letting", "(I)I"⟩
abbrev cX11_areAllIn : ByteArray := prog_13_method_95_code
def yX11_areAllIn : MethodName := ⟨RX11, "areAllIn", "(II)Z"⟩
abbrev cX11_fewest : ByteArray := prog_13_method_96_code
def yX11_fewest : MethodName := ⟨RX11, "fewest", "(I)I"⟩
abbrev cX11_isCalm : ByteArray := prog_13_method_97_code
def yX11_isCalm : MethodName := ⟨RX11, "isCalm", "(I)Z"⟩
abbrev cX11_colours : ByteArray := prog_13_method_98_code
def yX11_colours : MethodName := ⟨RX11, "colours", "()I"⟩
abbrev cX11_isTangle : ByteArray := prog_13_method_99_code
def yX11_isTangle : MethodName := ⟨RX11, "isTangle", "(I)Z"⟩
abbrev cX11_tangle : ByteArray := prog_13_method_100_code
def yX11_tangle : MethodName := ⟨RX11, "tangle", "(I)I"⟩
abbrev cX11_rivals : ByteArray := prog_13_method_101_code
def yX11_rivals : MethodName := ⟨RX11, "rivals", "(I)I"⟩
abbrev cX11_fitBits : ByteArray := prog_13_method_102_code
def yX11_fitBits : MethodName := ⟨RX11, "fitBits", "(I)I"⟩
abbrev cX11_fitting : ByteArray := prog_13_method_103_code
def yX11_fitting : MethodName := ⟨RX11, "fitting", "(I)I"⟩
abbrev cX11_row : ByteArray := prog_13_method_104_code
def yX11_row : MethodName := ⟨RX11, "row", "(II)I"⟩
abbrev cX11_change : ByteArray := prog_13_method_105_code
def yX11_change : MethodName := ⟨RX11, "change", "(II)I"⟩
abbrev cX11_room : ByteArray := prog_13_method_106_code
def yX11_room : MethodName := ⟨RX11, "room", "(I)I"⟩
abbrev cX11_payer : ByteArray := prog_13_method_107_code
def yX11_payer : MethodName := ⟨RX11, "payer", "(I)I"⟩
abbrev cX11_idle : ByteArray := prog_13_method_108_code
def yX11_idle : MethodName := ⟨RX11, "idle", "()I"⟩
abbrev cX11_gap : ByteArray := prog_13_method_109_code
def yX11_gap : MethodName := ⟨RX11, "gap", "(II)I"⟩
abbrev cX11_used : ByteArray := prog_13_method_110_code
def yX11_used : MethodName := ⟨RX11, "used", "(II)I"⟩
abbrev cX11_isWeary : ByteArray := prog_13_method_111_code
def yX11_isWeary : MethodName := ⟨RX11, "isWeary", "(I)Z"⟩
abbrev cX11_first : ByteArray := prog_13_method_112_code
def yX11_first : MethodName := ⟨RX11, "first", "(I)I"⟩
abbrev cX11_weary : ByteArray := prog_13_method_113_code
def yX11_weary : MethodName := ⟨RX11, "weary", "(I)I"⟩
abbrev cX11_isForSale : ByteArray := prog_13_method_114_code
def yX11_isForSale : MethodName := ⟨RX11, "isForSale", "(I)Z"⟩
abbrev cX11_price : ByteArray := prog_13_method_115_code
def yX11_price : MethodName := ⟨RX11, "price", "(II)I"⟩
abbrev cX11_best : ByteArray := prog_13_method_116_code
def yX11_best : MethodName := ⟨RX11, "best", "(III)I"⟩
abbrev cX11_earned : ByteArray := prog_13_method_117_code
def yX11_earned : MethodName := ⟨RX11, "earned", "(I)I"⟩
abbrev cX11_then : ByteArray := prog_13_method_118_code
def yX11_then : MethodName := ⟨RX11, "then", "(III)I"⟩
abbrev cX11_wornIn : ByteArray := prog_13_method_119_code
def yX11_wornIn : MethodName := ⟨RX11, "wornIn", "(II)I"⟩
abbrev cX11_year : ByteArray := prog_13_method_120_code
def yX11_year : MethodName := ⟨RX11, "year", "(III)I"⟩
abbrev cX11_tell : ByteArray := prog_13_method_121_code
def yX11_tell : MethodName := ⟨RX11, "tell", "(IZ)I"⟩
abbrev cX11_forget : ByteArray := prog_13_method_122_code
def yX11_forget : MethodName := ⟨RX11, "forget", "()I"⟩
abbrev cX11_isThere : ByteArray := prog_13_method_123_code
def yX11_isThere : MethodName := ⟨RX11, "isThere", "(II)Z"⟩
abbrev cX11_whoseBits : ByteArray := prog_13_method_124_code
def yX11_whoseBits : MethodName := ⟨RX11, "whoseBits", "(I)I"⟩
abbrev cX11_whose : ByteArray := prog_13_method_125_code
def yX11_whose : MethodName := ⟨RX11, "whose", "(II)I"⟩
abbrev cX11_look : ByteArray := prog_13_method_126_code
def yX11_look : MethodName := ⟨RX11, "look", "(I)I"⟩
abbrev cX11_hold : ByteArray := prog_13_method_127_code
def yX11_hold : MethodName := ⟨RX11, "hold", "(I)Z"⟩
abbrev cX11_restore : ByteArray := prog_13_method_128_code
def yX11_restore : MethodName := ⟨RX11, "restore", "(I)Z"⟩
abbrev cX11_sumNow : ByteArray := prog_13_method_129_code
def yX11_sumNow : MethodName := ⟨RX11, "sumNow", "(II)I"⟩
abbrev cX11_count : ByteArray := prog_13_method_130_code
def yX11_count : MethodName := ⟨RX11, "count", "(I)I"⟩
def RJ11 : String := "java/lang/Character"
def TJ11 : u_T := fun k => match k with
  | _ => ("", "", "", false)
def tyJ11 : Nat → FieldType := fun k => match k with
  | _ => .int
abbrev wsJ110 : List Cond := u_ws RJ11 TJ11 0
theorem nmJ11 : ∀ a, a < 0 → ∀ b, b < 0 → a ≠ b → (TJ11 a).2.1 ≠ (TJ11 b).2.1 := by decide +kernel
theorem tyJ11_ok : ∀ k, k < 0 → parseFieldDescriptor (TJ11 k).2.2.1 = some (tyJ11 k) := by decide +kernel
abbrev cJ11_isValidCodePoint_9a6ad : ByteArray := prog_14_method_11_code
def yJ11_isValidCodePoint_9a6ad : MethodName := ⟨RJ11, "isValidCodePoint", "(I)Z"⟩
abbrev cJ11_highSurrogate_5068e : ByteArray := prog_14_method_28_code
def yJ11_highSurrogate_5068e : MethodName := ⟨RJ11, "highSurrogate", "(I)C"⟩
abbrev cJ11_lowSurrogate_5068e : ByteArray := prog_14_method_29_code
def yJ11_lowSurrogate_5068e : MethodName := ⟨RJ11, "lowSurrogate", "(I)C"⟩
def RJ6 : String := "java/lang/Integer"
def TJ6 : u_T := fun k => match k with
  | _ => ("", "", "", false)
def tyJ6 : Nat → FieldType := fun k => match k with
  | _ => .int
abbrev wsJ60 : List Cond := u_ws RJ6 TJ6 0
theorem nmJ6 : ∀ a, a < 0 → ∀ b, b < 0 → a ≠ b → (TJ6 a).2.1 ≠ (TJ6 b).2.1 := by decide +kernel
theorem tyJ6_ok : ∀ k, k < 0 → parseFieldDescriptor (TJ6 k).2.2.1 = some (tyJ6 k) := by decide +kernel
abbrev cJ6_numberOfTrailingZeros_0f7a4 : ByteArray := prog_15_method_48_code
def yJ6_numberOfTrailingZeros_0f7a4 : MethodName := ⟨RJ6, "numberOfTrailingZeros", "(I)I"⟩
abbrev cJ6_bitCount_0f7a4 : ByteArray := prog_15_method_49_code
def yJ6_bitCount_0f7a4 : MethodName := ⟨RJ6, "bitCount", "(I)I"⟩
def RJ13 : String := "java/lang/Long"
def TJ13 : u_T := fun k => match k with
  | _ => ("", "", "", false)
def tyJ13 : Nat → FieldType := fun k => match k with
  | _ => .int
abbrev wsJ130 : List Cond := u_ws RJ13 TJ13 0
theorem nmJ13 : ∀ a, a < 0 → ∀ b, b < 0 → a ≠ b → (TJ13 a).2.1 ≠ (TJ13 b).2.1 := by decide +kernel
theorem tyJ13_ok : ∀ k, k < 0 → parseFieldDescriptor (TJ13 k).2.2.1 = some (tyJ13 k) := by decide +kernel
abbrev cJ13_bitCount_95d88 : ByteArray := prog_16_method_50_code
def yJ13_bitCount_95d88 : MethodName := ⟨RJ13, "bitCount", "(J)I"⟩
def RJ9 : String := "java/lang/Math"
def TJ9 : u_T := fun k => match k with
  | _ => ("", "", "", false)
def tyJ9 : Nat → FieldType := fun k => match k with
  | _ => .int
abbrev wsJ90 : List Cond := u_ws RJ9 TJ9 0
theorem nmJ9 : ∀ a, a < 0 → ∀ b, b < 0 → a ≠ b → (TJ9 a).2.1 ≠ (TJ9 b).2.1 := by decide +kernel
theorem tyJ9_ok : ∀ k, k < 0 → parseFieldDescriptor (TJ9 k).2.2.1 = some (tyJ9 k) := by decide +kernel
abbrev cJ9_max_7cf53 : ByteArray := prog_17_method_65_code
def yJ9_max_7cf53 : MethodName := ⟨RJ9, "max", "(II)I"⟩
abbrev cJ9_min_7cf53 : ByteArray := prog_17_method_69_code
def yJ9_min_7cf53 : MethodName := ⟨RJ9, "min", "(II)I"⟩
def RJ0 : String := "java/lang/String"
def TJ0 : u_T := fun k => match k with
  | _ => ("", "", "", false)
def tyJ0 : Nat → FieldType := fun k => match k with
  | _ => .int
abbrev wsJ00 : List Cond := u_ws RJ0 TJ0 0
theorem nmJ0 : ∀ a, a < 0 → ∀ b, b < 0 → a ≠ b → (TJ0 a).2.1 ≠ (TJ0 b).2.1 := by decide +kernel
theorem tyJ0_ok : ∀ k, k < 0 → parseFieldDescriptor (TJ0 k).2.2.1 = some (tyJ0 k) := by decide +kernel
abbrev cJ0_length_8abf5 : ByteArray := prog_18_method_54_code
def yJ0_length_8abf5 : MethodName := ⟨RJ0, "length", "()I"⟩
abbrev cJ0_charAt_5068e : ByteArray := prog_18_method_56_code
def yJ0_charAt_5068e : MethodName := ⟨RJ0, "charAt", "(I)C"⟩
abbrev cJ0_indexOf_0f7a4 : ByteArray := prog_18_method_79_code
def yJ0_indexOf_0f7a4 : MethodName := ⟨RJ0, "indexOf", "(I)I"⟩
abbrev cJ0_indexOf_7cf53 : ByteArray := prog_18_method_80_code
def yJ0_indexOf_7cf53 : MethodName := ⟨RJ0, "indexOf", "(II)I"⟩
abbrev cJ0_coder_7d493 : ByteArray := prog_18_method_152_code
def yJ0_coder_7d493 : MethodName := ⟨RJ0, "coder", "()B"⟩
abbrev cJ0_isLatin1_aae02 : ByteArray := prog_18_method_154_code
def yJ0_isLatin1_aae02 : MethodName := ⟨RJ0, "isLatin1", "()Z"⟩
abbrev cJ0_checkIndex_df160 : ByteArray := prog_18_method_155_code
def yJ0_checkIndex_df160 : MethodName := ⟨RJ0, "checkIndex", "(II)V"⟩
abbrev cJ0_checkBoundsBeginEnd_23922 : ByteArray := prog_18_method_158_code
def yJ0_checkBoundsBeginEnd_23922 : MethodName := ⟨RJ0, "checkBoundsBeginEnd", "(III)V"⟩
def RJ1 : String := "java/lang/StringLatin1"
def TJ1 : u_T := fun k => match k with
  | _ => ("", "", "", false)
def tyJ1 : Nat → FieldType := fun k => match k with
  | _ => .int
abbrev wsJ10 : List Cond := u_ws RJ1 TJ1 0
theorem nmJ1 : ∀ a, a < 0 → ∀ b, b < 0 → a ≠ b → (TJ1 a).2.1 ≠ (TJ1 b).2.1 := by decide +kernel
theorem tyJ1_ok : ∀ k, k < 0 → parseFieldDescriptor (TJ1 k).2.2.1 = some (tyJ1 k) := by decide +kernel
abbrev cJ1_charAt_3b067 : ByteArray := prog_19_method_2_code
def yJ1_charAt_3b067 : MethodName := ⟨RJ1, "charAt", "([BI)C"⟩
abbrev cJ1_canEncode_9a6ad : ByteArray := prog_19_method_4_code
def yJ1_canEncode_9a6ad : MethodName := ⟨RJ1, "canEncode", "(I)Z"⟩
abbrev cJ1_indexOf_4cfef : ByteArray := prog_19_method_22_code
def yJ1_indexOf_4cfef : MethodName := ⟨RJ1, "indexOf", "([BIII)I"⟩
abbrev cJ1_indexOfChar_4cfef : ByteArray := prog_19_method_23_code
def yJ1_indexOfChar_4cfef : MethodName := ⟨RJ1, "indexOfChar", "([BIII)I"⟩
def RJ2 : String := "java/lang/StringUTF16"
def TJ2 : u_T := fun k => match k with
  | _ => ("", "", "", false)
def tyJ2 : Nat → FieldType := fun k => match k with
  | _ => .int
abbrev wsJ20 : List Cond := u_ws RJ2 TJ2 0
theorem nmJ2 : ∀ a, a < 0 → ∀ b, b < 0 → a ≠ b → (TJ2 a).2.1 ≠ (TJ2 b).2.1 := by decide +kernel
theorem tyJ2_ok : ∀ k, k < 0 → parseFieldDescriptor (TJ2 k).2.2.1 = some (tyJ2 k) := by decide +kernel
abbrev cJ2_getChar_3b067 : ByteArray := prog_20_method_5_code
def yJ2_getChar_3b067 : MethodName := ⟨RJ2, "getChar", "([BI)C"⟩
abbrev cJ2_length_9d52b : ByteArray := prog_20_method_6_code
def yJ2_length_9d52b : MethodName := ⟨RJ2, "length", "([B)I"⟩
abbrev cJ2_indexOf_4cfef : ByteArray := prog_20_method_40_code
def yJ2_indexOf_4cfef : MethodName := ⟨RJ2, "indexOf", "([BIII)I"⟩
abbrev cJ2_indexOfChar_4cfef : ByteArray := prog_20_method_47_code
def yJ2_indexOfChar_4cfef : MethodName := ⟨RJ2, "indexOfChar", "([BIII)I"⟩
abbrev cJ2_indexOfCharUnsafe_4cfef : ByteArray := prog_20_method_48_code
def yJ2_indexOfCharUnsafe_4cfef : MethodName := ⟨RJ2, "indexOfCharUnsafe", "([BIII)I"⟩
abbrev cJ2_indexOfSupplementary_4cfef : ByteArray := prog_20_method_49_code
def yJ2_indexOfSupplementary_4cfef : MethodName := ⟨RJ2, "indexOfSupplementary", "([BIII)I"⟩
abbrev cJ2_charAt_3b067 : ByteArray := prog_20_method_83_code
def yJ2_charAt_3b067 : MethodName := ⟨RJ2, "charAt", "([BI)C"⟩
abbrev cJ2_checkIndex_2214a : ByteArray := prog_20_method_91_code
def yJ2_checkIndex_2214a : MethodName := ⟨RJ2, "checkIndex", "(I[B)V"⟩
abbrev cJ2_checkBoundsBeginEnd_d044e : ByteArray := prog_20_method_93_code
def yJ2_checkBoundsBeginEnd_d044e : MethodName := ⟨RJ2, "checkBoundsBeginEnd", "(II[B)V"⟩
def RJ3 : String := "jdk/internal/util/Preconditions"
def TJ3 : u_T := fun k => match k with
  | _ => ("", "", "", false)
def tyJ3 : Nat → FieldType := fun k => match k with
  | _ => .int
abbrev wsJ30 : List Cond := u_ws RJ3 TJ3 0
theorem nmJ3 : ∀ a, a < 0 → ∀ b, b < 0 → a ≠ b → (TJ3 a).2.1 ≠ (TJ3 b).2.1 := by decide +kernel
theorem tyJ3_ok : ∀ k, k < 0 → parseFieldDescriptor (TJ3 k).2.2.1 = some (tyJ3 k) := by decide +kernel
abbrev cJ3_checkIndex_8e157 : ByteArray := prog_21_method_11_code
def yJ3_checkIndex_8e157 : MethodName := ⟨RJ3, "checkIndex", "(IILjava/util/function/BiFunction;)I"⟩
abbrev cJ3_checkFromToIndex_8c36e : ByteArray := prog_21_method_12_code
def yJ3_checkFromToIndex_8c36e : MethodName := ⟨RJ3, "checkFromToIndex", "(IIILjava/util/function/BiFunction;)I"⟩
def RL : String := "LentSundaysLaw"
abbrev cL_law : ByteArray := code
def yL_law : MethodName := ⟨RL, "law", "([I)Z"⟩
