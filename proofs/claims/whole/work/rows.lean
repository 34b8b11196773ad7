section
-- ===== PART A: goes FIRST, ahead of the names: the tables' words, and 'selects' of the private methods out of them =====
/-- a private method of a class that the tables say can be made, by its rows of tables_1 -/
def lw_okq (q : MethodName × Nat) : Prop := (q.1.cls ≠ "java/lang/invoke/MethodHandle" ∧ q.1.cls ≠ "java/lang/invoke/VarHandle") ∧ Cond.instantiable q.1.cls q.2 ∈ tables_1 ∧ Cond.privateMethod q.1 ∈ tables_1 ∧ Cond.instanceMethod q.1 ∈ tables_1
theorem lw_p0 : lw_okq (⟨"DodgingHangman", "addTextTo", "(LDodgingHangman$State;)Z"⟩, 5) := ⟨⟨by decide +kernel, by decide +kernel⟩, List.mem_of_getElem? (i := 12) (by decide +kernel), List.mem_of_getElem? (i := 199) (by decide +kernel), List.mem_of_getElem? (i := 200) (by decide +kernel)⟩
theorem lw_p1 : lw_okq (⟨"DodgingHangman$Text", "keepRead", "(IJ)I"⟩, 3) := ⟨⟨by decide +kernel, by decide +kernel⟩, List.mem_of_getElem? (i := 20) (by decide +kernel), List.mem_of_getElem? (i := 207) (by decide +kernel), List.mem_of_getElem? (i := 208) (by decide +kernel)⟩
theorem lw_p2 : lw_okq (⟨"DodgingHangman$State", "numberOf", "(J)I"⟩, 12) := ⟨⟨by decide +kernel, by decide +kernel⟩, List.mem_of_getElem? (i := 39) (by decide +kernel), List.mem_of_getElem? (i := 226) (by decide +kernel), List.mem_of_getElem? (i := 227) (by decide +kernel)⟩
theorem lw_p3 : lw_okq (⟨"DodgingHangman$State", "count", "(I)V"⟩, 12) := ⟨⟨by decide +kernel, by decide +kernel⟩, List.mem_of_getElem? (i := 39) (by decide +kernel), List.mem_of_getElem? (i := 297) (by decide +kernel), List.mem_of_getElem? (i := 298) (by decide +kernel)⟩
theorem lw_p4 : lw_okq (⟨"DodgingHangman", "play", "(LDodgingHangman$State;I)I"⟩, 5) := ⟨⟨by decide +kernel, by decide +kernel⟩, List.mem_of_getElem? (i := 12) (by decide +kernel), List.mem_of_getElem? (i := 319) (by decide +kernel), List.mem_of_getElem? (i := 320) (by decide +kernel)⟩
theorem lw_p5 : lw_okq (⟨"DodgingHangman$Families", "put", "(III)V"⟩, 5) := ⟨⟨by decide +kernel, by decide +kernel⟩, List.mem_of_getElem? (i := 114) (by decide +kernel), List.mem_of_getElem? (i := 340) (by decide +kernel), List.mem_of_getElem? (i := 341) (by decide +kernel)⟩
theorem lw_p6 : lw_okq (⟨"DodgingHangman$Families", "betterThan", "(I)I"⟩, 5) := ⟨⟨by decide +kernel, by decide +kernel⟩, List.mem_of_getElem? (i := 114) (by decide +kernel), List.mem_of_getElem? (i := 356) (by decide +kernel), List.mem_of_getElem? (i := 357) (by decide +kernel)⟩
theorem lw_p7 : lw_okq (⟨"DodgingHangman$Families", "isBetter", "(II)Z"⟩, 5) := ⟨⟨by decide +kernel, by decide +kernel⟩, List.mem_of_getElem? (i := 114) (by decide +kernel), List.mem_of_getElem? (i := 360) (by decide +kernel), List.mem_of_getElem? (i := 361) (by decide +kernel)⟩
theorem lw_p8 : lw_okq (⟨"DodgingHangman$State", "noteGuess", "(I)V"⟩, 12) := ⟨⟨by decide +kernel, by decide +kernel⟩, List.mem_of_getElem? (i := 39) (by decide +kernel), List.mem_of_getElem? (i := 383) (by decide +kernel), List.mem_of_getElem? (i := 384) (by decide +kernel)⟩
theorem lw_p9 : lw_okq (⟨"DodgingHangman$State", "miss", "(Z)V"⟩, 12) := ⟨⟨by decide +kernel, by decide +kernel⟩, List.mem_of_getElem? (i := 39) (by decide +kernel), List.mem_of_getElem? (i := 387) (by decide +kernel), List.mem_of_getElem? (i := 388) (by decide +kernel)⟩
theorem lw_p10 : lw_okq (⟨"DodgingHangman$State", "win", "()V"⟩, 12) := ⟨⟨by decide +kernel, by decide +kernel⟩, List.mem_of_getElem? (i := 39) (by decide +kernel), List.mem_of_getElem? (i := 396) (by decide +kernel), List.mem_of_getElem? (i := 397) (by decide +kernel)⟩
theorem lw_p11 : lw_okq (⟨"DodgingHangman", "faultOfAsking", "(I)I"⟩, 5) := ⟨⟨by decide +kernel, by decide +kernel⟩, List.mem_of_getElem? (i := 12) (by decide +kernel), List.mem_of_getElem? (i := 454) (by decide +kernel), List.mem_of_getElem? (i := 455) (by decide +kernel)⟩
theorem lw_p12 : lw_okq (⟨"DodgingHangman", "bestLetter", "(LDodgingHangman$State;)I"⟩, 5) := ⟨⟨by decide +kernel, by decide +kernel⟩, List.mem_of_getElem? (i := 12) (by decide +kernel), List.mem_of_getElem? (i := 497) (by decide +kernel), List.mem_of_getElem? (i := 498) (by decide +kernel)⟩
theorem lw_p13 : lw_okq (⟨"DodgingHangman", "hashOfList", "(J)J"⟩, 5) := ⟨⟨by decide +kernel, by decide +kernel⟩, List.mem_of_getElem? (i := 12) (by decide +kernel), List.mem_of_getElem? (i := 526) (by decide +kernel), List.mem_of_getElem? (i := 527) (by decide +kernel)⟩
theorem lw_p14 : lw_okq (⟨"DodgingHangman", "hashOfGame", "(J)J"⟩, 5) := ⟨⟨by decide +kernel, by decide +kernel⟩, List.mem_of_getElem? (i := 12) (by decide +kernel), List.mem_of_getElem? (i := 536) (by decide +kernel), List.mem_of_getElem? (i := 537) (by decide +kernel)⟩
theorem lw_p15 : lw_okq (⟨"DodgingHangmanModel", "error", "()I"⟩, 12) := ⟨⟨by decide +kernel, by decide +kernel⟩, List.mem_of_getElem? (i := 549) (by decide +kernel), List.mem_of_getElem? (i := 607) (by decide +kernel), List.mem_of_getElem? (i := 608) (by decide +kernel)⟩
def lw_privs_1 : List (MethodName × Nat) := [(⟨"DodgingHangman", "addTextTo", "(LDodgingHangman$State;)Z"⟩, 5), (⟨"DodgingHangman$Text", "keepRead", "(IJ)I"⟩, 3), (⟨"DodgingHangman$State", "numberOf", "(J)I"⟩, 12), (⟨"DodgingHangman$State", "count", "(I)V"⟩, 12), (⟨"DodgingHangman", "play", "(LDodgingHangman$State;I)I"⟩, 5), (⟨"DodgingHangman$Families", "put", "(III)V"⟩, 5), (⟨"DodgingHangman$Families", "betterThan", "(I)I"⟩, 5), (⟨"DodgingHangman$Families", "isBetter", "(II)Z"⟩, 5), (⟨"DodgingHangman$State", "noteGuess", "(I)V"⟩, 12), (⟨"DodgingHangman$State", "miss", "(Z)V"⟩, 12), (⟨"DodgingHangman$State", "win", "()V"⟩, 12), (⟨"DodgingHangman", "faultOfAsking", "(I)I"⟩, 5), (⟨"DodgingHangman", "bestLetter", "(LDodgingHangman$State;)I"⟩, 5), (⟨"DodgingHangman", "hashOfList", "(J)J"⟩, 5), (⟨"DodgingHangman", "hashOfGame", "(J)J"⟩, 5), (⟨"DodgingHangmanModel", "error", "()I"⟩, 12)]
theorem lw_r1 : ∀ q ∈ lw_privs_1, lw_okq q := List.forall_mem_cons.mpr ⟨lw_p0, List.forall_mem_cons.mpr ⟨lw_p1, List.forall_mem_cons.mpr ⟨lw_p2, List.forall_mem_cons.mpr ⟨lw_p3, List.forall_mem_cons.mpr ⟨lw_p4, List.forall_mem_cons.mpr ⟨lw_p5, List.forall_mem_cons.mpr ⟨lw_p6, List.forall_mem_cons.mpr ⟨lw_p7, List.forall_mem_cons.mpr ⟨lw_p8, List.forall_mem_cons.mpr ⟨lw_p9, List.forall_mem_cons.mpr ⟨lw_p10, List.forall_mem_cons.mpr ⟨lw_p11, List.forall_mem_cons.mpr ⟨lw_p12, List.forall_mem_cons.mpr ⟨lw_p13, List.forall_mem_cons.mpr ⟨lw_p14, List.forall_mem_cons.mpr ⟨lw_p15, fun _ h => absurd h List.not_mem_nil⟩⟩⟩⟩⟩⟩⟩⟩⟩⟩⟩⟩⟩⟩⟩⟩
theorem lw_p16 : lw_okq (⟨"DodgingHangmanModel", "runs", "()Z"⟩, 12) := ⟨⟨by decide +kernel, by decide +kernel⟩, List.mem_of_getElem? (i := 549) (by decide +kernel), List.mem_of_getElem? (i := 618) (by decide +kernel), List.mem_of_getElem? (i := 619) (by decide +kernel)⟩
theorem lw_p17 : lw_okq (⟨"DodgingHangmanModel", "putAside", "()V"⟩, 12) := ⟨⟨by decide +kernel, by decide +kernel⟩, List.mem_of_getElem? (i := 549) (by decide +kernel), List.mem_of_getElem? (i := 622) (by decide +kernel), List.mem_of_getElem? (i := 623) (by decide +kernel)⟩
theorem lw_p18 : lw_okq (⟨"DodgingHangmanModel", "endOf", "(I)I"⟩, 12) := ⟨⟨by decide +kernel, by decide +kernel⟩, List.mem_of_getElem? (i := 549) (by decide +kernel), List.mem_of_getElem? (i := 626) (by decide +kernel), List.mem_of_getElem? (i := 627) (by decide +kernel)⟩
theorem lw_p19 : lw_okq (⟨"DodgingHangmanModel", "isIn", "(II)Z"⟩, 12) := ⟨⟨by decide +kernel, by decide +kernel⟩, List.mem_of_getElem? (i := 549) (by decide +kernel), List.mem_of_getElem? (i := 630) (by decide +kernel), List.mem_of_getElem? (i := 631) (by decide +kernel)⟩
theorem lw_p20 : lw_okq (⟨"DodgingHangmanModel", "placeFor", "(II)I"⟩, 12) := ⟨⟨by decide +kernel, by decide +kernel⟩, List.mem_of_getElem? (i := 549) (by decide +kernel), List.mem_of_getElem? (i := 634) (by decide +kernel), List.mem_of_getElem? (i := 635) (by decide +kernel)⟩
theorem lw_p21 : lw_okq (⟨"DodgingHangmanModel", "compares", "(III)I"⟩, 12) := ⟨⟨by decide +kernel, by decide +kernel⟩, List.mem_of_getElem? (i := 549) (by decide +kernel), List.mem_of_getElem? (i := 638) (by decide +kernel), List.mem_of_getElem? (i := 639) (by decide +kernel)⟩
theorem lw_p22 : lw_okq (⟨"DodgingHangmanModel", "letter", "(II)I"⟩, 12) := ⟨⟨by decide +kernel, by decide +kernel⟩, List.mem_of_getElem? (i := 549) (by decide +kernel), List.mem_of_getElem? (i := 642) (by decide +kernel), List.mem_of_getElem? (i := 643) (by decide +kernel)⟩
theorem lw_p23 : lw_okq (⟨"DodgingHangmanModel", "puts", "(II)V"⟩, 12) := ⟨⟨by decide +kernel, by decide +kernel⟩, List.mem_of_getElem? (i := 549) (by decide +kernel), List.mem_of_getElem? (i := 646) (by decide +kernel), List.mem_of_getElem? (i := 647) (by decide +kernel)⟩
theorem lw_p24 : lw_okq (⟨"DodgingHangmanModel", "putBack", "()V"⟩, 12) := ⟨⟨by decide +kernel, by decide +kernel⟩, List.mem_of_getElem? (i := 549) (by decide +kernel), List.mem_of_getElem? (i := 650) (by decide +kernel), List.mem_of_getElem? (i := 651) (by decide +kernel)⟩
theorem lw_p25 : lw_okq (⟨"DodgingHangmanModel", "savesAside", "()V"⟩, 12) := ⟨⟨by decide +kernel, by decide +kernel⟩, List.mem_of_getElem? (i := 549) (by decide +kernel), List.mem_of_getElem? (i := 654) (by decide +kernel), List.mem_of_getElem? (i := 655) (by decide +kernel)⟩
theorem lw_p26 : lw_okq (⟨"DodgingHangmanModel", "saves", "()V"⟩, 12) := ⟨⟨by decide +kernel, by decide +kernel⟩, List.mem_of_getElem? (i := 549) (by decide +kernel), List.mem_of_getElem? (i := 658) (by decide +kernel), List.mem_of_getElem? (i := 659) (by decide +kernel)⟩
theorem lw_p27 : lw_okq (⟨"DodgingHangmanModel", "noGame", "()V"⟩, 12) := ⟨⟨by decide +kernel, by decide +kernel⟩, List.mem_of_getElem? (i := 549) (by decide +kernel), List.mem_of_getElem? (i := 662) (by decide +kernel), List.mem_of_getElem? (i := 663) (by decide +kernel)⟩
theorem lw_p28 : lw_okq (⟨"DodgingHangmanModel", "ofLength", "(I)I"⟩, 12) := ⟨⟨by decide +kernel, by decide +kernel⟩, List.mem_of_getElem? (i := 549) (by decide +kernel), List.mem_of_getElem? (i := 686) (by decide +kernel), List.mem_of_getElem? (i := 687) (by decide +kernel)⟩
theorem lw_p29 : lw_okq (⟨"DodgingHangmanModel", "isGuessed", "(I)Z"⟩, 12) := ⟨⟨by decide +kernel, by decide +kernel⟩, List.mem_of_getElem? (i := 549) (by decide +kernel), List.mem_of_getElem? (i := 697) (by decide +kernel), List.mem_of_getElem? (i := 698) (by decide +kernel)⟩
theorem lw_p30 : lw_okq (⟨"DodgingHangmanModel", "guessesOn", "(I)I"⟩, 12) := ⟨⟨by decide +kernel, by decide +kernel⟩, List.mem_of_getElem? (i := 549) (by decide +kernel), List.mem_of_getElem? (i := 701) (by decide +kernel), List.mem_of_getElem? (i := 702) (by decide +kernel)⟩
theorem lw_p31 : lw_okq (⟨"DodgingHangmanModel", "laysFamilies", "(I)V"⟩, 12) := ⟨⟨by decide +kernel, by decide +kernel⟩, List.mem_of_getElem? (i := 549) (by decide +kernel), List.mem_of_getElem? (i := 705) (by decide +kernel), List.mem_of_getElem? (i := 706) (by decide +kernel)⟩
def lw_privs_2 : List (MethodName × Nat) := [(⟨"DodgingHangmanModel", "runs", "()Z"⟩, 12), (⟨"DodgingHangmanModel", "putAside", "()V"⟩, 12), (⟨"DodgingHangmanModel", "endOf", "(I)I"⟩, 12), (⟨"DodgingHangmanModel", "isIn", "(II)Z"⟩, 12), (⟨"DodgingHangmanModel", "placeFor", "(II)I"⟩, 12), (⟨"DodgingHangmanModel", "compares", "(III)I"⟩, 12), (⟨"DodgingHangmanModel", "letter", "(II)I"⟩, 12), (⟨"DodgingHangmanModel", "puts", "(II)V"⟩, 12), (⟨"DodgingHangmanModel", "putBack", "()V"⟩, 12), (⟨"DodgingHangmanModel", "savesAside", "()V"⟩, 12), (⟨"DodgingHangmanModel", "saves", "()V"⟩, 12), (⟨"DodgingHangmanModel", "noGame", "()V"⟩, 12), (⟨"DodgingHangmanModel", "ofLength", "(I)I"⟩, 12), (⟨"DodgingHangmanModel", "isGuessed", "(I)Z"⟩, 12), (⟨"DodgingHangmanModel", "guessesOn", "(I)I"⟩, 12), (⟨"DodgingHangmanModel", "laysFamilies", "(I)V"⟩, 12)]
theorem lw_r2 : ∀ q ∈ lw_privs_2, lw_okq q := List.forall_mem_cons.mpr ⟨lw_p16, List.forall_mem_cons.mpr ⟨lw_p17, List.forall_mem_cons.mpr ⟨lw_p18, List.forall_mem_cons.mpr ⟨lw_p19, List.forall_mem_cons.mpr ⟨lw_p20, List.forall_mem_cons.mpr ⟨lw_p21, List.forall_mem_cons.mpr ⟨lw_p22, List.forall_mem_cons.mpr ⟨lw_p23, List.forall_mem_cons.mpr ⟨lw_p24, List.forall_mem_cons.mpr ⟨lw_p25, List.forall_mem_cons.mpr ⟨lw_p26, List.forall_mem_cons.mpr ⟨lw_p27, List.forall_mem_cons.mpr ⟨lw_p28, List.forall_mem_cons.mpr ⟨lw_p29, List.forall_mem_cons.mpr ⟨lw_p30, List.forall_mem_cons.mpr ⟨lw_p31, fun _ h => absurd h List.not_mem_nil⟩⟩⟩⟩⟩⟩⟩⟩⟩⟩⟩⟩⟩⟩⟩⟩
theorem lw_p32 : lw_okq (⟨"DodgingHangmanModel", "isCandidate", "(I)Z"⟩, 12) := ⟨⟨by decide +kernel, by decide +kernel⟩, List.mem_of_getElem? (i := 549) (by decide +kernel), List.mem_of_getElem? (i := 709) (by decide +kernel), List.mem_of_getElem? (i := 710) (by decide +kernel)⟩
theorem lw_p33 : lw_okq (⟨"DodgingHangmanModel", "maskOf", "(II)I"⟩, 12) := ⟨⟨by decide +kernel, by decide +kernel⟩, List.mem_of_getElem? (i := 549) (by decide +kernel), List.mem_of_getElem? (i := 713) (by decide +kernel), List.mem_of_getElem? (i := 714) (by decide +kernel)⟩
theorem lw_p34 : lw_okq (⟨"DodgingHangmanModel", "familyWith", "(I)I"⟩, 12) := ⟨⟨by decide +kernel, by decide +kernel⟩, List.mem_of_getElem? (i := 549) (by decide +kernel), List.mem_of_getElem? (i := 717) (by decide +kernel), List.mem_of_getElem? (i := 718) (by decide +kernel)⟩
theorem lw_p35 : lw_okq (⟨"DodgingHangmanModel", "lettersOf", "(I)I"⟩, 12) := ⟨⟨by decide +kernel, by decide +kernel⟩, List.mem_of_getElem? (i := 549) (by decide +kernel), List.mem_of_getElem? (i := 721) (by decide +kernel), List.mem_of_getElem? (i := 722) (by decide +kernel)⟩
theorem lw_p36 : lw_okq (⟨"DodgingHangmanModel", "ranked", "(I)I"⟩, 12) := ⟨⟨by decide +kernel, by decide +kernel⟩, List.mem_of_getElem? (i := 549) (by decide +kernel), List.mem_of_getElem? (i := 725) (by decide +kernel), List.mem_of_getElem? (i := 726) (by decide +kernel)⟩
theorem lw_p37 : lw_okq (⟨"DodgingHangmanModel", "isAhead", "(II)Z"⟩, 12) := ⟨⟨by decide +kernel, by decide +kernel⟩, List.mem_of_getElem? (i := 549) (by decide +kernel), List.mem_of_getElem? (i := 729) (by decide +kernel), List.mem_of_getElem? (i := 730) (by decide +kernel)⟩
theorem lw_p38 : lw_okq (⟨"DodgingHangmanModel", "misses", "(Z)V"⟩, 12) := ⟨⟨by decide +kernel, by decide +kernel⟩, List.mem_of_getElem? (i := 549) (by decide +kernel), List.mem_of_getElem? (i := 733) (by decide +kernel), List.mem_of_getElem? (i := 734) (by decide +kernel)⟩
theorem lw_p39 : lw_okq (⟨"DodgingHangmanModel", "ends", "(I)V"⟩, 12) := ⟨⟨by decide +kernel, by decide +kernel⟩, List.mem_of_getElem? (i := 549) (by decide +kernel), List.mem_of_getElem? (i := 737) (by decide +kernel), List.mem_of_getElem? (i := 738) (by decide +kernel)⟩
theorem lw_p40 : lw_okq (⟨"DodgingHangmanModel", "isHidden", "()Z"⟩, 12) := ⟨⟨by decide +kernel, by decide +kernel⟩, List.mem_of_getElem? (i := 549) (by decide +kernel), List.mem_of_getElem? (i := 741) (by decide +kernel), List.mem_of_getElem? (i := 742) (by decide +kernel)⟩
theorem lw_p41 : lw_okq (⟨"DodgingHangmanModel", "bar", "(I)I"⟩, 12) := ⟨⟨by decide +kernel, by decide +kernel⟩, List.mem_of_getElem? (i := 549) (by decide +kernel), List.mem_of_getElem? (i := 788) (by decide +kernel), List.mem_of_getElem? (i := 789) (by decide +kernel)⟩
theorem lw_p42 : lw_okq (⟨"DodgingHangmanModel", "sure", "()I"⟩, 12) := ⟨⟨by decide +kernel, by decide +kernel⟩, List.mem_of_getElem? (i := 549) (by decide +kernel), List.mem_of_getElem? (i := 808) (by decide +kernel), List.mem_of_getElem? (i := 809) (by decide +kernel)⟩
theorem lw_p43 : lw_okq (⟨"DodgingHangmanModel", "best", "()I"⟩, 12) := ⟨⟨by decide +kernel, by decide +kernel⟩, List.mem_of_getElem? (i := 549) (by decide +kernel), List.mem_of_getElem? (i := 817) (by decide +kernel), List.mem_of_getElem? (i := 818) (by decide +kernel)⟩
def lw_privs_3 : List (MethodName × Nat) := [(⟨"DodgingHangmanModel", "isCandidate", "(I)Z"⟩, 12), (⟨"DodgingHangmanModel", "maskOf", "(II)I"⟩, 12), (⟨"DodgingHangmanModel", "familyWith", "(I)I"⟩, 12), (⟨"DodgingHangmanModel", "lettersOf", "(I)I"⟩, 12), (⟨"DodgingHangmanModel", "ranked", "(I)I"⟩, 12), (⟨"DodgingHangmanModel", "isAhead", "(II)Z"⟩, 12), (⟨"DodgingHangmanModel", "misses", "(Z)V"⟩, 12), (⟨"DodgingHangmanModel", "ends", "(I)V"⟩, 12), (⟨"DodgingHangmanModel", "isHidden", "()Z"⟩, 12), (⟨"DodgingHangmanModel", "bar", "(I)I"⟩, 12), (⟨"DodgingHangmanModel", "sure", "()I"⟩, 12), (⟨"DodgingHangmanModel", "best", "()I"⟩, 12)]
theorem lw_r3 : ∀ q ∈ lw_privs_3, lw_okq q := List.forall_mem_cons.mpr ⟨lw_p32, List.forall_mem_cons.mpr ⟨lw_p33, List.forall_mem_cons.mpr ⟨lw_p34, List.forall_mem_cons.mpr ⟨lw_p35, List.forall_mem_cons.mpr ⟨lw_p36, List.forall_mem_cons.mpr ⟨lw_p37, List.forall_mem_cons.mpr ⟨lw_p38, List.forall_mem_cons.mpr ⟨lw_p39, List.forall_mem_cons.mpr ⟨lw_p40, List.forall_mem_cons.mpr ⟨lw_p41, List.forall_mem_cons.mpr ⟨lw_p42, List.forall_mem_cons.mpr ⟨lw_p43, fun _ h => absurd h List.not_mem_nil⟩⟩⟩⟩⟩⟩⟩⟩⟩⟩⟩⟩
def lw_privs : List (MethodName × Nat) := lw_privs_1 ++ (lw_privs_2 ++ (lw_privs_3))
def lw_tbl : List Cond := k2_sels lw_privs ++ tables_1
theorem lw_privs_ok : ∀ q ∈ lw_privs, lw_okq q := by
  show ∀ q ∈ lw_privs_1 ++ (lw_privs_2 ++ (lw_privs_3)), lw_okq q
  exact List.forall_mem_append.mpr ⟨lw_r1, List.forall_mem_append.mpr ⟨lw_r2, lw_r3⟩⟩
-- ===== end of PART A; then your names; then what follows =====
/-! ===== BEGIN words of one list among another's, by their places ===== -/
theorem goodIn_r {big : List Cond} (ws : List Cond) (ps : List Nat) (hp : ws = ps.filterMap (fun i => big[i]?)) (h : ws.all goodWord = true) : GoodIn big ws := by
  intro w hw
  have h1 := List.all_eq_true.mp h w hw
  rw [hp] at hw
  obtain ⟨i, -, hi⟩ := List.mem_filterMap.mp hw
  have hm : w ∈ big := by first | exact List.mem_of_getElem? hi | exact List.getElem?_mem hi
  exact ⟨hm, good_of_word h1⟩
theorem goodIn_app {big a b : List Cond} (ha : GoodIn big a) (hb : GoodIn big b) : GoodIn big (a ++ b) := fun w h => (List.mem_append.mp h).elim (ha w) (hb w)
theorem goodIn_ca {big a b : List Cond} {c : Cond} (ha : GoodIn big (c :: a)) (hb : GoodIn big b) : GoodIn big (c :: (a ++ b)) := fun w h => (List.mem_cons.mp h).elim (fun e => ha w (List.mem_cons.mpr (Or.inl e))) (fun h => (List.mem_append.mp h).elim (fun h => ha w (List.mem_cons.mpr (Or.inr h))) (hb w))
theorem goodIn_sub {big ws : List Cond} (hm : ∀ w ∈ ws, w ∈ big) (h : ws.all goodWord = true) : GoodIn big ws := fun w hw => ⟨hm w hw, good_of_word (List.all_eq_true.mp h w hw)⟩
/-! ===== END ===== -/

/-! ===== BEGIN printed: names, fields, word lists, decode rows ===== -/
def RX0 : String := "DodgingHangman$Families"
def TX0 : u_T := fun k => match k with
  | 0 => ("DodgingHangman$Families", "masks", "[I", true)
  | 1 => ("DodgingHangman$Families", "members", "[I", true)
  | 2 => ("DodgingHangman$Families", "freshLetters", "[I", true)
  | 3 => ("DodgingHangman$Families", "count", "I", false)
  | _ => ("DodgingHangman$Families", "policy", "I", false)
def tyX0 : Nat → FieldType := fun k => match k with
  | 0 => .array .int
  | 1 => .array .int
  | 2 => .array .int
  | 3 => .int
  | _ => .int
abbrev wsX00 : List Cond := u_ws RX0 TX0 5
theorem nmX0 : ∀ a, a < 5 → ∀ b, b < 5 → a ≠ b → (TX0 a).2.1 ≠ (TX0 b).2.1 := by decide +kernel
theorem tyX0_ok : ∀ k, k < 5 → parseFieldDescriptor (TX0 k).2.2.1 = some (tyX0 k) := by decide +kernel
abbrev cX0_init : ByteArray := prog_2_method_1_code
def yX0_init : MethodName := ⟨RX0, "<init>", "()V"⟩
abbrev cX0_make : ByteArray := prog_2_method_2_code
def yX0_make : MethodName := ⟨RX0, "make", "(LDodgingHangman$State;I)V"⟩
abbrev cX0_put : ByteArray := prog_2_method_3_code
def yX0_put : MethodName := ⟨RX0, "put", "(III)V"⟩
abbrev cX0_has : ByteArray := prog_2_method_4_code
def yX0_has : MethodName := ⟨RX0, "has", "(I)Z"⟩
abbrev cX0_maskOf : ByteArray := prog_2_method_5_code
def yX0_maskOf : MethodName := ⟨RX0, "maskOf", "(I)I"⟩
abbrev cX0_membersOf : ByteArray := prog_2_method_6_code
def yX0_membersOf : MethodName := ⟨RX0, "membersOf", "(I)I"⟩
abbrev cX0_sizeOf : ByteArray := prog_2_method_7_code
def yX0_sizeOf : MethodName := ⟨RX0, "sizeOf", "(I)I"⟩
abbrev cX0_freshnessOf : ByteArray := prog_2_method_8_code
def yX0_freshnessOf : MethodName := ⟨RX0, "freshnessOf", "(I)I"⟩
abbrev cX0_squares : ByteArray := prog_2_method_9_code
def yX0_squares : MethodName := ⟨RX0, "squares", "()I"⟩
abbrev cX0_ranked : ByteArray := prog_2_method_10_code
def yX0_ranked : MethodName := ⟨RX0, "ranked", "(I)I"⟩
abbrev cX0_betterThan : ByteArray := prog_2_method_11_code
def yX0_betterThan : MethodName := ⟨RX0, "betterThan", "(I)I"⟩
abbrev cX0_isBetter : ByteArray := prog_2_method_12_code
def yX0_isBetter : MethodName := ⟨RX0, "isBetter", "(II)Z"⟩
def RX1 : String := "DodgingHangman$SavedStates"
def TX1 : u_T := fun k => match k with
  | 0 => ("DodgingHangman$SavedStates", "ring", "[LDodgingHangman$State;", true)
  | 1 => ("DodgingHangman$SavedStates", "next", "I", false)
  | _ => ("DodgingHangman$SavedStates", "count", "I", false)
def tyX1 : Nat → FieldType := fun k => match k with
  | 0 => .array (.object "DodgingHangman$State")
  | 1 => .int
  | _ => .int
abbrev wsX10 : List Cond := u_ws RX1 TX1 3
theorem nmX1 : ∀ a, a < 3 → ∀ b, b < 3 → a ≠ b → (TX1 a).2.1 ≠ (TX1 b).2.1 := by decide +kernel
theorem tyX1_ok : ∀ k, k < 3 → parseFieldDescriptor (TX1 k).2.2.1 = some (tyX1 k) := by decide +kernel
abbrev cX1_init : ByteArray := prog_3_method_1_code
def yX1_init : MethodName := ⟨RX1, "<init>", "()V"⟩
abbrev cX1_push : ByteArray := prog_3_method_2_code
def yX1_push : MethodName := ⟨RX1, "push", "(LDodgingHangman$State;)V"⟩
abbrev cX1_popInto : ByteArray := prog_3_method_3_code
def yX1_popInto : MethodName := ⟨RX1, "popInto", "(LDodgingHangman$State;)Z"⟩
def RX2 : String := "DodgingHangman$State"
def TX2 : u_T := fun k => match k with
  | 0 => ("DodgingHangman$State", "list", "[J", true)
  | 1 => ("DodgingHangman$State", "lettersInOrder", "[I", true)
  | 2 => ("DodgingHangman$State", "totals", "[I", true)
  | 3 => ("DodgingHangman$State", "wordCount", "I", false)
  | 4 => ("DodgingHangman$State", "policy", "I", false)
  | 5 => ("DodgingHangman$State", "status", "I", false)
  | 6 => ("DodgingHangman$State", "length", "I", false)
  | 7 => ("DodgingHangman$State", "lives", "I", false)
  | 8 => ("DodgingHangman$State", "candidates", "I", false)
  | 9 => ("DodgingHangman$State", "guessed", "I", false)
  | 10 => ("DodgingHangman$State", "guessCount", "I", false)
  | _ => ("DodgingHangman$State", "pattern", "J", false)
def tyX2 : Nat → FieldType := fun k => match k with
  | 0 => .array .long
  | 1 => .array .int
  | 2 => .array .int
  | 3 => .int
  | 4 => .int
  | 5 => .int
  | 6 => .int
  | 7 => .int
  | 8 => .int
  | 9 => .int
  | 10 => .int
  | _ => .long
abbrev wsX20 : List Cond := u_ws RX2 TX2 12
theorem nmX2 : ∀ a, a < 12 → ∀ b, b < 12 → a ≠ b → (TX2 a).2.1 ≠ (TX2 b).2.1 := by decide +kernel
theorem tyX2_ok : ∀ k, k < 12 → parseFieldDescriptor (TX2 k).2.2.1 = some (tyX2 k) := by decide +kernel
abbrev cX2_init : ByteArray := prog_4_method_1_code
def yX2_init : MethodName := ⟨RX2, "<init>", "()V"⟩
abbrev cX2_copyFrom : ByteArray := prog_4_method_2_code
def yX2_copyFrom : MethodName := ⟨RX2, "copyFrom", "(LDodgingHangman$State;)V"⟩
abbrev cX2_hasWord : ByteArray := prog_4_method_3_code
def yX2_hasWord : MethodName := ⟨RX2, "hasWord", "(I)Z"⟩
abbrev cX2_wordAt : ByteArray := prog_4_method_4_code
def yX2_wordAt : MethodName := ⟨RX2, "wordAt", "(I)J"⟩
abbrev cX2_isInList : ByteArray := prog_4_method_5_code
def yX2_isInList : MethodName := ⟨RX2, "isInList", "(J)Z"⟩
abbrev cX2_numberOf : ByteArray := prog_4_method_6_code
def yX2_numberOf : MethodName := ⟨RX2, "numberOf", "(J)I"⟩
abbrev cX2_insert : ByteArray := prog_4_method_7_code
def yX2_insert : MethodName := ⟨RX2, "insert", "(J)Z"⟩
abbrev cX2_remove : ByteArray := prog_4_method_8_code
def yX2_remove : MethodName := ⟨RX2, "remove", "(I)V"⟩
abbrev cX2_wordsOfLength : ByteArray := prog_4_method_9_code
def yX2_wordsOfLength : MethodName := ⟨RX2, "wordsOfLength", "(I)I"⟩
abbrev cX2_isRunning : ByteArray := prog_4_method_10_code
def yX2_isRunning : MethodName := ⟨RX2, "isRunning", "()Z"⟩
abbrev cX2_isCandidate : ByteArray := prog_4_method_11_code
def yX2_isCandidate : MethodName := ⟨RX2, "isCandidate", "(I)Z"⟩
abbrev cX2_wasGuessed : ByteArray := prog_4_method_12_code
def yX2_wasGuessed : MethodName := ⟨RX2, "wasGuessed", "(I)Z"⟩
abbrev cX2_guessedAt : ByteArray := prog_4_method_13_code
def yX2_guessedAt : MethodName := ⟨RX2, "guessedAt", "(I)I"⟩
abbrev cX2_candidatesWith : ByteArray := prog_4_method_14_code
def yX2_candidatesWith : MethodName := ⟨RX2, "candidatesWith", "(I)I"⟩
abbrev cX2_lettersOfAll : ByteArray := prog_4_method_15_code
def yX2_lettersOfAll : MethodName := ⟨RX2, "lettersOfAll", "()I"⟩
abbrev cX2_totalOf : ByteArray := prog_4_method_16_code
def yX2_totalOf : MethodName := ⟨RX2, "totalOf", "(I)I"⟩
abbrev cX2_count : ByteArray := prog_4_method_17_code
def yX2_count : MethodName := ⟨RX2, "count", "(I)V"⟩
abbrev cX2_begin : ByteArray := prog_4_method_18_code
def yX2_begin : MethodName := ⟨RX2, "begin", "(III)V"⟩
abbrev cX2_endWithoutGame : ByteArray := prog_4_method_19_code
def yX2_endWithoutGame : MethodName := ⟨RX2, "endWithoutGame", "()V"⟩
abbrev cX2_takeLetter : ByteArray := prog_4_method_20_code
def yX2_takeLetter : MethodName := ⟨RX2, "takeLetter", "(III)V"⟩
abbrev cX2_noteGuess : ByteArray := prog_4_method_21_code
def yX2_noteGuess : MethodName := ⟨RX2, "noteGuess", "(I)V"⟩
abbrev cX2_takeWord : ByteArray := prog_4_method_22_code
def yX2_takeWord : MethodName := ⟨RX2, "takeWord", "(J)V"⟩
abbrev cX2_miss : ByteArray := prog_4_method_23_code
def yX2_miss : MethodName := ⟨RX2, "miss", "(Z)V"⟩
abbrev cX2_win : ByteArray := prog_4_method_24_code
def yX2_win : MethodName := ⟨RX2, "win", "()V"⟩
abbrev cX2_lose : ByteArray := prog_4_method_25_code
def yX2_lose : MethodName := ⟨RX2, "lose", "()V"⟩
def RX3 : String := "DodgingHangman$Text"
def TX3 : u_T := fun k => match k with
  | 0 => ("DodgingHangman$Text", "signs", "[C", true)
  | 1 => ("DodgingHangman$Text", "wordsRead", "[J", true)
  | _ => ("DodgingHangman$Text", "length", "I", false)
def tyX3 : Nat → FieldType := fun k => match k with
  | 0 => .array .char
  | 1 => .array .long
  | _ => .int
abbrev wsX30 : List Cond := u_ws RX3 TX3 3
theorem nmX3 : ∀ a, a < 3 → ∀ b, b < 3 → a ≠ b → (TX3 a).2.1 ≠ (TX3 b).2.1 := by decide +kernel
theorem tyX3_ok : ∀ k, k < 3 → parseFieldDescriptor (TX3 k).2.2.1 = some (tyX3 k) := by decide +kernel
abbrev cX3_init : ByteArray := prog_5_method_1_code
def yX3_init : MethodName := ⟨RX3, "<init>", "()V"⟩
abbrev cX3_append : ByteArray := prog_5_method_2_code
def yX3_append : MethodName := ⟨RX3, "append", "(C)Z"⟩
abbrev cX3_empty : ByteArray := prog_5_method_3_code
def yX3_empty : MethodName := ⟨RX3, "empty", "()V"⟩
abbrev cX3_signAt : ByteArray := prog_5_method_4_code
def yX3_signAt : MethodName := ⟨RX3, "signAt", "(I)I"⟩
abbrev cX3_firstError : ByteArray := prog_5_method_5_code
def yX3_firstError : MethodName := ⟨RX3, "firstError", "()I"⟩
abbrev cX3_readWords : ByteArray := prog_5_method_6_code
def yX3_readWords : MethodName := ⟨RX3, "readWords", "()I"⟩
abbrev cX3_keepRead : ByteArray := prog_5_method_7_code
def yX3_keepRead : MethodName := ⟨RX3, "keepRead", "(IJ)I"⟩
abbrev cX3_wordRead : ByteArray := prog_5_method_8_code
def yX3_wordRead : MethodName := ⟨RX3, "wordRead", "(I)J"⟩
def RX4 : String := "DodgingHangman$Word"
def TX4 : u_T := fun k => match k with
  | _ => ("", "", "", false)
def tyX4 : Nat → FieldType := fun k => match k with
  | _ => .int
abbrev wsX40 : List Cond := u_ws RX4 TX4 0
theorem nmX4 : ∀ a, a < 0 → ∀ b, b < 0 → a ≠ b → (TX4 a).2.1 ≠ (TX4 b).2.1 := by decide +kernel
theorem tyX4_ok : ∀ k, k < 0 → parseFieldDescriptor (TX4 k).2.2.1 = some (tyX4 k) := by decide +kernel
abbrev cX4_letterAt : ByteArray := prog_6_method_2_code
def yX4_letterAt : MethodName := ⟨RX4, "letterAt", "(JI)I"⟩
abbrev cX4_withLetter : ByteArray := prog_6_method_3_code
def yX4_withLetter : MethodName := ⟨RX4, "withLetter", "(JII)J"⟩
abbrev cX4_shiftOf : ByteArray := prog_6_method_4_code
def yX4_shiftOf : MethodName := ⟨RX4, "shiftOf", "(I)I"⟩
abbrev cX4_lengthOf : ByteArray := prog_6_method_5_code
def yX4_lengthOf : MethodName := ⟨RX4, "lengthOf", "(J)I"⟩
abbrev cX4_maskOf : ByteArray := prog_6_method_6_code
def yX4_maskOf : MethodName := ⟨RX4, "maskOf", "(JI)I"⟩
abbrev cX4_lettersOf : ByteArray := prog_6_method_7_code
def yX4_lettersOf : MethodName := ⟨RX4, "lettersOf", "(J)I"⟩
def RX5 : String := "DodgingHangman"
def TX5 : u_T := fun k => match k with
  | 0 => ("DodgingHangman", "text", "LDodgingHangman$Text;", true)
  | 1 => ("DodgingHangman", "now", "LDodgingHangman$State;", true)
  | 2 => ("DodgingHangman", "saved", "LDodgingHangman$SavedStates;", true)
  | 3 => ("DodgingHangman", "draft", "LDodgingHangman$State;", true)
  | _ => ("DodgingHangman", "split", "LDodgingHangman$Families;", true)
def tyX5 : Nat → FieldType := fun k => match k with
  | 0 => .object "DodgingHangman$Text"
  | 1 => .object "DodgingHangman$State"
  | 2 => .object "DodgingHangman$SavedStates"
  | 3 => .object "DodgingHangman$State"
  | _ => .object "DodgingHangman$Families"
abbrev wsX50 : List Cond := u_ws RX5 TX5 5
theorem nmX5 : ∀ a, a < 5 → ∀ b, b < 5 → a ≠ b → (TX5 a).2.1 ≠ (TX5 b).2.1 := by decide +kernel
theorem tyX5_ok : ∀ k, k < 5 → parseFieldDescriptor (TX5 k).2.2.1 = some (tyX5 k) := by decide +kernel
abbrev cX5_init : ByteArray := prog_1_method_1_code
def yX5_init : MethodName := ⟨RX5, "<init>", "()V"⟩
abbrev cX5_type : ByteArray := prog_1_method_2_code
def yX5_type : MethodName := ⟨RX5, "type", "(I)I"⟩
abbrev cX5_clearText : ByteArray := prog_1_method_3_code
def yX5_clearText : MethodName := ⟨RX5, "clearText", "()I"⟩
abbrev cX5_syntaxError : ByteArray := prog_1_method_4_code
def yX5_syntaxError : MethodName := ⟨RX5, "syntaxError", "()I"⟩
abbrev cX5_addWords : ByteArray := prog_1_method_5_code
def yX5_addWords : MethodName := ⟨RX5, "addWords", "()I"⟩
abbrev cX5_removeWord : ByteArray := prog_1_method_6_code
def yX5_removeWord : MethodName := ⟨RX5, "removeWord", "(I)I"⟩
abbrev cX5_words : ByteArray := prog_1_method_7_code
def yX5_words : MethodName := ⟨RX5, "words", "()I"⟩
abbrev cX5_letterOf : ByteArray := prog_1_method_8_code
def yX5_letterOf : MethodName := ⟨RX5, "letterOf", "(II)I"⟩
abbrev cX5_setPolicy : ByteArray := prog_1_method_9_code
def yX5_setPolicy : MethodName := ⟨RX5, "setPolicy", "(I)I"⟩
abbrev cX5_start : ByteArray := prog_1_method_10_code
def yX5_start : MethodName := ⟨RX5, "start", "(II)I"⟩
abbrev cX5_guess : ByteArray := prog_1_method_11_code
def yX5_guess : MethodName := ⟨RX5, "guess", "(I)I"⟩
abbrev cX5_guessWord : ByteArray := prog_1_method_12_code
def yX5_guessWord : MethodName := ⟨RX5, "guessWord", "()I"⟩
abbrev cX5_giveUp : ByteArray := prog_1_method_13_code
def yX5_giveUp : MethodName := ⟨RX5, "giveUp", "()I"⟩
abbrev cX5_status : ByteArray := prog_1_method_14_code
def yX5_status : MethodName := ⟨RX5, "status", "()I"⟩
abbrev cX5_lives : ByteArray := prog_1_method_15_code
def yX5_lives : MethodName := ⟨RX5, "lives", "()I"⟩
abbrev cX5_shown : ByteArray := prog_1_method_16_code
def yX5_shown : MethodName := ⟨RX5, "shown", "(I)I"⟩
abbrev cX5_candidates : ByteArray := prog_1_method_17_code
def yX5_candidates : MethodName := ⟨RX5, "candidates", "()I"⟩
abbrev cX5_candidate : ByteArray := prog_1_method_18_code
def yX5_candidate : MethodName := ⟨RX5, "candidate", "(I)I"⟩
abbrev cX5_guesses : ByteArray := prog_1_method_19_code
def yX5_guesses : MethodName := ⟨RX5, "guesses", "()I"⟩
abbrev cX5_guessAt : ByteArray := prog_1_method_20_code
def yX5_guessAt : MethodName := ⟨RX5, "guessAt", "(I)I"⟩
abbrev cX5_families : ByteArray := prog_1_method_21_code
def yX5_families : MethodName := ⟨RX5, "families", "(I)I"⟩
abbrev cX5_family : ByteArray := prog_1_method_22_code
def yX5_family : MethodName := ⟨RX5, "family", "(III)I"⟩
abbrev cX5_spread : ByteArray := prog_1_method_23_code
def yX5_spread : MethodName := ⟨RX5, "spread", "(I)I"⟩
abbrev cX5_having : ByteArray := prog_1_method_24_code
def yX5_having : MethodName := ⟨RX5, "having", "(I)I"⟩
abbrev cX5_sureLetters : ByteArray := prog_1_method_25_code
def yX5_sureLetters : MethodName := ⟨RX5, "sureLetters", "()I"⟩
abbrev cX5_bestGuess : ByteArray := prog_1_method_26_code
def yX5_bestGuess : MethodName := ⟨RX5, "bestGuess", "()I"⟩
abbrev cX5_missesAhead : ByteArray := prog_1_method_27_code
def yX5_missesAhead : MethodName := ⟨RX5, "missesAhead", "()I"⟩
abbrev cX5_total : ByteArray := prog_1_method_28_code
def yX5_total : MethodName := ⟨RX5, "total", "(I)I"⟩
abbrev cX5_undo : ByteArray := prog_1_method_29_code
def yX5_undo : MethodName := ⟨RX5, "undo", "()I"⟩
abbrev cX5_digest : ByteArray := prog_1_method_30_code
def yX5_digest : MethodName := ⟨RX5, "digest", "()J"⟩
abbrev cX5_hashOfList : ByteArray := prog_1_method_31_code
def yX5_hashOfList : MethodName := ⟨RX5, "hashOfList", "(J)J"⟩
abbrev cX5_hashOfGame : ByteArray := prog_1_method_32_code
def yX5_hashOfGame : MethodName := ⟨RX5, "hashOfGame", "(J)J"⟩
abbrev cX5_mixed : ByteArray := prog_1_method_33_code
def yX5_mixed : MethodName := ⟨RX5, "mixed", "(JJ)J"⟩
abbrev cX5_addTextTo : ByteArray := prog_1_method_34_code
def yX5_addTextTo : MethodName := ⟨RX5, "addTextTo", "(LDodgingHangman$State;)Z"⟩
abbrev cX5_play : ByteArray := prog_1_method_35_code
def yX5_play : MethodName := ⟨RX5, "play", "(LDodgingHangman$State;I)I"⟩
abbrev cX5_bestLetter : ByteArray := prog_1_method_36_code
def yX5_bestLetter : MethodName := ⟨RX5, "bestLetter", "(LDodgingHangman$State;)I"⟩
abbrev cX5_faultOfAsking : ByteArray := prog_1_method_37_code
def yX5_faultOfAsking : MethodName := ⟨RX5, "faultOfAsking", "(I)I"⟩
abbrev cX5_isLetter : ByteArray := prog_1_method_38_code
def yX5_isLetter : MethodName := ⟨RX5, "isLetter", "(I)Z"⟩
abbrev cX5_bitOf : ByteArray := prog_1_method_39_code
def yX5_bitOf : MethodName := ⟨RX5, "bitOf", "(I)I"⟩
abbrev cX5_memberAt : ByteArray := prog_1_method_40_code
def yX5_memberAt : MethodName := ⟨RX5, "memberAt", "(II)I"⟩
def RX6 : String := "DodgingHangmanModel"
def TX6 : u_T := fun k => match k with
  | 0 => ("DodgingHangmanModel", "s", "[I", true)
  | 1 => ("DodgingHangmanModel", "aside", "[I", true)
  | 2 => ("DodgingHangmanModel", "before", "[I", true)
  | 3 => ("DodgingHangmanModel", "saved", "I", false)
  | 4 => ("DodgingHangmanModel", "text", "[I", true)
  | 5 => ("DodgingHangmanModel", "typed", "I", false)
  | 6 => ("DodgingHangmanModel", "many", "I", false)
  | 7 => ("DodgingHangmanModel", "mask", "[I", true)
  | 8 => ("DodgingHangmanModel", "members", "[I", true)
  | 9 => ("DodgingHangmanModel", "size", "[I", true)
  | 10 => ("DodgingHangmanModel", "places", "[I", true)
  | _ => ("DodgingHangmanModel", "fresh", "[I", true)
def tyX6 : Nat → FieldType := fun k => match k with
  | 0 => .array .int
  | 1 => .array .int
  | 2 => .array .int
  | 3 => .int
  | 4 => .array .int
  | 5 => .int
  | 6 => .int
  | 7 => .array .int
  | 8 => .array .int
  | 9 => .array .int
  | 10 => .array .int
  | _ => .array .int
abbrev wsX60 : List Cond := u_ws RX6 TX6 12
theorem nmX6 : ∀ a, a < 12 → ∀ b, b < 12 → a ≠ b → (TX6 a).2.1 ≠ (TX6 b).2.1 := by decide +kernel
theorem tyX6_ok : ∀ k, k < 12 → parseFieldDescriptor (TX6 k).2.2.1 = some (tyX6 k) := by decide +kernel
abbrev cX6_init : ByteArray := prog_8_method_1_code
def yX6_init : MethodName := ⟨RX6, "<init>", "()V"⟩
abbrev cX6_in : ByteArray := prog_8_method_3_code
def yX6_in : MethodName := ⟨RX6, "in", "(III)Z"⟩
abbrev cX6_isLetter : ByteArray := prog_8_method_4_code
def yX6_isLetter : MethodName := ⟨RX6, "isLetter", "(I)Z"⟩
abbrev cX6_bits : ByteArray := prog_8_method_5_code
def yX6_bits : MethodName := ⟨RX6, "bits", "(I)I"⟩
abbrev cX6_lowest : ByteArray := prog_8_method_6_code
def yX6_lowest : MethodName := ⟨RX6, "lowest", "(I)I"⟩
abbrev cX6_saves : ByteArray := prog_8_method_7_code
def yX6_saves : MethodName := ⟨RX6, "saves", "()V"⟩
abbrev cX6_putAside : ByteArray := prog_8_method_8_code
def yX6_putAside : MethodName := ⟨RX6, "putAside", "()V"⟩
abbrev cX6_putBack : ByteArray := prog_8_method_9_code
def yX6_putBack : MethodName := ⟨RX6, "putBack", "()V"⟩
abbrev cX6_letter : ByteArray := prog_8_method_10_code
def yX6_letter : MethodName := ⟨RX6, "letter", "(II)I"⟩
abbrev cX6_isCandidate : ByteArray := prog_8_method_11_code
def yX6_isCandidate : MethodName := ⟨RX6, "isCandidate", "(I)Z"⟩
abbrev cX6_isGuessed : ByteArray := prog_8_method_12_code
def yX6_isGuessed : MethodName := ⟨RX6, "isGuessed", "(I)Z"⟩
abbrev cX6_runs : ByteArray := prog_8_method_13_code
def yX6_runs : MethodName := ⟨RX6, "runs", "()Z"⟩
abbrev cX6_type : ByteArray := prog_8_method_14_code
def yX6_type : MethodName := ⟨RX6, "type", "(I)I"⟩
abbrev cX6_clearText : ByteArray := prog_8_method_15_code
def yX6_clearText : MethodName := ⟨RX6, "clearText", "()I"⟩
abbrev cX6_error : ByteArray := prog_8_method_16_code
def yX6_error : MethodName := ⟨RX6, "error", "()I"⟩
abbrev cX6_syntaxError : ByteArray := prog_8_method_17_code
def yX6_syntaxError : MethodName := ⟨RX6, "syntaxError", "()I"⟩
abbrev cX6_endOf : ByteArray := prog_8_method_18_code
def yX6_endOf : MethodName := ⟨RX6, "endOf", "(I)I"⟩
abbrev cX6_compares : ByteArray := prog_8_method_19_code
def yX6_compares : MethodName := ⟨RX6, "compares", "(III)I"⟩
abbrev cX6_placeFor : ByteArray := prog_8_method_20_code
def yX6_placeFor : MethodName := ⟨RX6, "placeFor", "(II)I"⟩
abbrev cX6_isIn : ByteArray := prog_8_method_21_code
def yX6_isIn : MethodName := ⟨RX6, "isIn", "(II)Z"⟩
abbrev cX6_noGame : ByteArray := prog_8_method_22_code
def yX6_noGame : MethodName := ⟨RX6, "noGame", "()V"⟩
abbrev cX6_puts : ByteArray := prog_8_method_23_code
def yX6_puts : MethodName := ⟨RX6, "puts", "(II)V"⟩
abbrev cX6_addWords : ByteArray := prog_8_method_24_code
def yX6_addWords : MethodName := ⟨RX6, "addWords", "()I"⟩
abbrev cX6_savesAside : ByteArray := prog_8_method_25_code
def yX6_savesAside : MethodName := ⟨RX6, "savesAside", "()V"⟩
abbrev cX6_removeWord : ByteArray := prog_8_method_26_code
def yX6_removeWord : MethodName := ⟨RX6, "removeWord", "(I)I"⟩
abbrev cX6_words : ByteArray := prog_8_method_27_code
def yX6_words : MethodName := ⟨RX6, "words", "()I"⟩
abbrev cX6_letterOf : ByteArray := prog_8_method_28_code
def yX6_letterOf : MethodName := ⟨RX6, "letterOf", "(II)I"⟩
abbrev cX6_maskOf : ByteArray := prog_8_method_29_code
def yX6_maskOf : MethodName := ⟨RX6, "maskOf", "(II)I"⟩
abbrev cX6_lettersOf : ByteArray := prog_8_method_30_code
def yX6_lettersOf : MethodName := ⟨RX6, "lettersOf", "(I)I"⟩
abbrev cX6_familyWith : ByteArray := prog_8_method_31_code
def yX6_familyWith : MethodName := ⟨RX6, "familyWith", "(I)I"⟩
abbrev cX6_laysFamilies : ByteArray := prog_8_method_32_code
def yX6_laysFamilies : MethodName := ⟨RX6, "laysFamilies", "(I)V"⟩
abbrev cX6_isAhead : ByteArray := prog_8_method_33_code
def yX6_isAhead : MethodName := ⟨RX6, "isAhead", "(II)Z"⟩
abbrev cX6_ranked : ByteArray := prog_8_method_34_code
def yX6_ranked : MethodName := ⟨RX6, "ranked", "(I)I"⟩
abbrev cX6_setPolicy : ByteArray := prog_8_method_35_code
def yX6_setPolicy : MethodName := ⟨RX6, "setPolicy", "(I)I"⟩
abbrev cX6_ofLength : ByteArray := prog_8_method_36_code
def yX6_ofLength : MethodName := ⟨RX6, "ofLength", "(I)I"⟩
abbrev cX6_start : ByteArray := prog_8_method_37_code
def yX6_start : MethodName := ⟨RX6, "start", "(II)I"⟩
abbrev cX6_ends : ByteArray := prog_8_method_38_code
def yX6_ends : MethodName := ⟨RX6, "ends", "(I)V"⟩
abbrev cX6_misses : ByteArray := prog_8_method_39_code
def yX6_misses : MethodName := ⟨RX6, "misses", "(Z)V"⟩
abbrev cX6_isHidden : ByteArray := prog_8_method_40_code
def yX6_isHidden : MethodName := ⟨RX6, "isHidden", "()Z"⟩
abbrev cX6_guessesOn : ByteArray := prog_8_method_41_code
def yX6_guessesOn : MethodName := ⟨RX6, "guessesOn", "(I)I"⟩
abbrev cX6_guess : ByteArray := prog_8_method_42_code
def yX6_guess : MethodName := ⟨RX6, "guess", "(I)I"⟩
abbrev cX6_guessWord : ByteArray := prog_8_method_43_code
def yX6_guessWord : MethodName := ⟨RX6, "guessWord", "()I"⟩
abbrev cX6_giveUp : ByteArray := prog_8_method_44_code
def yX6_giveUp : MethodName := ⟨RX6, "giveUp", "()I"⟩
abbrev cX6_status : ByteArray := prog_8_method_45_code
def yX6_status : MethodName := ⟨RX6, "status", "()I"⟩
abbrev cX6_lives : ByteArray := prog_8_method_46_code
def yX6_lives : MethodName := ⟨RX6, "lives", "()I"⟩
abbrev cX6_shown : ByteArray := prog_8_method_47_code
def yX6_shown : MethodName := ⟨RX6, "shown", "(I)I"⟩
abbrev cX6_candidates : ByteArray := prog_8_method_48_code
def yX6_candidates : MethodName := ⟨RX6, "candidates", "()I"⟩
abbrev cX6_candidate : ByteArray := prog_8_method_49_code
def yX6_candidate : MethodName := ⟨RX6, "candidate", "(I)I"⟩
abbrev cX6_guesses : ByteArray := prog_8_method_50_code
def yX6_guesses : MethodName := ⟨RX6, "guesses", "()I"⟩
abbrev cX6_guessAt : ByteArray := prog_8_method_51_code
def yX6_guessAt : MethodName := ⟨RX6, "guessAt", "(I)I"⟩
abbrev cX6_bar : ByteArray := prog_8_method_52_code
def yX6_bar : MethodName := ⟨RX6, "bar", "(I)I"⟩
abbrev cX6_families : ByteArray := prog_8_method_53_code
def yX6_families : MethodName := ⟨RX6, "families", "(I)I"⟩
abbrev cX6_family : ByteArray := prog_8_method_54_code
def yX6_family : MethodName := ⟨RX6, "family", "(III)I"⟩
abbrev cX6_spread : ByteArray := prog_8_method_55_code
def yX6_spread : MethodName := ⟨RX6, "spread", "(I)I"⟩
abbrev cX6_having : ByteArray := prog_8_method_56_code
def yX6_having : MethodName := ⟨RX6, "having", "(I)I"⟩
abbrev cX6_sure : ByteArray := prog_8_method_57_code
def yX6_sure : MethodName := ⟨RX6, "sure", "()I"⟩
abbrev cX6_sureLetters : ByteArray := prog_8_method_58_code
def yX6_sureLetters : MethodName := ⟨RX6, "sureLetters", "()I"⟩
abbrev cX6_best : ByteArray := prog_8_method_59_code
def yX6_best : MethodName := ⟨RX6, "best", "()I"⟩
abbrev cX6_bestGuess : ByteArray := prog_8_method_60_code
def yX6_bestGuess : MethodName := ⟨RX6, "bestGuess", "()I"⟩
abbrev cX6_missesAhead : ByteArray := prog_8_method_61_code
def yX6_missesAhead : MethodName := ⟨RX6, "missesAhead", "()I"⟩
abbrev cX6_total : ByteArray := prog_8_method_62_code
def yX6_total : MethodName := ⟨RX6, "total", "(I)I"⟩
abbrev cX6_undo : ByteArray := prog_8_method_63_code
def yX6_undo : MethodName := ⟨RX6, "undo", "()I"⟩
abbrev cX6_digest : ByteArray := prog_8_method_64_code
def yX6_digest : MethodName := ⟨RX6, "digest", "()J"⟩
def RJ6 : String := "java/lang/Integer"
def TJ6 : u_T := fun k => match k with
  | _ => ("", "", "", false)
def tyJ6 : Nat → FieldType := fun k => match k with
  | _ => .int
abbrev wsJ60 : List Cond := u_ws RJ6 TJ6 0
theorem nmJ6 : ∀ a, a < 0 → ∀ b, b < 0 → a ≠ b → (TJ6 a).2.1 ≠ (TJ6 b).2.1 := by decide +kernel
theorem tyJ6_ok : ∀ k, k < 0 → parseFieldDescriptor (TJ6 k).2.2.1 = some (tyJ6 k) := by decide +kernel
abbrev cJ6_bitCount_0f7a4 : ByteArray := prog_9_method_49_code
def yJ6_bitCount_0f7a4 : MethodName := ⟨RJ6, "bitCount", "(I)I"⟩
def RJ9 : String := "java/lang/Math"
def TJ9 : u_T := fun k => match k with
  | _ => ("", "", "", false)
def tyJ9 : Nat → FieldType := fun k => match k with
  | _ => .int
abbrev wsJ90 : List Cond := u_ws RJ9 TJ9 0
theorem nmJ9 : ∀ a, a < 0 → ∀ b, b < 0 → a ≠ b → (TJ9 a).2.1 ≠ (TJ9 b).2.1 := by decide +kernel
theorem tyJ9_ok : ∀ k, k < 0 → parseFieldDescriptor (TJ9 k).2.2.1 = some (tyJ9 k) := by decide +kernel
abbrev cJ9_min_7cf53 : ByteArray := prog_10_method_69_code
def yJ9_min_7cf53 : MethodName := ⟨RJ9, "min", "(II)I"⟩
def RJ10 : String := "java/lang/System"
def TJ10 : u_T := fun k => match k with
  | _ => ("", "", "", false)
def tyJ10 : Nat → FieldType := fun k => match k with
  | _ => .int
abbrev wsJ100 : List Cond := u_ws RJ10 TJ10 0
theorem nmJ10 : ∀ a, a < 0 → ∀ b, b < 0 → a ≠ b → (TJ10 a).2.1 ≠ (TJ10 b).2.1 := by decide +kernel
theorem tyJ10_ok : ∀ k, k < 0 → parseFieldDescriptor (TJ10 k).2.2.1 = some (tyJ10 k) := by decide +kernel
def RL : String := "DodgingHangmanLaw"
abbrev cL_law : ByteArray := code
def yL_law : MethodName := ⟨RL, "law", "([I)Z"⟩
def wsX0_init : List Cond := .code yX0_init cX0_init 1 none :: ([.methodLink RX0 3 objectInit, .instanceMethod objectInit, .code objectInit ⟨#[0xb1]⟩ 1 none, .arrayClass .int, .fieldLink RX0 9 "DodgingHangman$Families" "masks" "[I", .fieldLink RX0 15 "DodgingHangman$Families" "members" "[I", .fieldLink RX0 18 "DodgingHangman$Families" "freshLetters" "[I"] ++ wsX00)
def wsX5_isLetter : List Cond := .code yX5_isLetter cX5_isLetter 1 (some .boolean) :: ([])
def wsX5_bitOf : List Cond := .code yX5_bitOf cX5_bitOf 1 (some .int) :: ([.methodLink RX5 110 yX5_isLetter, .static yX5_isLetter, .initialized RX5, .code yX5_isLetter cX5_isLetter 1 (some .boolean)])
def wsX2_hasWord : List Cond := .code yX2_hasWord cX2_hasWord 2 (some .boolean) :: ([.fieldLink RX2 28 "DodgingHangman$State" "wordCount" "I"] ++ wsX20)
def wsX2_isCandidate : List Cond := .code yX2_isCandidate cX2_isCandidate 2 (some .boolean) :: ([.fieldLink RX2 44 "DodgingHangman$State" "candidates" "I", .methodLink RX2 57 yX2_hasWord, .instanceMethod yX2_hasWord, .selects RX2 yX2_hasWord yX2_hasWord, .initialized RX2, .code yX2_hasWord cX2_hasWord 2 (some .boolean), .fieldLink RX2 28 "DodgingHangman$State" "wordCount" "I"] ++ wsX20)
def wsX2_wordAt : List Cond := .code yX2_wordAt cX2_wordAt 2 (some .long) :: ([.fieldLink RX2 9 "DodgingHangman$State" "list" "[J", .methodLink RX2 57 yX2_hasWord, .instanceMethod yX2_hasWord, .selects RX2 yX2_hasWord yX2_hasWord, .initialized RX2, .code yX2_hasWord cX2_hasWord 2 (some .boolean), .fieldLink RX2 28 "DodgingHangman$State" "wordCount" "I"] ++ wsX20)
def wsX4_shiftOf : List Cond := .code yX4_shiftOf cX4_shiftOf 1 (some .int) :: ([])
def wsX4_letterAt : List Cond := .code yX4_letterAt cX4_letterAt 4 (some .int) :: ([.methodLink RX4 11 yX4_shiftOf, .static yX4_shiftOf, .initialized RX4, .code yX4_shiftOf cX4_shiftOf 1 (some .int)])
def wsX4_maskOf : List Cond := .code yX4_maskOf cX4_maskOf 5 (some .int) :: ([.methodLink RX4 19 yX4_letterAt, .static yX4_letterAt, .initialized RX4, .code yX4_letterAt cX4_letterAt 4 (some .int), .methodLink RX4 11 yX4_shiftOf, .static yX4_shiftOf, .code yX4_shiftOf cX4_shiftOf 1 (some .int)])
def wsX4_lettersOf : List Cond := .code yX4_lettersOf cX4_lettersOf 4 (some .int) :: ([.methodLink RX4 19 yX4_letterAt, .static yX4_letterAt, .initialized RX4, .code yX4_letterAt cX4_letterAt 4 (some .int), .methodLink RX4 11 yX4_shiftOf, .static yX4_shiftOf, .code yX4_shiftOf cX4_shiftOf 1 (some .int), .static yX5_bitOf, .initialized RX5, .code yX5_bitOf cX5_bitOf 1 (some .int), .methodLink RX5 110 yX5_isLetter, .static yX5_isLetter, .code yX5_isLetter cX5_isLetter 1 (some .boolean)])
def wsX0_has : List Cond := .code yX0_has cX0_has 2 (some .boolean) :: ([.fieldLink RX0 21 "DodgingHangman$Families" "count" "I"] ++ wsX00)
def wsX0_maskOf : List Cond := .code yX0_maskOf cX0_maskOf 2 (some .int) :: ([.fieldLink RX0 9 "DodgingHangman$Families" "masks" "[I", .methodLink RX0 65 yX0_has, .instanceMethod yX0_has, .selects RX0 yX0_has yX0_has, .initialized RX0, .code yX0_has cX0_has 2 (some .boolean), .fieldLink RX0 21 "DodgingHangman$Families" "count" "I"] ++ wsX00)
def wsX0_put : List Cond := .code yX0_put cX0_put 5 none :: ([.fieldLink RX0 21 "DodgingHangman$Families" "count" "I", .fieldLink RX0 9 "DodgingHangman$Families" "masks" "[I", .fieldLink RX0 15 "DodgingHangman$Families" "members" "[I", .fieldLink RX0 18 "DodgingHangman$Families" "freshLetters" "[I", .methodLink RX0 63 yX0_maskOf, .instanceMethod yX0_maskOf, .selects RX0 yX0_maskOf yX0_maskOf, .initialized RX0, .code yX0_maskOf cX0_maskOf 2 (some .int), .methodLink RX0 65 yX0_has, .instanceMethod yX0_has, .selects RX0 yX0_has yX0_has, .code yX0_has cX0_has 2 (some .boolean)] ++ wsX00)
def wsX0_make_r1 : List Cond := [Cond.fieldLink RX0 21 "DodgingHangman$Families" "count" "I", Cond.fieldLink RX0 30 "DodgingHangman$Families" "policy" "I", Cond.static yX5_bitOf, Cond.initialized RX5, Cond.code yX5_bitOf cX5_bitOf 1 (some .int), Cond.methodLink RX5 110 yX5_isLetter, Cond.static yX5_isLetter, Cond.code yX5_isLetter cX5_isLetter 1 (some .boolean), Cond.methodLink RX0 41 yX2_isCandidate, Cond.instanceMethod yX2_isCandidate, Cond.selects RX2 yX2_isCandidate yX2_isCandidate, Cond.initialized RX2, Cond.code yX2_isCandidate cX2_isCandidate 2 (some .boolean), Cond.fieldLink RX2 44 "DodgingHangman$State" "candidates" "I", Cond.methodLink RX2 57 yX2_hasWord, Cond.instanceMethod yX2_hasWord, Cond.selects RX2 yX2_hasWord yX2_hasWord, Cond.code yX2_hasWord cX2_hasWord 2 (some .boolean), Cond.fieldLink RX2 28 "DodgingHangman$State" "wordCount" "I", Cond.methodLink RX0 45 yX2_wordAt, Cond.instanceMethod yX2_wordAt, Cond.selects RX2 yX2_wordAt yX2_wordAt, Cond.code yX2_wordAt cX2_wordAt 2 (some .long), Cond.fieldLink RX2 9 "DodgingHangman$State" "list" "[J"]
def wsX0_make_r2 : List Cond := [Cond.methodLink RX0 49 yX4_maskOf, Cond.static yX4_maskOf, Cond.initialized RX4, Cond.code yX4_maskOf cX4_maskOf 5 (some .int), Cond.methodLink RX4 19 yX4_letterAt, Cond.static yX4_letterAt, Cond.code yX4_letterAt cX4_letterAt 4 (some .int), Cond.methodLink RX4 11 yX4_shiftOf, Cond.static yX4_shiftOf, Cond.code yX4_shiftOf cX4_shiftOf 1 (some .int), Cond.methodLink RX0 55 yX4_lettersOf, Cond.static yX4_lettersOf, Cond.code yX4_lettersOf cX4_lettersOf 4 (some .int), Cond.methodLink RX0 59 yX0_put, Cond.instanceMethod yX0_put, Cond.selects RX0 yX0_put yX0_put, Cond.initialized RX0, Cond.code yX0_put cX0_put 5 none, Cond.fieldLink RX0 9 "DodgingHangman$Families" "masks" "[I", Cond.fieldLink RX0 15 "DodgingHangman$Families" "members" "[I", Cond.fieldLink RX0 18 "DodgingHangman$Families" "freshLetters" "[I", Cond.methodLink RX0 63 yX0_maskOf, Cond.instanceMethod yX0_maskOf, Cond.selects RX0 yX0_maskOf yX0_maskOf]
def wsX0_make_r3 : List Cond := [Cond.code yX0_maskOf cX0_maskOf 2 (some .int), Cond.methodLink RX0 65 yX0_has, Cond.instanceMethod yX0_has, Cond.selects RX0 yX0_has yX0_has, Cond.code yX0_has cX0_has 2 (some .boolean)]
def wsX0_make : List Cond := .code yX0_make cX0_make 7 none :: ((wsX0_make_r1 ++ (wsX0_make_r2 ++ wsX0_make_r3)) ++ wsX00 ++ wsX20)
def wsX0_membersOf : List Cond := .code yX0_membersOf cX0_membersOf 2 (some .int) :: ([.fieldLink RX0 15 "DodgingHangman$Families" "members" "[I", .methodLink RX0 65 yX0_has, .instanceMethod yX0_has, .selects RX0 yX0_has yX0_has, .initialized RX0, .code yX0_has cX0_has 2 (some .boolean), .fieldLink RX0 21 "DodgingHangman$Families" "count" "I"] ++ wsX00)
def wsJ6_bitCount_0f7a4 : List Cond := .code yJ6_bitCount_0f7a4 cJ6_bitCount_0f7a4 1 (some .int) :: ([.constant RJ6 265 (1431655765), .constant RJ6 266 (858993459), .constant RJ6 267 (252645135)])
def wsX0_sizeOf : List Cond := .code yX0_sizeOf cX0_sizeOf 2 (some .int) :: ([.methodLink RX0 68 yX0_membersOf, .instanceMethod yX0_membersOf, .selects RX0 yX0_membersOf yX0_membersOf, .initialized RX0, .code yX0_membersOf cX0_membersOf 2 (some .int), .fieldLink RX0 15 "DodgingHangman$Families" "members" "[I", .methodLink RX0 65 yX0_has, .instanceMethod yX0_has, .selects RX0 yX0_has yX0_has, .code yX0_has cX0_has 2 (some .boolean), .fieldLink RX0 21 "DodgingHangman$Families" "count" "I", .methodLink RX0 71 yJ6_bitCount_0f7a4, .static yJ6_bitCount_0f7a4, .initialized RJ6, .code yJ6_bitCount_0f7a4 cJ6_bitCount_0f7a4 1 (some .int), .constant RJ6 265 (1431655765), .constant RJ6 266 (858993459), .constant RJ6 267 (252645135)] ++ wsX00)
def wsX0_freshnessOf : List Cond := .code yX0_freshnessOf cX0_freshnessOf 2 (some .int) :: ([.fieldLink RX0 18 "DodgingHangman$Families" "freshLetters" "[I", .methodLink RX0 65 yX0_has, .instanceMethod yX0_has, .selects RX0 yX0_has yX0_has, .initialized RX0, .code yX0_has cX0_has 2 (some .boolean), .fieldLink RX0 21 "DodgingHangman$Families" "count" "I", .methodLink RX0 71 yJ6_bitCount_0f7a4, .static yJ6_bitCount_0f7a4, .initialized RJ6, .code yJ6_bitCount_0f7a4 cJ6_bitCount_0f7a4 1 (some .int), .constant RJ6 265 (1431655765), .constant RJ6 266 (858993459), .constant RJ6 267 (252645135)] ++ wsX00)
def wsX0_squares : List Cond := .code yX0_squares cX0_squares 3 (some .int) :: ([.fieldLink RX0 21 "DodgingHangman$Families" "count" "I", .methodLink RX0 76 yX0_sizeOf, .instanceMethod yX0_sizeOf, .selects RX0 yX0_sizeOf yX0_sizeOf, .initialized RX0, .code yX0_sizeOf cX0_sizeOf 2 (some .int), .methodLink RX0 68 yX0_membersOf, .instanceMethod yX0_membersOf, .selects RX0 yX0_membersOf yX0_membersOf, .code yX0_membersOf cX0_membersOf 2 (some .int), .fieldLink RX0 15 "DodgingHangman$Families" "members" "[I", .methodLink RX0 65 yX0_has, .instanceMethod yX0_has, .selects RX0 yX0_has yX0_has, .code yX0_has cX0_has 2 (some .boolean), .methodLink RX0 71 yJ6_bitCount_0f7a4, .static yJ6_bitCount_0f7a4, .initialized RJ6, .code yJ6_bitCount_0f7a4 cJ6_bitCount_0f7a4 1 (some .int), .constant RJ6 265 (1431655765), .constant RJ6 266 (858993459), .constant RJ6 267 (252645135)] ++ wsX00)
def wsX0_isBetter_r1 : List Cond := [Cond.fieldLink RX0 30 "DodgingHangman$Families" "policy" "I", Cond.methodLink RX0 63 yX0_maskOf, Cond.instanceMethod yX0_maskOf, Cond.selects RX0 yX0_maskOf yX0_maskOf, Cond.initialized RX0, Cond.code yX0_maskOf cX0_maskOf 2 (some .int), Cond.fieldLink RX0 9 "DodgingHangman$Families" "masks" "[I", Cond.methodLink RX0 65 yX0_has, Cond.instanceMethod yX0_has, Cond.selects RX0 yX0_has yX0_has, Cond.code yX0_has cX0_has 2 (some .boolean), Cond.fieldLink RX0 21 "DodgingHangman$Families" "count" "I", Cond.methodLink RX0 86 yX0_freshnessOf, Cond.instanceMethod yX0_freshnessOf, Cond.selects RX0 yX0_freshnessOf yX0_freshnessOf, Cond.code yX0_freshnessOf cX0_freshnessOf 2 (some .int), Cond.fieldLink RX0 18 "DodgingHangman$Families" "freshLetters" "[I", Cond.methodLink RX0 71 yJ6_bitCount_0f7a4, Cond.static yJ6_bitCount_0f7a4, Cond.initialized RJ6, Cond.code yJ6_bitCount_0f7a4 cJ6_bitCount_0f7a4 1 (some .int), Cond.constant RJ6 265 (1431655765), Cond.constant RJ6 266 (858993459), Cond.constant RJ6 267 (252645135)]
def wsX0_isBetter_r2 : List Cond := [Cond.methodLink RX0 76 yX0_sizeOf, Cond.instanceMethod yX0_sizeOf, Cond.selects RX0 yX0_sizeOf yX0_sizeOf, Cond.code yX0_sizeOf cX0_sizeOf 2 (some .int), Cond.methodLink RX0 68 yX0_membersOf, Cond.instanceMethod yX0_membersOf, Cond.selects RX0 yX0_membersOf yX0_membersOf, Cond.code yX0_membersOf cX0_membersOf 2 (some .int), Cond.fieldLink RX0 15 "DodgingHangman$Families" "members" "[I"]
def wsX0_isBetter : List Cond := .code yX0_isBetter cX0_isBetter 5 (some .boolean) :: ((wsX0_isBetter_r1 ++ wsX0_isBetter_r2) ++ wsX00)
def wsX0_betterThan_r1 : List Cond := [Cond.fieldLink RX0 21 "DodgingHangman$Families" "count" "I", Cond.methodLink RX0 82 yX0_isBetter, Cond.instanceMethod yX0_isBetter, Cond.selects RX0 yX0_isBetter yX0_isBetter, Cond.initialized RX0, Cond.code yX0_isBetter cX0_isBetter 5 (some .boolean), Cond.fieldLink RX0 30 "DodgingHangman$Families" "policy" "I", Cond.methodLink RX0 63 yX0_maskOf, Cond.instanceMethod yX0_maskOf, Cond.selects RX0 yX0_maskOf yX0_maskOf, Cond.code yX0_maskOf cX0_maskOf 2 (some .int), Cond.fieldLink RX0 9 "DodgingHangman$Families" "masks" "[I", Cond.methodLink RX0 65 yX0_has, Cond.instanceMethod yX0_has, Cond.selects RX0 yX0_has yX0_has, Cond.code yX0_has cX0_has 2 (some .boolean), Cond.methodLink RX0 86 yX0_freshnessOf, Cond.instanceMethod yX0_freshnessOf, Cond.selects RX0 yX0_freshnessOf yX0_freshnessOf, Cond.code yX0_freshnessOf cX0_freshnessOf 2 (some .int), Cond.fieldLink RX0 18 "DodgingHangman$Families" "freshLetters" "[I", Cond.methodLink RX0 71 yJ6_bitCount_0f7a4, Cond.static yJ6_bitCount_0f7a4, Cond.initialized RJ6]
def wsX0_betterThan_r2 : List Cond := [Cond.code yJ6_bitCount_0f7a4 cJ6_bitCount_0f7a4 1 (some .int), Cond.constant RJ6 265 (1431655765), Cond.constant RJ6 266 (858993459), Cond.constant RJ6 267 (252645135), Cond.methodLink RX0 76 yX0_sizeOf, Cond.instanceMethod yX0_sizeOf, Cond.selects RX0 yX0_sizeOf yX0_sizeOf, Cond.code yX0_sizeOf cX0_sizeOf 2 (some .int), Cond.methodLink RX0 68 yX0_membersOf, Cond.instanceMethod yX0_membersOf, Cond.selects RX0 yX0_membersOf yX0_membersOf, Cond.code yX0_membersOf cX0_membersOf 2 (some .int), Cond.fieldLink RX0 15 "DodgingHangman$Families" "members" "[I"]
def wsX0_betterThan : List Cond := .code yX0_betterThan cX0_betterThan 4 (some .int) :: ((wsX0_betterThan_r1 ++ wsX0_betterThan_r2) ++ wsX00)
def wsX0_ranked_r1 : List Cond := [Cond.fieldLink RX0 21 "DodgingHangman$Families" "count" "I", Cond.methodLink RX0 79 yX0_betterThan, Cond.instanceMethod yX0_betterThan, Cond.selects RX0 yX0_betterThan yX0_betterThan, Cond.initialized RX0, Cond.code yX0_betterThan cX0_betterThan 4 (some .int), Cond.methodLink RX0 82 yX0_isBetter, Cond.instanceMethod yX0_isBetter, Cond.selects RX0 yX0_isBetter yX0_isBetter, Cond.code yX0_isBetter cX0_isBetter 5 (some .boolean), Cond.fieldLink RX0 30 "DodgingHangman$Families" "policy" "I", Cond.methodLink RX0 63 yX0_maskOf, Cond.instanceMethod yX0_maskOf, Cond.selects RX0 yX0_maskOf yX0_maskOf, Cond.code yX0_maskOf cX0_maskOf 2 (some .int), Cond.fieldLink RX0 9 "DodgingHangman$Families" "masks" "[I", Cond.methodLink RX0 65 yX0_has, Cond.instanceMethod yX0_has, Cond.selects RX0 yX0_has yX0_has, Cond.code yX0_has cX0_has 2 (some .boolean), Cond.methodLink RX0 86 yX0_freshnessOf, Cond.instanceMethod yX0_freshnessOf, Cond.selects RX0 yX0_freshnessOf yX0_freshnessOf, Cond.code yX0_freshnessOf cX0_freshnessOf 2 (some .int)]
def wsX0_ranked_r2 : List Cond := [Cond.fieldLink RX0 18 "DodgingHangman$Families" "freshLetters" "[I", Cond.methodLink RX0 71 yJ6_bitCount_0f7a4, Cond.static yJ6_bitCount_0f7a4, Cond.initialized RJ6, Cond.code yJ6_bitCount_0f7a4 cJ6_bitCount_0f7a4 1 (some .int), Cond.constant RJ6 265 (1431655765), Cond.constant RJ6 266 (858993459), Cond.constant RJ6 267 (252645135), Cond.methodLink RX0 76 yX0_sizeOf, Cond.instanceMethod yX0_sizeOf, Cond.selects RX0 yX0_sizeOf yX0_sizeOf, Cond.code yX0_sizeOf cX0_sizeOf 2 (some .int), Cond.methodLink RX0 68 yX0_membersOf, Cond.instanceMethod yX0_membersOf, Cond.selects RX0 yX0_membersOf yX0_membersOf, Cond.code yX0_membersOf cX0_membersOf 2 (some .int), Cond.fieldLink RX0 15 "DodgingHangman$Families" "members" "[I"]
def wsX0_ranked : List Cond := .code yX0_ranked cX0_ranked 3 (some .int) :: ((wsX0_ranked_r1 ++ wsX0_ranked_r2) ++ wsX00)
def wsX1_init : List Cond := .code yX1_init cX1_init 1 none :: ([.methodLink RX1 3 objectInit, .instanceMethod objectInit, .code objectInit ⟨#[0xb1]⟩ 1 none, .classLink RX1 9 RX2, .fieldLink RX1 11 "DodgingHangman$SavedStates" "ring" "[LDodgingHangman$State;"] ++ wsX10)
def wsX2_init : List Cond := .code yX2_init cX2_init 1 none :: ([.methodLink RX2 3 objectInit, .instanceMethod objectInit, .code objectInit ⟨#[0xb1]⟩ 1 none, .arrayClass .long, .fieldLink RX2 9 "DodgingHangman$State" "list" "[J", .arrayClass .int, .fieldLink RX2 15 "DodgingHangman$State" "lettersInOrder" "[I", .fieldLink RX2 19 "DodgingHangman$State" "totals" "[I"] ++ wsX20)
def wsX2_copyFrom : List Cond := .code yX2_copyFrom cX2_copyFrom 2 none :: ([.fieldLink RX2 9 "DodgingHangman$State" "list" "[J", .methodLink RX2 22 arraycopyName, .native arraycopyName, .static arraycopyName, .initialized "java/lang/System", .fieldLink RX2 15 "DodgingHangman$State" "lettersInOrder" "[I", .fieldLink RX2 19 "DodgingHangman$State" "totals" "[I", .fieldLink RX2 28 "DodgingHangman$State" "wordCount" "I", .fieldLink RX2 32 "DodgingHangman$State" "policy" "I", .fieldLink RX2 35 "DodgingHangman$State" "status" "I", .fieldLink RX2 38 "DodgingHangman$State" "length" "I", .fieldLink RX2 41 "DodgingHangman$State" "lives" "I", .fieldLink RX2 44 "DodgingHangman$State" "candidates" "I", .fieldLink RX2 47 "DodgingHangman$State" "guessed" "I", .fieldLink RX2 50 "DodgingHangman$State" "guessCount" "I", .fieldLink RX2 53 "DodgingHangman$State" "pattern" "J"] ++ wsX20)
def wsX1_push_r1 : List Cond := [Cond.fieldLink RX1 17 "DodgingHangman$SavedStates" "next" "I", Cond.fieldLink RX1 11 "DodgingHangman$SavedStates" "ring" "[LDodgingHangman$State;", Cond.classLink RX1 9 RX2, Cond.instantiable RX2 12, Cond.initialized RX2, Cond.fieldLink RX1 26 "DodgingHangman$SavedStates" "count" "I", Cond.methodLink RX1 29 Lib.Math.min.name, Cond.static Lib.Math.min.name, Cond.initialized "java/lang/Math", Cond.code Lib.Math.min.name Lib.Math.min.code 2 (some .int), Cond.instanceMethod yX2_init, Cond.code yX2_init cX2_init 1 none, Cond.methodLink RX2 3 objectInit, Cond.instanceMethod objectInit, Cond.code objectInit ⟨#[0xb1]⟩ 1 none, Cond.arrayClass .long, Cond.fieldLink RX2 9 "DodgingHangman$State" "list" "[J", Cond.arrayClass .int, Cond.fieldLink RX2 15 "DodgingHangman$State" "lettersInOrder" "[I", Cond.fieldLink RX2 19 "DodgingHangman$State" "totals" "[I", Cond.methodLink RX1 22 yX2_copyFrom, Cond.instanceMethod yX2_copyFrom, Cond.selects RX2 yX2_copyFrom yX2_copyFrom, Cond.code yX2_copyFrom cX2_copyFrom 2 none]
def wsX1_push_r2 : List Cond := [Cond.methodLink RX2 22 arraycopyName, Cond.native arraycopyName, Cond.static arraycopyName, Cond.initialized "java/lang/System", Cond.fieldLink RX2 28 "DodgingHangman$State" "wordCount" "I", Cond.fieldLink RX2 32 "DodgingHangman$State" "policy" "I", Cond.fieldLink RX2 35 "DodgingHangman$State" "status" "I", Cond.fieldLink RX2 38 "DodgingHangman$State" "length" "I", Cond.fieldLink RX2 41 "DodgingHangman$State" "lives" "I", Cond.fieldLink RX2 44 "DodgingHangman$State" "candidates" "I", Cond.fieldLink RX2 47 "DodgingHangman$State" "guessed" "I", Cond.fieldLink RX2 50 "DodgingHangman$State" "guessCount" "I", Cond.fieldLink RX2 53 "DodgingHangman$State" "pattern" "J"]
def wsX1_push : List Cond := .code yX1_push cX1_push 3 none :: ((wsX1_push_r1 ++ wsX1_push_r2) ++ wsX10 ++ wsX20)
def wsX1_popInto : List Cond := .code yX1_popInto cX1_popInto 4 (some .boolean) :: ([.fieldLink RX1 17 "DodgingHangman$SavedStates" "next" "I", .fieldLink RX1 26 "DodgingHangman$SavedStates" "count" "I", .fieldLink RX1 11 "DodgingHangman$SavedStates" "ring" "[LDodgingHangman$State;", .methodLink RX1 22 yX2_copyFrom, .instanceMethod yX2_copyFrom, .selects RX2 yX2_copyFrom yX2_copyFrom, .initialized RX2, .code yX2_copyFrom cX2_copyFrom 2 none, .fieldLink RX2 9 "DodgingHangman$State" "list" "[J", .methodLink RX2 22 arraycopyName, .native arraycopyName, .static arraycopyName, .initialized "java/lang/System", .fieldLink RX2 15 "DodgingHangman$State" "lettersInOrder" "[I", .fieldLink RX2 19 "DodgingHangman$State" "totals" "[I", .fieldLink RX2 28 "DodgingHangman$State" "wordCount" "I", .fieldLink RX2 32 "DodgingHangman$State" "policy" "I", .fieldLink RX2 35 "DodgingHangman$State" "status" "I", .fieldLink RX2 38 "DodgingHangman$State" "length" "I", .fieldLink RX2 41 "DodgingHangman$State" "lives" "I", .fieldLink RX2 44 "DodgingHangman$State" "candidates" "I", .fieldLink RX2 47 "DodgingHangman$State" "guessed" "I", .fieldLink RX2 50 "DodgingHangman$State" "guessCount" "I", .fieldLink RX2 53 "DodgingHangman$State" "pattern" "J"] ++ wsX10 ++ wsX20)
def wsX2_numberOf : List Cond := .code yX2_numberOf cX2_numberOf 4 (some .int) :: ([.fieldLink RX2 28 "DodgingHangman$State" "wordCount" "I", .methodLink RX2 67 yX2_wordAt, .instanceMethod yX2_wordAt, .selects RX2 yX2_wordAt yX2_wordAt, .initialized RX2, .code yX2_wordAt cX2_wordAt 2 (some .long), .fieldLink RX2 9 "DodgingHangman$State" "list" "[J", .methodLink RX2 57 yX2_hasWord, .instanceMethod yX2_hasWord, .selects RX2 yX2_hasWord yX2_hasWord, .code yX2_hasWord cX2_hasWord 2 (some .boolean)] ++ wsX20)
def wsX2_isInList : List Cond := .code yX2_isInList cX2_isInList 3 (some .boolean) :: ([.methodLink RX2 63 yX2_numberOf, .instanceMethod yX2_numberOf, .selects RX2 yX2_numberOf yX2_numberOf, .initialized RX2, .code yX2_numberOf cX2_numberOf 4 (some .int), .fieldLink RX2 28 "DodgingHangman$State" "wordCount" "I", .methodLink RX2 67 yX2_wordAt, .instanceMethod yX2_wordAt, .selects RX2 yX2_wordAt yX2_wordAt, .code yX2_wordAt cX2_wordAt 2 (some .long), .fieldLink RX2 9 "DodgingHangman$State" "list" "[J", .methodLink RX2 57 yX2_hasWord, .instanceMethod yX2_hasWord, .selects RX2 yX2_hasWord yX2_hasWord, .code yX2_hasWord cX2_hasWord 2 (some .boolean)] ++ wsX20)
def wsX2_insert : List Cond := .code yX2_insert cX2_insert 4 (some .boolean) :: ([.fieldLink RX2 28 "DodgingHangman$State" "wordCount" "I", .fieldLink RX2 9 "DodgingHangman$State" "list" "[J"] ++ wsX20)
def wsX2_remove : List Cond := .code yX2_remove cX2_remove 3 none :: ([.fieldLink RX2 9 "DodgingHangman$State" "list" "[J", .fieldLink RX2 28 "DodgingHangman$State" "wordCount" "I", .methodLink RX2 57 yX2_hasWord, .instanceMethod yX2_hasWord, .selects RX2 yX2_hasWord yX2_hasWord, .initialized RX2, .code yX2_hasWord cX2_hasWord 2 (some .boolean)] ++ wsX20)
def wsX4_lengthOf : List Cond := .code yX4_lengthOf cX4_lengthOf 4 (some .int) :: ([.methodLink RX4 19 yX4_letterAt, .static yX4_letterAt, .initialized RX4, .code yX4_letterAt cX4_letterAt 4 (some .int), .methodLink RX4 11 yX4_shiftOf, .static yX4_shiftOf, .code yX4_shiftOf cX4_shiftOf 1 (some .int)])
def wsX2_wordsOfLength : List Cond := .code yX2_wordsOfLength cX2_wordsOfLength 4 (some .int) :: ([.fieldLink RX2 28 "DodgingHangman$State" "wordCount" "I", .methodLink RX2 67 yX2_wordAt, .instanceMethod yX2_wordAt, .selects RX2 yX2_wordAt yX2_wordAt, .initialized RX2, .code yX2_wordAt cX2_wordAt 2 (some .long), .fieldLink RX2 9 "DodgingHangman$State" "list" "[J", .methodLink RX2 57 yX2_hasWord, .instanceMethod yX2_hasWord, .selects RX2 yX2_hasWord yX2_hasWord, .code yX2_hasWord cX2_hasWord 2 (some .boolean), .methodLink RX2 71 yX4_lengthOf, .static yX4_lengthOf, .initialized RX4, .code yX4_lengthOf cX4_lengthOf 4 (some .int), .methodLink RX4 19 yX4_letterAt, .static yX4_letterAt, .code yX4_letterAt cX4_letterAt 4 (some .int), .methodLink RX4 11 yX4_shiftOf, .static yX4_shiftOf, .code yX4_shiftOf cX4_shiftOf 1 (some .int)] ++ wsX20)
def wsX2_isRunning : List Cond := .code yX2_isRunning cX2_isRunning 1 (some .boolean) :: ([.fieldLink RX2 35 "DodgingHangman$State" "status" "I"] ++ wsX20)
def wsX2_wasGuessed : List Cond := .code yX2_wasGuessed cX2_wasGuessed 2 (some .boolean) :: ([.fieldLink RX2 47 "DodgingHangman$State" "guessed" "I", .static yX5_bitOf, .initialized RX5, .code yX5_bitOf cX5_bitOf 1 (some .int), .methodLink RX5 110 yX5_isLetter, .static yX5_isLetter, .code yX5_isLetter cX5_isLetter 1 (some .boolean)] ++ wsX20)
def wsX2_guessedAt : List Cond := .code yX2_guessedAt cX2_guessedAt 2 (some .int) :: ([.fieldLink RX2 50 "DodgingHangman$State" "guessCount" "I", .fieldLink RX2 15 "DodgingHangman$State" "lettersInOrder" "[I"] ++ wsX20)
def wsX2_candidatesWith_r1 : List Cond := [Cond.fieldLink RX2 28 "DodgingHangman$State" "wordCount" "I", Cond.methodLink RX2 78 yX2_isCandidate, Cond.instanceMethod yX2_isCandidate, Cond.selects RX2 yX2_isCandidate yX2_isCandidate, Cond.initialized RX2, Cond.code yX2_isCandidate cX2_isCandidate 2 (some .boolean), Cond.fieldLink RX2 44 "DodgingHangman$State" "candidates" "I", Cond.methodLink RX2 57 yX2_hasWord, Cond.instanceMethod yX2_hasWord, Cond.selects RX2 yX2_hasWord yX2_hasWord, Cond.code yX2_hasWord cX2_hasWord 2 (some .boolean), Cond.methodLink RX2 67 yX2_wordAt, Cond.instanceMethod yX2_wordAt, Cond.selects RX2 yX2_wordAt yX2_wordAt, Cond.code yX2_wordAt cX2_wordAt 2 (some .long), Cond.fieldLink RX2 9 "DodgingHangman$State" "list" "[J", Cond.methodLink RX2 81 yX4_maskOf, Cond.static yX4_maskOf, Cond.initialized RX4, Cond.code yX4_maskOf cX4_maskOf 5 (some .int), Cond.methodLink RX4 19 yX4_letterAt, Cond.static yX4_letterAt, Cond.code yX4_letterAt cX4_letterAt 4 (some .int), Cond.methodLink RX4 11 yX4_shiftOf]
def wsX2_candidatesWith_r2 : List Cond := [Cond.static yX4_shiftOf, Cond.code yX4_shiftOf cX4_shiftOf 1 (some .int)]
def wsX2_candidatesWith : List Cond := .code yX2_candidatesWith cX2_candidatesWith 4 (some .int) :: ((wsX2_candidatesWith_r1 ++ wsX2_candidatesWith_r2) ++ wsX20)
def wsX2_lettersOfAll_r1 : List Cond := [Cond.constant RX2 85 (67108863), Cond.fieldLink RX2 28 "DodgingHangman$State" "wordCount" "I", Cond.methodLink RX2 78 yX2_isCandidate, Cond.instanceMethod yX2_isCandidate, Cond.selects RX2 yX2_isCandidate yX2_isCandidate, Cond.initialized RX2, Cond.code yX2_isCandidate cX2_isCandidate 2 (some .boolean), Cond.fieldLink RX2 44 "DodgingHangman$State" "candidates" "I", Cond.methodLink RX2 57 yX2_hasWord, Cond.instanceMethod yX2_hasWord, Cond.selects RX2 yX2_hasWord yX2_hasWord, Cond.code yX2_hasWord cX2_hasWord 2 (some .boolean), Cond.methodLink RX2 67 yX2_wordAt, Cond.instanceMethod yX2_wordAt, Cond.selects RX2 yX2_wordAt yX2_wordAt, Cond.code yX2_wordAt cX2_wordAt 2 (some .long), Cond.fieldLink RX2 9 "DodgingHangman$State" "list" "[J", Cond.methodLink RX2 86 yX4_lettersOf, Cond.static yX4_lettersOf, Cond.initialized RX4, Cond.code yX4_lettersOf cX4_lettersOf 4 (some .int), Cond.methodLink RX4 19 yX4_letterAt, Cond.static yX4_letterAt, Cond.code yX4_letterAt cX4_letterAt 4 (some .int)]
def wsX2_lettersOfAll_r2 : List Cond := [Cond.methodLink RX4 11 yX4_shiftOf, Cond.static yX4_shiftOf, Cond.code yX4_shiftOf cX4_shiftOf 1 (some .int), Cond.static yX5_bitOf, Cond.initialized RX5, Cond.code yX5_bitOf cX5_bitOf 1 (some .int), Cond.methodLink RX5 110 yX5_isLetter, Cond.static yX5_isLetter, Cond.code yX5_isLetter cX5_isLetter 1 (some .boolean)]
def wsX2_lettersOfAll : List Cond := .code yX2_lettersOfAll cX2_lettersOfAll 3 (some .int) :: ((wsX2_lettersOfAll_r1 ++ wsX2_lettersOfAll_r2) ++ wsX20)
def wsX2_totalOf : List Cond := .code yX2_totalOf cX2_totalOf 2 (some .int) :: ([.fieldLink RX2 19 "DodgingHangman$State" "totals" "[I"] ++ wsX20)
def wsX2_count : List Cond := .code yX2_count cX2_count 2 none :: ([.fieldLink RX2 19 "DodgingHangman$State" "totals" "[I"] ++ wsX20)
def wsX2_endWithoutGame : List Cond := .code yX2_endWithoutGame cX2_endWithoutGame 1 none :: ([.fieldLink RX2 35 "DodgingHangman$State" "status" "I", .fieldLink RX2 38 "DodgingHangman$State" "length" "I", .fieldLink RX2 41 "DodgingHangman$State" "lives" "I", .fieldLink RX2 44 "DodgingHangman$State" "candidates" "I", .fieldLink RX2 47 "DodgingHangman$State" "guessed" "I", .fieldLink RX2 50 "DodgingHangman$State" "guessCount" "I", .fieldLink RX2 53 "DodgingHangman$State" "pattern" "J"] ++ wsX20)
def wsX2_begin : List Cond := .code yX2_begin cX2_begin 4 none :: ([.fieldLink RX2 35 "DodgingHangman$State" "status" "I", .fieldLink RX2 38 "DodgingHangman$State" "length" "I", .fieldLink RX2 41 "DodgingHangman$State" "lives" "I", .fieldLink RX2 44 "DodgingHangman$State" "candidates" "I", .methodLink RX2 89 yX2_endWithoutGame, .instanceMethod yX2_endWithoutGame, .selects RX2 yX2_endWithoutGame yX2_endWithoutGame, .initialized RX2, .code yX2_endWithoutGame cX2_endWithoutGame 1 none, .fieldLink RX2 47 "DodgingHangman$State" "guessed" "I", .fieldLink RX2 50 "DodgingHangman$State" "guessCount" "I", .fieldLink RX2 53 "DodgingHangman$State" "pattern" "J", .methodLink RX2 92 yX2_count, .instanceMethod yX2_count, .selects RX2 yX2_count yX2_count, .code yX2_count cX2_count 2 none, .fieldLink RX2 19 "DodgingHangman$State" "totals" "[I"] ++ wsX20)
def wsX2_noteGuess : List Cond := .code yX2_noteGuess cX2_noteGuess 2 none :: ([.fieldLink RX2 50 "DodgingHangman$State" "guessCount" "I", .fieldLink RX2 15 "DodgingHangman$State" "lettersInOrder" "[I", .fieldLink RX2 47 "DodgingHangman$State" "guessed" "I", .static yX5_bitOf, .initialized RX5, .code yX5_bitOf cX5_bitOf 1 (some .int), .methodLink RX5 110 yX5_isLetter, .static yX5_isLetter, .code yX5_isLetter cX5_isLetter 1 (some .boolean), .methodLink RX2 92 yX2_count, .instanceMethod yX2_count, .selects RX2 yX2_count yX2_count, .initialized RX2, .code yX2_count cX2_count 2 none, .fieldLink RX2 19 "DodgingHangman$State" "totals" "[I"] ++ wsX20)
def wsX2_lose : List Cond := .code yX2_lose cX2_lose 1 none :: ([.fieldLink RX2 35 "DodgingHangman$State" "status" "I", .methodLink RX2 92 yX2_count, .instanceMethod yX2_count, .selects RX2 yX2_count yX2_count, .initialized RX2, .code yX2_count cX2_count 2 none, .fieldLink RX2 19 "DodgingHangman$State" "totals" "[I"] ++ wsX20)
def wsX2_miss : List Cond := .code yX2_miss cX2_miss 2 none :: ([.fieldLink RX2 41 "DodgingHangman$State" "lives" "I", .methodLink RX2 92 yX2_count, .instanceMethod yX2_count, .selects RX2 yX2_count yX2_count, .initialized RX2, .code yX2_count cX2_count 2 none, .fieldLink RX2 19 "DodgingHangman$State" "totals" "[I", .methodLink RX2 110 yX2_lose, .instanceMethod yX2_lose, .selects RX2 yX2_lose yX2_lose, .code yX2_lose cX2_lose 1 none, .fieldLink RX2 35 "DodgingHangman$State" "status" "I"] ++ wsX20)
def wsX4_withLetter : List Cond := .code yX4_withLetter cX4_withLetter 4 (some .long) :: ([.static yX5_isLetter, .initialized RX5, .code yX5_isLetter cX5_isLetter 1 (some .boolean), .methodLink RX4 11 yX4_shiftOf, .static yX4_shiftOf, .initialized RX4, .code yX4_shiftOf cX4_shiftOf 1 (some .int)])
def wsX2_win : List Cond := .code yX2_win cX2_win 1 none :: ([.fieldLink RX2 35 "DodgingHangman$State" "status" "I", .methodLink RX2 92 yX2_count, .instanceMethod yX2_count, .selects RX2 yX2_count yX2_count, .initialized RX2, .code yX2_count cX2_count 2 none, .fieldLink RX2 19 "DodgingHangman$State" "totals" "[I"] ++ wsX20)
def wsX2_takeLetter_r1 : List Cond := [Cond.fieldLink RX2 44 "DodgingHangman$State" "candidates" "I", Cond.fieldLink RX2 38 "DodgingHangman$State" "length" "I", Cond.fieldLink RX2 53 "DodgingHangman$State" "pattern" "J", Cond.methodLink RX2 96 yX2_noteGuess, Cond.instanceMethod yX2_noteGuess, Cond.selects RX2 yX2_noteGuess yX2_noteGuess, Cond.initialized RX2, Cond.code yX2_noteGuess cX2_noteGuess 2 none, Cond.fieldLink RX2 50 "DodgingHangman$State" "guessCount" "I", Cond.fieldLink RX2 15 "DodgingHangman$State" "lettersInOrder" "[I", Cond.fieldLink RX2 47 "DodgingHangman$State" "guessed" "I", Cond.static yX5_bitOf, Cond.initialized RX5, Cond.code yX5_bitOf cX5_bitOf 1 (some .int), Cond.methodLink RX5 110 yX5_isLetter, Cond.static yX5_isLetter, Cond.code yX5_isLetter cX5_isLetter 1 (some .boolean), Cond.methodLink RX2 92 yX2_count, Cond.instanceMethod yX2_count, Cond.selects RX2 yX2_count yX2_count, Cond.code yX2_count cX2_count 2 none, Cond.fieldLink RX2 19 "DodgingHangman$State" "totals" "[I", Cond.methodLink RX2 99 yX2_miss, Cond.instanceMethod yX2_miss]
def wsX2_takeLetter_r2 : List Cond := [Cond.selects RX2 yX2_miss yX2_miss, Cond.code yX2_miss cX2_miss 2 none, Cond.fieldLink RX2 41 "DodgingHangman$State" "lives" "I", Cond.methodLink RX2 110 yX2_lose, Cond.instanceMethod yX2_lose, Cond.selects RX2 yX2_lose yX2_lose, Cond.code yX2_lose cX2_lose 1 none, Cond.fieldLink RX2 35 "DodgingHangman$State" "status" "I", Cond.methodLink RX2 103 yX4_withLetter, Cond.static yX4_withLetter, Cond.initialized RX4, Cond.code yX4_withLetter cX4_withLetter 4 (some .long), Cond.methodLink RX4 11 yX4_shiftOf, Cond.static yX4_shiftOf, Cond.code yX4_shiftOf cX4_shiftOf 1 (some .int), Cond.methodLink RX2 71 yX4_lengthOf, Cond.static yX4_lengthOf, Cond.code yX4_lengthOf cX4_lengthOf 4 (some .int), Cond.methodLink RX4 19 yX4_letterAt, Cond.static yX4_letterAt, Cond.code yX4_letterAt cX4_letterAt 4 (some .int), Cond.methodLink RX2 107 yX2_win, Cond.instanceMethod yX2_win, Cond.selects RX2 yX2_win yX2_win]
def wsX2_takeLetter_r3 : List Cond := [Cond.code yX2_win cX2_win 1 none]
def wsX2_takeLetter : List Cond := .code yX2_takeLetter cX2_takeLetter 6 none :: ((wsX2_takeLetter_r1 ++ (wsX2_takeLetter_r2 ++ wsX2_takeLetter_r3)) ++ wsX20)
def wsX2_takeWord_r1 : List Cond := [Cond.fieldLink RX2 44 "DodgingHangman$State" "candidates" "I", Cond.fieldLink RX2 53 "DodgingHangman$State" "pattern" "J", Cond.methodLink RX2 92 yX2_count, Cond.instanceMethod yX2_count, Cond.selects RX2 yX2_count yX2_count, Cond.initialized RX2, Cond.code yX2_count cX2_count 2 none, Cond.fieldLink RX2 19 "DodgingHangman$State" "totals" "[I", Cond.methodLink RX2 63 yX2_numberOf, Cond.instanceMethod yX2_numberOf, Cond.selects RX2 yX2_numberOf yX2_numberOf, Cond.code yX2_numberOf cX2_numberOf 4 (some .int), Cond.fieldLink RX2 28 "DodgingHangman$State" "wordCount" "I", Cond.methodLink RX2 67 yX2_wordAt, Cond.instanceMethod yX2_wordAt, Cond.selects RX2 yX2_wordAt yX2_wordAt, Cond.code yX2_wordAt cX2_wordAt 2 (some .long), Cond.fieldLink RX2 9 "DodgingHangman$State" "list" "[J", Cond.methodLink RX2 57 yX2_hasWord, Cond.instanceMethod yX2_hasWord, Cond.selects RX2 yX2_hasWord yX2_hasWord, Cond.code yX2_hasWord cX2_hasWord 2 (some .boolean), Cond.methodLink RX2 78 yX2_isCandidate, Cond.instanceMethod yX2_isCandidate]
def wsX2_takeWord_r2 : List Cond := [Cond.selects RX2 yX2_isCandidate yX2_isCandidate, Cond.code yX2_isCandidate cX2_isCandidate 2 (some .boolean), Cond.methodLink RX2 107 yX2_win, Cond.instanceMethod yX2_win, Cond.selects RX2 yX2_win yX2_win, Cond.code yX2_win cX2_win 1 none, Cond.fieldLink RX2 35 "DodgingHangman$State" "status" "I", Cond.methodLink RX2 99 yX2_miss, Cond.instanceMethod yX2_miss, Cond.selects RX2 yX2_miss yX2_miss, Cond.code yX2_miss cX2_miss 2 none, Cond.fieldLink RX2 41 "DodgingHangman$State" "lives" "I", Cond.methodLink RX2 110 yX2_lose, Cond.instanceMethod yX2_lose, Cond.selects RX2 yX2_lose yX2_lose, Cond.code yX2_lose cX2_lose 1 none]
def wsX2_takeWord : List Cond := .code yX2_takeWord cX2_takeWord 5 none :: ((wsX2_takeWord_r1 ++ wsX2_takeWord_r2) ++ wsX20)
def wsX3_init : List Cond := .code yX3_init cX3_init 1 none :: ([.methodLink RX3 3 objectInit, .instanceMethod objectInit, .code objectInit ⟨#[0xb1]⟩ 1 none, .arrayClass .char, .fieldLink RX3 9 "DodgingHangman$Text" "signs" "[C", .arrayClass .long, .fieldLink RX3 15 "DodgingHangman$Text" "wordsRead" "[J"] ++ wsX30)
def wsX3_append : List Cond := .code yX3_append cX3_append 2 (some .boolean) :: ([.fieldLink RX3 19 "DodgingHangman$Text" "length" "I", .fieldLink RX3 9 "DodgingHangman$Text" "signs" "[C"] ++ wsX30)
def wsX3_empty : List Cond := .code yX3_empty cX3_empty 1 none :: ([.fieldLink RX3 19 "DodgingHangman$Text" "length" "I"] ++ wsX30)
def wsX3_signAt : List Cond := .code yX3_signAt cX3_signAt 2 (some .int) :: ([.fieldLink RX3 9 "DodgingHangman$Text" "signs" "[C"] ++ wsX30)
def wsX3_firstError : List Cond := .code yX3_firstError cX3_firstError 4 (some .int) :: ([.fieldLink RX3 19 "DodgingHangman$Text" "length" "I", .methodLink RX3 23 yX3_signAt, .instanceMethod yX3_signAt, .selects RX3 yX3_signAt yX3_signAt, .initialized RX3, .code yX3_signAt cX3_signAt 2 (some .int), .fieldLink RX3 9 "DodgingHangman$Text" "signs" "[C", .static yX5_isLetter, .initialized RX5, .code yX5_isLetter cX5_isLetter 1 (some .boolean)] ++ wsX30)
def wsX3_keepRead : List Cond := .code yX3_keepRead cX3_keepRead 4 (some .int) :: ([.fieldLink RX3 15 "DodgingHangman$Text" "wordsRead" "[J"] ++ wsX30)
def wsX3_readWords : List Cond := .code yX3_readWords cX3_readWords 7 (some .int) :: ([.fieldLink RX3 19 "DodgingHangman$Text" "length" "I", .methodLink RX3 23 yX3_signAt, .instanceMethod yX3_signAt, .selects RX3 yX3_signAt yX3_signAt, .initialized RX3, .code yX3_signAt cX3_signAt 2 (some .int), .fieldLink RX3 9 "DodgingHangman$Text" "signs" "[C", .methodLink RX3 33 yX3_keepRead, .instanceMethod yX3_keepRead, .selects RX3 yX3_keepRead yX3_keepRead, .code yX3_keepRead cX3_keepRead 4 (some .int), .fieldLink RX3 15 "DodgingHangman$Text" "wordsRead" "[J", .methodLink RX3 37 yX4_withLetter, .static yX4_withLetter, .initialized RX4, .code yX4_withLetter cX4_withLetter 4 (some .long), .static yX5_isLetter, .initialized RX5, .code yX5_isLetter cX5_isLetter 1 (some .boolean), .methodLink RX4 11 yX4_shiftOf, .static yX4_shiftOf, .code yX4_shiftOf cX4_shiftOf 1 (some .int)] ++ wsX30)
def wsX3_wordRead : List Cond := .code yX3_wordRead cX3_wordRead 2 (some .long) :: ([.fieldLink RX3 15 "DodgingHangman$Text" "wordsRead" "[J"] ++ wsX30)
def wsX5_init_r1 : List Cond := [Cond.methodLink RX5 1 objectInit, Cond.instanceMethod objectInit, Cond.code objectInit ⟨#[0xb1]⟩ 1 none, Cond.classLink RX5 7 RX3, Cond.instantiable RX3 3, Cond.initialized RX3, Cond.fieldLink RX5 10 "DodgingHangman" "text" "LDodgingHangman$Text;", Cond.classLink RX5 16 RX2, Cond.instantiable RX2 12, Cond.initialized RX2, Cond.fieldLink RX5 19 "DodgingHangman" "now" "LDodgingHangman$State;", Cond.classLink RX5 23 RX1, Cond.instantiable RX1 3, Cond.initialized RX1, Cond.fieldLink RX5 26 "DodgingHangman" "saved" "LDodgingHangman$SavedStates;", Cond.fieldLink RX5 30 "DodgingHangman" "draft" "LDodgingHangman$State;", Cond.classLink RX5 33 RX0, Cond.instantiable RX0 5, Cond.initialized RX0, Cond.fieldLink RX5 36 "DodgingHangman" "split" "LDodgingHangman$Families;", Cond.instanceMethod yX3_init, Cond.code yX3_init cX3_init 1 none, Cond.methodLink RX3 3 objectInit, Cond.arrayClass .char]
def wsX5_init_r2 : List Cond := [Cond.fieldLink RX3 9 "DodgingHangman$Text" "signs" "[C", Cond.arrayClass .long, Cond.fieldLink RX3 15 "DodgingHangman$Text" "wordsRead" "[J", Cond.instanceMethod yX2_init, Cond.code yX2_init cX2_init 1 none, Cond.methodLink RX2 3 objectInit, Cond.fieldLink RX2 9 "DodgingHangman$State" "list" "[J", Cond.arrayClass .int, Cond.fieldLink RX2 15 "DodgingHangman$State" "lettersInOrder" "[I", Cond.fieldLink RX2 19 "DodgingHangman$State" "totals" "[I", Cond.instanceMethod yX1_init, Cond.code yX1_init cX1_init 1 none, Cond.methodLink RX1 3 objectInit, Cond.classLink RX1 9 RX2, Cond.fieldLink RX1 11 "DodgingHangman$SavedStates" "ring" "[LDodgingHangman$State;", Cond.instanceMethod yX0_init, Cond.code yX0_init cX0_init 1 none, Cond.methodLink RX0 3 objectInit, Cond.fieldLink RX0 9 "DodgingHangman$Families" "masks" "[I", Cond.fieldLink RX0 15 "DodgingHangman$Families" "members" "[I", Cond.fieldLink RX0 18 "DodgingHangman$Families" "freshLetters" "[I"]
def wsX5_init : List Cond := .code yX5_init cX5_init 1 none :: ((wsX5_init_r1 ++ wsX5_init_r2) ++ wsX30 ++ wsX50 ++ wsX20 ++ wsX10 ++ wsX00)
def wsX5_type : List Cond := .code yX5_type cX5_type 2 (some .int) :: ([.fieldLink RX5 10 "DodgingHangman" "text" "LDodgingHangman$Text;", .methodLink RX5 40 yX3_append, .instanceMethod yX3_append, .selects RX3 yX3_append yX3_append, .initialized RX3, .code yX3_append cX3_append 2 (some .boolean), .fieldLink RX3 19 "DodgingHangman$Text" "length" "I", .fieldLink RX3 9 "DodgingHangman$Text" "signs" "[C"] ++ wsX50 ++ wsX30)
def wsX5_clearText : List Cond := .code yX5_clearText cX5_clearText 2 (some .int) :: ([.fieldLink RX5 10 "DodgingHangman" "text" "LDodgingHangman$Text;", .methodLink RX5 48 yX3_empty, .instanceMethod yX3_empty, .selects RX3 yX3_empty yX3_empty, .initialized RX3, .code yX3_empty cX3_empty 1 none, .fieldLink RX3 19 "DodgingHangman$Text" "length" "I"] ++ wsX50 ++ wsX30)
def wsX5_syntaxError : List Cond := .code yX5_syntaxError cX5_syntaxError 1 (some .int) :: ([.fieldLink RX5 10 "DodgingHangman" "text" "LDodgingHangman$Text;", .methodLink RX5 51 yX3_firstError, .instanceMethod yX3_firstError, .selects RX3 yX3_firstError yX3_firstError, .initialized RX3, .code yX3_firstError cX3_firstError 4 (some .int), .fieldLink RX3 19 "DodgingHangman$Text" "length" "I", .methodLink RX3 23 yX3_signAt, .instanceMethod yX3_signAt, .selects RX3 yX3_signAt yX3_signAt, .code yX3_signAt cX3_signAt 2 (some .int), .fieldLink RX3 9 "DodgingHangman$Text" "signs" "[C", .static yX5_isLetter, .initialized RX5, .code yX5_isLetter cX5_isLetter 1 (some .boolean)] ++ wsX50 ++ wsX30)
def wsX5_addTextTo_r1 : List Cond := [Cond.fieldLink RX5 10 "DodgingHangman" "text" "LDodgingHangman$Text;", Cond.methodLink RX5 120 yX3_readWords, Cond.instanceMethod yX3_readWords, Cond.selects RX3 yX3_readWords yX3_readWords, Cond.initialized RX3, Cond.code yX3_readWords cX3_readWords 7 (some .int), Cond.fieldLink RX3 19 "DodgingHangman$Text" "length" "I", Cond.methodLink RX3 23 yX3_signAt, Cond.instanceMethod yX3_signAt, Cond.selects RX3 yX3_signAt yX3_signAt, Cond.code yX3_signAt cX3_signAt 2 (some .int), Cond.fieldLink RX3 9 "DodgingHangman$Text" "signs" "[C", Cond.methodLink RX3 33 yX3_keepRead, Cond.instanceMethod yX3_keepRead, Cond.selects RX3 yX3_keepRead yX3_keepRead, Cond.code yX3_keepRead cX3_keepRead 4 (some .int), Cond.fieldLink RX3 15 "DodgingHangman$Text" "wordsRead" "[J", Cond.methodLink RX3 37 yX4_withLetter, Cond.static yX4_withLetter, Cond.initialized RX4, Cond.code yX4_withLetter cX4_withLetter 4 (some .long), Cond.static yX5_isLetter, Cond.initialized RX5, Cond.code yX5_isLetter cX5_isLetter 1 (some .boolean)]
def wsX5_addTextTo_r2 : List Cond := [Cond.methodLink RX4 11 yX4_shiftOf, Cond.static yX4_shiftOf, Cond.code yX4_shiftOf cX4_shiftOf 1 (some .int), Cond.methodLink RX5 123 yX3_wordRead, Cond.instanceMethod yX3_wordRead, Cond.selects RX3 yX3_wordRead yX3_wordRead, Cond.code yX3_wordRead cX3_wordRead 2 (some .long), Cond.methodLink RX5 260 yX2_isInList, Cond.instanceMethod yX2_isInList, Cond.selects RX2 yX2_isInList yX2_isInList, Cond.initialized RX2, Cond.code yX2_isInList cX2_isInList 3 (some .boolean), Cond.methodLink RX2 63 yX2_numberOf, Cond.instanceMethod yX2_numberOf, Cond.selects RX2 yX2_numberOf yX2_numberOf, Cond.code yX2_numberOf cX2_numberOf 4 (some .int), Cond.fieldLink RX2 28 "DodgingHangman$State" "wordCount" "I", Cond.methodLink RX2 67 yX2_wordAt, Cond.instanceMethod yX2_wordAt, Cond.selects RX2 yX2_wordAt yX2_wordAt, Cond.code yX2_wordAt cX2_wordAt 2 (some .long), Cond.fieldLink RX2 9 "DodgingHangman$State" "list" "[J", Cond.methodLink RX2 57 yX2_hasWord, Cond.instanceMethod yX2_hasWord]
def wsX5_addTextTo_r3 : List Cond := [Cond.selects RX2 yX2_hasWord yX2_hasWord, Cond.code yX2_hasWord cX2_hasWord 2 (some .boolean), Cond.methodLink RX5 264 yX2_insert, Cond.instanceMethod yX2_insert, Cond.selects RX2 yX2_insert yX2_insert, Cond.code yX2_insert cX2_insert 4 (some .boolean)]
def wsX5_addTextTo : List Cond := .code yX5_addTextTo cX5_addTextTo 6 (some .boolean) :: ((wsX5_addTextTo_r1 ++ (wsX5_addTextTo_r2 ++ wsX5_addTextTo_r3)) ++ wsX50 ++ wsX30 ++ wsX20)
def wsX5_addWords_r1 : List Cond := [Cond.fieldLink RX5 10 "DodgingHangman" "text" "LDodgingHangman$Text;", Cond.fieldLink RX5 19 "DodgingHangman" "now" "LDodgingHangman$State;", Cond.fieldLink RX5 30 "DodgingHangman" "draft" "LDodgingHangman$State;", Cond.fieldLink RX5 26 "DodgingHangman" "saved" "LDodgingHangman$SavedStates;", Cond.methodLink RX5 51 yX3_firstError, Cond.instanceMethod yX3_firstError, Cond.selects RX3 yX3_firstError yX3_firstError, Cond.initialized RX3, Cond.code yX3_firstError cX3_firstError 4 (some .int), Cond.fieldLink RX3 19 "DodgingHangman$Text" "length" "I", Cond.methodLink RX3 23 yX3_signAt, Cond.instanceMethod yX3_signAt, Cond.selects RX3 yX3_signAt yX3_signAt, Cond.code yX3_signAt cX3_signAt 2 (some .int), Cond.fieldLink RX3 9 "DodgingHangman$Text" "signs" "[C", Cond.static yX5_isLetter, Cond.initialized RX5, Cond.code yX5_isLetter cX5_isLetter 1 (some .boolean), Cond.methodLink RX5 55 yX2_isRunning, Cond.instanceMethod yX2_isRunning, Cond.selects RX2 yX2_isRunning yX2_isRunning, Cond.initialized RX2, Cond.code yX2_isRunning cX2_isRunning 1 (some .boolean), Cond.fieldLink RX2 35 "DodgingHangman$State" "status" "I"]
def wsX5_addWords_r2 : List Cond := [Cond.methodLink RX5 59 yX2_copyFrom, Cond.instanceMethod yX2_copyFrom, Cond.selects RX2 yX2_copyFrom yX2_copyFrom, Cond.code yX2_copyFrom cX2_copyFrom 2 none, Cond.fieldLink RX2 9 "DodgingHangman$State" "list" "[J", Cond.methodLink RX2 22 arraycopyName, Cond.native arraycopyName, Cond.static arraycopyName, Cond.initialized "java/lang/System", Cond.fieldLink RX2 15 "DodgingHangman$State" "lettersInOrder" "[I", Cond.fieldLink RX2 19 "DodgingHangman$State" "totals" "[I", Cond.fieldLink RX2 28 "DodgingHangman$State" "wordCount" "I", Cond.fieldLink RX2 32 "DodgingHangman$State" "policy" "I", Cond.fieldLink RX2 38 "DodgingHangman$State" "length" "I", Cond.fieldLink RX2 41 "DodgingHangman$State" "lives" "I", Cond.fieldLink RX2 44 "DodgingHangman$State" "candidates" "I", Cond.fieldLink RX2 47 "DodgingHangman$State" "guessed" "I", Cond.fieldLink RX2 50 "DodgingHangman$State" "guessCount" "I", Cond.fieldLink RX2 53 "DodgingHangman$State" "pattern" "J", Cond.methodLink RX5 63 yX5_addTextTo, Cond.instanceMethod yX5_addTextTo, Cond.selects RX5 yX5_addTextTo yX5_addTextTo, Cond.code yX5_addTextTo cX5_addTextTo 6 (some .boolean), Cond.methodLink RX5 120 yX3_readWords]
def wsX5_addWords_r3 : List Cond := [Cond.instanceMethod yX3_readWords, Cond.selects RX3 yX3_readWords yX3_readWords, Cond.code yX3_readWords cX3_readWords 7 (some .int), Cond.methodLink RX3 33 yX3_keepRead, Cond.instanceMethod yX3_keepRead, Cond.selects RX3 yX3_keepRead yX3_keepRead, Cond.code yX3_keepRead cX3_keepRead 4 (some .int), Cond.fieldLink RX3 15 "DodgingHangman$Text" "wordsRead" "[J", Cond.methodLink RX3 37 yX4_withLetter, Cond.static yX4_withLetter, Cond.initialized RX4, Cond.code yX4_withLetter cX4_withLetter 4 (some .long), Cond.methodLink RX4 11 yX4_shiftOf, Cond.static yX4_shiftOf, Cond.code yX4_shiftOf cX4_shiftOf 1 (some .int), Cond.methodLink RX5 123 yX3_wordRead, Cond.instanceMethod yX3_wordRead, Cond.selects RX3 yX3_wordRead yX3_wordRead, Cond.code yX3_wordRead cX3_wordRead 2 (some .long), Cond.methodLink RX5 260 yX2_isInList, Cond.instanceMethod yX2_isInList, Cond.selects RX2 yX2_isInList yX2_isInList, Cond.code yX2_isInList cX2_isInList 3 (some .boolean), Cond.methodLink RX2 63 yX2_numberOf]
def wsX5_addWords_r4 : List Cond := [Cond.instanceMethod yX2_numberOf, Cond.selects RX2 yX2_numberOf yX2_numberOf, Cond.code yX2_numberOf cX2_numberOf 4 (some .int), Cond.methodLink RX2 67 yX2_wordAt, Cond.instanceMethod yX2_wordAt, Cond.selects RX2 yX2_wordAt yX2_wordAt, Cond.code yX2_wordAt cX2_wordAt 2 (some .long), Cond.methodLink RX2 57 yX2_hasWord, Cond.instanceMethod yX2_hasWord, Cond.selects RX2 yX2_hasWord yX2_hasWord, Cond.code yX2_hasWord cX2_hasWord 2 (some .boolean), Cond.methodLink RX5 264 yX2_insert, Cond.instanceMethod yX2_insert, Cond.selects RX2 yX2_insert yX2_insert, Cond.code yX2_insert cX2_insert 4 (some .boolean), Cond.methodLink RX5 70 yX1_push, Cond.instanceMethod yX1_push, Cond.selects RX1 yX1_push yX1_push, Cond.initialized RX1, Cond.code yX1_push cX1_push 3 none, Cond.fieldLink RX1 17 "DodgingHangman$SavedStates" "next" "I", Cond.fieldLink RX1 11 "DodgingHangman$SavedStates" "ring" "[LDodgingHangman$State;", Cond.classLink RX1 9 RX2, Cond.instantiable RX2 12]
def wsX5_addWords_r5 : List Cond := [Cond.fieldLink RX1 26 "DodgingHangman$SavedStates" "count" "I", Cond.methodLink RX1 29 Lib.Math.min.name, Cond.static Lib.Math.min.name, Cond.initialized "java/lang/Math", Cond.code Lib.Math.min.name Lib.Math.min.code 2 (some .int), Cond.instanceMethod yX2_init, Cond.code yX2_init cX2_init 1 none, Cond.methodLink RX2 3 objectInit, Cond.instanceMethod objectInit, Cond.code objectInit ⟨#[0xb1]⟩ 1 none, Cond.arrayClass .long, Cond.arrayClass .int, Cond.methodLink RX1 22 yX2_copyFrom, Cond.methodLink RX5 73 yX2_endWithoutGame, Cond.instanceMethod yX2_endWithoutGame, Cond.selects RX2 yX2_endWithoutGame yX2_endWithoutGame, Cond.code yX2_endWithoutGame cX2_endWithoutGame 1 none, Cond.methodLink RX5 48 yX3_empty, Cond.instanceMethod yX3_empty, Cond.selects RX3 yX3_empty yX3_empty, Cond.code yX3_empty cX3_empty 1 none]
def wsX5_addWords : List Cond := .code yX5_addWords cX5_addWords 2 (some .int) :: ((wsX5_addWords_r1 ++ (wsX5_addWords_r2 ++ (wsX5_addWords_r3 ++ (wsX5_addWords_r4 ++ wsX5_addWords_r5)))) ++ wsX50 ++ wsX20 ++ wsX30 ++ wsX10)
def wsX5_removeWord_r1 : List Cond := [Cond.fieldLink RX5 19 "DodgingHangman" "now" "LDodgingHangman$State;", Cond.fieldLink RX5 26 "DodgingHangman" "saved" "LDodgingHangman$SavedStates;", Cond.methodLink RX5 76 yX2_hasWord, Cond.instanceMethod yX2_hasWord, Cond.selects RX2 yX2_hasWord yX2_hasWord, Cond.initialized RX2, Cond.code yX2_hasWord cX2_hasWord 2 (some .boolean), Cond.fieldLink RX2 28 "DodgingHangman$State" "wordCount" "I", Cond.methodLink RX5 55 yX2_isRunning, Cond.instanceMethod yX2_isRunning, Cond.selects RX2 yX2_isRunning yX2_isRunning, Cond.code yX2_isRunning cX2_isRunning 1 (some .boolean), Cond.fieldLink RX2 35 "DodgingHangman$State" "status" "I", Cond.methodLink RX5 70 yX1_push, Cond.instanceMethod yX1_push, Cond.selects RX1 yX1_push yX1_push, Cond.initialized RX1, Cond.code yX1_push cX1_push 3 none, Cond.fieldLink RX1 17 "DodgingHangman$SavedStates" "next" "I", Cond.fieldLink RX1 11 "DodgingHangman$SavedStates" "ring" "[LDodgingHangman$State;", Cond.classLink RX1 9 RX2, Cond.instantiable RX2 12, Cond.fieldLink RX1 26 "DodgingHangman$SavedStates" "count" "I", Cond.methodLink RX1 29 Lib.Math.min.name]
def wsX5_removeWord_r2 : List Cond := [Cond.static Lib.Math.min.name, Cond.initialized "java/lang/Math", Cond.code Lib.Math.min.name Lib.Math.min.code 2 (some .int), Cond.instanceMethod yX2_init, Cond.code yX2_init cX2_init 1 none, Cond.methodLink RX2 3 objectInit, Cond.instanceMethod objectInit, Cond.code objectInit ⟨#[0xb1]⟩ 1 none, Cond.arrayClass .long, Cond.fieldLink RX2 9 "DodgingHangman$State" "list" "[J", Cond.arrayClass .int, Cond.fieldLink RX2 15 "DodgingHangman$State" "lettersInOrder" "[I", Cond.fieldLink RX2 19 "DodgingHangman$State" "totals" "[I", Cond.methodLink RX1 22 yX2_copyFrom, Cond.instanceMethod yX2_copyFrom, Cond.selects RX2 yX2_copyFrom yX2_copyFrom, Cond.code yX2_copyFrom cX2_copyFrom 2 none, Cond.methodLink RX2 22 arraycopyName, Cond.native arraycopyName, Cond.static arraycopyName, Cond.initialized "java/lang/System", Cond.fieldLink RX2 32 "DodgingHangman$State" "policy" "I", Cond.fieldLink RX2 38 "DodgingHangman$State" "length" "I", Cond.fieldLink RX2 41 "DodgingHangman$State" "lives" "I"]
def wsX5_removeWord_r3 : List Cond := [Cond.fieldLink RX2 44 "DodgingHangman$State" "candidates" "I", Cond.fieldLink RX2 47 "DodgingHangman$State" "guessed" "I", Cond.fieldLink RX2 50 "DodgingHangman$State" "guessCount" "I", Cond.fieldLink RX2 53 "DodgingHangman$State" "pattern" "J", Cond.methodLink RX5 80 yX2_remove, Cond.instanceMethod yX2_remove, Cond.selects RX2 yX2_remove yX2_remove, Cond.code yX2_remove cX2_remove 3 none, Cond.methodLink RX2 57 yX2_hasWord, Cond.methodLink RX5 73 yX2_endWithoutGame, Cond.instanceMethod yX2_endWithoutGame, Cond.selects RX2 yX2_endWithoutGame yX2_endWithoutGame, Cond.code yX2_endWithoutGame cX2_endWithoutGame 1 none]
def wsX5_removeWord : List Cond := .code yX5_removeWord cX5_removeWord 2 (some .int) :: ((wsX5_removeWord_r1 ++ (wsX5_removeWord_r2 ++ wsX5_removeWord_r3)) ++ wsX50 ++ wsX20 ++ wsX10)
def wsX5_words : List Cond := .code yX5_words cX5_words 1 (some .int) :: ([.fieldLink RX5 19 "DodgingHangman" "now" "LDodgingHangman$State;"] ++ wsX50 ++ wsX20)
def wsX5_letterOf : List Cond := .code yX5_letterOf cX5_letterOf 4 (some .int) :: ([.fieldLink RX5 19 "DodgingHangman" "now" "LDodgingHangman$State;", .methodLink RX5 84 yX2_wordAt, .instanceMethod yX2_wordAt, .selects RX2 yX2_wordAt yX2_wordAt, .initialized RX2, .code yX2_wordAt cX2_wordAt 2 (some .long), .fieldLink RX2 9 "DodgingHangman$State" "list" "[J", .methodLink RX2 57 yX2_hasWord, .instanceMethod yX2_hasWord, .selects RX2 yX2_hasWord yX2_hasWord, .code yX2_hasWord cX2_hasWord 2 (some .boolean), .fieldLink RX2 28 "DodgingHangman$State" "wordCount" "I", .methodLink RX5 88 yX4_letterAt, .static yX4_letterAt, .initialized RX4, .code yX4_letterAt cX4_letterAt 4 (some .int), .methodLink RX4 11 yX4_shiftOf, .static yX4_shiftOf, .code yX4_shiftOf cX4_shiftOf 1 (some .int)] ++ wsX50 ++ wsX20)
def wsX5_setPolicy_r1 : List Cond := [Cond.fieldLink RX5 19 "DodgingHangman" "now" "LDodgingHangman$State;", Cond.fieldLink RX5 26 "DodgingHangman" "saved" "LDodgingHangman$SavedStates;", Cond.methodLink RX5 70 yX1_push, Cond.instanceMethod yX1_push, Cond.selects RX1 yX1_push yX1_push, Cond.initialized RX1, Cond.code yX1_push cX1_push 3 none, Cond.fieldLink RX1 17 "DodgingHangman$SavedStates" "next" "I", Cond.fieldLink RX1 11 "DodgingHangman$SavedStates" "ring" "[LDodgingHangman$State;", Cond.classLink RX1 9 RX2, Cond.instantiable RX2 12, Cond.initialized RX2, Cond.fieldLink RX1 26 "DodgingHangman$SavedStates" "count" "I", Cond.methodLink RX1 29 Lib.Math.min.name, Cond.static Lib.Math.min.name, Cond.initialized "java/lang/Math", Cond.code Lib.Math.min.name Lib.Math.min.code 2 (some .int), Cond.instanceMethod yX2_init, Cond.code yX2_init cX2_init 1 none, Cond.methodLink RX2 3 objectInit, Cond.instanceMethod objectInit, Cond.code objectInit ⟨#[0xb1]⟩ 1 none, Cond.arrayClass .long, Cond.fieldLink RX2 9 "DodgingHangman$State" "list" "[J"]
def wsX5_setPolicy_r2 : List Cond := [Cond.arrayClass .int, Cond.fieldLink RX2 15 "DodgingHangman$State" "lettersInOrder" "[I", Cond.fieldLink RX2 19 "DodgingHangman$State" "totals" "[I", Cond.methodLink RX1 22 yX2_copyFrom, Cond.instanceMethod yX2_copyFrom, Cond.selects RX2 yX2_copyFrom yX2_copyFrom, Cond.code yX2_copyFrom cX2_copyFrom 2 none, Cond.methodLink RX2 22 arraycopyName, Cond.native arraycopyName, Cond.static arraycopyName, Cond.initialized "java/lang/System", Cond.fieldLink RX2 28 "DodgingHangman$State" "wordCount" "I", Cond.fieldLink RX2 32 "DodgingHangman$State" "policy" "I", Cond.fieldLink RX2 35 "DodgingHangman$State" "status" "I", Cond.fieldLink RX2 38 "DodgingHangman$State" "length" "I", Cond.fieldLink RX2 41 "DodgingHangman$State" "lives" "I", Cond.fieldLink RX2 44 "DodgingHangman$State" "candidates" "I", Cond.fieldLink RX2 47 "DodgingHangman$State" "guessed" "I", Cond.fieldLink RX2 50 "DodgingHangman$State" "guessCount" "I", Cond.fieldLink RX2 53 "DodgingHangman$State" "pattern" "J"]
def wsX5_setPolicy : List Cond := .code yX5_setPolicy cX5_setPolicy 3 (some .int) :: ((wsX5_setPolicy_r1 ++ wsX5_setPolicy_r2) ++ wsX50 ++ wsX20 ++ wsX10)
def wsX5_start_r1 : List Cond := [Cond.fieldLink RX5 19 "DodgingHangman" "now" "LDodgingHangman$State;", Cond.fieldLink RX5 26 "DodgingHangman" "saved" "LDodgingHangman$SavedStates;", Cond.methodLink RX5 97 yX2_wordsOfLength, Cond.instanceMethod yX2_wordsOfLength, Cond.selects RX2 yX2_wordsOfLength yX2_wordsOfLength, Cond.initialized RX2, Cond.code yX2_wordsOfLength cX2_wordsOfLength 4 (some .int), Cond.fieldLink RX2 28 "DodgingHangman$State" "wordCount" "I", Cond.methodLink RX2 67 yX2_wordAt, Cond.instanceMethod yX2_wordAt, Cond.selects RX2 yX2_wordAt yX2_wordAt, Cond.code yX2_wordAt cX2_wordAt 2 (some .long), Cond.fieldLink RX2 9 "DodgingHangman$State" "list" "[J", Cond.methodLink RX2 57 yX2_hasWord, Cond.instanceMethod yX2_hasWord, Cond.selects RX2 yX2_hasWord yX2_hasWord, Cond.code yX2_hasWord cX2_hasWord 2 (some .boolean), Cond.methodLink RX2 71 yX4_lengthOf, Cond.static yX4_lengthOf, Cond.initialized RX4, Cond.code yX4_lengthOf cX4_lengthOf 4 (some .int), Cond.methodLink RX4 19 yX4_letterAt, Cond.static yX4_letterAt, Cond.code yX4_letterAt cX4_letterAt 4 (some .int)]
def wsX5_start_r2 : List Cond := [Cond.methodLink RX4 11 yX4_shiftOf, Cond.static yX4_shiftOf, Cond.code yX4_shiftOf cX4_shiftOf 1 (some .int), Cond.methodLink RX5 70 yX1_push, Cond.instanceMethod yX1_push, Cond.selects RX1 yX1_push yX1_push, Cond.initialized RX1, Cond.code yX1_push cX1_push 3 none, Cond.fieldLink RX1 17 "DodgingHangman$SavedStates" "next" "I", Cond.fieldLink RX1 11 "DodgingHangman$SavedStates" "ring" "[LDodgingHangman$State;", Cond.classLink RX1 9 RX2, Cond.instantiable RX2 12, Cond.fieldLink RX1 26 "DodgingHangman$SavedStates" "count" "I", Cond.methodLink RX1 29 Lib.Math.min.name, Cond.static Lib.Math.min.name, Cond.initialized "java/lang/Math", Cond.code Lib.Math.min.name Lib.Math.min.code 2 (some .int), Cond.instanceMethod yX2_init, Cond.code yX2_init cX2_init 1 none, Cond.methodLink RX2 3 objectInit, Cond.instanceMethod objectInit, Cond.code objectInit ⟨#[0xb1]⟩ 1 none, Cond.arrayClass .long, Cond.arrayClass .int]
def wsX5_start_r3 : List Cond := [Cond.fieldLink RX2 15 "DodgingHangman$State" "lettersInOrder" "[I", Cond.fieldLink RX2 19 "DodgingHangman$State" "totals" "[I", Cond.methodLink RX1 22 yX2_copyFrom, Cond.instanceMethod yX2_copyFrom, Cond.selects RX2 yX2_copyFrom yX2_copyFrom, Cond.code yX2_copyFrom cX2_copyFrom 2 none, Cond.methodLink RX2 22 arraycopyName, Cond.native arraycopyName, Cond.static arraycopyName, Cond.initialized "java/lang/System", Cond.fieldLink RX2 32 "DodgingHangman$State" "policy" "I", Cond.fieldLink RX2 35 "DodgingHangman$State" "status" "I", Cond.fieldLink RX2 38 "DodgingHangman$State" "length" "I", Cond.fieldLink RX2 41 "DodgingHangman$State" "lives" "I", Cond.fieldLink RX2 44 "DodgingHangman$State" "candidates" "I", Cond.fieldLink RX2 47 "DodgingHangman$State" "guessed" "I", Cond.fieldLink RX2 50 "DodgingHangman$State" "guessCount" "I", Cond.fieldLink RX2 53 "DodgingHangman$State" "pattern" "J", Cond.methodLink RX5 101 yX2_begin, Cond.instanceMethod yX2_begin, Cond.selects RX2 yX2_begin yX2_begin, Cond.code yX2_begin cX2_begin 4 none, Cond.methodLink RX2 89 yX2_endWithoutGame, Cond.instanceMethod yX2_endWithoutGame]
def wsX5_start_r4 : List Cond := [Cond.selects RX2 yX2_endWithoutGame yX2_endWithoutGame, Cond.code yX2_endWithoutGame cX2_endWithoutGame 1 none, Cond.methodLink RX2 92 yX2_count, Cond.instanceMethod yX2_count, Cond.selects RX2 yX2_count yX2_count, Cond.code yX2_count cX2_count 2 none, Cond.methodLink RX5 105 yJ6_bitCount_0f7a4, Cond.static yJ6_bitCount_0f7a4, Cond.initialized RJ6, Cond.code yJ6_bitCount_0f7a4 cJ6_bitCount_0f7a4 1 (some .int), Cond.constant RJ6 265 (1431655765), Cond.constant RJ6 266 (858993459), Cond.constant RJ6 267 (252645135)]
def wsX5_start : List Cond := .code yX5_start cX5_start 4 (some .int) :: ((wsX5_start_r1 ++ (wsX5_start_r2 ++ (wsX5_start_r3 ++ wsX5_start_r4))) ++ wsX50 ++ wsX20 ++ wsX10)
def wsX5_play_r1 : List Cond := [Cond.fieldLink RX5 36 "DodgingHangman" "split" "LDodgingHangman$Families;", Cond.methodLink RX5 164 yX0_make, Cond.instanceMethod yX0_make, Cond.selects RX0 yX0_make yX0_make, Cond.initialized RX0, Cond.code yX0_make cX0_make 7 none, Cond.fieldLink RX0 21 "DodgingHangman$Families" "count" "I", Cond.fieldLink RX0 30 "DodgingHangman$Families" "policy" "I", Cond.static yX5_bitOf, Cond.initialized RX5, Cond.code yX5_bitOf cX5_bitOf 1 (some .int), Cond.methodLink RX5 110 yX5_isLetter, Cond.static yX5_isLetter, Cond.code yX5_isLetter cX5_isLetter 1 (some .boolean), Cond.methodLink RX0 41 yX2_isCandidate, Cond.instanceMethod yX2_isCandidate, Cond.selects RX2 yX2_isCandidate yX2_isCandidate, Cond.initialized RX2, Cond.code yX2_isCandidate cX2_isCandidate 2 (some .boolean), Cond.fieldLink RX2 44 "DodgingHangman$State" "candidates" "I", Cond.methodLink RX2 57 yX2_hasWord, Cond.instanceMethod yX2_hasWord, Cond.selects RX2 yX2_hasWord yX2_hasWord, Cond.code yX2_hasWord cX2_hasWord 2 (some .boolean)]
def wsX5_play_r2 : List Cond := [Cond.fieldLink RX2 28 "DodgingHangman$State" "wordCount" "I", Cond.methodLink RX0 45 yX2_wordAt, Cond.instanceMethod yX2_wordAt, Cond.selects RX2 yX2_wordAt yX2_wordAt, Cond.code yX2_wordAt cX2_wordAt 2 (some .long), Cond.fieldLink RX2 9 "DodgingHangman$State" "list" "[J", Cond.methodLink RX0 49 yX4_maskOf, Cond.static yX4_maskOf, Cond.initialized RX4, Cond.code yX4_maskOf cX4_maskOf 5 (some .int), Cond.methodLink RX4 19 yX4_letterAt, Cond.static yX4_letterAt, Cond.code yX4_letterAt cX4_letterAt 4 (some .int), Cond.methodLink RX4 11 yX4_shiftOf, Cond.static yX4_shiftOf, Cond.code yX4_shiftOf cX4_shiftOf 1 (some .int), Cond.methodLink RX0 55 yX4_lettersOf, Cond.static yX4_lettersOf, Cond.code yX4_lettersOf cX4_lettersOf 4 (some .int), Cond.methodLink RX0 59 yX0_put, Cond.instanceMethod yX0_put, Cond.selects RX0 yX0_put yX0_put, Cond.code yX0_put cX0_put 5 none, Cond.fieldLink RX0 9 "DodgingHangman$Families" "masks" "[I"]
def wsX5_play_r3 : List Cond := [Cond.fieldLink RX0 15 "DodgingHangman$Families" "members" "[I", Cond.fieldLink RX0 18 "DodgingHangman$Families" "freshLetters" "[I", Cond.methodLink RX0 63 yX0_maskOf, Cond.instanceMethod yX0_maskOf, Cond.selects RX0 yX0_maskOf yX0_maskOf, Cond.code yX0_maskOf cX0_maskOf 2 (some .int), Cond.methodLink RX0 65 yX0_has, Cond.instanceMethod yX0_has, Cond.selects RX0 yX0_has yX0_has, Cond.code yX0_has cX0_has 2 (some .boolean), Cond.methodLink RX5 171 yX0_ranked, Cond.instanceMethod yX0_ranked, Cond.selects RX0 yX0_ranked yX0_ranked, Cond.code yX0_ranked cX0_ranked 3 (some .int), Cond.methodLink RX0 79 yX0_betterThan, Cond.instanceMethod yX0_betterThan, Cond.selects RX0 yX0_betterThan yX0_betterThan, Cond.code yX0_betterThan cX0_betterThan 4 (some .int), Cond.methodLink RX0 82 yX0_isBetter, Cond.instanceMethod yX0_isBetter, Cond.selects RX0 yX0_isBetter yX0_isBetter, Cond.code yX0_isBetter cX0_isBetter 5 (some .boolean), Cond.methodLink RX0 86 yX0_freshnessOf, Cond.instanceMethod yX0_freshnessOf]
def wsX5_play_r4 : List Cond := [Cond.selects RX0 yX0_freshnessOf yX0_freshnessOf, Cond.code yX0_freshnessOf cX0_freshnessOf 2 (some .int), Cond.methodLink RX0 71 yJ6_bitCount_0f7a4, Cond.static yJ6_bitCount_0f7a4, Cond.initialized RJ6, Cond.code yJ6_bitCount_0f7a4 cJ6_bitCount_0f7a4 1 (some .int), Cond.constant RJ6 265 (1431655765), Cond.constant RJ6 266 (858993459), Cond.constant RJ6 267 (252645135), Cond.methodLink RX0 76 yX0_sizeOf, Cond.instanceMethod yX0_sizeOf, Cond.selects RX0 yX0_sizeOf yX0_sizeOf, Cond.code yX0_sizeOf cX0_sizeOf 2 (some .int), Cond.methodLink RX0 68 yX0_membersOf, Cond.instanceMethod yX0_membersOf, Cond.selects RX0 yX0_membersOf yX0_membersOf, Cond.code yX0_membersOf cX0_membersOf 2 (some .int), Cond.methodLink RX5 180 yX0_maskOf, Cond.methodLink RX5 183 yX0_membersOf, Cond.methodLink RX5 267 yX2_takeLetter, Cond.instanceMethod yX2_takeLetter, Cond.selects RX2 yX2_takeLetter yX2_takeLetter, Cond.code yX2_takeLetter cX2_takeLetter 6 none, Cond.fieldLink RX2 38 "DodgingHangman$State" "length" "I"]
def wsX5_play_r5 : List Cond := [Cond.fieldLink RX2 53 "DodgingHangman$State" "pattern" "J", Cond.methodLink RX2 96 yX2_noteGuess, Cond.instanceMethod yX2_noteGuess, Cond.selects RX2 yX2_noteGuess yX2_noteGuess, Cond.code yX2_noteGuess cX2_noteGuess 2 none, Cond.fieldLink RX2 50 "DodgingHangman$State" "guessCount" "I", Cond.fieldLink RX2 15 "DodgingHangman$State" "lettersInOrder" "[I", Cond.fieldLink RX2 47 "DodgingHangman$State" "guessed" "I", Cond.methodLink RX2 92 yX2_count, Cond.instanceMethod yX2_count, Cond.selects RX2 yX2_count yX2_count, Cond.code yX2_count cX2_count 2 none, Cond.fieldLink RX2 19 "DodgingHangman$State" "totals" "[I", Cond.methodLink RX2 99 yX2_miss, Cond.instanceMethod yX2_miss, Cond.selects RX2 yX2_miss yX2_miss, Cond.code yX2_miss cX2_miss 2 none, Cond.fieldLink RX2 41 "DodgingHangman$State" "lives" "I", Cond.methodLink RX2 110 yX2_lose, Cond.instanceMethod yX2_lose, Cond.selects RX2 yX2_lose yX2_lose, Cond.code yX2_lose cX2_lose 1 none, Cond.fieldLink RX2 35 "DodgingHangman$State" "status" "I", Cond.methodLink RX2 103 yX4_withLetter]
def wsX5_play_r6 : List Cond := [Cond.static yX4_withLetter, Cond.code yX4_withLetter cX4_withLetter 4 (some .long), Cond.methodLink RX2 71 yX4_lengthOf, Cond.static yX4_lengthOf, Cond.code yX4_lengthOf cX4_lengthOf 4 (some .int), Cond.methodLink RX2 107 yX2_win, Cond.instanceMethod yX2_win, Cond.selects RX2 yX2_win yX2_win, Cond.code yX2_win cX2_win 1 none, Cond.methodLink RX5 105 yJ6_bitCount_0f7a4]
def wsX5_play : List Cond := .code yX5_play cX5_play 5 (some .int) :: ((wsX5_play_r1 ++ (wsX5_play_r2 ++ (wsX5_play_r3 ++ (wsX5_play_r4 ++ (wsX5_play_r5 ++ wsX5_play_r6))))) ++ wsX50 ++ wsX00 ++ wsX20)
def wsX5_guess_r1 : List Cond := [Cond.fieldLink RX5 19 "DodgingHangman" "now" "LDodgingHangman$State;", Cond.fieldLink RX5 26 "DodgingHangman" "saved" "LDodgingHangman$SavedStates;", Cond.methodLink RX5 110 yX5_isLetter, Cond.static yX5_isLetter, Cond.initialized RX5, Cond.code yX5_isLetter cX5_isLetter 1 (some .boolean), Cond.methodLink RX5 55 yX2_isRunning, Cond.instanceMethod yX2_isRunning, Cond.selects RX2 yX2_isRunning yX2_isRunning, Cond.initialized RX2, Cond.code yX2_isRunning cX2_isRunning 1 (some .boolean), Cond.fieldLink RX2 35 "DodgingHangman$State" "status" "I", Cond.methodLink RX5 113 yX2_wasGuessed, Cond.instanceMethod yX2_wasGuessed, Cond.selects RX2 yX2_wasGuessed yX2_wasGuessed, Cond.code yX2_wasGuessed cX2_wasGuessed 2 (some .boolean), Cond.fieldLink RX2 47 "DodgingHangman$State" "guessed" "I", Cond.static yX5_bitOf, Cond.code yX5_bitOf cX5_bitOf 1 (some .int), Cond.methodLink RX5 70 yX1_push, Cond.instanceMethod yX1_push, Cond.selects RX1 yX1_push yX1_push, Cond.initialized RX1, Cond.code yX1_push cX1_push 3 none]
def wsX5_guess_r2 : List Cond := [Cond.fieldLink RX1 17 "DodgingHangman$SavedStates" "next" "I", Cond.fieldLink RX1 11 "DodgingHangman$SavedStates" "ring" "[LDodgingHangman$State;", Cond.classLink RX1 9 RX2, Cond.instantiable RX2 12, Cond.fieldLink RX1 26 "DodgingHangman$SavedStates" "count" "I", Cond.methodLink RX1 29 Lib.Math.min.name, Cond.static Lib.Math.min.name, Cond.initialized "java/lang/Math", Cond.code Lib.Math.min.name Lib.Math.min.code 2 (some .int), Cond.instanceMethod yX2_init, Cond.code yX2_init cX2_init 1 none, Cond.methodLink RX2 3 objectInit, Cond.instanceMethod objectInit, Cond.code objectInit ⟨#[0xb1]⟩ 1 none, Cond.arrayClass .long, Cond.fieldLink RX2 9 "DodgingHangman$State" "list" "[J", Cond.arrayClass .int, Cond.fieldLink RX2 15 "DodgingHangman$State" "lettersInOrder" "[I", Cond.fieldLink RX2 19 "DodgingHangman$State" "totals" "[I", Cond.methodLink RX1 22 yX2_copyFrom, Cond.instanceMethod yX2_copyFrom, Cond.selects RX2 yX2_copyFrom yX2_copyFrom, Cond.code yX2_copyFrom cX2_copyFrom 2 none, Cond.methodLink RX2 22 arraycopyName]
def wsX5_guess_r3 : List Cond := [Cond.native arraycopyName, Cond.static arraycopyName, Cond.initialized "java/lang/System", Cond.fieldLink RX2 28 "DodgingHangman$State" "wordCount" "I", Cond.fieldLink RX2 32 "DodgingHangman$State" "policy" "I", Cond.fieldLink RX2 38 "DodgingHangman$State" "length" "I", Cond.fieldLink RX2 41 "DodgingHangman$State" "lives" "I", Cond.fieldLink RX2 44 "DodgingHangman$State" "candidates" "I", Cond.fieldLink RX2 50 "DodgingHangman$State" "guessCount" "I", Cond.fieldLink RX2 53 "DodgingHangman$State" "pattern" "J", Cond.methodLink RX5 116 yX5_play, Cond.instanceMethod yX5_play, Cond.selects RX5 yX5_play yX5_play, Cond.code yX5_play cX5_play 5 (some .int), Cond.fieldLink RX5 36 "DodgingHangman" "split" "LDodgingHangman$Families;", Cond.methodLink RX5 164 yX0_make, Cond.instanceMethod yX0_make, Cond.selects RX0 yX0_make yX0_make, Cond.initialized RX0, Cond.code yX0_make cX0_make 7 none, Cond.fieldLink RX0 21 "DodgingHangman$Families" "count" "I", Cond.fieldLink RX0 30 "DodgingHangman$Families" "policy" "I", Cond.methodLink RX0 41 yX2_isCandidate, Cond.instanceMethod yX2_isCandidate]
def wsX5_guess_r4 : List Cond := [Cond.selects RX2 yX2_isCandidate yX2_isCandidate, Cond.code yX2_isCandidate cX2_isCandidate 2 (some .boolean), Cond.methodLink RX2 57 yX2_hasWord, Cond.instanceMethod yX2_hasWord, Cond.selects RX2 yX2_hasWord yX2_hasWord, Cond.code yX2_hasWord cX2_hasWord 2 (some .boolean), Cond.methodLink RX0 45 yX2_wordAt, Cond.instanceMethod yX2_wordAt, Cond.selects RX2 yX2_wordAt yX2_wordAt, Cond.code yX2_wordAt cX2_wordAt 2 (some .long), Cond.methodLink RX0 49 yX4_maskOf, Cond.static yX4_maskOf, Cond.initialized RX4, Cond.code yX4_maskOf cX4_maskOf 5 (some .int), Cond.methodLink RX4 19 yX4_letterAt, Cond.static yX4_letterAt, Cond.code yX4_letterAt cX4_letterAt 4 (some .int), Cond.methodLink RX4 11 yX4_shiftOf, Cond.static yX4_shiftOf, Cond.code yX4_shiftOf cX4_shiftOf 1 (some .int), Cond.methodLink RX0 55 yX4_lettersOf, Cond.static yX4_lettersOf, Cond.code yX4_lettersOf cX4_lettersOf 4 (some .int), Cond.methodLink RX0 59 yX0_put]
def wsX5_guess_r5 : List Cond := [Cond.instanceMethod yX0_put, Cond.selects RX0 yX0_put yX0_put, Cond.code yX0_put cX0_put 5 none, Cond.fieldLink RX0 9 "DodgingHangman$Families" "masks" "[I", Cond.fieldLink RX0 15 "DodgingHangman$Families" "members" "[I", Cond.fieldLink RX0 18 "DodgingHangman$Families" "freshLetters" "[I", Cond.methodLink RX0 63 yX0_maskOf, Cond.instanceMethod yX0_maskOf, Cond.selects RX0 yX0_maskOf yX0_maskOf, Cond.code yX0_maskOf cX0_maskOf 2 (some .int), Cond.methodLink RX0 65 yX0_has, Cond.instanceMethod yX0_has, Cond.selects RX0 yX0_has yX0_has, Cond.code yX0_has cX0_has 2 (some .boolean), Cond.methodLink RX5 171 yX0_ranked, Cond.instanceMethod yX0_ranked, Cond.selects RX0 yX0_ranked yX0_ranked, Cond.code yX0_ranked cX0_ranked 3 (some .int), Cond.methodLink RX0 79 yX0_betterThan, Cond.instanceMethod yX0_betterThan, Cond.selects RX0 yX0_betterThan yX0_betterThan, Cond.code yX0_betterThan cX0_betterThan 4 (some .int), Cond.methodLink RX0 82 yX0_isBetter, Cond.instanceMethod yX0_isBetter]
def wsX5_guess_r6 : List Cond := [Cond.selects RX0 yX0_isBetter yX0_isBetter, Cond.code yX0_isBetter cX0_isBetter 5 (some .boolean), Cond.methodLink RX0 86 yX0_freshnessOf, Cond.instanceMethod yX0_freshnessOf, Cond.selects RX0 yX0_freshnessOf yX0_freshnessOf, Cond.code yX0_freshnessOf cX0_freshnessOf 2 (some .int), Cond.methodLink RX0 71 yJ6_bitCount_0f7a4, Cond.static yJ6_bitCount_0f7a4, Cond.initialized RJ6, Cond.code yJ6_bitCount_0f7a4 cJ6_bitCount_0f7a4 1 (some .int), Cond.constant RJ6 265 (1431655765), Cond.constant RJ6 266 (858993459), Cond.constant RJ6 267 (252645135), Cond.methodLink RX0 76 yX0_sizeOf, Cond.instanceMethod yX0_sizeOf, Cond.selects RX0 yX0_sizeOf yX0_sizeOf, Cond.code yX0_sizeOf cX0_sizeOf 2 (some .int), Cond.methodLink RX0 68 yX0_membersOf, Cond.instanceMethod yX0_membersOf, Cond.selects RX0 yX0_membersOf yX0_membersOf, Cond.code yX0_membersOf cX0_membersOf 2 (some .int), Cond.methodLink RX5 180 yX0_maskOf, Cond.methodLink RX5 183 yX0_membersOf, Cond.methodLink RX5 267 yX2_takeLetter]
def wsX5_guess_r7 : List Cond := [Cond.instanceMethod yX2_takeLetter, Cond.selects RX2 yX2_takeLetter yX2_takeLetter, Cond.code yX2_takeLetter cX2_takeLetter 6 none, Cond.methodLink RX2 96 yX2_noteGuess, Cond.instanceMethod yX2_noteGuess, Cond.selects RX2 yX2_noteGuess yX2_noteGuess, Cond.code yX2_noteGuess cX2_noteGuess 2 none, Cond.methodLink RX2 92 yX2_count, Cond.instanceMethod yX2_count, Cond.selects RX2 yX2_count yX2_count, Cond.code yX2_count cX2_count 2 none, Cond.methodLink RX2 99 yX2_miss, Cond.instanceMethod yX2_miss, Cond.selects RX2 yX2_miss yX2_miss, Cond.code yX2_miss cX2_miss 2 none, Cond.methodLink RX2 110 yX2_lose, Cond.instanceMethod yX2_lose, Cond.selects RX2 yX2_lose yX2_lose, Cond.code yX2_lose cX2_lose 1 none, Cond.methodLink RX2 103 yX4_withLetter, Cond.static yX4_withLetter, Cond.code yX4_withLetter cX4_withLetter 4 (some .long), Cond.methodLink RX2 71 yX4_lengthOf, Cond.static yX4_lengthOf]
def wsX5_guess_r8 : List Cond := [Cond.code yX4_lengthOf cX4_lengthOf 4 (some .int), Cond.methodLink RX2 107 yX2_win, Cond.instanceMethod yX2_win, Cond.selects RX2 yX2_win yX2_win, Cond.code yX2_win cX2_win 1 none, Cond.methodLink RX5 105 yJ6_bitCount_0f7a4]
def wsX5_guess : List Cond := .code yX5_guess cX5_guess 2 (some .int) :: ((wsX5_guess_r1 ++ (wsX5_guess_r2 ++ (wsX5_guess_r3 ++ (wsX5_guess_r4 ++ (wsX5_guess_r5 ++ (wsX5_guess_r6 ++ (wsX5_guess_r7 ++ wsX5_guess_r8))))))) ++ wsX50 ++ wsX20 ++ wsX10 ++ wsX00)
def wsX5_guessWord_r1 : List Cond := [Cond.fieldLink RX5 10 "DodgingHangman" "text" "LDodgingHangman$Text;", Cond.fieldLink RX5 19 "DodgingHangman" "now" "LDodgingHangman$State;", Cond.fieldLink RX5 26 "DodgingHangman" "saved" "LDodgingHangman$SavedStates;", Cond.methodLink RX5 51 yX3_firstError, Cond.instanceMethod yX3_firstError, Cond.selects RX3 yX3_firstError yX3_firstError, Cond.initialized RX3, Cond.code yX3_firstError cX3_firstError 4 (some .int), Cond.fieldLink RX3 19 "DodgingHangman$Text" "length" "I", Cond.methodLink RX3 23 yX3_signAt, Cond.instanceMethod yX3_signAt, Cond.selects RX3 yX3_signAt yX3_signAt, Cond.code yX3_signAt cX3_signAt 2 (some .int), Cond.fieldLink RX3 9 "DodgingHangman$Text" "signs" "[C", Cond.static yX5_isLetter, Cond.initialized RX5, Cond.code yX5_isLetter cX5_isLetter 1 (some .boolean), Cond.methodLink RX5 120 yX3_readWords, Cond.instanceMethod yX3_readWords, Cond.selects RX3 yX3_readWords yX3_readWords, Cond.code yX3_readWords cX3_readWords 7 (some .int), Cond.methodLink RX3 33 yX3_keepRead, Cond.instanceMethod yX3_keepRead, Cond.selects RX3 yX3_keepRead yX3_keepRead]
def wsX5_guessWord_r2 : List Cond := [Cond.code yX3_keepRead cX3_keepRead 4 (some .int), Cond.fieldLink RX3 15 "DodgingHangman$Text" "wordsRead" "[J", Cond.methodLink RX3 37 yX4_withLetter, Cond.static yX4_withLetter, Cond.initialized RX4, Cond.code yX4_withLetter cX4_withLetter 4 (some .long), Cond.methodLink RX4 11 yX4_shiftOf, Cond.static yX4_shiftOf, Cond.code yX4_shiftOf cX4_shiftOf 1 (some .int), Cond.methodLink RX5 123 yX3_wordRead, Cond.instanceMethod yX3_wordRead, Cond.selects RX3 yX3_wordRead yX3_wordRead, Cond.code yX3_wordRead cX3_wordRead 2 (some .long), Cond.methodLink RX5 55 yX2_isRunning, Cond.instanceMethod yX2_isRunning, Cond.selects RX2 yX2_isRunning yX2_isRunning, Cond.initialized RX2, Cond.code yX2_isRunning cX2_isRunning 1 (some .boolean), Cond.fieldLink RX2 35 "DodgingHangman$State" "status" "I", Cond.methodLink RX5 126 yX4_lengthOf, Cond.static yX4_lengthOf, Cond.code yX4_lengthOf cX4_lengthOf 4 (some .int), Cond.methodLink RX4 19 yX4_letterAt, Cond.static yX4_letterAt]
def wsX5_guessWord_r3 : List Cond := [Cond.code yX4_letterAt cX4_letterAt 4 (some .int), Cond.methodLink RX5 70 yX1_push, Cond.instanceMethod yX1_push, Cond.selects RX1 yX1_push yX1_push, Cond.initialized RX1, Cond.code yX1_push cX1_push 3 none, Cond.fieldLink RX1 17 "DodgingHangman$SavedStates" "next" "I", Cond.fieldLink RX1 11 "DodgingHangman$SavedStates" "ring" "[LDodgingHangman$State;", Cond.classLink RX1 9 RX2, Cond.instantiable RX2 12, Cond.fieldLink RX1 26 "DodgingHangman$SavedStates" "count" "I", Cond.methodLink RX1 29 Lib.Math.min.name, Cond.static Lib.Math.min.name, Cond.initialized "java/lang/Math", Cond.code Lib.Math.min.name Lib.Math.min.code 2 (some .int), Cond.instanceMethod yX2_init, Cond.code yX2_init cX2_init 1 none, Cond.methodLink RX2 3 objectInit, Cond.instanceMethod objectInit, Cond.code objectInit ⟨#[0xb1]⟩ 1 none, Cond.arrayClass .long, Cond.fieldLink RX2 9 "DodgingHangman$State" "list" "[J", Cond.arrayClass .int, Cond.fieldLink RX2 15 "DodgingHangman$State" "lettersInOrder" "[I"]
def wsX5_guessWord_r4 : List Cond := [Cond.fieldLink RX2 19 "DodgingHangman$State" "totals" "[I", Cond.methodLink RX1 22 yX2_copyFrom, Cond.instanceMethod yX2_copyFrom, Cond.selects RX2 yX2_copyFrom yX2_copyFrom, Cond.code yX2_copyFrom cX2_copyFrom 2 none, Cond.methodLink RX2 22 arraycopyName, Cond.native arraycopyName, Cond.static arraycopyName, Cond.initialized "java/lang/System", Cond.fieldLink RX2 28 "DodgingHangman$State" "wordCount" "I", Cond.fieldLink RX2 32 "DodgingHangman$State" "policy" "I", Cond.fieldLink RX2 38 "DodgingHangman$State" "length" "I", Cond.fieldLink RX2 41 "DodgingHangman$State" "lives" "I", Cond.fieldLink RX2 44 "DodgingHangman$State" "candidates" "I", Cond.fieldLink RX2 47 "DodgingHangman$State" "guessed" "I", Cond.fieldLink RX2 50 "DodgingHangman$State" "guessCount" "I", Cond.fieldLink RX2 53 "DodgingHangman$State" "pattern" "J", Cond.methodLink RX5 131 yX2_takeWord, Cond.instanceMethod yX2_takeWord, Cond.selects RX2 yX2_takeWord yX2_takeWord, Cond.code yX2_takeWord cX2_takeWord 5 none, Cond.methodLink RX2 92 yX2_count, Cond.instanceMethod yX2_count, Cond.selects RX2 yX2_count yX2_count]
def wsX5_guessWord_r5 : List Cond := [Cond.code yX2_count cX2_count 2 none, Cond.methodLink RX2 63 yX2_numberOf, Cond.instanceMethod yX2_numberOf, Cond.selects RX2 yX2_numberOf yX2_numberOf, Cond.code yX2_numberOf cX2_numberOf 4 (some .int), Cond.methodLink RX2 67 yX2_wordAt, Cond.instanceMethod yX2_wordAt, Cond.selects RX2 yX2_wordAt yX2_wordAt, Cond.code yX2_wordAt cX2_wordAt 2 (some .long), Cond.methodLink RX2 57 yX2_hasWord, Cond.instanceMethod yX2_hasWord, Cond.selects RX2 yX2_hasWord yX2_hasWord, Cond.code yX2_hasWord cX2_hasWord 2 (some .boolean), Cond.methodLink RX2 78 yX2_isCandidate, Cond.instanceMethod yX2_isCandidate, Cond.selects RX2 yX2_isCandidate yX2_isCandidate, Cond.code yX2_isCandidate cX2_isCandidate 2 (some .boolean), Cond.methodLink RX2 107 yX2_win, Cond.instanceMethod yX2_win, Cond.selects RX2 yX2_win yX2_win, Cond.code yX2_win cX2_win 1 none, Cond.methodLink RX2 99 yX2_miss, Cond.instanceMethod yX2_miss, Cond.selects RX2 yX2_miss yX2_miss]
def wsX5_guessWord_r6 : List Cond := [Cond.code yX2_miss cX2_miss 2 none, Cond.methodLink RX2 110 yX2_lose, Cond.instanceMethod yX2_lose, Cond.selects RX2 yX2_lose yX2_lose, Cond.code yX2_lose cX2_lose 1 none, Cond.methodLink RX5 48 yX3_empty, Cond.instanceMethod yX3_empty, Cond.selects RX3 yX3_empty yX3_empty, Cond.code yX3_empty cX3_empty 1 none]
def wsX5_guessWord : List Cond := .code yX5_guessWord cX5_guessWord 3 (some .int) :: ((wsX5_guessWord_r1 ++ (wsX5_guessWord_r2 ++ (wsX5_guessWord_r3 ++ (wsX5_guessWord_r4 ++ (wsX5_guessWord_r5 ++ wsX5_guessWord_r6))))) ++ wsX50 ++ wsX20 ++ wsX30 ++ wsX10)
def wsX5_memberAt : List Cond := .code yX5_memberAt cX5_memberAt 4 (some .int) :: ([])
def wsX5_giveUp_r1 : List Cond := [Cond.fieldLink RX5 19 "DodgingHangman" "now" "LDodgingHangman$State;", Cond.fieldLink RX5 26 "DodgingHangman" "saved" "LDodgingHangman$SavedStates;", Cond.methodLink RX5 55 yX2_isRunning, Cond.instanceMethod yX2_isRunning, Cond.selects RX2 yX2_isRunning yX2_isRunning, Cond.initialized RX2, Cond.code yX2_isRunning cX2_isRunning 1 (some .boolean), Cond.fieldLink RX2 35 "DodgingHangman$State" "status" "I", Cond.methodLink RX5 70 yX1_push, Cond.instanceMethod yX1_push, Cond.selects RX1 yX1_push yX1_push, Cond.initialized RX1, Cond.code yX1_push cX1_push 3 none, Cond.fieldLink RX1 17 "DodgingHangman$SavedStates" "next" "I", Cond.fieldLink RX1 11 "DodgingHangman$SavedStates" "ring" "[LDodgingHangman$State;", Cond.classLink RX1 9 RX2, Cond.instantiable RX2 12, Cond.fieldLink RX1 26 "DodgingHangman$SavedStates" "count" "I", Cond.methodLink RX1 29 Lib.Math.min.name, Cond.static Lib.Math.min.name, Cond.initialized "java/lang/Math", Cond.code Lib.Math.min.name Lib.Math.min.code 2 (some .int), Cond.instanceMethod yX2_init, Cond.code yX2_init cX2_init 1 none]
def wsX5_giveUp_r2 : List Cond := [Cond.methodLink RX2 3 objectInit, Cond.instanceMethod objectInit, Cond.code objectInit ⟨#[0xb1]⟩ 1 none, Cond.arrayClass .long, Cond.fieldLink RX2 9 "DodgingHangman$State" "list" "[J", Cond.arrayClass .int, Cond.fieldLink RX2 15 "DodgingHangman$State" "lettersInOrder" "[I", Cond.fieldLink RX2 19 "DodgingHangman$State" "totals" "[I", Cond.methodLink RX1 22 yX2_copyFrom, Cond.instanceMethod yX2_copyFrom, Cond.selects RX2 yX2_copyFrom yX2_copyFrom, Cond.code yX2_copyFrom cX2_copyFrom 2 none, Cond.methodLink RX2 22 arraycopyName, Cond.native arraycopyName, Cond.static arraycopyName, Cond.initialized "java/lang/System", Cond.fieldLink RX2 28 "DodgingHangman$State" "wordCount" "I", Cond.fieldLink RX2 32 "DodgingHangman$State" "policy" "I", Cond.fieldLink RX2 38 "DodgingHangman$State" "length" "I", Cond.fieldLink RX2 41 "DodgingHangman$State" "lives" "I", Cond.fieldLink RX2 44 "DodgingHangman$State" "candidates" "I", Cond.fieldLink RX2 47 "DodgingHangman$State" "guessed" "I", Cond.fieldLink RX2 50 "DodgingHangman$State" "guessCount" "I", Cond.fieldLink RX2 53 "DodgingHangman$State" "pattern" "J"]
def wsX5_giveUp_r3 : List Cond := [Cond.methodLink RX5 138 yX2_lose, Cond.instanceMethod yX2_lose, Cond.selects RX2 yX2_lose yX2_lose, Cond.code yX2_lose cX2_lose 1 none, Cond.methodLink RX2 92 yX2_count, Cond.instanceMethod yX2_count, Cond.selects RX2 yX2_count yX2_count, Cond.code yX2_count cX2_count 2 none, Cond.methodLink RX5 144 yX5_memberAt, Cond.static yX5_memberAt, Cond.initialized RX5, Cond.code yX5_memberAt cX5_memberAt 4 (some .int)]
def wsX5_giveUp : List Cond := .code yX5_giveUp cX5_giveUp 1 (some .int) :: ((wsX5_giveUp_r1 ++ (wsX5_giveUp_r2 ++ wsX5_giveUp_r3)) ++ wsX50 ++ wsX20 ++ wsX10)
def wsX5_status : List Cond := .code yX5_status cX5_status 1 (some .int) :: ([.fieldLink RX5 19 "DodgingHangman" "now" "LDodgingHangman$State;"] ++ wsX50 ++ wsX20)
def wsX5_lives : List Cond := .code yX5_lives cX5_lives 1 (some .int) :: ([.fieldLink RX5 19 "DodgingHangman" "now" "LDodgingHangman$State;"] ++ wsX50 ++ wsX20)
def wsX5_shown : List Cond := .code yX5_shown cX5_shown 3 (some .int) :: ([.fieldLink RX5 19 "DodgingHangman" "now" "LDodgingHangman$State;", .methodLink RX5 88 yX4_letterAt, .static yX4_letterAt, .initialized RX4, .code yX4_letterAt cX4_letterAt 4 (some .int), .methodLink RX4 11 yX4_shiftOf, .static yX4_shiftOf, .code yX4_shiftOf cX4_shiftOf 1 (some .int)] ++ wsX50 ++ wsX20)
def wsX5_candidates : List Cond := .code yX5_candidates cX5_candidates 1 (some .int) :: ([.fieldLink RX5 19 "DodgingHangman" "now" "LDodgingHangman$State;", .methodLink RX5 105 yJ6_bitCount_0f7a4, .static yJ6_bitCount_0f7a4, .initialized RJ6, .code yJ6_bitCount_0f7a4 cJ6_bitCount_0f7a4 1 (some .int), .constant RJ6 265 (1431655765), .constant RJ6 266 (858993459), .constant RJ6 267 (252645135)] ++ wsX50 ++ wsX20)
def wsX5_candidate : List Cond := .code yX5_candidate cX5_candidate 2 (some .int) :: ([.fieldLink RX5 19 "DodgingHangman" "now" "LDodgingHangman$State;", .methodLink RX5 144 yX5_memberAt, .static yX5_memberAt, .initialized RX5, .code yX5_memberAt cX5_memberAt 4 (some .int)] ++ wsX50 ++ wsX20)
def wsX5_guesses : List Cond := .code yX5_guesses cX5_guesses 1 (some .int) :: ([.fieldLink RX5 19 "DodgingHangman" "now" "LDodgingHangman$State;"] ++ wsX50 ++ wsX20)
def wsX5_guessAt : List Cond := .code yX5_guessAt cX5_guessAt 2 (some .int) :: ([.fieldLink RX5 19 "DodgingHangman" "now" "LDodgingHangman$State;", .methodLink RX5 158 yX2_guessedAt, .instanceMethod yX2_guessedAt, .selects RX2 yX2_guessedAt yX2_guessedAt, .initialized RX2, .code yX2_guessedAt cX2_guessedAt 2 (some .int), .fieldLink RX2 50 "DodgingHangman$State" "guessCount" "I", .fieldLink RX2 15 "DodgingHangman$State" "lettersInOrder" "[I"] ++ wsX50 ++ wsX20)
def wsX5_faultOfAsking : List Cond := .code yX5_faultOfAsking cX5_faultOfAsking 2 (some .int) :: ([.fieldLink RX5 19 "DodgingHangman" "now" "LDodgingHangman$State;", .methodLink RX5 110 yX5_isLetter, .static yX5_isLetter, .initialized RX5, .code yX5_isLetter cX5_isLetter 1 (some .boolean), .methodLink RX5 55 yX2_isRunning, .instanceMethod yX2_isRunning, .selects RX2 yX2_isRunning yX2_isRunning, .initialized RX2, .code yX2_isRunning cX2_isRunning 1 (some .boolean), .fieldLink RX2 35 "DodgingHangman$State" "status" "I", .methodLink RX5 113 yX2_wasGuessed, .instanceMethod yX2_wasGuessed, .selects RX2 yX2_wasGuessed yX2_wasGuessed, .code yX2_wasGuessed cX2_wasGuessed 2 (some .boolean), .fieldLink RX2 47 "DodgingHangman$State" "guessed" "I", .static yX5_bitOf, .code yX5_bitOf cX5_bitOf 1 (some .int)] ++ wsX50 ++ wsX20)
def wsX5_families_r1 : List Cond := [Cond.fieldLink RX5 36 "DodgingHangman" "split" "LDodgingHangman$Families;", Cond.fieldLink RX5 19 "DodgingHangman" "now" "LDodgingHangman$State;", Cond.methodLink RX5 161 yX5_faultOfAsking, Cond.instanceMethod yX5_faultOfAsking, Cond.selects RX5 yX5_faultOfAsking yX5_faultOfAsking, Cond.initialized RX5, Cond.code yX5_faultOfAsking cX5_faultOfAsking 2 (some .int), Cond.methodLink RX5 110 yX5_isLetter, Cond.static yX5_isLetter, Cond.code yX5_isLetter cX5_isLetter 1 (some .boolean), Cond.methodLink RX5 55 yX2_isRunning, Cond.instanceMethod yX2_isRunning, Cond.selects RX2 yX2_isRunning yX2_isRunning, Cond.initialized RX2, Cond.code yX2_isRunning cX2_isRunning 1 (some .boolean), Cond.fieldLink RX2 35 "DodgingHangman$State" "status" "I", Cond.methodLink RX5 113 yX2_wasGuessed, Cond.instanceMethod yX2_wasGuessed, Cond.selects RX2 yX2_wasGuessed yX2_wasGuessed, Cond.code yX2_wasGuessed cX2_wasGuessed 2 (some .boolean), Cond.fieldLink RX2 47 "DodgingHangman$State" "guessed" "I", Cond.static yX5_bitOf, Cond.code yX5_bitOf cX5_bitOf 1 (some .int), Cond.methodLink RX5 164 yX0_make]
def wsX5_families_r2 : List Cond := [Cond.instanceMethod yX0_make, Cond.selects RX0 yX0_make yX0_make, Cond.initialized RX0, Cond.code yX0_make cX0_make 7 none, Cond.fieldLink RX0 21 "DodgingHangman$Families" "count" "I", Cond.fieldLink RX0 30 "DodgingHangman$Families" "policy" "I", Cond.methodLink RX0 41 yX2_isCandidate, Cond.instanceMethod yX2_isCandidate, Cond.selects RX2 yX2_isCandidate yX2_isCandidate, Cond.code yX2_isCandidate cX2_isCandidate 2 (some .boolean), Cond.fieldLink RX2 44 "DodgingHangman$State" "candidates" "I", Cond.methodLink RX2 57 yX2_hasWord, Cond.instanceMethod yX2_hasWord, Cond.selects RX2 yX2_hasWord yX2_hasWord, Cond.code yX2_hasWord cX2_hasWord 2 (some .boolean), Cond.fieldLink RX2 28 "DodgingHangman$State" "wordCount" "I", Cond.methodLink RX0 45 yX2_wordAt, Cond.instanceMethod yX2_wordAt, Cond.selects RX2 yX2_wordAt yX2_wordAt, Cond.code yX2_wordAt cX2_wordAt 2 (some .long), Cond.fieldLink RX2 9 "DodgingHangman$State" "list" "[J", Cond.methodLink RX0 49 yX4_maskOf, Cond.static yX4_maskOf, Cond.initialized RX4]
def wsX5_families_r3 : List Cond := [Cond.code yX4_maskOf cX4_maskOf 5 (some .int), Cond.methodLink RX4 19 yX4_letterAt, Cond.static yX4_letterAt, Cond.code yX4_letterAt cX4_letterAt 4 (some .int), Cond.methodLink RX4 11 yX4_shiftOf, Cond.static yX4_shiftOf, Cond.code yX4_shiftOf cX4_shiftOf 1 (some .int), Cond.methodLink RX0 55 yX4_lettersOf, Cond.static yX4_lettersOf, Cond.code yX4_lettersOf cX4_lettersOf 4 (some .int), Cond.methodLink RX0 59 yX0_put, Cond.instanceMethod yX0_put, Cond.selects RX0 yX0_put yX0_put, Cond.code yX0_put cX0_put 5 none, Cond.fieldLink RX0 9 "DodgingHangman$Families" "masks" "[I", Cond.fieldLink RX0 15 "DodgingHangman$Families" "members" "[I", Cond.fieldLink RX0 18 "DodgingHangman$Families" "freshLetters" "[I", Cond.methodLink RX0 63 yX0_maskOf, Cond.instanceMethod yX0_maskOf, Cond.selects RX0 yX0_maskOf yX0_maskOf, Cond.code yX0_maskOf cX0_maskOf 2 (some .int), Cond.methodLink RX0 65 yX0_has, Cond.instanceMethod yX0_has, Cond.selects RX0 yX0_has yX0_has]
def wsX5_families_r4 : List Cond := [Cond.code yX0_has cX0_has 2 (some .boolean)]
def wsX5_families : List Cond := .code yX5_families cX5_families 3 (some .int) :: ((wsX5_families_r1 ++ (wsX5_families_r2 ++ (wsX5_families_r3 ++ wsX5_families_r4))) ++ wsX50 ++ wsX00 ++ wsX20)
def wsX5_family_r1 : List Cond := [Cond.fieldLink RX5 36 "DodgingHangman" "split" "LDodgingHangman$Families;", Cond.fieldLink RX5 19 "DodgingHangman" "now" "LDodgingHangman$State;", Cond.methodLink RX5 161 yX5_faultOfAsking, Cond.instanceMethod yX5_faultOfAsking, Cond.selects RX5 yX5_faultOfAsking yX5_faultOfAsking, Cond.initialized RX5, Cond.code yX5_faultOfAsking cX5_faultOfAsking 2 (some .int), Cond.methodLink RX5 110 yX5_isLetter, Cond.static yX5_isLetter, Cond.code yX5_isLetter cX5_isLetter 1 (some .boolean), Cond.methodLink RX5 55 yX2_isRunning, Cond.instanceMethod yX2_isRunning, Cond.selects RX2 yX2_isRunning yX2_isRunning, Cond.initialized RX2, Cond.code yX2_isRunning cX2_isRunning 1 (some .boolean), Cond.fieldLink RX2 35 "DodgingHangman$State" "status" "I", Cond.methodLink RX5 113 yX2_wasGuessed, Cond.instanceMethod yX2_wasGuessed, Cond.selects RX2 yX2_wasGuessed yX2_wasGuessed, Cond.code yX2_wasGuessed cX2_wasGuessed 2 (some .boolean), Cond.fieldLink RX2 47 "DodgingHangman$State" "guessed" "I", Cond.static yX5_bitOf, Cond.code yX5_bitOf cX5_bitOf 1 (some .int), Cond.methodLink RX5 164 yX0_make]
def wsX5_family_r2 : List Cond := [Cond.instanceMethod yX0_make, Cond.selects RX0 yX0_make yX0_make, Cond.initialized RX0, Cond.code yX0_make cX0_make 7 none, Cond.fieldLink RX0 21 "DodgingHangman$Families" "count" "I", Cond.fieldLink RX0 30 "DodgingHangman$Families" "policy" "I", Cond.methodLink RX0 41 yX2_isCandidate, Cond.instanceMethod yX2_isCandidate, Cond.selects RX2 yX2_isCandidate yX2_isCandidate, Cond.code yX2_isCandidate cX2_isCandidate 2 (some .boolean), Cond.fieldLink RX2 44 "DodgingHangman$State" "candidates" "I", Cond.methodLink RX2 57 yX2_hasWord, Cond.instanceMethod yX2_hasWord, Cond.selects RX2 yX2_hasWord yX2_hasWord, Cond.code yX2_hasWord cX2_hasWord 2 (some .boolean), Cond.fieldLink RX2 28 "DodgingHangman$State" "wordCount" "I", Cond.methodLink RX0 45 yX2_wordAt, Cond.instanceMethod yX2_wordAt, Cond.selects RX2 yX2_wordAt yX2_wordAt, Cond.code yX2_wordAt cX2_wordAt 2 (some .long), Cond.fieldLink RX2 9 "DodgingHangman$State" "list" "[J", Cond.methodLink RX0 49 yX4_maskOf, Cond.static yX4_maskOf, Cond.initialized RX4]
def wsX5_family_r3 : List Cond := [Cond.code yX4_maskOf cX4_maskOf 5 (some .int), Cond.methodLink RX4 19 yX4_letterAt, Cond.static yX4_letterAt, Cond.code yX4_letterAt cX4_letterAt 4 (some .int), Cond.methodLink RX4 11 yX4_shiftOf, Cond.static yX4_shiftOf, Cond.code yX4_shiftOf cX4_shiftOf 1 (some .int), Cond.methodLink RX0 55 yX4_lettersOf, Cond.static yX4_lettersOf, Cond.code yX4_lettersOf cX4_lettersOf 4 (some .int), Cond.methodLink RX0 59 yX0_put, Cond.instanceMethod yX0_put, Cond.selects RX0 yX0_put yX0_put, Cond.code yX0_put cX0_put 5 none, Cond.fieldLink RX0 9 "DodgingHangman$Families" "masks" "[I", Cond.fieldLink RX0 15 "DodgingHangman$Families" "members" "[I", Cond.fieldLink RX0 18 "DodgingHangman$Families" "freshLetters" "[I", Cond.methodLink RX0 63 yX0_maskOf, Cond.instanceMethod yX0_maskOf, Cond.selects RX0 yX0_maskOf yX0_maskOf, Cond.code yX0_maskOf cX0_maskOf 2 (some .int), Cond.methodLink RX0 65 yX0_has, Cond.instanceMethod yX0_has, Cond.selects RX0 yX0_has yX0_has]
def wsX5_family_r4 : List Cond := [Cond.code yX0_has cX0_has 2 (some .boolean), Cond.methodLink RX5 171 yX0_ranked, Cond.instanceMethod yX0_ranked, Cond.selects RX0 yX0_ranked yX0_ranked, Cond.code yX0_ranked cX0_ranked 3 (some .int), Cond.methodLink RX0 79 yX0_betterThan, Cond.instanceMethod yX0_betterThan, Cond.selects RX0 yX0_betterThan yX0_betterThan, Cond.code yX0_betterThan cX0_betterThan 4 (some .int), Cond.methodLink RX0 82 yX0_isBetter, Cond.instanceMethod yX0_isBetter, Cond.selects RX0 yX0_isBetter yX0_isBetter, Cond.code yX0_isBetter cX0_isBetter 5 (some .boolean), Cond.methodLink RX0 86 yX0_freshnessOf, Cond.instanceMethod yX0_freshnessOf, Cond.selects RX0 yX0_freshnessOf yX0_freshnessOf, Cond.code yX0_freshnessOf cX0_freshnessOf 2 (some .int), Cond.methodLink RX0 71 yJ6_bitCount_0f7a4, Cond.static yJ6_bitCount_0f7a4, Cond.initialized RJ6, Cond.code yJ6_bitCount_0f7a4 cJ6_bitCount_0f7a4 1 (some .int), Cond.constant RJ6 265 (1431655765), Cond.constant RJ6 266 (858993459), Cond.constant RJ6 267 (252645135)]
def wsX5_family_r5 : List Cond := [Cond.methodLink RX0 76 yX0_sizeOf, Cond.instanceMethod yX0_sizeOf, Cond.selects RX0 yX0_sizeOf yX0_sizeOf, Cond.code yX0_sizeOf cX0_sizeOf 2 (some .int), Cond.methodLink RX0 68 yX0_membersOf, Cond.instanceMethod yX0_membersOf, Cond.selects RX0 yX0_membersOf yX0_membersOf, Cond.code yX0_membersOf cX0_membersOf 2 (some .int), Cond.methodLink RX5 174 yX0_has, Cond.methodLink RX5 177 yX0_sizeOf, Cond.methodLink RX5 180 yX0_maskOf, Cond.methodLink RX5 183 yX0_membersOf, Cond.methodLink RX5 144 yX5_memberAt, Cond.static yX5_memberAt, Cond.code yX5_memberAt cX5_memberAt 4 (some .int), Cond.methodLink RX5 186 yX0_freshnessOf]
def wsX5_family : List Cond := .code yX5_family cX5_family 6 (some .int) :: ((wsX5_family_r1 ++ (wsX5_family_r2 ++ (wsX5_family_r3 ++ (wsX5_family_r4 ++ wsX5_family_r5)))) ++ wsX50 ++ wsX20 ++ wsX00)
def wsX5_spread_r1 : List Cond := [Cond.fieldLink RX5 36 "DodgingHangman" "split" "LDodgingHangman$Families;", Cond.fieldLink RX5 19 "DodgingHangman" "now" "LDodgingHangman$State;", Cond.methodLink RX5 161 yX5_faultOfAsking, Cond.instanceMethod yX5_faultOfAsking, Cond.selects RX5 yX5_faultOfAsking yX5_faultOfAsking, Cond.initialized RX5, Cond.code yX5_faultOfAsking cX5_faultOfAsking 2 (some .int), Cond.methodLink RX5 110 yX5_isLetter, Cond.static yX5_isLetter, Cond.code yX5_isLetter cX5_isLetter 1 (some .boolean), Cond.methodLink RX5 55 yX2_isRunning, Cond.instanceMethod yX2_isRunning, Cond.selects RX2 yX2_isRunning yX2_isRunning, Cond.initialized RX2, Cond.code yX2_isRunning cX2_isRunning 1 (some .boolean), Cond.fieldLink RX2 35 "DodgingHangman$State" "status" "I", Cond.methodLink RX5 113 yX2_wasGuessed, Cond.instanceMethod yX2_wasGuessed, Cond.selects RX2 yX2_wasGuessed yX2_wasGuessed, Cond.code yX2_wasGuessed cX2_wasGuessed 2 (some .boolean), Cond.fieldLink RX2 47 "DodgingHangman$State" "guessed" "I", Cond.static yX5_bitOf, Cond.code yX5_bitOf cX5_bitOf 1 (some .int), Cond.methodLink RX5 164 yX0_make]
def wsX5_spread_r2 : List Cond := [Cond.instanceMethod yX0_make, Cond.selects RX0 yX0_make yX0_make, Cond.initialized RX0, Cond.code yX0_make cX0_make 7 none, Cond.fieldLink RX0 21 "DodgingHangman$Families" "count" "I", Cond.fieldLink RX0 30 "DodgingHangman$Families" "policy" "I", Cond.methodLink RX0 41 yX2_isCandidate, Cond.instanceMethod yX2_isCandidate, Cond.selects RX2 yX2_isCandidate yX2_isCandidate, Cond.code yX2_isCandidate cX2_isCandidate 2 (some .boolean), Cond.fieldLink RX2 44 "DodgingHangman$State" "candidates" "I", Cond.methodLink RX2 57 yX2_hasWord, Cond.instanceMethod yX2_hasWord, Cond.selects RX2 yX2_hasWord yX2_hasWord, Cond.code yX2_hasWord cX2_hasWord 2 (some .boolean), Cond.fieldLink RX2 28 "DodgingHangman$State" "wordCount" "I", Cond.methodLink RX0 45 yX2_wordAt, Cond.instanceMethod yX2_wordAt, Cond.selects RX2 yX2_wordAt yX2_wordAt, Cond.code yX2_wordAt cX2_wordAt 2 (some .long), Cond.fieldLink RX2 9 "DodgingHangman$State" "list" "[J", Cond.methodLink RX0 49 yX4_maskOf, Cond.static yX4_maskOf, Cond.initialized RX4]
def wsX5_spread_r3 : List Cond := [Cond.code yX4_maskOf cX4_maskOf 5 (some .int), Cond.methodLink RX4 19 yX4_letterAt, Cond.static yX4_letterAt, Cond.code yX4_letterAt cX4_letterAt 4 (some .int), Cond.methodLink RX4 11 yX4_shiftOf, Cond.static yX4_shiftOf, Cond.code yX4_shiftOf cX4_shiftOf 1 (some .int), Cond.methodLink RX0 55 yX4_lettersOf, Cond.static yX4_lettersOf, Cond.code yX4_lettersOf cX4_lettersOf 4 (some .int), Cond.methodLink RX0 59 yX0_put, Cond.instanceMethod yX0_put, Cond.selects RX0 yX0_put yX0_put, Cond.code yX0_put cX0_put 5 none, Cond.fieldLink RX0 9 "DodgingHangman$Families" "masks" "[I", Cond.fieldLink RX0 15 "DodgingHangman$Families" "members" "[I", Cond.fieldLink RX0 18 "DodgingHangman$Families" "freshLetters" "[I", Cond.methodLink RX0 63 yX0_maskOf, Cond.instanceMethod yX0_maskOf, Cond.selects RX0 yX0_maskOf yX0_maskOf, Cond.code yX0_maskOf cX0_maskOf 2 (some .int), Cond.methodLink RX0 65 yX0_has, Cond.instanceMethod yX0_has, Cond.selects RX0 yX0_has yX0_has]
def wsX5_spread_r4 : List Cond := [Cond.code yX0_has cX0_has 2 (some .boolean), Cond.methodLink RX5 189 yX5_candidates, Cond.instanceMethod yX5_candidates, Cond.selects RX5 yX5_candidates yX5_candidates, Cond.code yX5_candidates cX5_candidates 1 (some .int), Cond.methodLink RX5 105 yJ6_bitCount_0f7a4, Cond.static yJ6_bitCount_0f7a4, Cond.initialized RJ6, Cond.code yJ6_bitCount_0f7a4 cJ6_bitCount_0f7a4 1 (some .int), Cond.constant RJ6 265 (1431655765), Cond.constant RJ6 266 (858993459), Cond.constant RJ6 267 (252645135), Cond.methodLink RX5 191 yX0_squares, Cond.instanceMethod yX0_squares, Cond.selects RX0 yX0_squares yX0_squares, Cond.code yX0_squares cX0_squares 3 (some .int), Cond.methodLink RX0 76 yX0_sizeOf, Cond.instanceMethod yX0_sizeOf, Cond.selects RX0 yX0_sizeOf yX0_sizeOf, Cond.code yX0_sizeOf cX0_sizeOf 2 (some .int), Cond.methodLink RX0 68 yX0_membersOf, Cond.instanceMethod yX0_membersOf, Cond.selects RX0 yX0_membersOf yX0_membersOf, Cond.code yX0_membersOf cX0_membersOf 2 (some .int)]
def wsX5_spread_r5 : List Cond := [Cond.methodLink RX0 71 yJ6_bitCount_0f7a4]
def wsX5_spread : List Cond := .code yX5_spread cX5_spread 4 (some .int) :: ((wsX5_spread_r1 ++ (wsX5_spread_r2 ++ (wsX5_spread_r3 ++ (wsX5_spread_r4 ++ wsX5_spread_r5)))) ++ wsX50 ++ wsX20 ++ wsX00)
def wsX5_having_r1 : List Cond := [Cond.fieldLink RX5 19 "DodgingHangman" "now" "LDodgingHangman$State;", Cond.methodLink RX5 110 yX5_isLetter, Cond.static yX5_isLetter, Cond.initialized RX5, Cond.code yX5_isLetter cX5_isLetter 1 (some .boolean), Cond.methodLink RX5 194 yX2_candidatesWith, Cond.instanceMethod yX2_candidatesWith, Cond.selects RX2 yX2_candidatesWith yX2_candidatesWith, Cond.initialized RX2, Cond.code yX2_candidatesWith cX2_candidatesWith 4 (some .int), Cond.fieldLink RX2 28 "DodgingHangman$State" "wordCount" "I", Cond.methodLink RX2 78 yX2_isCandidate, Cond.instanceMethod yX2_isCandidate, Cond.selects RX2 yX2_isCandidate yX2_isCandidate, Cond.code yX2_isCandidate cX2_isCandidate 2 (some .boolean), Cond.fieldLink RX2 44 "DodgingHangman$State" "candidates" "I", Cond.methodLink RX2 57 yX2_hasWord, Cond.instanceMethod yX2_hasWord, Cond.selects RX2 yX2_hasWord yX2_hasWord, Cond.code yX2_hasWord cX2_hasWord 2 (some .boolean), Cond.methodLink RX2 67 yX2_wordAt, Cond.instanceMethod yX2_wordAt, Cond.selects RX2 yX2_wordAt yX2_wordAt, Cond.code yX2_wordAt cX2_wordAt 2 (some .long)]
def wsX5_having_r2 : List Cond := [Cond.fieldLink RX2 9 "DodgingHangman$State" "list" "[J", Cond.methodLink RX2 81 yX4_maskOf, Cond.static yX4_maskOf, Cond.initialized RX4, Cond.code yX4_maskOf cX4_maskOf 5 (some .int), Cond.methodLink RX4 19 yX4_letterAt, Cond.static yX4_letterAt, Cond.code yX4_letterAt cX4_letterAt 4 (some .int), Cond.methodLink RX4 11 yX4_shiftOf, Cond.static yX4_shiftOf, Cond.code yX4_shiftOf cX4_shiftOf 1 (some .int)]
def wsX5_having : List Cond := .code yX5_having cX5_having 2 (some .int) :: ((wsX5_having_r1 ++ wsX5_having_r2) ++ wsX50 ++ wsX20)
def wsX5_sureLetters_r1 : List Cond := [Cond.fieldLink RX5 19 "DodgingHangman" "now" "LDodgingHangman$State;", Cond.methodLink RX5 55 yX2_isRunning, Cond.instanceMethod yX2_isRunning, Cond.selects RX2 yX2_isRunning yX2_isRunning, Cond.initialized RX2, Cond.code yX2_isRunning cX2_isRunning 1 (some .boolean), Cond.fieldLink RX2 35 "DodgingHangman$State" "status" "I", Cond.methodLink RX5 197 yX2_lettersOfAll, Cond.instanceMethod yX2_lettersOfAll, Cond.selects RX2 yX2_lettersOfAll yX2_lettersOfAll, Cond.code yX2_lettersOfAll cX2_lettersOfAll 3 (some .int), Cond.constant RX2 85 (67108863), Cond.fieldLink RX2 28 "DodgingHangman$State" "wordCount" "I", Cond.methodLink RX2 78 yX2_isCandidate, Cond.instanceMethod yX2_isCandidate, Cond.selects RX2 yX2_isCandidate yX2_isCandidate, Cond.code yX2_isCandidate cX2_isCandidate 2 (some .boolean), Cond.fieldLink RX2 44 "DodgingHangman$State" "candidates" "I", Cond.methodLink RX2 57 yX2_hasWord, Cond.instanceMethod yX2_hasWord, Cond.selects RX2 yX2_hasWord yX2_hasWord, Cond.code yX2_hasWord cX2_hasWord 2 (some .boolean), Cond.methodLink RX2 67 yX2_wordAt, Cond.instanceMethod yX2_wordAt]
def wsX5_sureLetters_r2 : List Cond := [Cond.selects RX2 yX2_wordAt yX2_wordAt, Cond.code yX2_wordAt cX2_wordAt 2 (some .long), Cond.fieldLink RX2 9 "DodgingHangman$State" "list" "[J", Cond.methodLink RX2 86 yX4_lettersOf, Cond.static yX4_lettersOf, Cond.initialized RX4, Cond.code yX4_lettersOf cX4_lettersOf 4 (some .int), Cond.methodLink RX4 19 yX4_letterAt, Cond.static yX4_letterAt, Cond.code yX4_letterAt cX4_letterAt 4 (some .int), Cond.methodLink RX4 11 yX4_shiftOf, Cond.static yX4_shiftOf, Cond.code yX4_shiftOf cX4_shiftOf 1 (some .int), Cond.static yX5_bitOf, Cond.initialized RX5, Cond.code yX5_bitOf cX5_bitOf 1 (some .int), Cond.methodLink RX5 110 yX5_isLetter, Cond.static yX5_isLetter, Cond.code yX5_isLetter cX5_isLetter 1 (some .boolean)]
def wsX5_sureLetters : List Cond := .code yX5_sureLetters cX5_sureLetters 1 (some .int) :: ((wsX5_sureLetters_r1 ++ wsX5_sureLetters_r2) ++ wsX50 ++ wsX20)
def wsX5_bestLetter_r1 : List Cond := [Cond.fieldLink RX5 36 "DodgingHangman" "split" "LDodgingHangman$Families;", Cond.methodLink RX5 113 yX2_wasGuessed, Cond.instanceMethod yX2_wasGuessed, Cond.selects RX2 yX2_wasGuessed yX2_wasGuessed, Cond.initialized RX2, Cond.code yX2_wasGuessed cX2_wasGuessed 2 (some .boolean), Cond.fieldLink RX2 47 "DodgingHangman$State" "guessed" "I", Cond.static yX5_bitOf, Cond.initialized RX5, Cond.code yX5_bitOf cX5_bitOf 1 (some .int), Cond.methodLink RX5 110 yX5_isLetter, Cond.static yX5_isLetter, Cond.code yX5_isLetter cX5_isLetter 1 (some .boolean), Cond.methodLink RX5 164 yX0_make, Cond.instanceMethod yX0_make, Cond.selects RX0 yX0_make yX0_make, Cond.initialized RX0, Cond.code yX0_make cX0_make 7 none, Cond.fieldLink RX0 21 "DodgingHangman$Families" "count" "I", Cond.fieldLink RX0 30 "DodgingHangman$Families" "policy" "I", Cond.methodLink RX0 41 yX2_isCandidate, Cond.instanceMethod yX2_isCandidate, Cond.selects RX2 yX2_isCandidate yX2_isCandidate, Cond.code yX2_isCandidate cX2_isCandidate 2 (some .boolean)]
def wsX5_bestLetter_r2 : List Cond := [Cond.fieldLink RX2 44 "DodgingHangman$State" "candidates" "I", Cond.methodLink RX2 57 yX2_hasWord, Cond.instanceMethod yX2_hasWord, Cond.selects RX2 yX2_hasWord yX2_hasWord, Cond.code yX2_hasWord cX2_hasWord 2 (some .boolean), Cond.fieldLink RX2 28 "DodgingHangman$State" "wordCount" "I", Cond.methodLink RX0 45 yX2_wordAt, Cond.instanceMethod yX2_wordAt, Cond.selects RX2 yX2_wordAt yX2_wordAt, Cond.code yX2_wordAt cX2_wordAt 2 (some .long), Cond.fieldLink RX2 9 "DodgingHangman$State" "list" "[J", Cond.methodLink RX0 49 yX4_maskOf, Cond.static yX4_maskOf, Cond.initialized RX4, Cond.code yX4_maskOf cX4_maskOf 5 (some .int), Cond.methodLink RX4 19 yX4_letterAt, Cond.static yX4_letterAt, Cond.code yX4_letterAt cX4_letterAt 4 (some .int), Cond.methodLink RX4 11 yX4_shiftOf, Cond.static yX4_shiftOf, Cond.code yX4_shiftOf cX4_shiftOf 1 (some .int), Cond.methodLink RX0 55 yX4_lettersOf, Cond.static yX4_lettersOf, Cond.code yX4_lettersOf cX4_lettersOf 4 (some .int)]
def wsX5_bestLetter_r3 : List Cond := [Cond.methodLink RX0 59 yX0_put, Cond.instanceMethod yX0_put, Cond.selects RX0 yX0_put yX0_put, Cond.code yX0_put cX0_put 5 none, Cond.fieldLink RX0 9 "DodgingHangman$Families" "masks" "[I", Cond.fieldLink RX0 15 "DodgingHangman$Families" "members" "[I", Cond.fieldLink RX0 18 "DodgingHangman$Families" "freshLetters" "[I", Cond.methodLink RX0 63 yX0_maskOf, Cond.instanceMethod yX0_maskOf, Cond.selects RX0 yX0_maskOf yX0_maskOf, Cond.code yX0_maskOf cX0_maskOf 2 (some .int), Cond.methodLink RX0 65 yX0_has, Cond.instanceMethod yX0_has, Cond.selects RX0 yX0_has yX0_has, Cond.code yX0_has cX0_has 2 (some .boolean), Cond.methodLink RX5 171 yX0_ranked, Cond.instanceMethod yX0_ranked, Cond.selects RX0 yX0_ranked yX0_ranked, Cond.code yX0_ranked cX0_ranked 3 (some .int), Cond.methodLink RX0 79 yX0_betterThan, Cond.instanceMethod yX0_betterThan, Cond.selects RX0 yX0_betterThan yX0_betterThan, Cond.code yX0_betterThan cX0_betterThan 4 (some .int), Cond.methodLink RX0 82 yX0_isBetter]
def wsX5_bestLetter_r4 : List Cond := [Cond.instanceMethod yX0_isBetter, Cond.selects RX0 yX0_isBetter yX0_isBetter, Cond.code yX0_isBetter cX0_isBetter 5 (some .boolean), Cond.methodLink RX0 86 yX0_freshnessOf, Cond.instanceMethod yX0_freshnessOf, Cond.selects RX0 yX0_freshnessOf yX0_freshnessOf, Cond.code yX0_freshnessOf cX0_freshnessOf 2 (some .int), Cond.methodLink RX0 71 yJ6_bitCount_0f7a4, Cond.static yJ6_bitCount_0f7a4, Cond.initialized RJ6, Cond.code yJ6_bitCount_0f7a4 cJ6_bitCount_0f7a4 1 (some .int), Cond.constant RJ6 265 (1431655765), Cond.constant RJ6 266 (858993459), Cond.constant RJ6 267 (252645135), Cond.methodLink RX0 76 yX0_sizeOf, Cond.instanceMethod yX0_sizeOf, Cond.selects RX0 yX0_sizeOf yX0_sizeOf, Cond.code yX0_sizeOf cX0_sizeOf 2 (some .int), Cond.methodLink RX0 68 yX0_membersOf, Cond.instanceMethod yX0_membersOf, Cond.selects RX0 yX0_membersOf yX0_membersOf, Cond.code yX0_membersOf cX0_membersOf 2 (some .int), Cond.methodLink RX5 177 yX0_sizeOf, Cond.methodLink RX5 180 yX0_maskOf]
def wsX5_bestLetter_r5 : List Cond := [Cond.methodLink RX5 105 yJ6_bitCount_0f7a4]
def wsX5_bestLetter : List Cond := .code yX5_bestLetter cX5_bestLetter 9 (some .int) :: ((wsX5_bestLetter_r1 ++ (wsX5_bestLetter_r2 ++ (wsX5_bestLetter_r3 ++ (wsX5_bestLetter_r4 ++ wsX5_bestLetter_r5)))) ++ wsX50 ++ wsX20 ++ wsX00)
def wsX5_bestGuess_r1 : List Cond := [Cond.fieldLink RX5 19 "DodgingHangman" "now" "LDodgingHangman$State;", Cond.methodLink RX5 55 yX2_isRunning, Cond.instanceMethod yX2_isRunning, Cond.selects RX2 yX2_isRunning yX2_isRunning, Cond.initialized RX2, Cond.code yX2_isRunning cX2_isRunning 1 (some .boolean), Cond.fieldLink RX2 35 "DodgingHangman$State" "status" "I", Cond.methodLink RX5 203 yX5_bestLetter, Cond.instanceMethod yX5_bestLetter, Cond.selects RX5 yX5_bestLetter yX5_bestLetter, Cond.initialized RX5, Cond.code yX5_bestLetter cX5_bestLetter 9 (some .int), Cond.fieldLink RX5 36 "DodgingHangman" "split" "LDodgingHangman$Families;", Cond.methodLink RX5 113 yX2_wasGuessed, Cond.instanceMethod yX2_wasGuessed, Cond.selects RX2 yX2_wasGuessed yX2_wasGuessed, Cond.code yX2_wasGuessed cX2_wasGuessed 2 (some .boolean), Cond.fieldLink RX2 47 "DodgingHangman$State" "guessed" "I", Cond.static yX5_bitOf, Cond.code yX5_bitOf cX5_bitOf 1 (some .int), Cond.methodLink RX5 110 yX5_isLetter, Cond.static yX5_isLetter, Cond.code yX5_isLetter cX5_isLetter 1 (some .boolean), Cond.methodLink RX5 164 yX0_make]
def wsX5_bestGuess_r2 : List Cond := [Cond.instanceMethod yX0_make, Cond.selects RX0 yX0_make yX0_make, Cond.initialized RX0, Cond.code yX0_make cX0_make 7 none, Cond.fieldLink RX0 21 "DodgingHangman$Families" "count" "I", Cond.fieldLink RX0 30 "DodgingHangman$Families" "policy" "I", Cond.methodLink RX0 41 yX2_isCandidate, Cond.instanceMethod yX2_isCandidate, Cond.selects RX2 yX2_isCandidate yX2_isCandidate, Cond.code yX2_isCandidate cX2_isCandidate 2 (some .boolean), Cond.fieldLink RX2 44 "DodgingHangman$State" "candidates" "I", Cond.methodLink RX2 57 yX2_hasWord, Cond.instanceMethod yX2_hasWord, Cond.selects RX2 yX2_hasWord yX2_hasWord, Cond.code yX2_hasWord cX2_hasWord 2 (some .boolean), Cond.fieldLink RX2 28 "DodgingHangman$State" "wordCount" "I", Cond.methodLink RX0 45 yX2_wordAt, Cond.instanceMethod yX2_wordAt, Cond.selects RX2 yX2_wordAt yX2_wordAt, Cond.code yX2_wordAt cX2_wordAt 2 (some .long), Cond.fieldLink RX2 9 "DodgingHangman$State" "list" "[J", Cond.methodLink RX0 49 yX4_maskOf, Cond.static yX4_maskOf, Cond.initialized RX4]
def wsX5_bestGuess_r3 : List Cond := [Cond.code yX4_maskOf cX4_maskOf 5 (some .int), Cond.methodLink RX4 19 yX4_letterAt, Cond.static yX4_letterAt, Cond.code yX4_letterAt cX4_letterAt 4 (some .int), Cond.methodLink RX4 11 yX4_shiftOf, Cond.static yX4_shiftOf, Cond.code yX4_shiftOf cX4_shiftOf 1 (some .int), Cond.methodLink RX0 55 yX4_lettersOf, Cond.static yX4_lettersOf, Cond.code yX4_lettersOf cX4_lettersOf 4 (some .int), Cond.methodLink RX0 59 yX0_put, Cond.instanceMethod yX0_put, Cond.selects RX0 yX0_put yX0_put, Cond.code yX0_put cX0_put 5 none, Cond.fieldLink RX0 9 "DodgingHangman$Families" "masks" "[I", Cond.fieldLink RX0 15 "DodgingHangman$Families" "members" "[I", Cond.fieldLink RX0 18 "DodgingHangman$Families" "freshLetters" "[I", Cond.methodLink RX0 63 yX0_maskOf, Cond.instanceMethod yX0_maskOf, Cond.selects RX0 yX0_maskOf yX0_maskOf, Cond.code yX0_maskOf cX0_maskOf 2 (some .int), Cond.methodLink RX0 65 yX0_has, Cond.instanceMethod yX0_has, Cond.selects RX0 yX0_has yX0_has]
def wsX5_bestGuess_r4 : List Cond := [Cond.code yX0_has cX0_has 2 (some .boolean), Cond.methodLink RX5 171 yX0_ranked, Cond.instanceMethod yX0_ranked, Cond.selects RX0 yX0_ranked yX0_ranked, Cond.code yX0_ranked cX0_ranked 3 (some .int), Cond.methodLink RX0 79 yX0_betterThan, Cond.instanceMethod yX0_betterThan, Cond.selects RX0 yX0_betterThan yX0_betterThan, Cond.code yX0_betterThan cX0_betterThan 4 (some .int), Cond.methodLink RX0 82 yX0_isBetter, Cond.instanceMethod yX0_isBetter, Cond.selects RX0 yX0_isBetter yX0_isBetter, Cond.code yX0_isBetter cX0_isBetter 5 (some .boolean), Cond.methodLink RX0 86 yX0_freshnessOf, Cond.instanceMethod yX0_freshnessOf, Cond.selects RX0 yX0_freshnessOf yX0_freshnessOf, Cond.code yX0_freshnessOf cX0_freshnessOf 2 (some .int), Cond.methodLink RX0 71 yJ6_bitCount_0f7a4, Cond.static yJ6_bitCount_0f7a4, Cond.initialized RJ6, Cond.code yJ6_bitCount_0f7a4 cJ6_bitCount_0f7a4 1 (some .int), Cond.constant RJ6 265 (1431655765), Cond.constant RJ6 266 (858993459), Cond.constant RJ6 267 (252645135)]
def wsX5_bestGuess_r5 : List Cond := [Cond.methodLink RX0 76 yX0_sizeOf, Cond.instanceMethod yX0_sizeOf, Cond.selects RX0 yX0_sizeOf yX0_sizeOf, Cond.code yX0_sizeOf cX0_sizeOf 2 (some .int), Cond.methodLink RX0 68 yX0_membersOf, Cond.instanceMethod yX0_membersOf, Cond.selects RX0 yX0_membersOf yX0_membersOf, Cond.code yX0_membersOf cX0_membersOf 2 (some .int), Cond.methodLink RX5 177 yX0_sizeOf, Cond.methodLink RX5 180 yX0_maskOf, Cond.methodLink RX5 105 yJ6_bitCount_0f7a4]
def wsX5_bestGuess : List Cond := .code yX5_bestGuess cX5_bestGuess 1 (some .int) :: ((wsX5_bestGuess_r1 ++ (wsX5_bestGuess_r2 ++ (wsX5_bestGuess_r3 ++ (wsX5_bestGuess_r4 ++ wsX5_bestGuess_r5)))) ++ wsX50 ++ wsX20 ++ wsX00)
def wsX5_missesAhead_r1 : List Cond := [Cond.fieldLink RX5 19 "DodgingHangman" "now" "LDodgingHangman$State;", Cond.fieldLink RX5 30 "DodgingHangman" "draft" "LDodgingHangman$State;", Cond.methodLink RX5 55 yX2_isRunning, Cond.instanceMethod yX2_isRunning, Cond.selects RX2 yX2_isRunning yX2_isRunning, Cond.initialized RX2, Cond.code yX2_isRunning cX2_isRunning 1 (some .boolean), Cond.fieldLink RX2 35 "DodgingHangman$State" "status" "I", Cond.methodLink RX5 59 yX2_copyFrom, Cond.instanceMethod yX2_copyFrom, Cond.selects RX2 yX2_copyFrom yX2_copyFrom, Cond.code yX2_copyFrom cX2_copyFrom 2 none, Cond.fieldLink RX2 9 "DodgingHangman$State" "list" "[J", Cond.methodLink RX2 22 arraycopyName, Cond.native arraycopyName, Cond.static arraycopyName, Cond.initialized "java/lang/System", Cond.fieldLink RX2 15 "DodgingHangman$State" "lettersInOrder" "[I", Cond.fieldLink RX2 19 "DodgingHangman$State" "totals" "[I", Cond.fieldLink RX2 28 "DodgingHangman$State" "wordCount" "I", Cond.fieldLink RX2 32 "DodgingHangman$State" "policy" "I", Cond.fieldLink RX2 38 "DodgingHangman$State" "length" "I", Cond.fieldLink RX2 41 "DodgingHangman$State" "lives" "I", Cond.fieldLink RX2 44 "DodgingHangman$State" "candidates" "I"]
def wsX5_missesAhead_r2 : List Cond := [Cond.fieldLink RX2 47 "DodgingHangman$State" "guessed" "I", Cond.fieldLink RX2 50 "DodgingHangman$State" "guessCount" "I", Cond.fieldLink RX2 53 "DodgingHangman$State" "pattern" "J", Cond.methodLink RX5 203 yX5_bestLetter, Cond.instanceMethod yX5_bestLetter, Cond.selects RX5 yX5_bestLetter yX5_bestLetter, Cond.initialized RX5, Cond.code yX5_bestLetter cX5_bestLetter 9 (some .int), Cond.fieldLink RX5 36 "DodgingHangman" "split" "LDodgingHangman$Families;", Cond.methodLink RX5 113 yX2_wasGuessed, Cond.instanceMethod yX2_wasGuessed, Cond.selects RX2 yX2_wasGuessed yX2_wasGuessed, Cond.code yX2_wasGuessed cX2_wasGuessed 2 (some .boolean), Cond.static yX5_bitOf, Cond.code yX5_bitOf cX5_bitOf 1 (some .int), Cond.methodLink RX5 110 yX5_isLetter, Cond.static yX5_isLetter, Cond.code yX5_isLetter cX5_isLetter 1 (some .boolean), Cond.methodLink RX5 164 yX0_make, Cond.instanceMethod yX0_make, Cond.selects RX0 yX0_make yX0_make, Cond.initialized RX0, Cond.code yX0_make cX0_make 7 none, Cond.fieldLink RX0 21 "DodgingHangman$Families" "count" "I"]
def wsX5_missesAhead_r3 : List Cond := [Cond.fieldLink RX0 30 "DodgingHangman$Families" "policy" "I", Cond.methodLink RX0 41 yX2_isCandidate, Cond.instanceMethod yX2_isCandidate, Cond.selects RX2 yX2_isCandidate yX2_isCandidate, Cond.code yX2_isCandidate cX2_isCandidate 2 (some .boolean), Cond.methodLink RX2 57 yX2_hasWord, Cond.instanceMethod yX2_hasWord, Cond.selects RX2 yX2_hasWord yX2_hasWord, Cond.code yX2_hasWord cX2_hasWord 2 (some .boolean), Cond.methodLink RX0 45 yX2_wordAt, Cond.instanceMethod yX2_wordAt, Cond.selects RX2 yX2_wordAt yX2_wordAt, Cond.code yX2_wordAt cX2_wordAt 2 (some .long), Cond.methodLink RX0 49 yX4_maskOf, Cond.static yX4_maskOf, Cond.initialized RX4, Cond.code yX4_maskOf cX4_maskOf 5 (some .int), Cond.methodLink RX4 19 yX4_letterAt, Cond.static yX4_letterAt, Cond.code yX4_letterAt cX4_letterAt 4 (some .int), Cond.methodLink RX4 11 yX4_shiftOf, Cond.static yX4_shiftOf, Cond.code yX4_shiftOf cX4_shiftOf 1 (some .int), Cond.methodLink RX0 55 yX4_lettersOf]
def wsX5_missesAhead_r4 : List Cond := [Cond.static yX4_lettersOf, Cond.code yX4_lettersOf cX4_lettersOf 4 (some .int), Cond.methodLink RX0 59 yX0_put, Cond.instanceMethod yX0_put, Cond.selects RX0 yX0_put yX0_put, Cond.code yX0_put cX0_put 5 none, Cond.fieldLink RX0 9 "DodgingHangman$Families" "masks" "[I", Cond.fieldLink RX0 15 "DodgingHangman$Families" "members" "[I", Cond.fieldLink RX0 18 "DodgingHangman$Families" "freshLetters" "[I", Cond.methodLink RX0 63 yX0_maskOf, Cond.instanceMethod yX0_maskOf, Cond.selects RX0 yX0_maskOf yX0_maskOf, Cond.code yX0_maskOf cX0_maskOf 2 (some .int), Cond.methodLink RX0 65 yX0_has, Cond.instanceMethod yX0_has, Cond.selects RX0 yX0_has yX0_has, Cond.code yX0_has cX0_has 2 (some .boolean), Cond.methodLink RX5 171 yX0_ranked, Cond.instanceMethod yX0_ranked, Cond.selects RX0 yX0_ranked yX0_ranked, Cond.code yX0_ranked cX0_ranked 3 (some .int), Cond.methodLink RX0 79 yX0_betterThan, Cond.instanceMethod yX0_betterThan, Cond.selects RX0 yX0_betterThan yX0_betterThan]
def wsX5_missesAhead_r5 : List Cond := [Cond.code yX0_betterThan cX0_betterThan 4 (some .int), Cond.methodLink RX0 82 yX0_isBetter, Cond.instanceMethod yX0_isBetter, Cond.selects RX0 yX0_isBetter yX0_isBetter, Cond.code yX0_isBetter cX0_isBetter 5 (some .boolean), Cond.methodLink RX0 86 yX0_freshnessOf, Cond.instanceMethod yX0_freshnessOf, Cond.selects RX0 yX0_freshnessOf yX0_freshnessOf, Cond.code yX0_freshnessOf cX0_freshnessOf 2 (some .int), Cond.methodLink RX0 71 yJ6_bitCount_0f7a4, Cond.static yJ6_bitCount_0f7a4, Cond.initialized RJ6, Cond.code yJ6_bitCount_0f7a4 cJ6_bitCount_0f7a4 1 (some .int), Cond.constant RJ6 265 (1431655765), Cond.constant RJ6 266 (858993459), Cond.constant RJ6 267 (252645135), Cond.methodLink RX0 76 yX0_sizeOf, Cond.instanceMethod yX0_sizeOf, Cond.selects RX0 yX0_sizeOf yX0_sizeOf, Cond.code yX0_sizeOf cX0_sizeOf 2 (some .int), Cond.methodLink RX0 68 yX0_membersOf, Cond.instanceMethod yX0_membersOf, Cond.selects RX0 yX0_membersOf yX0_membersOf, Cond.code yX0_membersOf cX0_membersOf 2 (some .int)]
def wsX5_missesAhead_r6 : List Cond := [Cond.methodLink RX5 177 yX0_sizeOf, Cond.methodLink RX5 180 yX0_maskOf, Cond.methodLink RX5 105 yJ6_bitCount_0f7a4, Cond.methodLink RX5 116 yX5_play, Cond.instanceMethod yX5_play, Cond.selects RX5 yX5_play yX5_play, Cond.code yX5_play cX5_play 5 (some .int), Cond.methodLink RX5 183 yX0_membersOf, Cond.methodLink RX5 267 yX2_takeLetter, Cond.instanceMethod yX2_takeLetter, Cond.selects RX2 yX2_takeLetter yX2_takeLetter, Cond.code yX2_takeLetter cX2_takeLetter 6 none, Cond.methodLink RX2 96 yX2_noteGuess, Cond.instanceMethod yX2_noteGuess, Cond.selects RX2 yX2_noteGuess yX2_noteGuess, Cond.code yX2_noteGuess cX2_noteGuess 2 none, Cond.methodLink RX2 92 yX2_count, Cond.instanceMethod yX2_count, Cond.selects RX2 yX2_count yX2_count, Cond.code yX2_count cX2_count 2 none, Cond.methodLink RX2 99 yX2_miss, Cond.instanceMethod yX2_miss, Cond.selects RX2 yX2_miss yX2_miss, Cond.code yX2_miss cX2_miss 2 none]
def wsX5_missesAhead_r7 : List Cond := [Cond.methodLink RX2 110 yX2_lose, Cond.instanceMethod yX2_lose, Cond.selects RX2 yX2_lose yX2_lose, Cond.code yX2_lose cX2_lose 1 none, Cond.methodLink RX2 103 yX4_withLetter, Cond.static yX4_withLetter, Cond.code yX4_withLetter cX4_withLetter 4 (some .long), Cond.methodLink RX2 71 yX4_lengthOf, Cond.static yX4_lengthOf, Cond.code yX4_lengthOf cX4_lengthOf 4 (some .int), Cond.methodLink RX2 107 yX2_win, Cond.instanceMethod yX2_win, Cond.selects RX2 yX2_win yX2_win, Cond.code yX2_win cX2_win 1 none, Cond.methodLink RX5 207 yX2_totalOf, Cond.instanceMethod yX2_totalOf, Cond.selects RX2 yX2_totalOf yX2_totalOf, Cond.code yX2_totalOf cX2_totalOf 2 (some .int)]
def wsX5_missesAhead : List Cond := .code yX5_missesAhead cX5_missesAhead 3 (some .int) :: ((wsX5_missesAhead_r1 ++ (wsX5_missesAhead_r2 ++ (wsX5_missesAhead_r3 ++ (wsX5_missesAhead_r4 ++ (wsX5_missesAhead_r5 ++ (wsX5_missesAhead_r6 ++ wsX5_missesAhead_r7)))))) ++ wsX50 ++ wsX20 ++ wsX00)
def wsX5_total : List Cond := .code yX5_total cX5_total 2 (some .int) :: ([.fieldLink RX5 19 "DodgingHangman" "now" "LDodgingHangman$State;", .methodLink RX5 207 yX2_totalOf, .instanceMethod yX2_totalOf, .selects RX2 yX2_totalOf yX2_totalOf, .initialized RX2, .code yX2_totalOf cX2_totalOf 2 (some .int), .fieldLink RX2 19 "DodgingHangman$State" "totals" "[I"] ++ wsX50 ++ wsX20)
def wsX5_undo_r1 : List Cond := [Cond.fieldLink RX5 26 "DodgingHangman" "saved" "LDodgingHangman$SavedStates;", Cond.fieldLink RX5 19 "DodgingHangman" "now" "LDodgingHangman$State;", Cond.methodLink RX5 210 yX1_popInto, Cond.instanceMethod yX1_popInto, Cond.selects RX1 yX1_popInto yX1_popInto, Cond.initialized RX1, Cond.code yX1_popInto cX1_popInto 4 (some .boolean), Cond.fieldLink RX1 17 "DodgingHangman$SavedStates" "next" "I", Cond.fieldLink RX1 26 "DodgingHangman$SavedStates" "count" "I", Cond.fieldLink RX1 11 "DodgingHangman$SavedStates" "ring" "[LDodgingHangman$State;", Cond.methodLink RX1 22 yX2_copyFrom, Cond.instanceMethod yX2_copyFrom, Cond.selects RX2 yX2_copyFrom yX2_copyFrom, Cond.initialized RX2, Cond.code yX2_copyFrom cX2_copyFrom 2 none, Cond.fieldLink RX2 9 "DodgingHangman$State" "list" "[J", Cond.methodLink RX2 22 arraycopyName, Cond.native arraycopyName, Cond.static arraycopyName, Cond.initialized "java/lang/System", Cond.fieldLink RX2 15 "DodgingHangman$State" "lettersInOrder" "[I", Cond.fieldLink RX2 19 "DodgingHangman$State" "totals" "[I", Cond.fieldLink RX2 28 "DodgingHangman$State" "wordCount" "I", Cond.fieldLink RX2 32 "DodgingHangman$State" "policy" "I"]
def wsX5_undo_r2 : List Cond := [Cond.fieldLink RX2 35 "DodgingHangman$State" "status" "I", Cond.fieldLink RX2 38 "DodgingHangman$State" "length" "I", Cond.fieldLink RX2 41 "DodgingHangman$State" "lives" "I", Cond.fieldLink RX2 44 "DodgingHangman$State" "candidates" "I", Cond.fieldLink RX2 47 "DodgingHangman$State" "guessed" "I", Cond.fieldLink RX2 50 "DodgingHangman$State" "guessCount" "I", Cond.fieldLink RX2 53 "DodgingHangman$State" "pattern" "J"]
def wsX5_undo : List Cond := .code yX5_undo cX5_undo 1 (some .int) :: ((wsX5_undo_r1 ++ wsX5_undo_r2) ++ wsX50 ++ wsX10 ++ wsX20)
def wsX5_mixed : List Cond := .code yX5_mixed cX5_mixed 4 (some .long) :: ([.constantLong RX5 258 (31)])
def wsX5_hashOfList_r1 : List Cond := [Cond.fieldLink RX5 19 "DodgingHangman" "now" "LDodgingHangman$State;", Cond.methodLink RX5 230 yX5_words, Cond.instanceMethod yX5_words, Cond.selects RX5 yX5_words yX5_words, Cond.initialized RX5, Cond.code yX5_words cX5_words 1 (some .int), Cond.methodLink RX5 226 yX5_mixed, Cond.static yX5_mixed, Cond.code yX5_mixed cX5_mixed 4 (some .long), Cond.constantLong RX5 258 (31), Cond.methodLink RX5 84 yX2_wordAt, Cond.instanceMethod yX2_wordAt, Cond.selects RX2 yX2_wordAt yX2_wordAt, Cond.initialized RX2, Cond.code yX2_wordAt cX2_wordAt 2 (some .long), Cond.fieldLink RX2 9 "DodgingHangman$State" "list" "[J", Cond.methodLink RX2 57 yX2_hasWord, Cond.instanceMethod yX2_hasWord, Cond.selects RX2 yX2_hasWord yX2_hasWord, Cond.code yX2_hasWord cX2_hasWord 2 (some .boolean), Cond.fieldLink RX2 28 "DodgingHangman$State" "wordCount" "I", Cond.methodLink RX5 126 yX4_lengthOf, Cond.static yX4_lengthOf, Cond.initialized RX4]
def wsX5_hashOfList_r2 : List Cond := [Cond.code yX4_lengthOf cX4_lengthOf 4 (some .int), Cond.methodLink RX4 19 yX4_letterAt, Cond.static yX4_letterAt, Cond.code yX4_letterAt cX4_letterAt 4 (some .int), Cond.methodLink RX4 11 yX4_shiftOf, Cond.static yX4_shiftOf, Cond.code yX4_shiftOf cX4_shiftOf 1 (some .int), Cond.methodLink RX5 233 yX5_letterOf, Cond.instanceMethod yX5_letterOf, Cond.selects RX5 yX5_letterOf yX5_letterOf, Cond.code yX5_letterOf cX5_letterOf 4 (some .int), Cond.methodLink RX5 88 yX4_letterAt]
def wsX5_hashOfList : List Cond := .code yX5_hashOfList cX5_hashOfList 8 (some .long) :: ((wsX5_hashOfList_r1 ++ wsX5_hashOfList_r2) ++ wsX50 ++ wsX20)
def wsX5_hashOfGame_r1 : List Cond := [Cond.fieldLink RX5 19 "DodgingHangman" "now" "LDodgingHangman$State;", Cond.methodLink RX5 236 yX5_status, Cond.instanceMethod yX5_status, Cond.selects RX5 yX5_status yX5_status, Cond.initialized RX5, Cond.code yX5_status cX5_status 1 (some .int), Cond.methodLink RX5 226 yX5_mixed, Cond.static yX5_mixed, Cond.code yX5_mixed cX5_mixed 4 (some .long), Cond.constantLong RX5 258 (31), Cond.methodLink RX5 238 yX5_lives, Cond.instanceMethod yX5_lives, Cond.selects RX5 yX5_lives yX5_lives, Cond.code yX5_lives cX5_lives 1 (some .int), Cond.methodLink RX5 240 yX5_shown, Cond.instanceMethod yX5_shown, Cond.selects RX5 yX5_shown yX5_shown, Cond.code yX5_shown cX5_shown 3 (some .int), Cond.methodLink RX5 88 yX4_letterAt, Cond.static yX4_letterAt, Cond.initialized RX4, Cond.code yX4_letterAt cX4_letterAt 4 (some .int), Cond.methodLink RX4 11 yX4_shiftOf, Cond.static yX4_shiftOf]
def wsX5_hashOfGame_r2 : List Cond := [Cond.code yX4_shiftOf cX4_shiftOf 1 (some .int), Cond.methodLink RX5 189 yX5_candidates, Cond.instanceMethod yX5_candidates, Cond.selects RX5 yX5_candidates yX5_candidates, Cond.code yX5_candidates cX5_candidates 1 (some .int), Cond.methodLink RX5 105 yJ6_bitCount_0f7a4, Cond.static yJ6_bitCount_0f7a4, Cond.initialized RJ6, Cond.code yJ6_bitCount_0f7a4 cJ6_bitCount_0f7a4 1 (some .int), Cond.constant RJ6 265 (1431655765), Cond.constant RJ6 266 (858993459), Cond.constant RJ6 267 (252645135), Cond.methodLink RX5 243 yX5_candidate, Cond.instanceMethod yX5_candidate, Cond.selects RX5 yX5_candidate yX5_candidate, Cond.code yX5_candidate cX5_candidate 2 (some .int), Cond.methodLink RX5 144 yX5_memberAt, Cond.static yX5_memberAt, Cond.code yX5_memberAt cX5_memberAt 4 (some .int), Cond.methodLink RX5 246 yX5_guesses, Cond.instanceMethod yX5_guesses, Cond.selects RX5 yX5_guesses yX5_guesses, Cond.code yX5_guesses cX5_guesses 1 (some .int), Cond.methodLink RX5 249 yX5_guessAt]
def wsX5_hashOfGame_r3 : List Cond := [Cond.instanceMethod yX5_guessAt, Cond.selects RX5 yX5_guessAt yX5_guessAt, Cond.code yX5_guessAt cX5_guessAt 2 (some .int), Cond.methodLink RX5 158 yX2_guessedAt, Cond.instanceMethod yX2_guessedAt, Cond.selects RX2 yX2_guessedAt yX2_guessedAt, Cond.initialized RX2, Cond.code yX2_guessedAt cX2_guessedAt 2 (some .int), Cond.fieldLink RX2 50 "DodgingHangman$State" "guessCount" "I", Cond.fieldLink RX2 15 "DodgingHangman$State" "lettersInOrder" "[I", Cond.methodLink RX5 55 yX2_isRunning, Cond.instanceMethod yX2_isRunning, Cond.selects RX2 yX2_isRunning yX2_isRunning, Cond.code yX2_isRunning cX2_isRunning 1 (some .boolean), Cond.fieldLink RX2 35 "DodgingHangman$State" "status" "I", Cond.methodLink RX5 252 yX5_sureLetters, Cond.instanceMethod yX5_sureLetters, Cond.selects RX5 yX5_sureLetters yX5_sureLetters, Cond.code yX5_sureLetters cX5_sureLetters 1 (some .int), Cond.methodLink RX5 197 yX2_lettersOfAll, Cond.instanceMethod yX2_lettersOfAll, Cond.selects RX2 yX2_lettersOfAll yX2_lettersOfAll, Cond.code yX2_lettersOfAll cX2_lettersOfAll 3 (some .int), Cond.constant RX2 85 (67108863)]
def wsX5_hashOfGame_r4 : List Cond := [Cond.fieldLink RX2 28 "DodgingHangman$State" "wordCount" "I", Cond.methodLink RX2 78 yX2_isCandidate, Cond.instanceMethod yX2_isCandidate, Cond.selects RX2 yX2_isCandidate yX2_isCandidate, Cond.code yX2_isCandidate cX2_isCandidate 2 (some .boolean), Cond.fieldLink RX2 44 "DodgingHangman$State" "candidates" "I", Cond.methodLink RX2 57 yX2_hasWord, Cond.instanceMethod yX2_hasWord, Cond.selects RX2 yX2_hasWord yX2_hasWord, Cond.code yX2_hasWord cX2_hasWord 2 (some .boolean), Cond.methodLink RX2 67 yX2_wordAt, Cond.instanceMethod yX2_wordAt, Cond.selects RX2 yX2_wordAt yX2_wordAt, Cond.code yX2_wordAt cX2_wordAt 2 (some .long), Cond.fieldLink RX2 9 "DodgingHangman$State" "list" "[J", Cond.methodLink RX2 86 yX4_lettersOf, Cond.static yX4_lettersOf, Cond.code yX4_lettersOf cX4_lettersOf 4 (some .int), Cond.methodLink RX4 19 yX4_letterAt, Cond.static yX5_bitOf, Cond.code yX5_bitOf cX5_bitOf 1 (some .int), Cond.methodLink RX5 110 yX5_isLetter, Cond.static yX5_isLetter, Cond.code yX5_isLetter cX5_isLetter 1 (some .boolean)]
def wsX5_hashOfGame_r5 : List Cond := [Cond.methodLink RX5 255 yX5_bestGuess, Cond.instanceMethod yX5_bestGuess, Cond.selects RX5 yX5_bestGuess yX5_bestGuess, Cond.code yX5_bestGuess cX5_bestGuess 1 (some .int), Cond.methodLink RX5 203 yX5_bestLetter, Cond.instanceMethod yX5_bestLetter, Cond.selects RX5 yX5_bestLetter yX5_bestLetter, Cond.code yX5_bestLetter cX5_bestLetter 9 (some .int), Cond.fieldLink RX5 36 "DodgingHangman" "split" "LDodgingHangman$Families;", Cond.methodLink RX5 113 yX2_wasGuessed, Cond.instanceMethod yX2_wasGuessed, Cond.selects RX2 yX2_wasGuessed yX2_wasGuessed, Cond.code yX2_wasGuessed cX2_wasGuessed 2 (some .boolean), Cond.fieldLink RX2 47 "DodgingHangman$State" "guessed" "I", Cond.methodLink RX5 164 yX0_make, Cond.instanceMethod yX0_make, Cond.selects RX0 yX0_make yX0_make, Cond.initialized RX0, Cond.code yX0_make cX0_make 7 none, Cond.fieldLink RX0 21 "DodgingHangman$Families" "count" "I", Cond.fieldLink RX0 30 "DodgingHangman$Families" "policy" "I", Cond.methodLink RX0 41 yX2_isCandidate, Cond.methodLink RX0 45 yX2_wordAt, Cond.methodLink RX0 49 yX4_maskOf]
def wsX5_hashOfGame_r6 : List Cond := [Cond.static yX4_maskOf, Cond.code yX4_maskOf cX4_maskOf 5 (some .int), Cond.methodLink RX0 55 yX4_lettersOf, Cond.methodLink RX0 59 yX0_put, Cond.instanceMethod yX0_put, Cond.selects RX0 yX0_put yX0_put, Cond.code yX0_put cX0_put 5 none, Cond.fieldLink RX0 9 "DodgingHangman$Families" "masks" "[I", Cond.fieldLink RX0 15 "DodgingHangman$Families" "members" "[I", Cond.fieldLink RX0 18 "DodgingHangman$Families" "freshLetters" "[I", Cond.methodLink RX0 63 yX0_maskOf, Cond.instanceMethod yX0_maskOf, Cond.selects RX0 yX0_maskOf yX0_maskOf, Cond.code yX0_maskOf cX0_maskOf 2 (some .int), Cond.methodLink RX0 65 yX0_has, Cond.instanceMethod yX0_has, Cond.selects RX0 yX0_has yX0_has, Cond.code yX0_has cX0_has 2 (some .boolean), Cond.methodLink RX5 171 yX0_ranked, Cond.instanceMethod yX0_ranked, Cond.selects RX0 yX0_ranked yX0_ranked, Cond.code yX0_ranked cX0_ranked 3 (some .int), Cond.methodLink RX0 79 yX0_betterThan, Cond.instanceMethod yX0_betterThan]
def wsX5_hashOfGame_r7 : List Cond := [Cond.selects RX0 yX0_betterThan yX0_betterThan, Cond.code yX0_betterThan cX0_betterThan 4 (some .int), Cond.methodLink RX0 82 yX0_isBetter, Cond.instanceMethod yX0_isBetter, Cond.selects RX0 yX0_isBetter yX0_isBetter, Cond.code yX0_isBetter cX0_isBetter 5 (some .boolean), Cond.methodLink RX0 86 yX0_freshnessOf, Cond.instanceMethod yX0_freshnessOf, Cond.selects RX0 yX0_freshnessOf yX0_freshnessOf, Cond.code yX0_freshnessOf cX0_freshnessOf 2 (some .int), Cond.methodLink RX0 71 yJ6_bitCount_0f7a4, Cond.methodLink RX0 76 yX0_sizeOf, Cond.instanceMethod yX0_sizeOf, Cond.selects RX0 yX0_sizeOf yX0_sizeOf, Cond.code yX0_sizeOf cX0_sizeOf 2 (some .int), Cond.methodLink RX0 68 yX0_membersOf, Cond.instanceMethod yX0_membersOf, Cond.selects RX0 yX0_membersOf yX0_membersOf, Cond.code yX0_membersOf cX0_membersOf 2 (some .int), Cond.methodLink RX5 177 yX0_sizeOf, Cond.methodLink RX5 180 yX0_maskOf]
def wsX5_hashOfGame : List Cond := .code yX5_hashOfGame cX5_hashOfGame 7 (some .long) :: ((wsX5_hashOfGame_r1 ++ (wsX5_hashOfGame_r2 ++ (wsX5_hashOfGame_r3 ++ (wsX5_hashOfGame_r4 ++ (wsX5_hashOfGame_r5 ++ (wsX5_hashOfGame_r6 ++ wsX5_hashOfGame_r7)))))) ++ wsX50 ++ wsX20 ++ wsX00)
def wsX5_digest_r1 : List Cond := [Cond.constantLong RX5 214 (131), Cond.methodLink RX5 216 yX5_hashOfList, Cond.instanceMethod yX5_hashOfList, Cond.selects RX5 yX5_hashOfList yX5_hashOfList, Cond.initialized RX5, Cond.code yX5_hashOfList cX5_hashOfList 8 (some .long), Cond.fieldLink RX5 19 "DodgingHangman" "now" "LDodgingHangman$State;", Cond.methodLink RX5 230 yX5_words, Cond.instanceMethod yX5_words, Cond.selects RX5 yX5_words yX5_words, Cond.code yX5_words cX5_words 1 (some .int), Cond.methodLink RX5 226 yX5_mixed, Cond.static yX5_mixed, Cond.code yX5_mixed cX5_mixed 4 (some .long), Cond.constantLong RX5 258 (31), Cond.methodLink RX5 84 yX2_wordAt, Cond.instanceMethod yX2_wordAt, Cond.selects RX2 yX2_wordAt yX2_wordAt, Cond.initialized RX2, Cond.code yX2_wordAt cX2_wordAt 2 (some .long), Cond.fieldLink RX2 9 "DodgingHangman$State" "list" "[J", Cond.methodLink RX2 57 yX2_hasWord, Cond.instanceMethod yX2_hasWord, Cond.selects RX2 yX2_hasWord yX2_hasWord]
def wsX5_digest_r2 : List Cond := [Cond.code yX2_hasWord cX2_hasWord 2 (some .boolean), Cond.fieldLink RX2 28 "DodgingHangman$State" "wordCount" "I", Cond.methodLink RX5 126 yX4_lengthOf, Cond.static yX4_lengthOf, Cond.initialized RX4, Cond.code yX4_lengthOf cX4_lengthOf 4 (some .int), Cond.methodLink RX4 19 yX4_letterAt, Cond.static yX4_letterAt, Cond.code yX4_letterAt cX4_letterAt 4 (some .int), Cond.methodLink RX4 11 yX4_shiftOf, Cond.static yX4_shiftOf, Cond.code yX4_shiftOf cX4_shiftOf 1 (some .int), Cond.methodLink RX5 233 yX5_letterOf, Cond.instanceMethod yX5_letterOf, Cond.selects RX5 yX5_letterOf yX5_letterOf, Cond.code yX5_letterOf cX5_letterOf 4 (some .int), Cond.methodLink RX5 88 yX4_letterAt, Cond.methodLink RX5 220 yX5_hashOfGame, Cond.instanceMethod yX5_hashOfGame, Cond.selects RX5 yX5_hashOfGame yX5_hashOfGame, Cond.code yX5_hashOfGame cX5_hashOfGame 7 (some .long), Cond.methodLink RX5 236 yX5_status, Cond.instanceMethod yX5_status, Cond.selects RX5 yX5_status yX5_status]
def wsX5_digest_r3 : List Cond := [Cond.code yX5_status cX5_status 1 (some .int), Cond.methodLink RX5 238 yX5_lives, Cond.instanceMethod yX5_lives, Cond.selects RX5 yX5_lives yX5_lives, Cond.code yX5_lives cX5_lives 1 (some .int), Cond.methodLink RX5 240 yX5_shown, Cond.instanceMethod yX5_shown, Cond.selects RX5 yX5_shown yX5_shown, Cond.code yX5_shown cX5_shown 3 (some .int), Cond.methodLink RX5 189 yX5_candidates, Cond.instanceMethod yX5_candidates, Cond.selects RX5 yX5_candidates yX5_candidates, Cond.code yX5_candidates cX5_candidates 1 (some .int), Cond.methodLink RX5 105 yJ6_bitCount_0f7a4, Cond.static yJ6_bitCount_0f7a4, Cond.initialized RJ6, Cond.code yJ6_bitCount_0f7a4 cJ6_bitCount_0f7a4 1 (some .int), Cond.constant RJ6 265 (1431655765), Cond.constant RJ6 266 (858993459), Cond.constant RJ6 267 (252645135), Cond.methodLink RX5 243 yX5_candidate, Cond.instanceMethod yX5_candidate, Cond.selects RX5 yX5_candidate yX5_candidate, Cond.code yX5_candidate cX5_candidate 2 (some .int)]
def wsX5_digest_r4 : List Cond := [Cond.methodLink RX5 144 yX5_memberAt, Cond.static yX5_memberAt, Cond.code yX5_memberAt cX5_memberAt 4 (some .int), Cond.methodLink RX5 246 yX5_guesses, Cond.instanceMethod yX5_guesses, Cond.selects RX5 yX5_guesses yX5_guesses, Cond.code yX5_guesses cX5_guesses 1 (some .int), Cond.methodLink RX5 249 yX5_guessAt, Cond.instanceMethod yX5_guessAt, Cond.selects RX5 yX5_guessAt yX5_guessAt, Cond.code yX5_guessAt cX5_guessAt 2 (some .int), Cond.methodLink RX5 158 yX2_guessedAt, Cond.instanceMethod yX2_guessedAt, Cond.selects RX2 yX2_guessedAt yX2_guessedAt, Cond.code yX2_guessedAt cX2_guessedAt 2 (some .int), Cond.fieldLink RX2 50 "DodgingHangman$State" "guessCount" "I", Cond.fieldLink RX2 15 "DodgingHangman$State" "lettersInOrder" "[I", Cond.methodLink RX5 55 yX2_isRunning, Cond.instanceMethod yX2_isRunning, Cond.selects RX2 yX2_isRunning yX2_isRunning, Cond.code yX2_isRunning cX2_isRunning 1 (some .boolean), Cond.fieldLink RX2 35 "DodgingHangman$State" "status" "I", Cond.methodLink RX5 252 yX5_sureLetters, Cond.instanceMethod yX5_sureLetters]
def wsX5_digest_r5 : List Cond := [Cond.selects RX5 yX5_sureLetters yX5_sureLetters, Cond.code yX5_sureLetters cX5_sureLetters 1 (some .int), Cond.methodLink RX5 197 yX2_lettersOfAll, Cond.instanceMethod yX2_lettersOfAll, Cond.selects RX2 yX2_lettersOfAll yX2_lettersOfAll, Cond.code yX2_lettersOfAll cX2_lettersOfAll 3 (some .int), Cond.constant RX2 85 (67108863), Cond.methodLink RX2 78 yX2_isCandidate, Cond.instanceMethod yX2_isCandidate, Cond.selects RX2 yX2_isCandidate yX2_isCandidate, Cond.code yX2_isCandidate cX2_isCandidate 2 (some .boolean), Cond.fieldLink RX2 44 "DodgingHangman$State" "candidates" "I", Cond.methodLink RX2 67 yX2_wordAt, Cond.methodLink RX2 86 yX4_lettersOf, Cond.static yX4_lettersOf, Cond.code yX4_lettersOf cX4_lettersOf 4 (some .int), Cond.static yX5_bitOf, Cond.code yX5_bitOf cX5_bitOf 1 (some .int), Cond.methodLink RX5 110 yX5_isLetter, Cond.static yX5_isLetter, Cond.code yX5_isLetter cX5_isLetter 1 (some .boolean), Cond.methodLink RX5 255 yX5_bestGuess, Cond.instanceMethod yX5_bestGuess, Cond.selects RX5 yX5_bestGuess yX5_bestGuess]
def wsX5_digest_r6 : List Cond := [Cond.code yX5_bestGuess cX5_bestGuess 1 (some .int), Cond.methodLink RX5 203 yX5_bestLetter, Cond.instanceMethod yX5_bestLetter, Cond.selects RX5 yX5_bestLetter yX5_bestLetter, Cond.code yX5_bestLetter cX5_bestLetter 9 (some .int), Cond.fieldLink RX5 36 "DodgingHangman" "split" "LDodgingHangman$Families;", Cond.methodLink RX5 113 yX2_wasGuessed, Cond.instanceMethod yX2_wasGuessed, Cond.selects RX2 yX2_wasGuessed yX2_wasGuessed, Cond.code yX2_wasGuessed cX2_wasGuessed 2 (some .boolean), Cond.fieldLink RX2 47 "DodgingHangman$State" "guessed" "I", Cond.methodLink RX5 164 yX0_make, Cond.instanceMethod yX0_make, Cond.selects RX0 yX0_make yX0_make, Cond.initialized RX0, Cond.code yX0_make cX0_make 7 none, Cond.fieldLink RX0 21 "DodgingHangman$Families" "count" "I", Cond.fieldLink RX0 30 "DodgingHangman$Families" "policy" "I", Cond.methodLink RX0 41 yX2_isCandidate, Cond.methodLink RX0 45 yX2_wordAt, Cond.methodLink RX0 49 yX4_maskOf, Cond.static yX4_maskOf, Cond.code yX4_maskOf cX4_maskOf 5 (some .int), Cond.methodLink RX0 55 yX4_lettersOf]
def wsX5_digest_r7 : List Cond := [Cond.methodLink RX0 59 yX0_put, Cond.instanceMethod yX0_put, Cond.selects RX0 yX0_put yX0_put, Cond.code yX0_put cX0_put 5 none, Cond.fieldLink RX0 9 "DodgingHangman$Families" "masks" "[I", Cond.fieldLink RX0 15 "DodgingHangman$Families" "members" "[I", Cond.fieldLink RX0 18 "DodgingHangman$Families" "freshLetters" "[I", Cond.methodLink RX0 63 yX0_maskOf, Cond.instanceMethod yX0_maskOf, Cond.selects RX0 yX0_maskOf yX0_maskOf, Cond.code yX0_maskOf cX0_maskOf 2 (some .int), Cond.methodLink RX0 65 yX0_has, Cond.instanceMethod yX0_has, Cond.selects RX0 yX0_has yX0_has, Cond.code yX0_has cX0_has 2 (some .boolean), Cond.methodLink RX5 171 yX0_ranked, Cond.instanceMethod yX0_ranked, Cond.selects RX0 yX0_ranked yX0_ranked, Cond.code yX0_ranked cX0_ranked 3 (some .int), Cond.methodLink RX0 79 yX0_betterThan, Cond.instanceMethod yX0_betterThan, Cond.selects RX0 yX0_betterThan yX0_betterThan, Cond.code yX0_betterThan cX0_betterThan 4 (some .int), Cond.methodLink RX0 82 yX0_isBetter]
def wsX5_digest_r8 : List Cond := [Cond.instanceMethod yX0_isBetter, Cond.selects RX0 yX0_isBetter yX0_isBetter, Cond.code yX0_isBetter cX0_isBetter 5 (some .boolean), Cond.methodLink RX0 86 yX0_freshnessOf, Cond.instanceMethod yX0_freshnessOf, Cond.selects RX0 yX0_freshnessOf yX0_freshnessOf, Cond.code yX0_freshnessOf cX0_freshnessOf 2 (some .int), Cond.methodLink RX0 71 yJ6_bitCount_0f7a4, Cond.methodLink RX0 76 yX0_sizeOf, Cond.instanceMethod yX0_sizeOf, Cond.selects RX0 yX0_sizeOf yX0_sizeOf, Cond.code yX0_sizeOf cX0_sizeOf 2 (some .int), Cond.methodLink RX0 68 yX0_membersOf, Cond.instanceMethod yX0_membersOf, Cond.selects RX0 yX0_membersOf yX0_membersOf, Cond.code yX0_membersOf cX0_membersOf 2 (some .int), Cond.methodLink RX5 177 yX0_sizeOf, Cond.methodLink RX5 180 yX0_maskOf, Cond.methodLink RX5 223 yX5_total, Cond.instanceMethod yX5_total, Cond.selects RX5 yX5_total yX5_total, Cond.code yX5_total cX5_total 2 (some .int), Cond.methodLink RX5 207 yX2_totalOf, Cond.instanceMethod yX2_totalOf]
def wsX5_digest_r9 : List Cond := [Cond.selects RX2 yX2_totalOf yX2_totalOf, Cond.code yX2_totalOf cX2_totalOf 2 (some .int), Cond.fieldLink RX2 19 "DodgingHangman$State" "totals" "[I"]
def wsX5_digest : List Cond := .code yX5_digest cX5_digest 4 (some .long) :: ((wsX5_digest_r1 ++ (wsX5_digest_r2 ++ (wsX5_digest_r3 ++ (wsX5_digest_r4 ++ (wsX5_digest_r5 ++ (wsX5_digest_r6 ++ (wsX5_digest_r7 ++ (wsX5_digest_r8 ++ wsX5_digest_r9)))))))) ++ wsX50 ++ wsX20 ++ wsX00)
def wsX6_init : List Cond := .code yX6_init cX6_init 1 none :: ([.methodLink RX6 1 objectInit, .instanceMethod objectInit, .code objectInit ⟨#[0xb1]⟩ 1 none, .arrayClass .int, .fieldLink RX6 7 "DodgingHangmanModel" "s" "[I", .fieldLink RX6 13 "DodgingHangmanModel" "aside" "[I", .fieldLink RX6 16 "DodgingHangmanModel" "before" "[I", .fieldLink RX6 19 "DodgingHangmanModel" "text" "[I", .fieldLink RX6 22 "DodgingHangmanModel" "mask" "[I", .fieldLink RX6 25 "DodgingHangmanModel" "members" "[I", .fieldLink RX6 28 "DodgingHangmanModel" "size" "[I", .fieldLink RX6 31 "DodgingHangmanModel" "places" "[I", .fieldLink RX6 34 "DodgingHangmanModel" "fresh" "[I", .fieldLink RX6 37 "DodgingHangmanModel" "many" "I"] ++ wsX60)
def wsX6_in : List Cond := .code yX6_in cX6_in 3 (some .boolean) :: ([])
def wsX6_isLetter : List Cond := .code yX6_isLetter cX6_isLetter 1 (some .boolean) :: ([.methodLink RX6 41 yX6_in, .static yX6_in, .initialized RX6, .code yX6_in cX6_in 3 (some .boolean)])
def wsX6_bits : List Cond := .code yX6_bits cX6_bits 3 (some .int) :: ([])
def wsX6_lowest : List Cond := .code yX6_lowest cX6_lowest 2 (some .int) :: ([])
def wsX6_saves : List Cond := .code yX6_saves cX6_saves 2 none :: ([.fieldLink RX6 45 "DodgingHangmanModel" "saved" "I", .fieldLink RX6 16 "DodgingHangmanModel" "before" "[I", .fieldLink RX6 7 "DodgingHangmanModel" "s" "[I"] ++ wsX60)
def wsX6_putAside : List Cond := .code yX6_putAside cX6_putAside 2 none :: ([.fieldLink RX6 13 "DodgingHangmanModel" "aside" "[I", .fieldLink RX6 7 "DodgingHangmanModel" "s" "[I"] ++ wsX60)
def wsX6_putBack : List Cond := .code yX6_putBack cX6_putBack 2 none :: ([.fieldLink RX6 7 "DodgingHangmanModel" "s" "[I", .fieldLink RX6 13 "DodgingHangmanModel" "aside" "[I"] ++ wsX60)
def wsX6_letter : List Cond := .code yX6_letter cX6_letter 3 (some .int) :: ([.fieldLink RX6 7 "DodgingHangmanModel" "s" "[I"] ++ wsX60)
def wsX6_isCandidate : List Cond := .code yX6_isCandidate cX6_isCandidate 2 (some .boolean) :: ([.fieldLink RX6 7 "DodgingHangmanModel" "s" "[I"] ++ wsX60)
def wsX6_isGuessed : List Cond := .code yX6_isGuessed cX6_isGuessed 2 (some .boolean) :: ([.fieldLink RX6 7 "DodgingHangmanModel" "s" "[I"] ++ wsX60)
def wsX6_runs : List Cond := .code yX6_runs cX6_runs 1 (some .boolean) :: ([.fieldLink RX6 7 "DodgingHangmanModel" "s" "[I"] ++ wsX60)
def wsX6_type : List Cond := .code yX6_type cX6_type 2 (some .int) :: ([.fieldLink RX6 48 "DodgingHangmanModel" "typed" "I", .fieldLink RX6 19 "DodgingHangmanModel" "text" "[I", .methodLink RX6 41 yX6_in, .static yX6_in, .initialized RX6, .code yX6_in cX6_in 3 (some .boolean)] ++ wsX60)
def wsX6_clearText : List Cond := .code yX6_clearText cX6_clearText 2 (some .int) :: ([.fieldLink RX6 48 "DodgingHangmanModel" "typed" "I"] ++ wsX60)
def wsX6_error : List Cond := .code yX6_error cX6_error 4 (some .int) :: ([.fieldLink RX6 48 "DodgingHangmanModel" "typed" "I", .fieldLink RX6 19 "DodgingHangmanModel" "text" "[I", .methodLink RX6 51 yX6_isLetter, .static yX6_isLetter, .initialized RX6, .code yX6_isLetter cX6_isLetter 1 (some .boolean), .methodLink RX6 41 yX6_in, .static yX6_in, .code yX6_in cX6_in 3 (some .boolean)] ++ wsX60)
def wsX6_syntaxError : List Cond := .code yX6_syntaxError cX6_syntaxError 1 (some .int) :: ([.methodLink RX6 55 yX6_error, .instanceMethod yX6_error, .selects RX6 yX6_error yX6_error, .initialized RX6, .code yX6_error cX6_error 4 (some .int), .fieldLink RX6 48 "DodgingHangmanModel" "typed" "I", .fieldLink RX6 19 "DodgingHangmanModel" "text" "[I", .methodLink RX6 51 yX6_isLetter, .static yX6_isLetter, .code yX6_isLetter cX6_isLetter 1 (some .boolean), .methodLink RX6 41 yX6_in, .static yX6_in, .code yX6_in cX6_in 3 (some .boolean)] ++ wsX60)
def wsX6_endOf : List Cond := .code yX6_endOf cX6_endOf 3 (some .int) :: ([.fieldLink RX6 48 "DodgingHangmanModel" "typed" "I", .fieldLink RX6 19 "DodgingHangmanModel" "text" "[I"] ++ wsX60)
def wsX6_compares : List Cond := .code yX6_compares cX6_compares 6 (some .int) :: ([.fieldLink RX6 7 "DodgingHangmanModel" "s" "[I", .fieldLink RX6 19 "DodgingHangmanModel" "text" "[I", .methodLink RX6 59 yX6_letter, .instanceMethod yX6_letter, .selects RX6 yX6_letter yX6_letter, .initialized RX6, .code yX6_letter cX6_letter 3 (some .int)] ++ wsX60)
def wsX6_placeFor : List Cond := .code yX6_placeFor cX6_placeFor 4 (some .int) :: ([.fieldLink RX6 7 "DodgingHangmanModel" "s" "[I", .methodLink RX6 63 yX6_compares, .instanceMethod yX6_compares, .selects RX6 yX6_compares yX6_compares, .initialized RX6, .code yX6_compares cX6_compares 6 (some .int), .fieldLink RX6 19 "DodgingHangmanModel" "text" "[I", .methodLink RX6 59 yX6_letter, .instanceMethod yX6_letter, .selects RX6 yX6_letter yX6_letter, .code yX6_letter cX6_letter 3 (some .int)] ++ wsX60)
def wsX6_isIn : List Cond := .code yX6_isIn cX6_isIn 4 (some .boolean) :: ([.fieldLink RX6 7 "DodgingHangmanModel" "s" "[I", .methodLink RX6 67 yX6_placeFor, .instanceMethod yX6_placeFor, .selects RX6 yX6_placeFor yX6_placeFor, .initialized RX6, .code yX6_placeFor cX6_placeFor 4 (some .int), .methodLink RX6 63 yX6_compares, .instanceMethod yX6_compares, .selects RX6 yX6_compares yX6_compares, .code yX6_compares cX6_compares 6 (some .int), .fieldLink RX6 19 "DodgingHangmanModel" "text" "[I", .methodLink RX6 59 yX6_letter, .instanceMethod yX6_letter, .selects RX6 yX6_letter yX6_letter, .code yX6_letter cX6_letter 3 (some .int)] ++ wsX60)
def wsX6_noGame : List Cond := .code yX6_noGame cX6_noGame 2 none :: ([.fieldLink RX6 7 "DodgingHangmanModel" "s" "[I"] ++ wsX60)
def wsX6_puts : List Cond := .code yX6_puts cX6_puts 6 none :: ([.fieldLink RX6 7 "DodgingHangmanModel" "s" "[I", .fieldLink RX6 19 "DodgingHangmanModel" "text" "[I", .methodLink RX6 67 yX6_placeFor, .instanceMethod yX6_placeFor, .selects RX6 yX6_placeFor yX6_placeFor, .initialized RX6, .code yX6_placeFor cX6_placeFor 4 (some .int), .methodLink RX6 63 yX6_compares, .instanceMethod yX6_compares, .selects RX6 yX6_compares yX6_compares, .code yX6_compares cX6_compares 6 (some .int), .methodLink RX6 59 yX6_letter, .instanceMethod yX6_letter, .selects RX6 yX6_letter yX6_letter, .code yX6_letter cX6_letter 3 (some .int)] ++ wsX60)
def wsX6_savesAside : List Cond := .code yX6_savesAside cX6_savesAside 3 none :: ([.fieldLink RX6 7 "DodgingHangmanModel" "s" "[I", .fieldLink RX6 13 "DodgingHangmanModel" "aside" "[I", .methodLink RX6 98 yX6_saves, .instanceMethod yX6_saves, .selects RX6 yX6_saves yX6_saves, .initialized RX6, .code yX6_saves cX6_saves 2 none, .fieldLink RX6 45 "DodgingHangmanModel" "saved" "I", .fieldLink RX6 16 "DodgingHangmanModel" "before" "[I"] ++ wsX60)
def wsX6_addWords_r1 : List Cond := [Cond.fieldLink RX6 48 "DodgingHangmanModel" "typed" "I", Cond.fieldLink RX6 7 "DodgingHangmanModel" "s" "[I", Cond.methodLink RX6 55 yX6_error, Cond.instanceMethod yX6_error, Cond.selects RX6 yX6_error yX6_error, Cond.initialized RX6, Cond.code yX6_error cX6_error 4 (some .int), Cond.fieldLink RX6 19 "DodgingHangmanModel" "text" "[I", Cond.methodLink RX6 51 yX6_isLetter, Cond.static yX6_isLetter, Cond.code yX6_isLetter cX6_isLetter 1 (some .boolean), Cond.methodLink RX6 41 yX6_in, Cond.static yX6_in, Cond.code yX6_in cX6_in 3 (some .boolean), Cond.methodLink RX6 70 yX6_runs, Cond.instanceMethod yX6_runs, Cond.selects RX6 yX6_runs yX6_runs, Cond.code yX6_runs cX6_runs 1 (some .boolean), Cond.methodLink RX6 74 yX6_putAside, Cond.instanceMethod yX6_putAside, Cond.selects RX6 yX6_putAside yX6_putAside, Cond.code yX6_putAside cX6_putAside 2 none, Cond.fieldLink RX6 13 "DodgingHangmanModel" "aside" "[I", Cond.methodLink RX6 77 yX6_endOf]
def wsX6_addWords_r2 : List Cond := [Cond.instanceMethod yX6_endOf, Cond.selects RX6 yX6_endOf yX6_endOf, Cond.code yX6_endOf cX6_endOf 3 (some .int), Cond.methodLink RX6 81 yX6_isIn, Cond.instanceMethod yX6_isIn, Cond.selects RX6 yX6_isIn yX6_isIn, Cond.code yX6_isIn cX6_isIn 4 (some .boolean), Cond.methodLink RX6 67 yX6_placeFor, Cond.instanceMethod yX6_placeFor, Cond.selects RX6 yX6_placeFor yX6_placeFor, Cond.code yX6_placeFor cX6_placeFor 4 (some .int), Cond.methodLink RX6 63 yX6_compares, Cond.instanceMethod yX6_compares, Cond.selects RX6 yX6_compares yX6_compares, Cond.code yX6_compares cX6_compares 6 (some .int), Cond.methodLink RX6 59 yX6_letter, Cond.instanceMethod yX6_letter, Cond.selects RX6 yX6_letter yX6_letter, Cond.code yX6_letter cX6_letter 3 (some .int), Cond.methodLink RX6 85 yX6_puts, Cond.instanceMethod yX6_puts, Cond.selects RX6 yX6_puts yX6_puts, Cond.code yX6_puts cX6_puts 6 none, Cond.methodLink RX6 89 yX6_putBack]
def wsX6_addWords_r3 : List Cond := [Cond.instanceMethod yX6_putBack, Cond.selects RX6 yX6_putBack yX6_putBack, Cond.code yX6_putBack cX6_putBack 2 none, Cond.methodLink RX6 92 yX6_savesAside, Cond.instanceMethod yX6_savesAside, Cond.selects RX6 yX6_savesAside yX6_savesAside, Cond.code yX6_savesAside cX6_savesAside 3 none, Cond.methodLink RX6 98 yX6_saves, Cond.instanceMethod yX6_saves, Cond.selects RX6 yX6_saves yX6_saves, Cond.code yX6_saves cX6_saves 2 none, Cond.fieldLink RX6 45 "DodgingHangmanModel" "saved" "I", Cond.fieldLink RX6 16 "DodgingHangmanModel" "before" "[I", Cond.methodLink RX6 95 yX6_noGame, Cond.instanceMethod yX6_noGame, Cond.selects RX6 yX6_noGame yX6_noGame, Cond.code yX6_noGame cX6_noGame 2 none]
def wsX6_addWords : List Cond := .code yX6_addWords cX6_addWords 5 (some .int) :: ((wsX6_addWords_r1 ++ (wsX6_addWords_r2 ++ wsX6_addWords_r3)) ++ wsX60)
def wsX6_removeWord : List Cond := .code yX6_removeWord cX6_removeWord 4 (some .int) :: ([.fieldLink RX6 7 "DodgingHangmanModel" "s" "[I", .methodLink RX6 41 yX6_in, .static yX6_in, .initialized RX6, .code yX6_in cX6_in 3 (some .boolean), .methodLink RX6 70 yX6_runs, .instanceMethod yX6_runs, .selects RX6 yX6_runs yX6_runs, .code yX6_runs cX6_runs 1 (some .boolean), .methodLink RX6 98 yX6_saves, .instanceMethod yX6_saves, .selects RX6 yX6_saves yX6_saves, .code yX6_saves cX6_saves 2 none, .fieldLink RX6 45 "DodgingHangmanModel" "saved" "I", .fieldLink RX6 16 "DodgingHangmanModel" "before" "[I", .methodLink RX6 95 yX6_noGame, .instanceMethod yX6_noGame, .selects RX6 yX6_noGame yX6_noGame, .code yX6_noGame cX6_noGame 2 none, .methodLink RX6 59 yX6_letter, .instanceMethod yX6_letter, .selects RX6 yX6_letter yX6_letter, .code yX6_letter cX6_letter 3 (some .int)] ++ wsX60)
def wsX6_words : List Cond := .code yX6_words cX6_words 1 (some .int) :: ([.fieldLink RX6 7 "DodgingHangmanModel" "s" "[I"] ++ wsX60)
def wsX6_letterOf : List Cond := .code yX6_letterOf cX6_letterOf 3 (some .int) :: ([.fieldLink RX6 7 "DodgingHangmanModel" "s" "[I", .methodLink RX6 41 yX6_in, .static yX6_in, .initialized RX6, .code yX6_in cX6_in 3 (some .boolean), .methodLink RX6 59 yX6_letter, .instanceMethod yX6_letter, .selects RX6 yX6_letter yX6_letter, .code yX6_letter cX6_letter 3 (some .int)] ++ wsX60)
def wsX6_maskOf : List Cond := .code yX6_maskOf cX6_maskOf 5 (some .int) :: ([.fieldLink RX6 7 "DodgingHangmanModel" "s" "[I", .methodLink RX6 59 yX6_letter, .instanceMethod yX6_letter, .selects RX6 yX6_letter yX6_letter, .initialized RX6, .code yX6_letter cX6_letter 3 (some .int)] ++ wsX60)
def wsX6_lettersOf : List Cond := .code yX6_lettersOf cX6_lettersOf 4 (some .int) :: ([.fieldLink RX6 7 "DodgingHangmanModel" "s" "[I", .methodLink RX6 59 yX6_letter, .instanceMethod yX6_letter, .selects RX6 yX6_letter yX6_letter, .initialized RX6, .code yX6_letter cX6_letter 3 (some .int)] ++ wsX60)
def wsX6_familyWith : List Cond := .code yX6_familyWith cX6_familyWith 3 (some .int) :: ([.fieldLink RX6 37 "DodgingHangmanModel" "many" "I", .fieldLink RX6 22 "DodgingHangmanModel" "mask" "[I"] ++ wsX60)
def wsX6_laysFamilies_r1 : List Cond := [Cond.fieldLink RX6 37 "DodgingHangmanModel" "many" "I", Cond.fieldLink RX6 7 "DodgingHangmanModel" "s" "[I", Cond.fieldLink RX6 22 "DodgingHangmanModel" "mask" "[I", Cond.fieldLink RX6 25 "DodgingHangmanModel" "members" "[I", Cond.fieldLink RX6 34 "DodgingHangmanModel" "fresh" "[I", Cond.fieldLink RX6 28 "DodgingHangmanModel" "size" "[I", Cond.fieldLink RX6 31 "DodgingHangmanModel" "places" "[I", Cond.methodLink RX6 101 yX6_isCandidate, Cond.instanceMethod yX6_isCandidate, Cond.selects RX6 yX6_isCandidate yX6_isCandidate, Cond.initialized RX6, Cond.code yX6_isCandidate cX6_isCandidate 2 (some .boolean), Cond.methodLink RX6 104 yX6_maskOf, Cond.instanceMethod yX6_maskOf, Cond.selects RX6 yX6_maskOf yX6_maskOf, Cond.code yX6_maskOf cX6_maskOf 5 (some .int), Cond.methodLink RX6 59 yX6_letter, Cond.instanceMethod yX6_letter, Cond.selects RX6 yX6_letter yX6_letter, Cond.code yX6_letter cX6_letter 3 (some .int), Cond.methodLink RX6 107 yX6_familyWith, Cond.instanceMethod yX6_familyWith, Cond.selects RX6 yX6_familyWith yX6_familyWith, Cond.code yX6_familyWith cX6_familyWith 3 (some .int)]
def wsX6_laysFamilies_r2 : List Cond := [Cond.methodLink RX6 110 yX6_lettersOf, Cond.instanceMethod yX6_lettersOf, Cond.selects RX6 yX6_lettersOf yX6_lettersOf, Cond.code yX6_lettersOf cX6_lettersOf 4 (some .int), Cond.methodLink RX6 113 yX6_bits, Cond.static yX6_bits, Cond.code yX6_bits cX6_bits 3 (some .int)]
def wsX6_laysFamilies : List Cond := .code yX6_laysFamilies cX6_laysFamilies 5 none :: ((wsX6_laysFamilies_r1 ++ wsX6_laysFamilies_r2) ++ wsX60)
def wsX6_isAhead : List Cond := .code yX6_isAhead cX6_isAhead 3 (some .boolean) :: ([.fieldLink RX6 7 "DodgingHangmanModel" "s" "[I", .fieldLink RX6 22 "DodgingHangmanModel" "mask" "[I", .fieldLink RX6 34 "DodgingHangmanModel" "fresh" "[I", .fieldLink RX6 28 "DodgingHangmanModel" "size" "[I", .fieldLink RX6 31 "DodgingHangmanModel" "places" "[I"] ++ wsX60)
def wsX6_ranked : List Cond := .code yX6_ranked cX6_ranked 5 (some .int) :: ([.fieldLink RX6 37 "DodgingHangmanModel" "many" "I", .methodLink RX6 116 yX6_isAhead, .instanceMethod yX6_isAhead, .selects RX6 yX6_isAhead yX6_isAhead, .initialized RX6, .code yX6_isAhead cX6_isAhead 3 (some .boolean), .fieldLink RX6 7 "DodgingHangmanModel" "s" "[I", .fieldLink RX6 22 "DodgingHangmanModel" "mask" "[I", .fieldLink RX6 34 "DodgingHangmanModel" "fresh" "[I", .fieldLink RX6 28 "DodgingHangmanModel" "size" "[I", .fieldLink RX6 31 "DodgingHangmanModel" "places" "[I"] ++ wsX60)
def wsX6_setPolicy : List Cond := .code yX6_setPolicy cX6_setPolicy 3 (some .int) :: ([.fieldLink RX6 7 "DodgingHangmanModel" "s" "[I", .methodLink RX6 41 yX6_in, .static yX6_in, .initialized RX6, .code yX6_in cX6_in 3 (some .boolean), .methodLink RX6 98 yX6_saves, .instanceMethod yX6_saves, .selects RX6 yX6_saves yX6_saves, .code yX6_saves cX6_saves 2 none, .fieldLink RX6 45 "DodgingHangmanModel" "saved" "I", .fieldLink RX6 16 "DodgingHangmanModel" "before" "[I"] ++ wsX60)
def wsX6_ofLength : List Cond := .code yX6_ofLength cX6_ofLength 4 (some .int) :: ([.fieldLink RX6 7 "DodgingHangmanModel" "s" "[I"] ++ wsX60)
def wsX6_start : List Cond := .code yX6_start cX6_start 3 (some .int) :: ([.fieldLink RX6 7 "DodgingHangmanModel" "s" "[I", .methodLink RX6 41 yX6_in, .static yX6_in, .initialized RX6, .code yX6_in cX6_in 3 (some .boolean), .methodLink RX6 119 yX6_ofLength, .instanceMethod yX6_ofLength, .selects RX6 yX6_ofLength yX6_ofLength, .code yX6_ofLength cX6_ofLength 4 (some .int), .methodLink RX6 98 yX6_saves, .instanceMethod yX6_saves, .selects RX6 yX6_saves yX6_saves, .code yX6_saves cX6_saves 2 none, .fieldLink RX6 45 "DodgingHangmanModel" "saved" "I", .fieldLink RX6 16 "DodgingHangmanModel" "before" "[I", .methodLink RX6 95 yX6_noGame, .instanceMethod yX6_noGame, .selects RX6 yX6_noGame yX6_noGame, .code yX6_noGame cX6_noGame 2 none, .methodLink RX6 113 yX6_bits, .static yX6_bits, .code yX6_bits cX6_bits 3 (some .int)] ++ wsX60)
def wsX6_ends : List Cond := .code yX6_ends cX6_ends 2 none :: ([.fieldLink RX6 7 "DodgingHangmanModel" "s" "[I"] ++ wsX60)
def wsX6_misses : List Cond := .code yX6_misses cX6_misses 2 none :: ([.fieldLink RX6 7 "DodgingHangmanModel" "s" "[I", .methodLink RX6 122 yX6_ends, .instanceMethod yX6_ends, .selects RX6 yX6_ends yX6_ends, .initialized RX6, .code yX6_ends cX6_ends 2 none] ++ wsX60)
def wsX6_isHidden : List Cond := .code yX6_isHidden cX6_isHidden 3 (some .boolean) :: ([.fieldLink RX6 7 "DodgingHangmanModel" "s" "[I"] ++ wsX60)
def wsX6_guessesOn_r1 : List Cond := [Cond.fieldLink RX6 37 "DodgingHangmanModel" "many" "I", Cond.fieldLink RX6 22 "DodgingHangmanModel" "mask" "[I", Cond.fieldLink RX6 7 "DodgingHangmanModel" "s" "[I", Cond.fieldLink RX6 25 "DodgingHangmanModel" "members" "[I", Cond.fieldLink RX6 31 "DodgingHangmanModel" "places" "[I", Cond.methodLink RX6 126 yX6_laysFamilies, Cond.instanceMethod yX6_laysFamilies, Cond.selects RX6 yX6_laysFamilies yX6_laysFamilies, Cond.initialized RX6, Cond.code yX6_laysFamilies cX6_laysFamilies 5 none, Cond.fieldLink RX6 34 "DodgingHangmanModel" "fresh" "[I", Cond.fieldLink RX6 28 "DodgingHangmanModel" "size" "[I", Cond.methodLink RX6 101 yX6_isCandidate, Cond.instanceMethod yX6_isCandidate, Cond.selects RX6 yX6_isCandidate yX6_isCandidate, Cond.code yX6_isCandidate cX6_isCandidate 2 (some .boolean), Cond.methodLink RX6 104 yX6_maskOf, Cond.instanceMethod yX6_maskOf, Cond.selects RX6 yX6_maskOf yX6_maskOf, Cond.code yX6_maskOf cX6_maskOf 5 (some .int), Cond.methodLink RX6 59 yX6_letter, Cond.instanceMethod yX6_letter, Cond.selects RX6 yX6_letter yX6_letter, Cond.code yX6_letter cX6_letter 3 (some .int)]
def wsX6_guessesOn_r2 : List Cond := [Cond.methodLink RX6 107 yX6_familyWith, Cond.instanceMethod yX6_familyWith, Cond.selects RX6 yX6_familyWith yX6_familyWith, Cond.code yX6_familyWith cX6_familyWith 3 (some .int), Cond.methodLink RX6 110 yX6_lettersOf, Cond.instanceMethod yX6_lettersOf, Cond.selects RX6 yX6_lettersOf yX6_lettersOf, Cond.code yX6_lettersOf cX6_lettersOf 4 (some .int), Cond.methodLink RX6 113 yX6_bits, Cond.static yX6_bits, Cond.code yX6_bits cX6_bits 3 (some .int), Cond.methodLink RX6 129 yX6_ranked, Cond.instanceMethod yX6_ranked, Cond.selects RX6 yX6_ranked yX6_ranked, Cond.code yX6_ranked cX6_ranked 5 (some .int), Cond.methodLink RX6 116 yX6_isAhead, Cond.instanceMethod yX6_isAhead, Cond.selects RX6 yX6_isAhead yX6_isAhead, Cond.code yX6_isAhead cX6_isAhead 3 (some .boolean), Cond.methodLink RX6 132 yX6_misses, Cond.instanceMethod yX6_misses, Cond.selects RX6 yX6_misses yX6_misses, Cond.code yX6_misses cX6_misses 2 none, Cond.methodLink RX6 122 yX6_ends]
def wsX6_guessesOn_r3 : List Cond := [Cond.instanceMethod yX6_ends, Cond.selects RX6 yX6_ends yX6_ends, Cond.code yX6_ends cX6_ends 2 none, Cond.methodLink RX6 136 yX6_isHidden, Cond.instanceMethod yX6_isHidden, Cond.selects RX6 yX6_isHidden yX6_isHidden, Cond.code yX6_isHidden cX6_isHidden 3 (some .boolean)]
def wsX6_guessesOn : List Cond := .code yX6_guessesOn cX6_guessesOn 6 (some .int) :: ((wsX6_guessesOn_r1 ++ (wsX6_guessesOn_r2 ++ wsX6_guessesOn_r3)) ++ wsX60)
def wsX6_guess_r1 : List Cond := [Cond.methodLink RX6 51 yX6_isLetter, Cond.static yX6_isLetter, Cond.initialized RX6, Cond.code yX6_isLetter cX6_isLetter 1 (some .boolean), Cond.methodLink RX6 41 yX6_in, Cond.static yX6_in, Cond.code yX6_in cX6_in 3 (some .boolean), Cond.methodLink RX6 70 yX6_runs, Cond.instanceMethod yX6_runs, Cond.selects RX6 yX6_runs yX6_runs, Cond.code yX6_runs cX6_runs 1 (some .boolean), Cond.fieldLink RX6 7 "DodgingHangmanModel" "s" "[I", Cond.methodLink RX6 139 yX6_isGuessed, Cond.instanceMethod yX6_isGuessed, Cond.selects RX6 yX6_isGuessed yX6_isGuessed, Cond.code yX6_isGuessed cX6_isGuessed 2 (some .boolean), Cond.methodLink RX6 98 yX6_saves, Cond.instanceMethod yX6_saves, Cond.selects RX6 yX6_saves yX6_saves, Cond.code yX6_saves cX6_saves 2 none, Cond.fieldLink RX6 45 "DodgingHangmanModel" "saved" "I", Cond.fieldLink RX6 16 "DodgingHangmanModel" "before" "[I", Cond.methodLink RX6 142 yX6_guessesOn, Cond.instanceMethod yX6_guessesOn]
def wsX6_guess_r2 : List Cond := [Cond.selects RX6 yX6_guessesOn yX6_guessesOn, Cond.code yX6_guessesOn cX6_guessesOn 6 (some .int), Cond.fieldLink RX6 37 "DodgingHangmanModel" "many" "I", Cond.fieldLink RX6 22 "DodgingHangmanModel" "mask" "[I", Cond.fieldLink RX6 25 "DodgingHangmanModel" "members" "[I", Cond.fieldLink RX6 31 "DodgingHangmanModel" "places" "[I", Cond.methodLink RX6 126 yX6_laysFamilies, Cond.instanceMethod yX6_laysFamilies, Cond.selects RX6 yX6_laysFamilies yX6_laysFamilies, Cond.code yX6_laysFamilies cX6_laysFamilies 5 none, Cond.fieldLink RX6 34 "DodgingHangmanModel" "fresh" "[I", Cond.fieldLink RX6 28 "DodgingHangmanModel" "size" "[I", Cond.methodLink RX6 101 yX6_isCandidate, Cond.instanceMethod yX6_isCandidate, Cond.selects RX6 yX6_isCandidate yX6_isCandidate, Cond.code yX6_isCandidate cX6_isCandidate 2 (some .boolean), Cond.methodLink RX6 104 yX6_maskOf, Cond.instanceMethod yX6_maskOf, Cond.selects RX6 yX6_maskOf yX6_maskOf, Cond.code yX6_maskOf cX6_maskOf 5 (some .int), Cond.methodLink RX6 59 yX6_letter, Cond.instanceMethod yX6_letter, Cond.selects RX6 yX6_letter yX6_letter, Cond.code yX6_letter cX6_letter 3 (some .int)]
def wsX6_guess_r3 : List Cond := [Cond.methodLink RX6 107 yX6_familyWith, Cond.instanceMethod yX6_familyWith, Cond.selects RX6 yX6_familyWith yX6_familyWith, Cond.code yX6_familyWith cX6_familyWith 3 (some .int), Cond.methodLink RX6 110 yX6_lettersOf, Cond.instanceMethod yX6_lettersOf, Cond.selects RX6 yX6_lettersOf yX6_lettersOf, Cond.code yX6_lettersOf cX6_lettersOf 4 (some .int), Cond.methodLink RX6 113 yX6_bits, Cond.static yX6_bits, Cond.code yX6_bits cX6_bits 3 (some .int), Cond.methodLink RX6 129 yX6_ranked, Cond.instanceMethod yX6_ranked, Cond.selects RX6 yX6_ranked yX6_ranked, Cond.code yX6_ranked cX6_ranked 5 (some .int), Cond.methodLink RX6 116 yX6_isAhead, Cond.instanceMethod yX6_isAhead, Cond.selects RX6 yX6_isAhead yX6_isAhead, Cond.code yX6_isAhead cX6_isAhead 3 (some .boolean), Cond.methodLink RX6 132 yX6_misses, Cond.instanceMethod yX6_misses, Cond.selects RX6 yX6_misses yX6_misses, Cond.code yX6_misses cX6_misses 2 none, Cond.methodLink RX6 122 yX6_ends]
def wsX6_guess_r4 : List Cond := [Cond.instanceMethod yX6_ends, Cond.selects RX6 yX6_ends yX6_ends, Cond.code yX6_ends cX6_ends 2 none, Cond.methodLink RX6 136 yX6_isHidden, Cond.instanceMethod yX6_isHidden, Cond.selects RX6 yX6_isHidden yX6_isHidden, Cond.code yX6_isHidden cX6_isHidden 3 (some .boolean)]
def wsX6_guess : List Cond := .code yX6_guess cX6_guess 2 (some .int) :: ((wsX6_guess_r1 ++ (wsX6_guess_r2 ++ (wsX6_guess_r3 ++ wsX6_guess_r4))) ++ wsX60)
def wsX6_guessWord_r1 : List Cond := [Cond.fieldLink RX6 48 "DodgingHangmanModel" "typed" "I", Cond.fieldLink RX6 7 "DodgingHangmanModel" "s" "[I", Cond.fieldLink RX6 19 "DodgingHangmanModel" "text" "[I", Cond.methodLink RX6 55 yX6_error, Cond.instanceMethod yX6_error, Cond.selects RX6 yX6_error yX6_error, Cond.initialized RX6, Cond.code yX6_error cX6_error 4 (some .int), Cond.methodLink RX6 51 yX6_isLetter, Cond.static yX6_isLetter, Cond.code yX6_isLetter cX6_isLetter 1 (some .boolean), Cond.methodLink RX6 41 yX6_in, Cond.static yX6_in, Cond.code yX6_in cX6_in 3 (some .boolean), Cond.methodLink RX6 77 yX6_endOf, Cond.instanceMethod yX6_endOf, Cond.selects RX6 yX6_endOf yX6_endOf, Cond.code yX6_endOf cX6_endOf 3 (some .int), Cond.methodLink RX6 70 yX6_runs, Cond.instanceMethod yX6_runs, Cond.selects RX6 yX6_runs yX6_runs, Cond.code yX6_runs cX6_runs 1 (some .boolean), Cond.methodLink RX6 98 yX6_saves, Cond.instanceMethod yX6_saves]
def wsX6_guessWord_r2 : List Cond := [Cond.selects RX6 yX6_saves yX6_saves, Cond.code yX6_saves cX6_saves 2 none, Cond.fieldLink RX6 45 "DodgingHangmanModel" "saved" "I", Cond.fieldLink RX6 16 "DodgingHangmanModel" "before" "[I", Cond.methodLink RX6 67 yX6_placeFor, Cond.instanceMethod yX6_placeFor, Cond.selects RX6 yX6_placeFor yX6_placeFor, Cond.code yX6_placeFor cX6_placeFor 4 (some .int), Cond.methodLink RX6 63 yX6_compares, Cond.instanceMethod yX6_compares, Cond.selects RX6 yX6_compares yX6_compares, Cond.code yX6_compares cX6_compares 6 (some .int), Cond.methodLink RX6 59 yX6_letter, Cond.instanceMethod yX6_letter, Cond.selects RX6 yX6_letter yX6_letter, Cond.code yX6_letter cX6_letter 3 (some .int), Cond.methodLink RX6 81 yX6_isIn, Cond.instanceMethod yX6_isIn, Cond.selects RX6 yX6_isIn yX6_isIn, Cond.code yX6_isIn cX6_isIn 4 (some .boolean), Cond.methodLink RX6 101 yX6_isCandidate, Cond.instanceMethod yX6_isCandidate, Cond.selects RX6 yX6_isCandidate yX6_isCandidate, Cond.code yX6_isCandidate cX6_isCandidate 2 (some .boolean)]
def wsX6_guessWord_r3 : List Cond := [Cond.methodLink RX6 113 yX6_bits, Cond.static yX6_bits, Cond.code yX6_bits cX6_bits 3 (some .int), Cond.methodLink RX6 122 yX6_ends, Cond.instanceMethod yX6_ends, Cond.selects RX6 yX6_ends yX6_ends, Cond.code yX6_ends cX6_ends 2 none, Cond.methodLink RX6 132 yX6_misses, Cond.instanceMethod yX6_misses, Cond.selects RX6 yX6_misses yX6_misses, Cond.code yX6_misses cX6_misses 2 none]
def wsX6_guessWord : List Cond := .code yX6_guessWord cX6_guessWord 4 (some .int) :: ((wsX6_guessWord_r1 ++ (wsX6_guessWord_r2 ++ wsX6_guessWord_r3)) ++ wsX60)
def wsX6_giveUp : List Cond := .code yX6_giveUp cX6_giveUp 1 (some .int) :: ([.fieldLink RX6 7 "DodgingHangmanModel" "s" "[I", .methodLink RX6 70 yX6_runs, .instanceMethod yX6_runs, .selects RX6 yX6_runs yX6_runs, .initialized RX6, .code yX6_runs cX6_runs 1 (some .boolean), .methodLink RX6 98 yX6_saves, .instanceMethod yX6_saves, .selects RX6 yX6_saves yX6_saves, .code yX6_saves cX6_saves 2 none, .fieldLink RX6 45 "DodgingHangmanModel" "saved" "I", .fieldLink RX6 16 "DodgingHangmanModel" "before" "[I", .methodLink RX6 122 yX6_ends, .instanceMethod yX6_ends, .selects RX6 yX6_ends yX6_ends, .code yX6_ends cX6_ends 2 none, .methodLink RX6 145 yX6_lowest, .static yX6_lowest, .code yX6_lowest cX6_lowest 2 (some .int)] ++ wsX60)
def wsX6_status : List Cond := .code yX6_status cX6_status 1 (some .int) :: ([.fieldLink RX6 7 "DodgingHangmanModel" "s" "[I"] ++ wsX60)
def wsX6_lives : List Cond := .code yX6_lives cX6_lives 1 (some .int) :: ([.fieldLink RX6 7 "DodgingHangmanModel" "s" "[I"] ++ wsX60)
def wsX6_shown : List Cond := .code yX6_shown cX6_shown 2 (some .int) :: ([.fieldLink RX6 7 "DodgingHangmanModel" "s" "[I", .methodLink RX6 41 yX6_in, .static yX6_in, .initialized RX6, .code yX6_in cX6_in 3 (some .boolean)] ++ wsX60)
def wsX6_candidates : List Cond := .code yX6_candidates cX6_candidates 1 (some .int) :: ([.fieldLink RX6 7 "DodgingHangmanModel" "s" "[I", .methodLink RX6 113 yX6_bits, .static yX6_bits, .initialized RX6, .code yX6_bits cX6_bits 3 (some .int)] ++ wsX60)
def wsX6_candidate : List Cond := .code yX6_candidate cX6_candidate 4 (some .int) :: ([.fieldLink RX6 7 "DodgingHangmanModel" "s" "[I", .methodLink RX6 101 yX6_isCandidate, .instanceMethod yX6_isCandidate, .selects RX6 yX6_isCandidate yX6_isCandidate, .initialized RX6, .code yX6_isCandidate cX6_isCandidate 2 (some .boolean)] ++ wsX60)
def wsX6_guesses : List Cond := .code yX6_guesses cX6_guesses 1 (some .int) :: ([.fieldLink RX6 7 "DodgingHangmanModel" "s" "[I"] ++ wsX60)
def wsX6_guessAt : List Cond := .code yX6_guessAt cX6_guessAt 2 (some .int) :: ([.fieldLink RX6 7 "DodgingHangmanModel" "s" "[I", .methodLink RX6 41 yX6_in, .static yX6_in, .initialized RX6, .code yX6_in cX6_in 3 (some .boolean)] ++ wsX60)
def wsX6_bar : List Cond := .code yX6_bar cX6_bar 2 (some .int) :: ([.methodLink RX6 51 yX6_isLetter, .static yX6_isLetter, .initialized RX6, .code yX6_isLetter cX6_isLetter 1 (some .boolean), .methodLink RX6 41 yX6_in, .static yX6_in, .code yX6_in cX6_in 3 (some .boolean), .methodLink RX6 70 yX6_runs, .instanceMethod yX6_runs, .selects RX6 yX6_runs yX6_runs, .code yX6_runs cX6_runs 1 (some .boolean), .fieldLink RX6 7 "DodgingHangmanModel" "s" "[I", .methodLink RX6 139 yX6_isGuessed, .instanceMethod yX6_isGuessed, .selects RX6 yX6_isGuessed yX6_isGuessed, .code yX6_isGuessed cX6_isGuessed 2 (some .boolean)] ++ wsX60)
def wsX6_families_r1 : List Cond := [Cond.fieldLink RX6 37 "DodgingHangmanModel" "many" "I", Cond.methodLink RX6 148 yX6_bar, Cond.instanceMethod yX6_bar, Cond.selects RX6 yX6_bar yX6_bar, Cond.initialized RX6, Cond.code yX6_bar cX6_bar 2 (some .int), Cond.methodLink RX6 51 yX6_isLetter, Cond.static yX6_isLetter, Cond.code yX6_isLetter cX6_isLetter 1 (some .boolean), Cond.methodLink RX6 41 yX6_in, Cond.static yX6_in, Cond.code yX6_in cX6_in 3 (some .boolean), Cond.methodLink RX6 70 yX6_runs, Cond.instanceMethod yX6_runs, Cond.selects RX6 yX6_runs yX6_runs, Cond.code yX6_runs cX6_runs 1 (some .boolean), Cond.fieldLink RX6 7 "DodgingHangmanModel" "s" "[I", Cond.methodLink RX6 139 yX6_isGuessed, Cond.instanceMethod yX6_isGuessed, Cond.selects RX6 yX6_isGuessed yX6_isGuessed, Cond.code yX6_isGuessed cX6_isGuessed 2 (some .boolean), Cond.methodLink RX6 126 yX6_laysFamilies, Cond.instanceMethod yX6_laysFamilies, Cond.selects RX6 yX6_laysFamilies yX6_laysFamilies]
def wsX6_families_r2 : List Cond := [Cond.code yX6_laysFamilies cX6_laysFamilies 5 none, Cond.fieldLink RX6 22 "DodgingHangmanModel" "mask" "[I", Cond.fieldLink RX6 25 "DodgingHangmanModel" "members" "[I", Cond.fieldLink RX6 34 "DodgingHangmanModel" "fresh" "[I", Cond.fieldLink RX6 28 "DodgingHangmanModel" "size" "[I", Cond.fieldLink RX6 31 "DodgingHangmanModel" "places" "[I", Cond.methodLink RX6 101 yX6_isCandidate, Cond.instanceMethod yX6_isCandidate, Cond.selects RX6 yX6_isCandidate yX6_isCandidate, Cond.code yX6_isCandidate cX6_isCandidate 2 (some .boolean), Cond.methodLink RX6 104 yX6_maskOf, Cond.instanceMethod yX6_maskOf, Cond.selects RX6 yX6_maskOf yX6_maskOf, Cond.code yX6_maskOf cX6_maskOf 5 (some .int), Cond.methodLink RX6 59 yX6_letter, Cond.instanceMethod yX6_letter, Cond.selects RX6 yX6_letter yX6_letter, Cond.code yX6_letter cX6_letter 3 (some .int), Cond.methodLink RX6 107 yX6_familyWith, Cond.instanceMethod yX6_familyWith, Cond.selects RX6 yX6_familyWith yX6_familyWith, Cond.code yX6_familyWith cX6_familyWith 3 (some .int), Cond.methodLink RX6 110 yX6_lettersOf, Cond.instanceMethod yX6_lettersOf]
def wsX6_families_r3 : List Cond := [Cond.selects RX6 yX6_lettersOf yX6_lettersOf, Cond.code yX6_lettersOf cX6_lettersOf 4 (some .int), Cond.methodLink RX6 113 yX6_bits, Cond.static yX6_bits, Cond.code yX6_bits cX6_bits 3 (some .int)]
def wsX6_families : List Cond := .code yX6_families cX6_families 2 (some .int) :: ((wsX6_families_r1 ++ (wsX6_families_r2 ++ wsX6_families_r3)) ++ wsX60)
def wsX6_family_r1 : List Cond := [Cond.fieldLink RX6 37 "DodgingHangmanModel" "many" "I", Cond.fieldLink RX6 28 "DodgingHangmanModel" "size" "[I", Cond.fieldLink RX6 22 "DodgingHangmanModel" "mask" "[I", Cond.fieldLink RX6 25 "DodgingHangmanModel" "members" "[I", Cond.fieldLink RX6 34 "DodgingHangmanModel" "fresh" "[I", Cond.methodLink RX6 148 yX6_bar, Cond.instanceMethod yX6_bar, Cond.selects RX6 yX6_bar yX6_bar, Cond.initialized RX6, Cond.code yX6_bar cX6_bar 2 (some .int), Cond.methodLink RX6 51 yX6_isLetter, Cond.static yX6_isLetter, Cond.code yX6_isLetter cX6_isLetter 1 (some .boolean), Cond.methodLink RX6 41 yX6_in, Cond.static yX6_in, Cond.code yX6_in cX6_in 3 (some .boolean), Cond.methodLink RX6 70 yX6_runs, Cond.instanceMethod yX6_runs, Cond.selects RX6 yX6_runs yX6_runs, Cond.code yX6_runs cX6_runs 1 (some .boolean), Cond.fieldLink RX6 7 "DodgingHangmanModel" "s" "[I", Cond.methodLink RX6 139 yX6_isGuessed, Cond.instanceMethod yX6_isGuessed, Cond.selects RX6 yX6_isGuessed yX6_isGuessed]
def wsX6_family_r2 : List Cond := [Cond.code yX6_isGuessed cX6_isGuessed 2 (some .boolean), Cond.methodLink RX6 126 yX6_laysFamilies, Cond.instanceMethod yX6_laysFamilies, Cond.selects RX6 yX6_laysFamilies yX6_laysFamilies, Cond.code yX6_laysFamilies cX6_laysFamilies 5 none, Cond.fieldLink RX6 31 "DodgingHangmanModel" "places" "[I", Cond.methodLink RX6 101 yX6_isCandidate, Cond.instanceMethod yX6_isCandidate, Cond.selects RX6 yX6_isCandidate yX6_isCandidate, Cond.code yX6_isCandidate cX6_isCandidate 2 (some .boolean), Cond.methodLink RX6 104 yX6_maskOf, Cond.instanceMethod yX6_maskOf, Cond.selects RX6 yX6_maskOf yX6_maskOf, Cond.code yX6_maskOf cX6_maskOf 5 (some .int), Cond.methodLink RX6 59 yX6_letter, Cond.instanceMethod yX6_letter, Cond.selects RX6 yX6_letter yX6_letter, Cond.code yX6_letter cX6_letter 3 (some .int), Cond.methodLink RX6 107 yX6_familyWith, Cond.instanceMethod yX6_familyWith, Cond.selects RX6 yX6_familyWith yX6_familyWith, Cond.code yX6_familyWith cX6_familyWith 3 (some .int), Cond.methodLink RX6 110 yX6_lettersOf, Cond.instanceMethod yX6_lettersOf]
def wsX6_family_r3 : List Cond := [Cond.selects RX6 yX6_lettersOf yX6_lettersOf, Cond.code yX6_lettersOf cX6_lettersOf 4 (some .int), Cond.methodLink RX6 113 yX6_bits, Cond.static yX6_bits, Cond.code yX6_bits cX6_bits 3 (some .int), Cond.methodLink RX6 129 yX6_ranked, Cond.instanceMethod yX6_ranked, Cond.selects RX6 yX6_ranked yX6_ranked, Cond.code yX6_ranked cX6_ranked 5 (some .int), Cond.methodLink RX6 116 yX6_isAhead, Cond.instanceMethod yX6_isAhead, Cond.selects RX6 yX6_isAhead yX6_isAhead, Cond.code yX6_isAhead cX6_isAhead 3 (some .boolean), Cond.methodLink RX6 145 yX6_lowest, Cond.static yX6_lowest, Cond.code yX6_lowest cX6_lowest 2 (some .int)]
def wsX6_family : List Cond := .code yX6_family cX6_family 5 (some .int) :: ((wsX6_family_r1 ++ (wsX6_family_r2 ++ wsX6_family_r3)) ++ wsX60)
def wsX6_spread_r1 : List Cond := [Cond.fieldLink RX6 37 "DodgingHangmanModel" "many" "I", Cond.fieldLink RX6 28 "DodgingHangmanModel" "size" "[I", Cond.fieldLink RX6 7 "DodgingHangmanModel" "s" "[I", Cond.methodLink RX6 148 yX6_bar, Cond.instanceMethod yX6_bar, Cond.selects RX6 yX6_bar yX6_bar, Cond.initialized RX6, Cond.code yX6_bar cX6_bar 2 (some .int), Cond.methodLink RX6 51 yX6_isLetter, Cond.static yX6_isLetter, Cond.code yX6_isLetter cX6_isLetter 1 (some .boolean), Cond.methodLink RX6 41 yX6_in, Cond.static yX6_in, Cond.code yX6_in cX6_in 3 (some .boolean), Cond.methodLink RX6 70 yX6_runs, Cond.instanceMethod yX6_runs, Cond.selects RX6 yX6_runs yX6_runs, Cond.code yX6_runs cX6_runs 1 (some .boolean), Cond.methodLink RX6 139 yX6_isGuessed, Cond.instanceMethod yX6_isGuessed, Cond.selects RX6 yX6_isGuessed yX6_isGuessed, Cond.code yX6_isGuessed cX6_isGuessed 2 (some .boolean), Cond.methodLink RX6 126 yX6_laysFamilies, Cond.instanceMethod yX6_laysFamilies]
def wsX6_spread_r2 : List Cond := [Cond.selects RX6 yX6_laysFamilies yX6_laysFamilies, Cond.code yX6_laysFamilies cX6_laysFamilies 5 none, Cond.fieldLink RX6 22 "DodgingHangmanModel" "mask" "[I", Cond.fieldLink RX6 25 "DodgingHangmanModel" "members" "[I", Cond.fieldLink RX6 34 "DodgingHangmanModel" "fresh" "[I", Cond.fieldLink RX6 31 "DodgingHangmanModel" "places" "[I", Cond.methodLink RX6 101 yX6_isCandidate, Cond.instanceMethod yX6_isCandidate, Cond.selects RX6 yX6_isCandidate yX6_isCandidate, Cond.code yX6_isCandidate cX6_isCandidate 2 (some .boolean), Cond.methodLink RX6 104 yX6_maskOf, Cond.instanceMethod yX6_maskOf, Cond.selects RX6 yX6_maskOf yX6_maskOf, Cond.code yX6_maskOf cX6_maskOf 5 (some .int), Cond.methodLink RX6 59 yX6_letter, Cond.instanceMethod yX6_letter, Cond.selects RX6 yX6_letter yX6_letter, Cond.code yX6_letter cX6_letter 3 (some .int), Cond.methodLink RX6 107 yX6_familyWith, Cond.instanceMethod yX6_familyWith, Cond.selects RX6 yX6_familyWith yX6_familyWith, Cond.code yX6_familyWith cX6_familyWith 3 (some .int), Cond.methodLink RX6 110 yX6_lettersOf, Cond.instanceMethod yX6_lettersOf]
def wsX6_spread_r3 : List Cond := [Cond.selects RX6 yX6_lettersOf yX6_lettersOf, Cond.code yX6_lettersOf cX6_lettersOf 4 (some .int), Cond.methodLink RX6 113 yX6_bits, Cond.static yX6_bits, Cond.code yX6_bits cX6_bits 3 (some .int)]
def wsX6_spread : List Cond := .code yX6_spread cX6_spread 4 (some .int) :: ((wsX6_spread_r1 ++ (wsX6_spread_r2 ++ wsX6_spread_r3)) ++ wsX60)
def wsX6_having : List Cond := .code yX6_having cX6_having 4 (some .int) :: ([.fieldLink RX6 7 "DodgingHangmanModel" "s" "[I", .methodLink RX6 51 yX6_isLetter, .static yX6_isLetter, .initialized RX6, .code yX6_isLetter cX6_isLetter 1 (some .boolean), .methodLink RX6 41 yX6_in, .static yX6_in, .code yX6_in cX6_in 3 (some .boolean), .methodLink RX6 101 yX6_isCandidate, .instanceMethod yX6_isCandidate, .selects RX6 yX6_isCandidate yX6_isCandidate, .code yX6_isCandidate cX6_isCandidate 2 (some .boolean), .methodLink RX6 104 yX6_maskOf, .instanceMethod yX6_maskOf, .selects RX6 yX6_maskOf yX6_maskOf, .code yX6_maskOf cX6_maskOf 5 (some .int), .methodLink RX6 59 yX6_letter, .instanceMethod yX6_letter, .selects RX6 yX6_letter yX6_letter, .code yX6_letter cX6_letter 3 (some .int)] ++ wsX60)
def wsX6_sure : List Cond := .code yX6_sure cX6_sure 3 (some .int) :: ([.fieldLink RX6 7 "DodgingHangmanModel" "s" "[I", .constant RX6 151 (67108863), .methodLink RX6 101 yX6_isCandidate, .instanceMethod yX6_isCandidate, .selects RX6 yX6_isCandidate yX6_isCandidate, .initialized RX6, .code yX6_isCandidate cX6_isCandidate 2 (some .boolean), .methodLink RX6 110 yX6_lettersOf, .instanceMethod yX6_lettersOf, .selects RX6 yX6_lettersOf yX6_lettersOf, .code yX6_lettersOf cX6_lettersOf 4 (some .int), .methodLink RX6 59 yX6_letter, .instanceMethod yX6_letter, .selects RX6 yX6_letter yX6_letter, .code yX6_letter cX6_letter 3 (some .int)] ++ wsX60)
def wsX6_sureLetters : List Cond := .code yX6_sureLetters cX6_sureLetters 1 (some .int) :: ([.methodLink RX6 70 yX6_runs, .instanceMethod yX6_runs, .selects RX6 yX6_runs yX6_runs, .initialized RX6, .code yX6_runs cX6_runs 1 (some .boolean), .fieldLink RX6 7 "DodgingHangmanModel" "s" "[I", .methodLink RX6 152 yX6_sure, .instanceMethod yX6_sure, .selects RX6 yX6_sure yX6_sure, .code yX6_sure cX6_sure 3 (some .int), .constant RX6 151 (67108863), .methodLink RX6 101 yX6_isCandidate, .instanceMethod yX6_isCandidate, .selects RX6 yX6_isCandidate yX6_isCandidate, .code yX6_isCandidate cX6_isCandidate 2 (some .boolean), .methodLink RX6 110 yX6_lettersOf, .instanceMethod yX6_lettersOf, .selects RX6 yX6_lettersOf yX6_lettersOf, .code yX6_lettersOf cX6_lettersOf 4 (some .int), .methodLink RX6 59 yX6_letter, .instanceMethod yX6_letter, .selects RX6 yX6_letter yX6_letter, .code yX6_letter cX6_letter 3 (some .int)] ++ wsX60)
def wsX6_best_r1 : List Cond := [Cond.fieldLink RX6 28 "DodgingHangmanModel" "size" "[I", Cond.fieldLink RX6 31 "DodgingHangmanModel" "places" "[I", Cond.methodLink RX6 139 yX6_isGuessed, Cond.instanceMethod yX6_isGuessed, Cond.selects RX6 yX6_isGuessed yX6_isGuessed, Cond.initialized RX6, Cond.code yX6_isGuessed cX6_isGuessed 2 (some .boolean), Cond.fieldLink RX6 7 "DodgingHangmanModel" "s" "[I", Cond.methodLink RX6 126 yX6_laysFamilies, Cond.instanceMethod yX6_laysFamilies, Cond.selects RX6 yX6_laysFamilies yX6_laysFamilies, Cond.code yX6_laysFamilies cX6_laysFamilies 5 none, Cond.fieldLink RX6 37 "DodgingHangmanModel" "many" "I", Cond.fieldLink RX6 22 "DodgingHangmanModel" "mask" "[I", Cond.fieldLink RX6 25 "DodgingHangmanModel" "members" "[I", Cond.fieldLink RX6 34 "DodgingHangmanModel" "fresh" "[I", Cond.methodLink RX6 101 yX6_isCandidate, Cond.instanceMethod yX6_isCandidate, Cond.selects RX6 yX6_isCandidate yX6_isCandidate, Cond.code yX6_isCandidate cX6_isCandidate 2 (some .boolean), Cond.methodLink RX6 104 yX6_maskOf, Cond.instanceMethod yX6_maskOf, Cond.selects RX6 yX6_maskOf yX6_maskOf, Cond.code yX6_maskOf cX6_maskOf 5 (some .int)]
def wsX6_best_r2 : List Cond := [Cond.methodLink RX6 59 yX6_letter, Cond.instanceMethod yX6_letter, Cond.selects RX6 yX6_letter yX6_letter, Cond.code yX6_letter cX6_letter 3 (some .int), Cond.methodLink RX6 107 yX6_familyWith, Cond.instanceMethod yX6_familyWith, Cond.selects RX6 yX6_familyWith yX6_familyWith, Cond.code yX6_familyWith cX6_familyWith 3 (some .int), Cond.methodLink RX6 110 yX6_lettersOf, Cond.instanceMethod yX6_lettersOf, Cond.selects RX6 yX6_lettersOf yX6_lettersOf, Cond.code yX6_lettersOf cX6_lettersOf 4 (some .int), Cond.methodLink RX6 113 yX6_bits, Cond.static yX6_bits, Cond.code yX6_bits cX6_bits 3 (some .int), Cond.methodLink RX6 129 yX6_ranked, Cond.instanceMethod yX6_ranked, Cond.selects RX6 yX6_ranked yX6_ranked, Cond.code yX6_ranked cX6_ranked 5 (some .int), Cond.methodLink RX6 116 yX6_isAhead, Cond.instanceMethod yX6_isAhead, Cond.selects RX6 yX6_isAhead yX6_isAhead, Cond.code yX6_isAhead cX6_isAhead 3 (some .boolean)]
def wsX6_best : List Cond := .code yX6_best cX6_best 6 (some .int) :: ((wsX6_best_r1 ++ wsX6_best_r2) ++ wsX60)
def wsX6_bestGuess_r1 : List Cond := [Cond.methodLink RX6 70 yX6_runs, Cond.instanceMethod yX6_runs, Cond.selects RX6 yX6_runs yX6_runs, Cond.initialized RX6, Cond.code yX6_runs cX6_runs 1 (some .boolean), Cond.fieldLink RX6 7 "DodgingHangmanModel" "s" "[I", Cond.methodLink RX6 155 yX6_best, Cond.instanceMethod yX6_best, Cond.selects RX6 yX6_best yX6_best, Cond.code yX6_best cX6_best 6 (some .int), Cond.fieldLink RX6 28 "DodgingHangmanModel" "size" "[I", Cond.fieldLink RX6 31 "DodgingHangmanModel" "places" "[I", Cond.methodLink RX6 139 yX6_isGuessed, Cond.instanceMethod yX6_isGuessed, Cond.selects RX6 yX6_isGuessed yX6_isGuessed, Cond.code yX6_isGuessed cX6_isGuessed 2 (some .boolean), Cond.methodLink RX6 126 yX6_laysFamilies, Cond.instanceMethod yX6_laysFamilies, Cond.selects RX6 yX6_laysFamilies yX6_laysFamilies, Cond.code yX6_laysFamilies cX6_laysFamilies 5 none, Cond.fieldLink RX6 37 "DodgingHangmanModel" "many" "I", Cond.fieldLink RX6 22 "DodgingHangmanModel" "mask" "[I", Cond.fieldLink RX6 25 "DodgingHangmanModel" "members" "[I", Cond.fieldLink RX6 34 "DodgingHangmanModel" "fresh" "[I"]
def wsX6_bestGuess_r2 : List Cond := [Cond.methodLink RX6 101 yX6_isCandidate, Cond.instanceMethod yX6_isCandidate, Cond.selects RX6 yX6_isCandidate yX6_isCandidate, Cond.code yX6_isCandidate cX6_isCandidate 2 (some .boolean), Cond.methodLink RX6 104 yX6_maskOf, Cond.instanceMethod yX6_maskOf, Cond.selects RX6 yX6_maskOf yX6_maskOf, Cond.code yX6_maskOf cX6_maskOf 5 (some .int), Cond.methodLink RX6 59 yX6_letter, Cond.instanceMethod yX6_letter, Cond.selects RX6 yX6_letter yX6_letter, Cond.code yX6_letter cX6_letter 3 (some .int), Cond.methodLink RX6 107 yX6_familyWith, Cond.instanceMethod yX6_familyWith, Cond.selects RX6 yX6_familyWith yX6_familyWith, Cond.code yX6_familyWith cX6_familyWith 3 (some .int), Cond.methodLink RX6 110 yX6_lettersOf, Cond.instanceMethod yX6_lettersOf, Cond.selects RX6 yX6_lettersOf yX6_lettersOf, Cond.code yX6_lettersOf cX6_lettersOf 4 (some .int), Cond.methodLink RX6 113 yX6_bits, Cond.static yX6_bits, Cond.code yX6_bits cX6_bits 3 (some .int), Cond.methodLink RX6 129 yX6_ranked]
def wsX6_bestGuess_r3 : List Cond := [Cond.instanceMethod yX6_ranked, Cond.selects RX6 yX6_ranked yX6_ranked, Cond.code yX6_ranked cX6_ranked 5 (some .int), Cond.methodLink RX6 116 yX6_isAhead, Cond.instanceMethod yX6_isAhead, Cond.selects RX6 yX6_isAhead yX6_isAhead, Cond.code yX6_isAhead cX6_isAhead 3 (some .boolean)]
def wsX6_bestGuess : List Cond := .code yX6_bestGuess cX6_bestGuess 1 (some .int) :: ((wsX6_bestGuess_r1 ++ (wsX6_bestGuess_r2 ++ wsX6_bestGuess_r3)) ++ wsX60)
def wsX6_missesAhead_r1 : List Cond := [Cond.fieldLink RX6 7 "DodgingHangmanModel" "s" "[I", Cond.fieldLink RX6 13 "DodgingHangmanModel" "aside" "[I", Cond.methodLink RX6 70 yX6_runs, Cond.instanceMethod yX6_runs, Cond.selects RX6 yX6_runs yX6_runs, Cond.initialized RX6, Cond.code yX6_runs cX6_runs 1 (some .boolean), Cond.methodLink RX6 74 yX6_putAside, Cond.instanceMethod yX6_putAside, Cond.selects RX6 yX6_putAside yX6_putAside, Cond.code yX6_putAside cX6_putAside 2 none, Cond.methodLink RX6 155 yX6_best, Cond.instanceMethod yX6_best, Cond.selects RX6 yX6_best yX6_best, Cond.code yX6_best cX6_best 6 (some .int), Cond.fieldLink RX6 28 "DodgingHangmanModel" "size" "[I", Cond.fieldLink RX6 31 "DodgingHangmanModel" "places" "[I", Cond.methodLink RX6 139 yX6_isGuessed, Cond.instanceMethod yX6_isGuessed, Cond.selects RX6 yX6_isGuessed yX6_isGuessed, Cond.code yX6_isGuessed cX6_isGuessed 2 (some .boolean), Cond.methodLink RX6 126 yX6_laysFamilies, Cond.instanceMethod yX6_laysFamilies, Cond.selects RX6 yX6_laysFamilies yX6_laysFamilies]
def wsX6_missesAhead_r2 : List Cond := [Cond.code yX6_laysFamilies cX6_laysFamilies 5 none, Cond.fieldLink RX6 37 "DodgingHangmanModel" "many" "I", Cond.fieldLink RX6 22 "DodgingHangmanModel" "mask" "[I", Cond.fieldLink RX6 25 "DodgingHangmanModel" "members" "[I", Cond.fieldLink RX6 34 "DodgingHangmanModel" "fresh" "[I", Cond.methodLink RX6 101 yX6_isCandidate, Cond.instanceMethod yX6_isCandidate, Cond.selects RX6 yX6_isCandidate yX6_isCandidate, Cond.code yX6_isCandidate cX6_isCandidate 2 (some .boolean), Cond.methodLink RX6 104 yX6_maskOf, Cond.instanceMethod yX6_maskOf, Cond.selects RX6 yX6_maskOf yX6_maskOf, Cond.code yX6_maskOf cX6_maskOf 5 (some .int), Cond.methodLink RX6 59 yX6_letter, Cond.instanceMethod yX6_letter, Cond.selects RX6 yX6_letter yX6_letter, Cond.code yX6_letter cX6_letter 3 (some .int), Cond.methodLink RX6 107 yX6_familyWith, Cond.instanceMethod yX6_familyWith, Cond.selects RX6 yX6_familyWith yX6_familyWith, Cond.code yX6_familyWith cX6_familyWith 3 (some .int), Cond.methodLink RX6 110 yX6_lettersOf, Cond.instanceMethod yX6_lettersOf, Cond.selects RX6 yX6_lettersOf yX6_lettersOf]
def wsX6_missesAhead_r3 : List Cond := [Cond.code yX6_lettersOf cX6_lettersOf 4 (some .int), Cond.methodLink RX6 113 yX6_bits, Cond.static yX6_bits, Cond.code yX6_bits cX6_bits 3 (some .int), Cond.methodLink RX6 129 yX6_ranked, Cond.instanceMethod yX6_ranked, Cond.selects RX6 yX6_ranked yX6_ranked, Cond.code yX6_ranked cX6_ranked 5 (some .int), Cond.methodLink RX6 116 yX6_isAhead, Cond.instanceMethod yX6_isAhead, Cond.selects RX6 yX6_isAhead yX6_isAhead, Cond.code yX6_isAhead cX6_isAhead 3 (some .boolean), Cond.methodLink RX6 142 yX6_guessesOn, Cond.instanceMethod yX6_guessesOn, Cond.selects RX6 yX6_guessesOn yX6_guessesOn, Cond.code yX6_guessesOn cX6_guessesOn 6 (some .int), Cond.methodLink RX6 132 yX6_misses, Cond.instanceMethod yX6_misses, Cond.selects RX6 yX6_misses yX6_misses, Cond.code yX6_misses cX6_misses 2 none, Cond.methodLink RX6 122 yX6_ends, Cond.instanceMethod yX6_ends, Cond.selects RX6 yX6_ends yX6_ends, Cond.code yX6_ends cX6_ends 2 none]
def wsX6_missesAhead_r4 : List Cond := [Cond.methodLink RX6 136 yX6_isHidden, Cond.instanceMethod yX6_isHidden, Cond.selects RX6 yX6_isHidden yX6_isHidden, Cond.code yX6_isHidden cX6_isHidden 3 (some .boolean), Cond.methodLink RX6 89 yX6_putBack, Cond.instanceMethod yX6_putBack, Cond.selects RX6 yX6_putBack yX6_putBack, Cond.code yX6_putBack cX6_putBack 2 none]
def wsX6_missesAhead : List Cond := .code yX6_missesAhead cX6_missesAhead 3 (some .int) :: ((wsX6_missesAhead_r1 ++ (wsX6_missesAhead_r2 ++ (wsX6_missesAhead_r3 ++ wsX6_missesAhead_r4))) ++ wsX60)
def wsX6_total : List Cond := .code yX6_total cX6_total 2 (some .int) :: ([.fieldLink RX6 7 "DodgingHangmanModel" "s" "[I", .methodLink RX6 41 yX6_in, .static yX6_in, .initialized RX6, .code yX6_in cX6_in 3 (some .boolean)] ++ wsX60)
def wsX6_undo : List Cond := .code yX6_undo cX6_undo 2 (some .int) :: ([.fieldLink RX6 45 "DodgingHangmanModel" "saved" "I", .fieldLink RX6 7 "DodgingHangmanModel" "s" "[I", .fieldLink RX6 16 "DodgingHangmanModel" "before" "[I"] ++ wsX60)
def wsX6_digest_r1 : List Cond := [Cond.constantLong RX6 158 (4061), Cond.fieldLink RX6 7 "DodgingHangmanModel" "s" "[I", Cond.constantLong RX6 160 (31), Cond.methodLink RX6 59 yX6_letter, Cond.instanceMethod yX6_letter, Cond.selects RX6 yX6_letter yX6_letter, Cond.initialized RX6, Cond.code yX6_letter cX6_letter 3 (some .int), Cond.methodLink RX6 162 yX6_shown, Cond.instanceMethod yX6_shown, Cond.selects RX6 yX6_shown yX6_shown, Cond.code yX6_shown cX6_shown 2 (some .int), Cond.methodLink RX6 41 yX6_in, Cond.static yX6_in, Cond.code yX6_in cX6_in 3 (some .boolean), Cond.methodLink RX6 165 yX6_candidates, Cond.instanceMethod yX6_candidates, Cond.selects RX6 yX6_candidates yX6_candidates, Cond.code yX6_candidates cX6_candidates 1 (some .int), Cond.methodLink RX6 113 yX6_bits, Cond.static yX6_bits, Cond.code yX6_bits cX6_bits 3 (some .int), Cond.methodLink RX6 101 yX6_isCandidate, Cond.instanceMethod yX6_isCandidate]
def wsX6_digest_r2 : List Cond := [Cond.selects RX6 yX6_isCandidate yX6_isCandidate, Cond.code yX6_isCandidate cX6_isCandidate 2 (some .boolean), Cond.methodLink RX6 70 yX6_runs, Cond.instanceMethod yX6_runs, Cond.selects RX6 yX6_runs yX6_runs, Cond.code yX6_runs cX6_runs 1 (some .boolean), Cond.methodLink RX6 152 yX6_sure, Cond.instanceMethod yX6_sure, Cond.selects RX6 yX6_sure yX6_sure, Cond.code yX6_sure cX6_sure 3 (some .int), Cond.constant RX6 151 (67108863), Cond.methodLink RX6 110 yX6_lettersOf, Cond.instanceMethod yX6_lettersOf, Cond.selects RX6 yX6_lettersOf yX6_lettersOf, Cond.code yX6_lettersOf cX6_lettersOf 4 (some .int), Cond.methodLink RX6 155 yX6_best, Cond.instanceMethod yX6_best, Cond.selects RX6 yX6_best yX6_best, Cond.code yX6_best cX6_best 6 (some .int), Cond.fieldLink RX6 28 "DodgingHangmanModel" "size" "[I", Cond.fieldLink RX6 31 "DodgingHangmanModel" "places" "[I", Cond.methodLink RX6 139 yX6_isGuessed, Cond.instanceMethod yX6_isGuessed, Cond.selects RX6 yX6_isGuessed yX6_isGuessed]
def wsX6_digest_r3 : List Cond := [Cond.code yX6_isGuessed cX6_isGuessed 2 (some .boolean), Cond.methodLink RX6 126 yX6_laysFamilies, Cond.instanceMethod yX6_laysFamilies, Cond.selects RX6 yX6_laysFamilies yX6_laysFamilies, Cond.code yX6_laysFamilies cX6_laysFamilies 5 none, Cond.fieldLink RX6 37 "DodgingHangmanModel" "many" "I", Cond.fieldLink RX6 22 "DodgingHangmanModel" "mask" "[I", Cond.fieldLink RX6 25 "DodgingHangmanModel" "members" "[I", Cond.fieldLink RX6 34 "DodgingHangmanModel" "fresh" "[I", Cond.methodLink RX6 104 yX6_maskOf, Cond.instanceMethod yX6_maskOf, Cond.selects RX6 yX6_maskOf yX6_maskOf, Cond.code yX6_maskOf cX6_maskOf 5 (some .int), Cond.methodLink RX6 107 yX6_familyWith, Cond.instanceMethod yX6_familyWith, Cond.selects RX6 yX6_familyWith yX6_familyWith, Cond.code yX6_familyWith cX6_familyWith 3 (some .int), Cond.methodLink RX6 129 yX6_ranked, Cond.instanceMethod yX6_ranked, Cond.selects RX6 yX6_ranked yX6_ranked, Cond.code yX6_ranked cX6_ranked 5 (some .int), Cond.methodLink RX6 116 yX6_isAhead, Cond.instanceMethod yX6_isAhead, Cond.selects RX6 yX6_isAhead yX6_isAhead]
def wsX6_digest_r4 : List Cond := [Cond.code yX6_isAhead cX6_isAhead 3 (some .boolean)]
def wsX6_digest : List Cond := .code yX6_digest cX6_digest 5 (some .long) :: ((wsX6_digest_r1 ++ (wsX6_digest_r2 ++ (wsX6_digest_r3 ++ wsX6_digest_r4))) ++ wsX60)
def wsJ9_min_7cf53 : List Cond := .code yJ9_min_7cf53 cJ9_min_7cf53 2 (some .int) :: ([])
def wsL_law_r1 : List Cond := [Cond.classLink RL 7 RX5, Cond.instantiable RX5 5, Cond.initialized RX5, Cond.classLink RL 10 RX6, Cond.instantiable RX6 12, Cond.initialized RX6, Cond.methodLink RL 9 yX5_init, Cond.instanceMethod yX5_init, Cond.code yX5_init cX5_init 1 none, Cond.methodLink RX5 1 objectInit, Cond.instanceMethod objectInit, Cond.code objectInit ⟨#[0xb1]⟩ 1 none, Cond.classLink RX5 7 RX3, Cond.instantiable RX3 3, Cond.initialized RX3, Cond.fieldLink RX5 10 "DodgingHangman" "text" "LDodgingHangman$Text;", Cond.classLink RX5 16 RX2, Cond.instantiable RX2 12, Cond.initialized RX2, Cond.fieldLink RX5 19 "DodgingHangman" "now" "LDodgingHangman$State;", Cond.classLink RX5 23 RX1, Cond.instantiable RX1 3, Cond.initialized RX1, Cond.fieldLink RX5 26 "DodgingHangman" "saved" "LDodgingHangman$SavedStates;"]
def wsL_law_r2 : List Cond := [Cond.fieldLink RX5 30 "DodgingHangman" "draft" "LDodgingHangman$State;", Cond.classLink RX5 33 RX0, Cond.instantiable RX0 5, Cond.initialized RX0, Cond.fieldLink RX5 36 "DodgingHangman" "split" "LDodgingHangman$Families;", Cond.instanceMethod yX3_init, Cond.code yX3_init cX3_init 1 none, Cond.methodLink RX3 3 objectInit, Cond.arrayClass .char, Cond.fieldLink RX3 9 "DodgingHangman$Text" "signs" "[C", Cond.arrayClass .long, Cond.fieldLink RX3 15 "DodgingHangman$Text" "wordsRead" "[J", Cond.instanceMethod yX2_init, Cond.code yX2_init cX2_init 1 none, Cond.methodLink RX2 3 objectInit, Cond.fieldLink RX2 9 "DodgingHangman$State" "list" "[J", Cond.arrayClass .int, Cond.fieldLink RX2 15 "DodgingHangman$State" "lettersInOrder" "[I", Cond.fieldLink RX2 19 "DodgingHangman$State" "totals" "[I", Cond.instanceMethod yX1_init, Cond.code yX1_init cX1_init 1 none, Cond.methodLink RX1 3 objectInit, Cond.classLink RX1 9 RX2, Cond.fieldLink RX1 11 "DodgingHangman$SavedStates" "ring" "[LDodgingHangman$State;"]
def wsL_law_r3 : List Cond := [Cond.instanceMethod yX0_init, Cond.code yX0_init cX0_init 1 none, Cond.methodLink RX0 3 objectInit, Cond.fieldLink RX0 9 "DodgingHangman$Families" "masks" "[I", Cond.fieldLink RX0 15 "DodgingHangman$Families" "members" "[I", Cond.fieldLink RX0 18 "DodgingHangman$Families" "freshLetters" "[I", Cond.methodLink RL 12 yX6_init, Cond.instanceMethod yX6_init, Cond.code yX6_init cX6_init 1 none, Cond.methodLink RX6 1 objectInit, Cond.fieldLink RX6 7 "DodgingHangmanModel" "s" "[I", Cond.fieldLink RX6 13 "DodgingHangmanModel" "aside" "[I", Cond.fieldLink RX6 16 "DodgingHangmanModel" "before" "[I", Cond.fieldLink RX6 19 "DodgingHangmanModel" "text" "[I", Cond.fieldLink RX6 22 "DodgingHangmanModel" "mask" "[I", Cond.fieldLink RX6 25 "DodgingHangmanModel" "members" "[I", Cond.fieldLink RX6 28 "DodgingHangmanModel" "size" "[I", Cond.fieldLink RX6 31 "DodgingHangmanModel" "places" "[I", Cond.fieldLink RX6 34 "DodgingHangmanModel" "fresh" "[I", Cond.fieldLink RX6 37 "DodgingHangmanModel" "many" "I", Cond.methodLink RL 13 yX5_type, Cond.instanceMethod yX5_type, Cond.selects RX5 yX5_type yX5_type, Cond.code yX5_type cX5_type 2 (some .int)]
def wsL_law_r4 : List Cond := [Cond.methodLink RX5 40 yX3_append, Cond.instanceMethod yX3_append, Cond.selects RX3 yX3_append yX3_append, Cond.code yX3_append cX3_append 2 (some .boolean), Cond.fieldLink RX3 19 "DodgingHangman$Text" "length" "I", Cond.methodLink RL 17 yX6_type, Cond.instanceMethod yX6_type, Cond.selects RX6 yX6_type yX6_type, Cond.code yX6_type cX6_type 2 (some .int), Cond.fieldLink RX6 48 "DodgingHangmanModel" "typed" "I", Cond.methodLink RX6 41 yX6_in, Cond.static yX6_in, Cond.code yX6_in cX6_in 3 (some .boolean), Cond.methodLink RL 18 yX5_clearText, Cond.instanceMethod yX5_clearText, Cond.selects RX5 yX5_clearText yX5_clearText, Cond.code yX5_clearText cX5_clearText 2 (some .int), Cond.methodLink RX5 48 yX3_empty, Cond.instanceMethod yX3_empty, Cond.selects RX3 yX3_empty yX3_empty, Cond.code yX3_empty cX3_empty 1 none, Cond.methodLink RL 22 yX6_clearText, Cond.instanceMethod yX6_clearText, Cond.selects RX6 yX6_clearText yX6_clearText]
def wsL_law_r5 : List Cond := [Cond.code yX6_clearText cX6_clearText 2 (some .int), Cond.methodLink RL 23 yX5_syntaxError, Cond.instanceMethod yX5_syntaxError, Cond.selects RX5 yX5_syntaxError yX5_syntaxError, Cond.code yX5_syntaxError cX5_syntaxError 1 (some .int), Cond.methodLink RX5 51 yX3_firstError, Cond.instanceMethod yX3_firstError, Cond.selects RX3 yX3_firstError yX3_firstError, Cond.code yX3_firstError cX3_firstError 4 (some .int), Cond.methodLink RX3 23 yX3_signAt, Cond.instanceMethod yX3_signAt, Cond.selects RX3 yX3_signAt yX3_signAt, Cond.code yX3_signAt cX3_signAt 2 (some .int), Cond.static yX5_isLetter, Cond.code yX5_isLetter cX5_isLetter 1 (some .boolean), Cond.methodLink RL 26 yX6_syntaxError, Cond.instanceMethod yX6_syntaxError, Cond.selects RX6 yX6_syntaxError yX6_syntaxError, Cond.code yX6_syntaxError cX6_syntaxError 1 (some .int), Cond.methodLink RX6 55 yX6_error, Cond.instanceMethod yX6_error, Cond.selects RX6 yX6_error yX6_error, Cond.code yX6_error cX6_error 4 (some .int), Cond.methodLink RX6 51 yX6_isLetter]
def wsL_law_r6 : List Cond := [Cond.static yX6_isLetter, Cond.code yX6_isLetter cX6_isLetter 1 (some .boolean), Cond.methodLink RL 27 yX5_addWords, Cond.instanceMethod yX5_addWords, Cond.selects RX5 yX5_addWords yX5_addWords, Cond.code yX5_addWords cX5_addWords 2 (some .int), Cond.methodLink RX5 55 yX2_isRunning, Cond.instanceMethod yX2_isRunning, Cond.selects RX2 yX2_isRunning yX2_isRunning, Cond.code yX2_isRunning cX2_isRunning 1 (some .boolean), Cond.fieldLink RX2 35 "DodgingHangman$State" "status" "I", Cond.methodLink RX5 59 yX2_copyFrom, Cond.instanceMethod yX2_copyFrom, Cond.selects RX2 yX2_copyFrom yX2_copyFrom, Cond.code yX2_copyFrom cX2_copyFrom 2 none, Cond.methodLink RX2 22 arraycopyName, Cond.native arraycopyName, Cond.static arraycopyName, Cond.initialized "java/lang/System", Cond.fieldLink RX2 28 "DodgingHangman$State" "wordCount" "I", Cond.fieldLink RX2 32 "DodgingHangman$State" "policy" "I", Cond.fieldLink RX2 38 "DodgingHangman$State" "length" "I", Cond.fieldLink RX2 41 "DodgingHangman$State" "lives" "I", Cond.fieldLink RX2 44 "DodgingHangman$State" "candidates" "I"]
def wsL_law_r7 : List Cond := [Cond.fieldLink RX2 47 "DodgingHangman$State" "guessed" "I", Cond.fieldLink RX2 50 "DodgingHangman$State" "guessCount" "I", Cond.fieldLink RX2 53 "DodgingHangman$State" "pattern" "J", Cond.methodLink RX5 63 yX5_addTextTo, Cond.instanceMethod yX5_addTextTo, Cond.selects RX5 yX5_addTextTo yX5_addTextTo, Cond.code yX5_addTextTo cX5_addTextTo 6 (some .boolean), Cond.methodLink RX5 120 yX3_readWords, Cond.instanceMethod yX3_readWords, Cond.selects RX3 yX3_readWords yX3_readWords, Cond.code yX3_readWords cX3_readWords 7 (some .int), Cond.methodLink RX3 33 yX3_keepRead, Cond.instanceMethod yX3_keepRead, Cond.selects RX3 yX3_keepRead yX3_keepRead, Cond.code yX3_keepRead cX3_keepRead 4 (some .int), Cond.methodLink RX3 37 yX4_withLetter, Cond.static yX4_withLetter, Cond.initialized RX4, Cond.code yX4_withLetter cX4_withLetter 4 (some .long), Cond.methodLink RX4 11 yX4_shiftOf, Cond.static yX4_shiftOf, Cond.code yX4_shiftOf cX4_shiftOf 1 (some .int), Cond.methodLink RX5 123 yX3_wordRead, Cond.instanceMethod yX3_wordRead]
def wsL_law_r8 : List Cond := [Cond.selects RX3 yX3_wordRead yX3_wordRead, Cond.code yX3_wordRead cX3_wordRead 2 (some .long), Cond.methodLink RX5 260 yX2_isInList, Cond.instanceMethod yX2_isInList, Cond.selects RX2 yX2_isInList yX2_isInList, Cond.code yX2_isInList cX2_isInList 3 (some .boolean), Cond.methodLink RX2 63 yX2_numberOf, Cond.instanceMethod yX2_numberOf, Cond.selects RX2 yX2_numberOf yX2_numberOf, Cond.code yX2_numberOf cX2_numberOf 4 (some .int), Cond.methodLink RX2 67 yX2_wordAt, Cond.instanceMethod yX2_wordAt, Cond.selects RX2 yX2_wordAt yX2_wordAt, Cond.code yX2_wordAt cX2_wordAt 2 (some .long), Cond.methodLink RX2 57 yX2_hasWord, Cond.instanceMethod yX2_hasWord, Cond.selects RX2 yX2_hasWord yX2_hasWord, Cond.code yX2_hasWord cX2_hasWord 2 (some .boolean), Cond.methodLink RX5 264 yX2_insert, Cond.instanceMethod yX2_insert, Cond.selects RX2 yX2_insert yX2_insert, Cond.code yX2_insert cX2_insert 4 (some .boolean), Cond.methodLink RX5 70 yX1_push, Cond.instanceMethod yX1_push]
def wsL_law_r9 : List Cond := [Cond.selects RX1 yX1_push yX1_push, Cond.code yX1_push cX1_push 3 none, Cond.fieldLink RX1 17 "DodgingHangman$SavedStates" "next" "I", Cond.fieldLink RX1 26 "DodgingHangman$SavedStates" "count" "I", Cond.methodLink RX1 29 Lib.Math.min.name, Cond.static Lib.Math.min.name, Cond.initialized "java/lang/Math", Cond.code Lib.Math.min.name Lib.Math.min.code 2 (some .int), Cond.methodLink RX1 22 yX2_copyFrom, Cond.methodLink RX5 73 yX2_endWithoutGame, Cond.instanceMethod yX2_endWithoutGame, Cond.selects RX2 yX2_endWithoutGame yX2_endWithoutGame, Cond.code yX2_endWithoutGame cX2_endWithoutGame 1 none, Cond.methodLink RL 30 yX6_addWords, Cond.instanceMethod yX6_addWords, Cond.selects RX6 yX6_addWords yX6_addWords, Cond.code yX6_addWords cX6_addWords 5 (some .int), Cond.methodLink RX6 70 yX6_runs, Cond.instanceMethod yX6_runs, Cond.selects RX6 yX6_runs yX6_runs, Cond.code yX6_runs cX6_runs 1 (some .boolean), Cond.methodLink RX6 74 yX6_putAside, Cond.instanceMethod yX6_putAside, Cond.selects RX6 yX6_putAside yX6_putAside]
def wsL_law_r10 : List Cond := [Cond.code yX6_putAside cX6_putAside 2 none, Cond.methodLink RX6 77 yX6_endOf, Cond.instanceMethod yX6_endOf, Cond.selects RX6 yX6_endOf yX6_endOf, Cond.code yX6_endOf cX6_endOf 3 (some .int), Cond.methodLink RX6 81 yX6_isIn, Cond.instanceMethod yX6_isIn, Cond.selects RX6 yX6_isIn yX6_isIn, Cond.code yX6_isIn cX6_isIn 4 (some .boolean), Cond.methodLink RX6 67 yX6_placeFor, Cond.instanceMethod yX6_placeFor, Cond.selects RX6 yX6_placeFor yX6_placeFor, Cond.code yX6_placeFor cX6_placeFor 4 (some .int), Cond.methodLink RX6 63 yX6_compares, Cond.instanceMethod yX6_compares, Cond.selects RX6 yX6_compares yX6_compares, Cond.code yX6_compares cX6_compares 6 (some .int), Cond.methodLink RX6 59 yX6_letter, Cond.instanceMethod yX6_letter, Cond.selects RX6 yX6_letter yX6_letter, Cond.code yX6_letter cX6_letter 3 (some .int), Cond.methodLink RX6 85 yX6_puts, Cond.instanceMethod yX6_puts, Cond.selects RX6 yX6_puts yX6_puts]
def wsL_law_r11 : List Cond := [Cond.code yX6_puts cX6_puts 6 none, Cond.methodLink RX6 89 yX6_putBack, Cond.instanceMethod yX6_putBack, Cond.selects RX6 yX6_putBack yX6_putBack, Cond.code yX6_putBack cX6_putBack 2 none, Cond.methodLink RX6 92 yX6_savesAside, Cond.instanceMethod yX6_savesAside, Cond.selects RX6 yX6_savesAside yX6_savesAside, Cond.code yX6_savesAside cX6_savesAside 3 none, Cond.methodLink RX6 98 yX6_saves, Cond.instanceMethod yX6_saves, Cond.selects RX6 yX6_saves yX6_saves, Cond.code yX6_saves cX6_saves 2 none, Cond.fieldLink RX6 45 "DodgingHangmanModel" "saved" "I", Cond.methodLink RX6 95 yX6_noGame, Cond.instanceMethod yX6_noGame, Cond.selects RX6 yX6_noGame yX6_noGame, Cond.code yX6_noGame cX6_noGame 2 none, Cond.methodLink RL 31 yX5_removeWord, Cond.instanceMethod yX5_removeWord, Cond.selects RX5 yX5_removeWord yX5_removeWord, Cond.code yX5_removeWord cX5_removeWord 2 (some .int), Cond.methodLink RX5 76 yX2_hasWord, Cond.methodLink RX5 80 yX2_remove]
def wsL_law_r12 : List Cond := [Cond.instanceMethod yX2_remove, Cond.selects RX2 yX2_remove yX2_remove, Cond.code yX2_remove cX2_remove 3 none, Cond.methodLink RL 34 yX6_removeWord, Cond.instanceMethod yX6_removeWord, Cond.selects RX6 yX6_removeWord yX6_removeWord, Cond.code yX6_removeWord cX6_removeWord 4 (some .int), Cond.methodLink RL 35 yX5_words, Cond.instanceMethod yX5_words, Cond.selects RX5 yX5_words yX5_words, Cond.code yX5_words cX5_words 1 (some .int), Cond.methodLink RL 38 yX6_words, Cond.instanceMethod yX6_words, Cond.selects RX6 yX6_words yX6_words, Cond.code yX6_words cX6_words 1 (some .int), Cond.methodLink RL 39 yX5_letterOf, Cond.instanceMethod yX5_letterOf, Cond.selects RX5 yX5_letterOf yX5_letterOf, Cond.code yX5_letterOf cX5_letterOf 4 (some .int), Cond.methodLink RX5 84 yX2_wordAt, Cond.methodLink RX5 88 yX4_letterAt, Cond.static yX4_letterAt, Cond.code yX4_letterAt cX4_letterAt 4 (some .int), Cond.methodLink RL 43 yX6_letterOf]
def wsL_law_r13 : List Cond := [Cond.instanceMethod yX6_letterOf, Cond.selects RX6 yX6_letterOf yX6_letterOf, Cond.code yX6_letterOf cX6_letterOf 3 (some .int), Cond.methodLink RL 44 yX5_setPolicy, Cond.instanceMethod yX5_setPolicy, Cond.selects RX5 yX5_setPolicy yX5_setPolicy, Cond.code yX5_setPolicy cX5_setPolicy 3 (some .int), Cond.methodLink RL 47 yX6_setPolicy, Cond.instanceMethod yX6_setPolicy, Cond.selects RX6 yX6_setPolicy yX6_setPolicy, Cond.code yX6_setPolicy cX6_setPolicy 3 (some .int), Cond.methodLink RL 48 yX5_start, Cond.instanceMethod yX5_start, Cond.selects RX5 yX5_start yX5_start, Cond.code yX5_start cX5_start 4 (some .int), Cond.methodLink RX5 97 yX2_wordsOfLength, Cond.instanceMethod yX2_wordsOfLength, Cond.selects RX2 yX2_wordsOfLength yX2_wordsOfLength, Cond.code yX2_wordsOfLength cX2_wordsOfLength 4 (some .int), Cond.methodLink RX2 71 yX4_lengthOf, Cond.static yX4_lengthOf, Cond.code yX4_lengthOf cX4_lengthOf 4 (some .int), Cond.methodLink RX4 19 yX4_letterAt, Cond.methodLink RX5 101 yX2_begin]
def wsL_law_r14 : List Cond := [Cond.instanceMethod yX2_begin, Cond.selects RX2 yX2_begin yX2_begin, Cond.code yX2_begin cX2_begin 4 none, Cond.methodLink RX2 89 yX2_endWithoutGame, Cond.methodLink RX2 92 yX2_count, Cond.instanceMethod yX2_count, Cond.selects RX2 yX2_count yX2_count, Cond.code yX2_count cX2_count 2 none, Cond.methodLink RX5 105 yJ6_bitCount_0f7a4, Cond.static yJ6_bitCount_0f7a4, Cond.initialized RJ6, Cond.code yJ6_bitCount_0f7a4 cJ6_bitCount_0f7a4 1 (some .int), Cond.constant RJ6 265 (1431655765), Cond.constant RJ6 266 (858993459), Cond.constant RJ6 267 (252645135), Cond.methodLink RL 51 yX6_start, Cond.instanceMethod yX6_start, Cond.selects RX6 yX6_start yX6_start, Cond.code yX6_start cX6_start 3 (some .int), Cond.methodLink RX6 119 yX6_ofLength, Cond.instanceMethod yX6_ofLength, Cond.selects RX6 yX6_ofLength yX6_ofLength, Cond.code yX6_ofLength cX6_ofLength 4 (some .int), Cond.methodLink RX6 113 yX6_bits]
def wsL_law_r15 : List Cond := [Cond.static yX6_bits, Cond.code yX6_bits cX6_bits 3 (some .int), Cond.methodLink RL 52 yX5_guess, Cond.instanceMethod yX5_guess, Cond.selects RX5 yX5_guess yX5_guess, Cond.code yX5_guess cX5_guess 2 (some .int), Cond.methodLink RX5 110 yX5_isLetter, Cond.methodLink RX5 113 yX2_wasGuessed, Cond.instanceMethod yX2_wasGuessed, Cond.selects RX2 yX2_wasGuessed yX2_wasGuessed, Cond.code yX2_wasGuessed cX2_wasGuessed 2 (some .boolean), Cond.static yX5_bitOf, Cond.code yX5_bitOf cX5_bitOf 1 (some .int), Cond.methodLink RX5 116 yX5_play, Cond.instanceMethod yX5_play, Cond.selects RX5 yX5_play yX5_play, Cond.code yX5_play cX5_play 5 (some .int), Cond.methodLink RX5 164 yX0_make, Cond.instanceMethod yX0_make, Cond.selects RX0 yX0_make yX0_make, Cond.code yX0_make cX0_make 7 none, Cond.fieldLink RX0 21 "DodgingHangman$Families" "count" "I", Cond.fieldLink RX0 30 "DodgingHangman$Families" "policy" "I", Cond.methodLink RX0 41 yX2_isCandidate]
def wsL_law_r16 : List Cond := [Cond.instanceMethod yX2_isCandidate, Cond.selects RX2 yX2_isCandidate yX2_isCandidate, Cond.code yX2_isCandidate cX2_isCandidate 2 (some .boolean), Cond.methodLink RX0 45 yX2_wordAt, Cond.methodLink RX0 49 yX4_maskOf, Cond.static yX4_maskOf, Cond.code yX4_maskOf cX4_maskOf 5 (some .int), Cond.methodLink RX0 55 yX4_lettersOf, Cond.static yX4_lettersOf, Cond.code yX4_lettersOf cX4_lettersOf 4 (some .int), Cond.methodLink RX0 59 yX0_put, Cond.instanceMethod yX0_put, Cond.selects RX0 yX0_put yX0_put, Cond.code yX0_put cX0_put 5 none, Cond.methodLink RX0 63 yX0_maskOf, Cond.instanceMethod yX0_maskOf, Cond.selects RX0 yX0_maskOf yX0_maskOf, Cond.code yX0_maskOf cX0_maskOf 2 (some .int), Cond.methodLink RX0 65 yX0_has, Cond.instanceMethod yX0_has, Cond.selects RX0 yX0_has yX0_has, Cond.code yX0_has cX0_has 2 (some .boolean), Cond.methodLink RX5 171 yX0_ranked, Cond.instanceMethod yX0_ranked]
def wsL_law_r17 : List Cond := [Cond.selects RX0 yX0_ranked yX0_ranked, Cond.code yX0_ranked cX0_ranked 3 (some .int), Cond.methodLink RX0 79 yX0_betterThan, Cond.instanceMethod yX0_betterThan, Cond.selects RX0 yX0_betterThan yX0_betterThan, Cond.code yX0_betterThan cX0_betterThan 4 (some .int), Cond.methodLink RX0 82 yX0_isBetter, Cond.instanceMethod yX0_isBetter, Cond.selects RX0 yX0_isBetter yX0_isBetter, Cond.code yX0_isBetter cX0_isBetter 5 (some .boolean), Cond.methodLink RX0 86 yX0_freshnessOf, Cond.instanceMethod yX0_freshnessOf, Cond.selects RX0 yX0_freshnessOf yX0_freshnessOf, Cond.code yX0_freshnessOf cX0_freshnessOf 2 (some .int), Cond.methodLink RX0 71 yJ6_bitCount_0f7a4, Cond.methodLink RX0 76 yX0_sizeOf, Cond.instanceMethod yX0_sizeOf, Cond.selects RX0 yX0_sizeOf yX0_sizeOf, Cond.code yX0_sizeOf cX0_sizeOf 2 (some .int), Cond.methodLink RX0 68 yX0_membersOf, Cond.instanceMethod yX0_membersOf, Cond.selects RX0 yX0_membersOf yX0_membersOf, Cond.code yX0_membersOf cX0_membersOf 2 (some .int), Cond.methodLink RX5 180 yX0_maskOf]
def wsL_law_r18 : List Cond := [Cond.methodLink RX5 183 yX0_membersOf, Cond.methodLink RX5 267 yX2_takeLetter, Cond.instanceMethod yX2_takeLetter, Cond.selects RX2 yX2_takeLetter yX2_takeLetter, Cond.code yX2_takeLetter cX2_takeLetter 6 none, Cond.methodLink RX2 96 yX2_noteGuess, Cond.instanceMethod yX2_noteGuess, Cond.selects RX2 yX2_noteGuess yX2_noteGuess, Cond.code yX2_noteGuess cX2_noteGuess 2 none, Cond.methodLink RX2 99 yX2_miss, Cond.instanceMethod yX2_miss, Cond.selects RX2 yX2_miss yX2_miss, Cond.code yX2_miss cX2_miss 2 none, Cond.methodLink RX2 110 yX2_lose, Cond.instanceMethod yX2_lose, Cond.selects RX2 yX2_lose yX2_lose, Cond.code yX2_lose cX2_lose 1 none, Cond.methodLink RX2 103 yX4_withLetter, Cond.methodLink RX2 107 yX2_win, Cond.instanceMethod yX2_win, Cond.selects RX2 yX2_win yX2_win, Cond.code yX2_win cX2_win 1 none, Cond.methodLink RL 55 yX6_guess, Cond.instanceMethod yX6_guess]
def wsL_law_r19 : List Cond := [Cond.selects RX6 yX6_guess yX6_guess, Cond.code yX6_guess cX6_guess 2 (some .int), Cond.methodLink RX6 139 yX6_isGuessed, Cond.instanceMethod yX6_isGuessed, Cond.selects RX6 yX6_isGuessed yX6_isGuessed, Cond.code yX6_isGuessed cX6_isGuessed 2 (some .boolean), Cond.methodLink RX6 142 yX6_guessesOn, Cond.instanceMethod yX6_guessesOn, Cond.selects RX6 yX6_guessesOn yX6_guessesOn, Cond.code yX6_guessesOn cX6_guessesOn 6 (some .int), Cond.methodLink RX6 126 yX6_laysFamilies, Cond.instanceMethod yX6_laysFamilies, Cond.selects RX6 yX6_laysFamilies yX6_laysFamilies, Cond.code yX6_laysFamilies cX6_laysFamilies 5 none, Cond.methodLink RX6 101 yX6_isCandidate, Cond.instanceMethod yX6_isCandidate, Cond.selects RX6 yX6_isCandidate yX6_isCandidate, Cond.code yX6_isCandidate cX6_isCandidate 2 (some .boolean), Cond.methodLink RX6 104 yX6_maskOf, Cond.instanceMethod yX6_maskOf, Cond.selects RX6 yX6_maskOf yX6_maskOf, Cond.code yX6_maskOf cX6_maskOf 5 (some .int), Cond.methodLink RX6 107 yX6_familyWith, Cond.instanceMethod yX6_familyWith]
def wsL_law_r20 : List Cond := [Cond.selects RX6 yX6_familyWith yX6_familyWith, Cond.code yX6_familyWith cX6_familyWith 3 (some .int), Cond.methodLink RX6 110 yX6_lettersOf, Cond.instanceMethod yX6_lettersOf, Cond.selects RX6 yX6_lettersOf yX6_lettersOf, Cond.code yX6_lettersOf cX6_lettersOf 4 (some .int), Cond.methodLink RX6 129 yX6_ranked, Cond.instanceMethod yX6_ranked, Cond.selects RX6 yX6_ranked yX6_ranked, Cond.code yX6_ranked cX6_ranked 5 (some .int), Cond.methodLink RX6 116 yX6_isAhead, Cond.instanceMethod yX6_isAhead, Cond.selects RX6 yX6_isAhead yX6_isAhead, Cond.code yX6_isAhead cX6_isAhead 3 (some .boolean), Cond.methodLink RX6 132 yX6_misses, Cond.instanceMethod yX6_misses, Cond.selects RX6 yX6_misses yX6_misses, Cond.code yX6_misses cX6_misses 2 none, Cond.methodLink RX6 122 yX6_ends, Cond.instanceMethod yX6_ends, Cond.selects RX6 yX6_ends yX6_ends, Cond.code yX6_ends cX6_ends 2 none, Cond.methodLink RX6 136 yX6_isHidden, Cond.instanceMethod yX6_isHidden]
def wsL_law_r21 : List Cond := [Cond.selects RX6 yX6_isHidden yX6_isHidden, Cond.code yX6_isHidden cX6_isHidden 3 (some .boolean), Cond.methodLink RL 56 yX5_guessWord, Cond.instanceMethod yX5_guessWord, Cond.selects RX5 yX5_guessWord yX5_guessWord, Cond.code yX5_guessWord cX5_guessWord 3 (some .int), Cond.methodLink RX5 126 yX4_lengthOf, Cond.methodLink RX5 131 yX2_takeWord, Cond.instanceMethod yX2_takeWord, Cond.selects RX2 yX2_takeWord yX2_takeWord, Cond.code yX2_takeWord cX2_takeWord 5 none, Cond.methodLink RX2 78 yX2_isCandidate, Cond.methodLink RL 59 yX6_guessWord, Cond.instanceMethod yX6_guessWord, Cond.selects RX6 yX6_guessWord yX6_guessWord, Cond.code yX6_guessWord cX6_guessWord 4 (some .int), Cond.methodLink RL 60 yX5_giveUp, Cond.instanceMethod yX5_giveUp, Cond.selects RX5 yX5_giveUp yX5_giveUp, Cond.code yX5_giveUp cX5_giveUp 1 (some .int), Cond.methodLink RX5 138 yX2_lose, Cond.methodLink RX5 144 yX5_memberAt, Cond.static yX5_memberAt, Cond.code yX5_memberAt cX5_memberAt 4 (some .int)]
def wsL_law_r22 : List Cond := [Cond.methodLink RL 63 yX6_giveUp, Cond.instanceMethod yX6_giveUp, Cond.selects RX6 yX6_giveUp yX6_giveUp, Cond.code yX6_giveUp cX6_giveUp 1 (some .int), Cond.methodLink RX6 145 yX6_lowest, Cond.static yX6_lowest, Cond.code yX6_lowest cX6_lowest 2 (some .int), Cond.methodLink RL 64 yX5_status, Cond.instanceMethod yX5_status, Cond.selects RX5 yX5_status yX5_status, Cond.code yX5_status cX5_status 1 (some .int), Cond.methodLink RL 67 yX6_status, Cond.instanceMethod yX6_status, Cond.selects RX6 yX6_status yX6_status, Cond.code yX6_status cX6_status 1 (some .int), Cond.methodLink RL 68 yX5_lives, Cond.instanceMethod yX5_lives, Cond.selects RX5 yX5_lives yX5_lives, Cond.code yX5_lives cX5_lives 1 (some .int), Cond.methodLink RL 71 yX6_lives, Cond.instanceMethod yX6_lives, Cond.selects RX6 yX6_lives yX6_lives, Cond.code yX6_lives cX6_lives 1 (some .int), Cond.methodLink RL 72 yX5_shown]
def wsL_law_r23 : List Cond := [Cond.instanceMethod yX5_shown, Cond.selects RX5 yX5_shown yX5_shown, Cond.code yX5_shown cX5_shown 3 (some .int), Cond.methodLink RL 75 yX6_shown, Cond.instanceMethod yX6_shown, Cond.selects RX6 yX6_shown yX6_shown, Cond.code yX6_shown cX6_shown 2 (some .int), Cond.methodLink RL 76 yX5_candidates, Cond.instanceMethod yX5_candidates, Cond.selects RX5 yX5_candidates yX5_candidates, Cond.code yX5_candidates cX5_candidates 1 (some .int), Cond.methodLink RL 79 yX6_candidates, Cond.instanceMethod yX6_candidates, Cond.selects RX6 yX6_candidates yX6_candidates, Cond.code yX6_candidates cX6_candidates 1 (some .int), Cond.methodLink RL 80 yX5_candidate, Cond.instanceMethod yX5_candidate, Cond.selects RX5 yX5_candidate yX5_candidate, Cond.code yX5_candidate cX5_candidate 2 (some .int), Cond.methodLink RL 83 yX6_candidate, Cond.instanceMethod yX6_candidate, Cond.selects RX6 yX6_candidate yX6_candidate, Cond.code yX6_candidate cX6_candidate 4 (some .int), Cond.methodLink RL 84 yX5_guesses]
def wsL_law_r24 : List Cond := [Cond.instanceMethod yX5_guesses, Cond.selects RX5 yX5_guesses yX5_guesses, Cond.code yX5_guesses cX5_guesses 1 (some .int), Cond.methodLink RL 87 yX6_guesses, Cond.instanceMethod yX6_guesses, Cond.selects RX6 yX6_guesses yX6_guesses, Cond.code yX6_guesses cX6_guesses 1 (some .int), Cond.methodLink RL 88 yX5_guessAt, Cond.instanceMethod yX5_guessAt, Cond.selects RX5 yX5_guessAt yX5_guessAt, Cond.code yX5_guessAt cX5_guessAt 2 (some .int), Cond.methodLink RX5 158 yX2_guessedAt, Cond.instanceMethod yX2_guessedAt, Cond.selects RX2 yX2_guessedAt yX2_guessedAt, Cond.code yX2_guessedAt cX2_guessedAt 2 (some .int), Cond.methodLink RL 91 yX6_guessAt, Cond.instanceMethod yX6_guessAt, Cond.selects RX6 yX6_guessAt yX6_guessAt, Cond.code yX6_guessAt cX6_guessAt 2 (some .int), Cond.methodLink RL 92 yX5_families, Cond.instanceMethod yX5_families, Cond.selects RX5 yX5_families yX5_families, Cond.code yX5_families cX5_families 3 (some .int), Cond.methodLink RX5 161 yX5_faultOfAsking]
def wsL_law_r25 : List Cond := [Cond.instanceMethod yX5_faultOfAsking, Cond.selects RX5 yX5_faultOfAsking yX5_faultOfAsking, Cond.code yX5_faultOfAsking cX5_faultOfAsking 2 (some .int), Cond.methodLink RL 95 yX6_families, Cond.instanceMethod yX6_families, Cond.selects RX6 yX6_families yX6_families, Cond.code yX6_families cX6_families 2 (some .int), Cond.methodLink RX6 148 yX6_bar, Cond.instanceMethod yX6_bar, Cond.selects RX6 yX6_bar yX6_bar, Cond.code yX6_bar cX6_bar 2 (some .int), Cond.methodLink RL 96 yX5_family, Cond.instanceMethod yX5_family, Cond.selects RX5 yX5_family yX5_family, Cond.code yX5_family cX5_family 6 (some .int), Cond.methodLink RX5 174 yX0_has, Cond.methodLink RX5 177 yX0_sizeOf, Cond.methodLink RX5 186 yX0_freshnessOf, Cond.methodLink RL 100 yX6_family, Cond.instanceMethod yX6_family, Cond.selects RX6 yX6_family yX6_family, Cond.code yX6_family cX6_family 5 (some .int), Cond.methodLink RL 101 yX5_spread, Cond.instanceMethod yX5_spread]
def wsL_law_r26 : List Cond := [Cond.selects RX5 yX5_spread yX5_spread, Cond.code yX5_spread cX5_spread 4 (some .int), Cond.methodLink RX5 189 yX5_candidates, Cond.methodLink RX5 191 yX0_squares, Cond.instanceMethod yX0_squares, Cond.selects RX0 yX0_squares yX0_squares, Cond.code yX0_squares cX0_squares 3 (some .int), Cond.methodLink RL 104 yX6_spread, Cond.instanceMethod yX6_spread, Cond.selects RX6 yX6_spread yX6_spread, Cond.code yX6_spread cX6_spread 4 (some .int), Cond.methodLink RL 105 yX5_having, Cond.instanceMethod yX5_having, Cond.selects RX5 yX5_having yX5_having, Cond.code yX5_having cX5_having 2 (some .int), Cond.methodLink RX5 194 yX2_candidatesWith, Cond.instanceMethod yX2_candidatesWith, Cond.selects RX2 yX2_candidatesWith yX2_candidatesWith, Cond.code yX2_candidatesWith cX2_candidatesWith 4 (some .int), Cond.methodLink RX2 81 yX4_maskOf, Cond.methodLink RL 108 yX6_having, Cond.instanceMethod yX6_having, Cond.selects RX6 yX6_having yX6_having, Cond.code yX6_having cX6_having 4 (some .int)]
def wsL_law_r27 : List Cond := [Cond.methodLink RL 109 yX5_sureLetters, Cond.instanceMethod yX5_sureLetters, Cond.selects RX5 yX5_sureLetters yX5_sureLetters, Cond.code yX5_sureLetters cX5_sureLetters 1 (some .int), Cond.methodLink RX5 197 yX2_lettersOfAll, Cond.instanceMethod yX2_lettersOfAll, Cond.selects RX2 yX2_lettersOfAll yX2_lettersOfAll, Cond.code yX2_lettersOfAll cX2_lettersOfAll 3 (some .int), Cond.constant RX2 85 (67108863), Cond.methodLink RX2 86 yX4_lettersOf, Cond.methodLink RL 112 yX6_sureLetters, Cond.instanceMethod yX6_sureLetters, Cond.selects RX6 yX6_sureLetters yX6_sureLetters, Cond.code yX6_sureLetters cX6_sureLetters 1 (some .int), Cond.methodLink RX6 152 yX6_sure, Cond.instanceMethod yX6_sure, Cond.selects RX6 yX6_sure yX6_sure, Cond.code yX6_sure cX6_sure 3 (some .int), Cond.constant RX6 151 (67108863), Cond.methodLink RL 113 yX5_bestGuess, Cond.instanceMethod yX5_bestGuess, Cond.selects RX5 yX5_bestGuess yX5_bestGuess, Cond.code yX5_bestGuess cX5_bestGuess 1 (some .int), Cond.methodLink RX5 203 yX5_bestLetter]
def wsL_law_r28 : List Cond := [Cond.instanceMethod yX5_bestLetter, Cond.selects RX5 yX5_bestLetter yX5_bestLetter, Cond.code yX5_bestLetter cX5_bestLetter 9 (some .int), Cond.methodLink RL 116 yX6_bestGuess, Cond.instanceMethod yX6_bestGuess, Cond.selects RX6 yX6_bestGuess yX6_bestGuess, Cond.code yX6_bestGuess cX6_bestGuess 1 (some .int), Cond.methodLink RX6 155 yX6_best, Cond.instanceMethod yX6_best, Cond.selects RX6 yX6_best yX6_best, Cond.code yX6_best cX6_best 6 (some .int), Cond.methodLink RL 117 yX5_missesAhead, Cond.instanceMethod yX5_missesAhead, Cond.selects RX5 yX5_missesAhead yX5_missesAhead, Cond.code yX5_missesAhead cX5_missesAhead 3 (some .int), Cond.methodLink RX5 207 yX2_totalOf, Cond.instanceMethod yX2_totalOf, Cond.selects RX2 yX2_totalOf yX2_totalOf, Cond.code yX2_totalOf cX2_totalOf 2 (some .int), Cond.methodLink RL 120 yX6_missesAhead, Cond.instanceMethod yX6_missesAhead, Cond.selects RX6 yX6_missesAhead yX6_missesAhead, Cond.code yX6_missesAhead cX6_missesAhead 3 (some .int), Cond.methodLink RL 121 yX5_total]
def wsL_law_r29 : List Cond := [Cond.instanceMethod yX5_total, Cond.selects RX5 yX5_total yX5_total, Cond.code yX5_total cX5_total 2 (some .int), Cond.methodLink RL 124 yX6_total, Cond.instanceMethod yX6_total, Cond.selects RX6 yX6_total yX6_total, Cond.code yX6_total cX6_total 2 (some .int), Cond.methodLink RL 125 yX5_undo, Cond.instanceMethod yX5_undo, Cond.selects RX5 yX5_undo yX5_undo, Cond.code yX5_undo cX5_undo 1 (some .int), Cond.methodLink RX5 210 yX1_popInto, Cond.instanceMethod yX1_popInto, Cond.selects RX1 yX1_popInto yX1_popInto, Cond.code yX1_popInto cX1_popInto 4 (some .boolean), Cond.methodLink RL 128 yX6_undo, Cond.instanceMethod yX6_undo, Cond.selects RX6 yX6_undo yX6_undo, Cond.code yX6_undo cX6_undo 2 (some .int), Cond.methodLink RL 129 yX5_digest, Cond.instanceMethod yX5_digest, Cond.selects RX5 yX5_digest yX5_digest, Cond.code yX5_digest cX5_digest 4 (some .long), Cond.constantLong RX5 214 (131)]
def wsL_law_r30 : List Cond := [Cond.methodLink RX5 216 yX5_hashOfList, Cond.instanceMethod yX5_hashOfList, Cond.selects RX5 yX5_hashOfList yX5_hashOfList, Cond.code yX5_hashOfList cX5_hashOfList 8 (some .long), Cond.methodLink RX5 230 yX5_words, Cond.methodLink RX5 226 yX5_mixed, Cond.static yX5_mixed, Cond.code yX5_mixed cX5_mixed 4 (some .long), Cond.constantLong RX5 258 (31), Cond.methodLink RX5 233 yX5_letterOf, Cond.methodLink RX5 220 yX5_hashOfGame, Cond.instanceMethod yX5_hashOfGame, Cond.selects RX5 yX5_hashOfGame yX5_hashOfGame, Cond.code yX5_hashOfGame cX5_hashOfGame 7 (some .long), Cond.methodLink RX5 236 yX5_status, Cond.methodLink RX5 238 yX5_lives, Cond.methodLink RX5 240 yX5_shown, Cond.methodLink RX5 243 yX5_candidate, Cond.methodLink RX5 246 yX5_guesses, Cond.methodLink RX5 249 yX5_guessAt, Cond.methodLink RX5 252 yX5_sureLetters, Cond.methodLink RX5 255 yX5_bestGuess, Cond.methodLink RX5 223 yX5_total, Cond.methodLink RL 133 yX6_digest]
def wsL_law_r31 : List Cond := [Cond.instanceMethod yX6_digest, Cond.selects RX6 yX6_digest yX6_digest, Cond.code yX6_digest cX6_digest 5 (some .long), Cond.constantLong RX6 158 (4061), Cond.constantLong RX6 160 (31), Cond.methodLink RX6 162 yX6_shown, Cond.methodLink RX6 165 yX6_candidates]
def wsL_law : List Cond := (wsL_law_r1 ++ (wsL_law_r2 ++ (wsL_law_r3 ++ (wsL_law_r4 ++ (wsL_law_r5 ++ (wsL_law_r6 ++ (wsL_law_r7 ++ (wsL_law_r8 ++ (wsL_law_r9 ++ (wsL_law_r10 ++ (wsL_law_r11 ++ (wsL_law_r12 ++ (wsL_law_r13 ++ (wsL_law_r14 ++ (wsL_law_r15 ++ (wsL_law_r16 ++ (wsL_law_r17 ++ (wsL_law_r18 ++ (wsL_law_r19 ++ (wsL_law_r20 ++ (wsL_law_r21 ++ (wsL_law_r22 ++ (wsL_law_r23 ++ (wsL_law_r24 ++ (wsL_law_r25 ++ (wsL_law_r26 ++ (wsL_law_r27 ++ (wsL_law_r28 ++ (wsL_law_r29 ++ (wsL_law_r30 ++ wsL_law_r31)))))))))))))))))))))))))))))) ++ wsX50 ++ wsX60 ++ wsX30 ++ wsX20 ++ wsX10 ++ wsX00 ++ ([] : List Cond)
set_option maxRecDepth 20000 in
theorem wsL_law_in : ∀ w ∈ wsL_law, w ∈ lw_tbl := fun w h => (goodIn_p wsL_law [59, 62, 67, 86, 142, 161, 596, 199, 203, 638, 641, 207, 211, 645, 215, 219, 223, 226, 649, 653, 656, 230, 234, 238, 245, 249, 253, 256, 260, 264, 268, 272, 276, 280, 284, 288, 293, 297, 660, 664, 668, 672, 676, 680, 684, 688, 692, 696, 700, 704, 708, 301, 306, 712, 310, 716, 314, 318, 720, 322, 724, 326, 330, 333, 338, 343, 346, 728, 732, 735, 353, 358, 361, 365, 369, 374, 378, 381, 386, 390, 394, 398, 402, 406, 410, 415, 419, 425, 429, 433, 437, 442, 739, 743, 747, 751, 755, 759, 763, 767, 771, 775, 779, 783, 787, 446, 451, 791, 456, 460, 795, 798, 464, 802, 468, 806, 472, 810, 476, 814, 480, 818, 484, 822, 488, 492, 826, 496, 500, 830, 834, 504, 838, 511, 516, 842, 520, 524, 846, 529, 533, 850, 854, 539, 543, 859, 863, 547, 551, 867, 555, 871, 559, 563, 875, 567, 572, 576, 582, 879] (by decide +kernel) (by decide +kernel) w h).1
theorem inlX0 : ∀ w ∈ wsX00, w ∈ wsL_law := fun _ h => List.mem_append_left _ (List.mem_append_right _ h)
theorem inX0 : ∀ w ∈ wsX00, w ∈ lw_tbl := fun w h => wsL_law_in w (inlX0 w h)
theorem inlX1 : ∀ w ∈ wsX10, w ∈ wsL_law := fun _ h => List.mem_append_left _ (List.mem_append_left _ (List.mem_append_right _ h))
theorem inX1 : ∀ w ∈ wsX10, w ∈ lw_tbl := fun w h => wsL_law_in w (inlX1 w h)
theorem inlX2 : ∀ w ∈ wsX20, w ∈ wsL_law := fun _ h => List.mem_append_left _ (List.mem_append_left _ (List.mem_append_left _ (List.mem_append_right _ h)))
theorem inX2 : ∀ w ∈ wsX20, w ∈ lw_tbl := fun w h => wsL_law_in w (inlX2 w h)
theorem inlX3 : ∀ w ∈ wsX30, w ∈ wsL_law := fun _ h => List.mem_append_left _ (List.mem_append_left _ (List.mem_append_left _ (List.mem_append_left _ (List.mem_append_right _ h))))
theorem inX3 : ∀ w ∈ wsX30, w ∈ lw_tbl := fun w h => wsL_law_in w (inlX3 w h)
theorem inX4 : ∀ w ∈ wsX40, w ∈ lw_tbl := by decide +kernel
theorem inlX5 : ∀ w ∈ wsX50, w ∈ wsL_law := fun _ h => List.mem_append_left _ (List.mem_append_left _ (List.mem_append_left _ (List.mem_append_left _ (List.mem_append_left _ (List.mem_append_left _ (List.mem_append_right _ h))))))
theorem inX5 : ∀ w ∈ wsX50, w ∈ lw_tbl := fun w h => wsL_law_in w (inlX5 w h)
theorem inlX6 : ∀ w ∈ wsX60, w ∈ wsL_law := fun _ h => List.mem_append_left _ (List.mem_append_left _ (List.mem_append_left _ (List.mem_append_left _ (List.mem_append_left _ (List.mem_append_right _ h)))))
theorem inX6 : ∀ w ∈ wsX60, w ∈ lw_tbl := fun w h => wsL_law_in w (inlX6 w h)
theorem inJ6 : ∀ w ∈ wsJ60, w ∈ lw_tbl := by decide +kernel
theorem inJ9 : ∀ w ∈ wsJ90, w ∈ lw_tbl := by decide +kernel
theorem inJ10 : ∀ w ∈ wsJ100, w ∈ lw_tbl := by decide +kernel
theorem dX0_init_0 : decode cX0_init 0 = .ok (.aload_n 0, 1) := by decide +kernel
theorem dX0_init_1 : decode cX0_init 1 = .ok (.invokespecial 3, 3) := by decide +kernel
theorem dX0_init_4 : decode cX0_init 4 = .ok (.aload_n 0, 1) := by decide +kernel
theorem dX0_init_5 : decode cX0_init 5 = .ok (.bipush 30, 2) := by decide +kernel
theorem dX0_init_7 : decode cX0_init 7 = .ok (.newarray .int, 2) := by decide +kernel
theorem dX0_init_9 : decode cX0_init 9 = .ok (.putfield 9, 3) := by decide +kernel
theorem dX0_init_12 : decode cX0_init 12 = .ok (.aload_n 0, 1) := by decide +kernel
theorem dX0_init_13 : decode cX0_init 13 = .ok (.bipush 30, 2) := by decide +kernel
theorem dX0_init_15 : decode cX0_init 15 = .ok (.newarray .int, 2) := by decide +kernel
theorem dX0_init_17 : decode cX0_init 17 = .ok (.putfield 15, 3) := by decide +kernel
theorem dX0_init_20 : decode cX0_init 20 = .ok (.aload_n 0, 1) := by decide +kernel
theorem dX0_init_21 : decode cX0_init 21 = .ok (.bipush 30, 2) := by decide +kernel
theorem dX0_init_23 : decode cX0_init 23 = .ok (.newarray .int, 2) := by decide +kernel
theorem dX0_init_25 : decode cX0_init 25 = .ok (.putfield 18, 3) := by decide +kernel
theorem dX0_init_28 : decode cX0_init 28 = .ok (.return_, 1) := by decide +kernel
set_option maxRecDepth 20000 in
theorem ggX0_make_X5_bitOf : GoodIn wsX0_make wsX5_bitOf := goodIn_r _ [5, 6, 7, 4, 8] (by decide +kernel) (by decide +kernel)
set_option maxRecDepth 20000 in
theorem gX0_make_X5_bitOf_n34 : GoodIn wsX0_make (wsX5_bitOf) := ggX0_make_X5_bitOf
set_option maxRecDepth 20000 in
theorem ggX0_make_X2_isCandidate : GoodIn wsX0_make wsX2_isCandidate := goodIn_r _ [13, 14, 15, 16, 17, 12, 18, 19, 59, 60, 61, 62, 63, 64, 65, 66, 67, 68, 69, 70] (by decide +kernel) (by decide +kernel)
set_option maxRecDepth 20000 in
theorem gX0_make_X2_isCandidate : GoodIn wsX0_make (wsV RX0 41 RX2 yX2_isCandidate wsX2_isCandidate) := goodIn_app (goodIn_of _ (by decide +kernel)) ggX0_make_X2_isCandidate
set_option maxRecDepth 20000 in
theorem ggX0_make_X2_wordAt : GoodIn wsX0_make wsX2_wordAt := goodIn_r _ [23, 24, 15, 16, 17, 12, 18, 19, 59, 60, 61, 62, 63, 64, 65, 66, 67, 68, 69, 70] (by decide +kernel) (by decide +kernel)
set_option maxRecDepth 20000 in
theorem gX0_make_X2_wordAt : GoodIn wsX0_make (wsV RX0 45 RX2 yX2_wordAt wsX2_wordAt) := goodIn_app (goodIn_of _ (by decide +kernel)) ggX0_make_X2_wordAt
set_option maxRecDepth 20000 in
theorem ggX0_make_X4_maskOf : GoodIn wsX0_make wsX4_maskOf := goodIn_r _ [28, 29, 30, 27, 31, 32, 33, 34] (by decide +kernel) (by decide +kernel)
set_option maxRecDepth 20000 in
theorem gX0_make_X4_maskOf : GoodIn wsX0_make (va_wsS RX0 49 yX4_maskOf wsX4_maskOf) := goodIn_app (goodIn_of _ (by decide +kernel)) ggX0_make_X4_maskOf
set_option maxRecDepth 20000 in
theorem ggX0_make_X4_lettersOf : GoodIn wsX0_make wsX4_lettersOf := goodIn_r _ [37, 29, 30, 27, 31, 32, 33, 34, 3, 4, 5, 6, 7, 8] (by decide +kernel) (by decide +kernel)
set_option maxRecDepth 20000 in
theorem gX0_make_X4_lettersOf : GoodIn wsX0_make (va_wsS RX0 55 yX4_lettersOf wsX4_lettersOf) := goodIn_app (goodIn_of _ (by decide +kernel)) ggX0_make_X4_lettersOf
set_option maxRecDepth 20000 in
theorem ggX0_make_X0_put : GoodIn wsX0_make wsX0_put := goodIn_r _ [42, 1, 43, 44, 45, 46, 47, 48, 41, 49, 50, 51, 52, 53, 54, 55, 56, 57, 58] (by decide +kernel) (by decide +kernel)
set_option maxRecDepth 20000 in
theorem gX0_make_X0_put : GoodIn wsX0_make (wsV RX0 59 RX0 yX0_put wsX0_put) := goodIn_app (goodIn_of _ (by decide +kernel)) ggX0_make_X0_put
theorem dX0_make_0 : decode cX0_make 0 = .ok (.aload_n 0, 1) := by decide +kernel
theorem dX0_make_1 : decode cX0_make 1 = .ok (.iconst 0, 1) := by decide +kernel
theorem dX0_make_2 : decode cX0_make 2 = .ok (.putfield 21, 3) := by decide +kernel
theorem dX0_make_5 : decode cX0_make 5 = .ok (.aload_n 0, 1) := by decide +kernel
theorem dX0_make_6 : decode cX0_make 6 = .ok (.aload_n 1, 1) := by decide +kernel
theorem dX0_make_7 : decode cX0_make 7 = .ok (.getfield 25, 3) := by decide +kernel
theorem dX0_make_10 : decode cX0_make 10 = .ok (.putfield 30, 3) := by decide +kernel
theorem dX0_make_13 : decode cX0_make 13 = .ok (.aload_n 1, 1) := by decide +kernel
theorem dX0_make_14 : decode cX0_make 14 = .ok (.getfield 31, 3) := by decide +kernel
theorem dX0_make_17 : decode cX0_make 17 = .ok (.iload_n 2, 1) := by decide +kernel
theorem dX0_make_18 : decode cX0_make 18 = .ok (.invokestatic 34, 3) := by decide +kernel
theorem dX0_make_21 : decode cX0_make 21 = .ok (.ior, 1) := by decide +kernel
theorem dX0_make_22 : decode cX0_make 22 = .ok (.istore_n 3, 1) := by decide +kernel
theorem dX0_make_23 : decode cX0_make 23 = .ok (.iconst 0, 1) := by decide +kernel
theorem dX0_make_24 : decode cX0_make 24 = .ok (.istore 4, 2) := by decide +kernel
theorem dX0_make_26 : decode cX0_make 26 = .ok (.iload 4, 2) := by decide +kernel
theorem dX0_make_28 : decode cX0_make 28 = .ok (.aload_n 1, 1) := by decide +kernel
theorem dX0_make_29 : decode cX0_make 29 = .ok (.getfield 38, 3) := by decide +kernel
theorem dX0_make_32 : decode cX0_make 32 = .ok (.if_icmp .ge 47, 3) := by decide +kernel
theorem dX0_make_35 : decode cX0_make 35 = .ok (.aload_n 1, 1) := by decide +kernel
theorem dX0_make_36 : decode cX0_make 36 = .ok (.iload 4, 2) := by decide +kernel
theorem dX0_make_38 : decode cX0_make 38 = .ok (.invokevirtual 41, 3) := by decide +kernel
theorem dX0_make_41 : decode cX0_make 41 = .ok (.ifCond .eq 32, 3) := by decide +kernel
theorem dX0_make_44 : decode cX0_make 44 = .ok (.aload_n 1, 1) := by decide +kernel
theorem dX0_make_45 : decode cX0_make 45 = .ok (.iload 4, 2) := by decide +kernel
theorem dX0_make_47 : decode cX0_make 47 = .ok (.invokevirtual 45, 3) := by decide +kernel
theorem dX0_make_50 : decode cX0_make 50 = .ok (.lstore 5, 2) := by decide +kernel
theorem dX0_make_52 : decode cX0_make 52 = .ok (.aload_n 0, 1) := by decide +kernel
theorem dX0_make_53 : decode cX0_make 53 = .ok (.iload 4, 2) := by decide +kernel
theorem dX0_make_55 : decode cX0_make 55 = .ok (.lload 5, 2) := by decide +kernel
theorem dX0_make_57 : decode cX0_make 57 = .ok (.iload_n 2, 1) := by decide +kernel
theorem dX0_make_58 : decode cX0_make 58 = .ok (.invokestatic 49, 3) := by decide +kernel
theorem dX0_make_61 : decode cX0_make 61 = .ok (.lload 5, 2) := by decide +kernel
theorem dX0_make_63 : decode cX0_make 63 = .ok (.invokestatic 55, 3) := by decide +kernel
theorem dX0_make_66 : decode cX0_make 66 = .ok (.iload_n 3, 1) := by decide +kernel
theorem dX0_make_67 : decode cX0_make 67 = .ok (.iconst (-1), 1) := by decide +kernel
theorem dX0_make_68 : decode cX0_make 68 = .ok (.ixor, 1) := by decide +kernel
theorem dX0_make_69 : decode cX0_make 69 = .ok (.iand, 1) := by decide +kernel
theorem dX0_make_70 : decode cX0_make 70 = .ok (.invokevirtual 59, 3) := by decide +kernel
theorem dX0_make_73 : decode cX0_make 73 = .ok (.iinc 4 1, 3) := by decide +kernel
theorem dX0_make_76 : decode cX0_make 76 = .ok (.goto (-50), 3) := by decide +kernel
theorem dX0_make_79 : decode cX0_make 79 = .ok (.return_, 1) := by decide +kernel
set_option maxRecDepth 20000 in
theorem ggX0_put_X0_maskOf : GoodIn wsX0_put wsX0_maskOf := goodIn_r _ [9, 2, 10, 11, 12, 8, 13, 1, 14, 15, 16, 17, 18] (by decide +kernel) (by decide +kernel)
set_option maxRecDepth 20000 in
theorem gX0_put_X0_maskOf : GoodIn wsX0_put (wsV RX0 63 RX0 yX0_maskOf wsX0_maskOf) := goodIn_app (goodIn_of _ (by decide +kernel)) ggX0_put_X0_maskOf
theorem dX0_put_0 : decode cX0_put 0 = .ok (.iconst 0, 1) := by decide +kernel
theorem dX0_put_1 : decode cX0_put 1 = .ok (.istore 4, 2) := by decide +kernel
theorem dX0_put_3 : decode cX0_put 3 = .ok (.iload 4, 2) := by decide +kernel
theorem dX0_put_5 : decode cX0_put 5 = .ok (.aload_n 0, 1) := by decide +kernel
theorem dX0_put_6 : decode cX0_put 6 = .ok (.getfield 21, 3) := by decide +kernel
theorem dX0_put_9 : decode cX0_put 9 = .ok (.if_icmp .ge 19, 3) := by decide +kernel
theorem dX0_put_12 : decode cX0_put 12 = .ok (.aload_n 0, 1) := by decide +kernel
theorem dX0_put_13 : decode cX0_put 13 = .ok (.iload 4, 2) := by decide +kernel
theorem dX0_put_15 : decode cX0_put 15 = .ok (.invokevirtual 63, 3) := by decide +kernel
theorem dX0_put_18 : decode cX0_put 18 = .ok (.iload_n 2, 1) := by decide +kernel
theorem dX0_put_19 : decode cX0_put 19 = .ok (.if_icmp .eq 9, 3) := by decide +kernel
theorem dX0_put_22 : decode cX0_put 22 = .ok (.iinc 4 1, 3) := by decide +kernel
theorem dX0_put_25 : decode cX0_put 25 = .ok (.goto (-22), 3) := by decide +kernel
theorem dX0_put_28 : decode cX0_put 28 = .ok (.iload 4, 2) := by decide +kernel
theorem dX0_put_30 : decode cX0_put 30 = .ok (.ifCond .lt 10, 3) := by decide +kernel
theorem dX0_put_33 : decode cX0_put 33 = .ok (.iload 4, 2) := by decide +kernel
theorem dX0_put_35 : decode cX0_put 35 = .ok (.bipush 30, 2) := by decide +kernel
theorem dX0_put_37 : decode cX0_put 37 = .ok (.if_icmp .lt 4, 3) := by decide +kernel
theorem dX0_put_40 : decode cX0_put 40 = .ok (.return_, 1) := by decide +kernel
theorem dX0_put_41 : decode cX0_put 41 = .ok (.iload 4, 2) := by decide +kernel
theorem dX0_put_43 : decode cX0_put 43 = .ok (.aload_n 0, 1) := by decide +kernel
theorem dX0_put_44 : decode cX0_put 44 = .ok (.getfield 21, 3) := by decide +kernel
theorem dX0_put_47 : decode cX0_put 47 = .ok (.if_icmp .ne 37, 3) := by decide +kernel
theorem dX0_put_50 : decode cX0_put 50 = .ok (.aload_n 0, 1) := by decide +kernel
theorem dX0_put_51 : decode cX0_put 51 = .ok (.getfield 9, 3) := by decide +kernel
theorem dX0_put_54 : decode cX0_put 54 = .ok (.iload 4, 2) := by decide +kernel
theorem dX0_put_56 : decode cX0_put 56 = .ok (.iload_n 2, 1) := by decide +kernel
theorem dX0_put_57 : decode cX0_put 57 = .ok (.iastore, 1) := by decide +kernel
theorem dX0_put_58 : decode cX0_put 58 = .ok (.aload_n 0, 1) := by decide +kernel
theorem dX0_put_59 : decode cX0_put 59 = .ok (.getfield 15, 3) := by decide +kernel
theorem dX0_put_62 : decode cX0_put 62 = .ok (.iload 4, 2) := by decide +kernel
theorem dX0_put_64 : decode cX0_put 64 = .ok (.iconst 0, 1) := by decide +kernel
theorem dX0_put_65 : decode cX0_put 65 = .ok (.iastore, 1) := by decide +kernel
theorem dX0_put_66 : decode cX0_put 66 = .ok (.aload_n 0, 1) := by decide +kernel
theorem dX0_put_67 : decode cX0_put 67 = .ok (.getfield 18, 3) := by decide +kernel
theorem dX0_put_70 : decode cX0_put 70 = .ok (.iload 4, 2) := by decide +kernel
theorem dX0_put_72 : decode cX0_put 72 = .ok (.iconst 0, 1) := by decide +kernel
theorem dX0_put_73 : decode cX0_put 73 = .ok (.iastore, 1) := by decide +kernel
theorem dX0_put_74 : decode cX0_put 74 = .ok (.aload_n 0, 1) := by decide +kernel
theorem dX0_put_75 : decode cX0_put 75 = .ok (.dup, 1) := by decide +kernel
theorem dX0_put_76 : decode cX0_put 76 = .ok (.getfield 21, 3) := by decide +kernel
theorem dX0_put_79 : decode cX0_put 79 = .ok (.iconst 1, 1) := by decide +kernel
theorem dX0_put_80 : decode cX0_put 80 = .ok (.iadd, 1) := by decide +kernel
theorem dX0_put_81 : decode cX0_put 81 = .ok (.putfield 21, 3) := by decide +kernel
theorem dX0_put_84 : decode cX0_put 84 = .ok (.aload_n 0, 1) := by decide +kernel
theorem dX0_put_85 : decode cX0_put 85 = .ok (.getfield 15, 3) := by decide +kernel
theorem dX0_put_88 : decode cX0_put 88 = .ok (.iload 4, 2) := by decide +kernel
theorem dX0_put_90 : decode cX0_put 90 = .ok (.dup2, 1) := by decide +kernel
theorem dX0_put_91 : decode cX0_put 91 = .ok (.iaload, 1) := by decide +kernel
theorem dX0_put_92 : decode cX0_put 92 = .ok (.iconst 1, 1) := by decide +kernel
theorem dX0_put_93 : decode cX0_put 93 = .ok (.iload_n 1, 1) := by decide +kernel
theorem dX0_put_94 : decode cX0_put 94 = .ok (.ishl, 1) := by decide +kernel
theorem dX0_put_95 : decode cX0_put 95 = .ok (.ior, 1) := by decide +kernel
theorem dX0_put_96 : decode cX0_put 96 = .ok (.iastore, 1) := by decide +kernel
theorem dX0_put_97 : decode cX0_put 97 = .ok (.aload_n 0, 1) := by decide +kernel
theorem dX0_put_98 : decode cX0_put 98 = .ok (.getfield 18, 3) := by decide +kernel
theorem dX0_put_101 : decode cX0_put 101 = .ok (.iload 4, 2) := by decide +kernel
theorem dX0_put_103 : decode cX0_put 103 = .ok (.dup2, 1) := by decide +kernel
theorem dX0_put_104 : decode cX0_put 104 = .ok (.iaload, 1) := by decide +kernel
theorem dX0_put_105 : decode cX0_put 105 = .ok (.iload_n 3, 1) := by decide +kernel
theorem dX0_put_106 : decode cX0_put 106 = .ok (.ior, 1) := by decide +kernel
theorem dX0_put_107 : decode cX0_put 107 = .ok (.iastore, 1) := by decide +kernel
theorem dX0_put_108 : decode cX0_put 108 = .ok (.return_, 1) := by decide +kernel
theorem dX0_has_0 : decode cX0_has 0 = .ok (.iload_n 1, 1) := by decide +kernel
theorem dX0_has_1 : decode cX0_has 1 = .ok (.ifCond .lt 21, 3) := by decide +kernel
theorem dX0_has_4 : decode cX0_has 4 = .ok (.iload_n 1, 1) := by decide +kernel
theorem dX0_has_5 : decode cX0_has 5 = .ok (.aload_n 0, 1) := by decide +kernel
theorem dX0_has_6 : decode cX0_has 6 = .ok (.getfield 21, 3) := by decide +kernel
theorem dX0_has_9 : decode cX0_has 9 = .ok (.if_icmp .ge 13, 3) := by decide +kernel
theorem dX0_has_12 : decode cX0_has 12 = .ok (.iload_n 1, 1) := by decide +kernel
theorem dX0_has_13 : decode cX0_has 13 = .ok (.bipush 30, 2) := by decide +kernel
theorem dX0_has_15 : decode cX0_has 15 = .ok (.if_icmp .ge 7, 3) := by decide +kernel
theorem dX0_has_18 : decode cX0_has 18 = .ok (.iconst 1, 1) := by decide +kernel
theorem dX0_has_19 : decode cX0_has 19 = .ok (.goto 4, 3) := by decide +kernel
theorem dX0_has_22 : decode cX0_has 22 = .ok (.iconst 0, 1) := by decide +kernel
theorem dX0_has_23 : decode cX0_has 23 = .ok (.ireturn, 1) := by decide +kernel
set_option maxRecDepth 20000 in
theorem ggX0_maskOf_X0_has : GoodIn wsX0_maskOf wsX0_has := goodIn_r _ [6, 7, 8, 9, 10, 11, 12] (by decide +kernel) (by decide +kernel)
set_option maxRecDepth 20000 in
theorem gX0_maskOf_X0_has : GoodIn wsX0_maskOf (wsV RX0 65 RX0 yX0_has wsX0_has) := goodIn_app (goodIn_of _ (by decide +kernel)) ggX0_maskOf_X0_has
theorem dX0_maskOf_0 : decode cX0_maskOf 0 = .ok (.aload_n 0, 1) := by decide +kernel
theorem dX0_maskOf_1 : decode cX0_maskOf 1 = .ok (.iload_n 1, 1) := by decide +kernel
theorem dX0_maskOf_2 : decode cX0_maskOf 2 = .ok (.invokevirtual 65, 3) := by decide +kernel
theorem dX0_maskOf_5 : decode cX0_maskOf 5 = .ok (.ifCond .eq 12, 3) := by decide +kernel
theorem dX0_maskOf_8 : decode cX0_maskOf 8 = .ok (.aload_n 0, 1) := by decide +kernel
theorem dX0_maskOf_9 : decode cX0_maskOf 9 = .ok (.getfield 9, 3) := by decide +kernel
theorem dX0_maskOf_12 : decode cX0_maskOf 12 = .ok (.iload_n 1, 1) := by decide +kernel
theorem dX0_maskOf_13 : decode cX0_maskOf 13 = .ok (.iaload, 1) := by decide +kernel
theorem dX0_maskOf_14 : decode cX0_maskOf 14 = .ok (.goto 4, 3) := by decide +kernel
theorem dX0_maskOf_17 : decode cX0_maskOf 17 = .ok (.iconst 0, 1) := by decide +kernel
theorem dX0_maskOf_18 : decode cX0_maskOf 18 = .ok (.ireturn, 1) := by decide +kernel
set_option maxRecDepth 20000 in
theorem ggX0_membersOf_X0_has : GoodIn wsX0_membersOf wsX0_has := goodIn_r _ [6, 7, 8, 9, 10, 11, 12] (by decide +kernel) (by decide +kernel)
set_option maxRecDepth 20000 in
theorem gX0_membersOf_X0_has : GoodIn wsX0_membersOf (wsV RX0 65 RX0 yX0_has wsX0_has) := goodIn_app (goodIn_of _ (by decide +kernel)) ggX0_membersOf_X0_has
theorem dX0_membersOf_0 : decode cX0_membersOf 0 = .ok (.aload_n 0, 1) := by decide +kernel
theorem dX0_membersOf_1 : decode cX0_membersOf 1 = .ok (.iload_n 1, 1) := by decide +kernel
theorem dX0_membersOf_2 : decode cX0_membersOf 2 = .ok (.invokevirtual 65, 3) := by decide +kernel
theorem dX0_membersOf_5 : decode cX0_membersOf 5 = .ok (.ifCond .eq 12, 3) := by decide +kernel
theorem dX0_membersOf_8 : decode cX0_membersOf 8 = .ok (.aload_n 0, 1) := by decide +kernel
theorem dX0_membersOf_9 : decode cX0_membersOf 9 = .ok (.getfield 15, 3) := by decide +kernel
theorem dX0_membersOf_12 : decode cX0_membersOf 12 = .ok (.iload_n 1, 1) := by decide +kernel
theorem dX0_membersOf_13 : decode cX0_membersOf 13 = .ok (.iaload, 1) := by decide +kernel
theorem dX0_membersOf_14 : decode cX0_membersOf 14 = .ok (.goto 4, 3) := by decide +kernel
theorem dX0_membersOf_17 : decode cX0_membersOf 17 = .ok (.iconst 0, 1) := by decide +kernel
theorem dX0_membersOf_18 : decode cX0_membersOf 18 = .ok (.ireturn, 1) := by decide +kernel
set_option maxRecDepth 20000 in
theorem ggX0_sizeOf_X0_membersOf : GoodIn wsX0_sizeOf wsX0_membersOf := goodIn_r _ [5, 6, 7, 8, 9, 4, 10, 11, 19, 20, 21, 22, 23] (by decide +kernel) (by decide +kernel)
set_option maxRecDepth 20000 in
theorem gX0_sizeOf_X0_membersOf : GoodIn wsX0_sizeOf (wsV RX0 68 RX0 yX0_membersOf wsX0_membersOf) := goodIn_app (goodIn_of _ (by decide +kernel)) ggX0_sizeOf_X0_membersOf
set_option maxRecDepth 20000 in
theorem ggX0_sizeOf_J6_bitCount_0f7a4 : GoodIn wsX0_sizeOf wsJ6_bitCount_0f7a4 := goodIn_r _ [15, 16, 17, 18] (by decide +kernel) (by decide +kernel)
set_option maxRecDepth 20000 in
theorem gX0_sizeOf_J6_bitCount_0f7a4 : GoodIn wsX0_sizeOf (va_wsS RX0 71 yJ6_bitCount_0f7a4 wsJ6_bitCount_0f7a4) := goodIn_app (goodIn_of _ (by decide +kernel)) ggX0_sizeOf_J6_bitCount_0f7a4
theorem dX0_sizeOf_0 : decode cX0_sizeOf 0 = .ok (.aload_n 0, 1) := by decide +kernel
theorem dX0_sizeOf_1 : decode cX0_sizeOf 1 = .ok (.iload_n 1, 1) := by decide +kernel
theorem dX0_sizeOf_2 : decode cX0_sizeOf 2 = .ok (.invokevirtual 68, 3) := by decide +kernel
theorem dX0_sizeOf_5 : decode cX0_sizeOf 5 = .ok (.invokestatic 71, 3) := by decide +kernel
theorem dX0_sizeOf_8 : decode cX0_sizeOf 8 = .ok (.ireturn, 1) := by decide +kernel
set_option maxRecDepth 20000 in
theorem ggX0_freshnessOf_X0_has : GoodIn wsX0_freshnessOf wsX0_has := goodIn_r _ [6, 7, 15, 16, 17, 18, 19] (by decide +kernel) (by decide +kernel)
set_option maxRecDepth 20000 in
theorem gX0_freshnessOf_X0_has : GoodIn wsX0_freshnessOf (wsV RX0 65 RX0 yX0_has wsX0_has) := goodIn_app (goodIn_of _ (by decide +kernel)) ggX0_freshnessOf_X0_has
set_option maxRecDepth 20000 in
theorem ggX0_freshnessOf_J6_bitCount_0f7a4 : GoodIn wsX0_freshnessOf wsJ6_bitCount_0f7a4 := goodIn_r _ [11, 12, 13, 14] (by decide +kernel) (by decide +kernel)
set_option maxRecDepth 20000 in
theorem gX0_freshnessOf_J6_bitCount_0f7a4 : GoodIn wsX0_freshnessOf (va_wsS RX0 71 yJ6_bitCount_0f7a4 wsJ6_bitCount_0f7a4) := goodIn_app (goodIn_of _ (by decide +kernel)) ggX0_freshnessOf_J6_bitCount_0f7a4
theorem dX0_freshnessOf_0 : decode cX0_freshnessOf 0 = .ok (.aload_n 0, 1) := by decide +kernel
theorem dX0_freshnessOf_1 : decode cX0_freshnessOf 1 = .ok (.iload_n 1, 1) := by decide +kernel
theorem dX0_freshnessOf_2 : decode cX0_freshnessOf 2 = .ok (.invokevirtual 65, 3) := by decide +kernel
theorem dX0_freshnessOf_5 : decode cX0_freshnessOf 5 = .ok (.ifCond .eq 15, 3) := by decide +kernel
theorem dX0_freshnessOf_8 : decode cX0_freshnessOf 8 = .ok (.aload_n 0, 1) := by decide +kernel
theorem dX0_freshnessOf_9 : decode cX0_freshnessOf 9 = .ok (.getfield 18, 3) := by decide +kernel
theorem dX0_freshnessOf_12 : decode cX0_freshnessOf 12 = .ok (.iload_n 1, 1) := by decide +kernel
theorem dX0_freshnessOf_13 : decode cX0_freshnessOf 13 = .ok (.iaload, 1) := by decide +kernel
theorem dX0_freshnessOf_14 : decode cX0_freshnessOf 14 = .ok (.invokestatic 71, 3) := by decide +kernel
theorem dX0_freshnessOf_17 : decode cX0_freshnessOf 17 = .ok (.goto 4, 3) := by decide +kernel
theorem dX0_freshnessOf_20 : decode cX0_freshnessOf 20 = .ok (.iconst 0, 1) := by decide +kernel
theorem dX0_freshnessOf_21 : decode cX0_freshnessOf 21 = .ok (.ireturn, 1) := by decide +kernel
set_option maxRecDepth 20000 in
theorem ggX0_squares_X0_sizeOf : GoodIn wsX0_squares wsX0_sizeOf := goodIn_r _ [6, 7, 8, 9, 5, 10, 11, 12, 13, 14, 15, 1, 16, 17, 18, 19, 20, 21, 22, 23, 24, 25, 26, 27] (by decide +kernel) (by decide +kernel)
set_option maxRecDepth 20000 in
theorem gX0_squares_X0_sizeOf : GoodIn wsX0_squares (wsV RX0 76 RX0 yX0_sizeOf wsX0_sizeOf) := goodIn_app (goodIn_of _ (by decide +kernel)) ggX0_squares_X0_sizeOf
theorem dX0_squares_0 : decode cX0_squares 0 = .ok (.iconst 0, 1) := by decide +kernel
theorem dX0_squares_1 : decode cX0_squares 1 = .ok (.istore_n 1, 1) := by decide +kernel
theorem dX0_squares_2 : decode cX0_squares 2 = .ok (.iconst 0, 1) := by decide +kernel
theorem dX0_squares_3 : decode cX0_squares 3 = .ok (.istore_n 2, 1) := by decide +kernel
theorem dX0_squares_4 : decode cX0_squares 4 = .ok (.iload_n 2, 1) := by decide +kernel
theorem dX0_squares_5 : decode cX0_squares 5 = .ok (.aload_n 0, 1) := by decide +kernel
theorem dX0_squares_6 : decode cX0_squares 6 = .ok (.getfield 21, 3) := by decide +kernel
theorem dX0_squares_9 : decode cX0_squares 9 = .ok (.if_icmp .ge 23, 3) := by decide +kernel
theorem dX0_squares_12 : decode cX0_squares 12 = .ok (.iload_n 1, 1) := by decide +kernel
theorem dX0_squares_13 : decode cX0_squares 13 = .ok (.aload_n 0, 1) := by decide +kernel
theorem dX0_squares_14 : decode cX0_squares 14 = .ok (.iload_n 2, 1) := by decide +kernel
theorem dX0_squares_15 : decode cX0_squares 15 = .ok (.invokevirtual 76, 3) := by decide +kernel
theorem dX0_squares_18 : decode cX0_squares 18 = .ok (.aload_n 0, 1) := by decide +kernel
theorem dX0_squares_19 : decode cX0_squares 19 = .ok (.iload_n 2, 1) := by decide +kernel
theorem dX0_squares_20 : decode cX0_squares 20 = .ok (.invokevirtual 76, 3) := by decide +kernel
theorem dX0_squares_23 : decode cX0_squares 23 = .ok (.imul, 1) := by decide +kernel
theorem dX0_squares_24 : decode cX0_squares 24 = .ok (.iadd, 1) := by decide +kernel
theorem dX0_squares_25 : decode cX0_squares 25 = .ok (.istore_n 1, 1) := by decide +kernel
theorem dX0_squares_26 : decode cX0_squares 26 = .ok (.iinc 2 1, 3) := by decide +kernel
theorem dX0_squares_29 : decode cX0_squares 29 = .ok (.goto (-25), 3) := by decide +kernel
theorem dX0_squares_32 : decode cX0_squares 32 = .ok (.iload_n 1, 1) := by decide +kernel
theorem dX0_squares_33 : decode cX0_squares 33 = .ok (.ireturn, 1) := by decide +kernel
set_option maxRecDepth 20000 in
theorem ggX0_ranked_X0_betterThan : GoodIn wsX0_ranked wsX0_betterThan := goodIn_r _ [6, 1, 7, 8, 9, 5, 10, 11, 12, 13, 14, 15, 16, 17, 18, 19, 20, 21, 22, 23, 24, 25, 26, 27, 28, 29, 30, 31, 32, 33, 34, 35, 36, 37, 38, 39, 40, 41, 42, 43, 44, 45, 46] (by decide +kernel) (by decide +kernel)
set_option maxRecDepth 20000 in
theorem gX0_ranked_X0_betterThan : GoodIn wsX0_ranked (wsV RX0 79 RX0 yX0_betterThan wsX0_betterThan) := goodIn_app (goodIn_of _ (by decide +kernel)) ggX0_ranked_X0_betterThan
theorem dX0_ranked_0 : decode cX0_ranked 0 = .ok (.iconst 0, 1) := by decide +kernel
theorem dX0_ranked_1 : decode cX0_ranked 1 = .ok (.istore_n 2, 1) := by decide +kernel
theorem dX0_ranked_2 : decode cX0_ranked 2 = .ok (.iload_n 2, 1) := by decide +kernel
theorem dX0_ranked_3 : decode cX0_ranked 3 = .ok (.aload_n 0, 1) := by decide +kernel
theorem dX0_ranked_4 : decode cX0_ranked 4 = .ok (.getfield 21, 3) := by decide +kernel
theorem dX0_ranked_7 : decode cX0_ranked 7 = .ok (.if_icmp .ge 20, 3) := by decide +kernel
theorem dX0_ranked_10 : decode cX0_ranked 10 = .ok (.aload_n 0, 1) := by decide +kernel
theorem dX0_ranked_11 : decode cX0_ranked 11 = .ok (.iload_n 2, 1) := by decide +kernel
theorem dX0_ranked_12 : decode cX0_ranked 12 = .ok (.invokevirtual 79, 3) := by decide +kernel
theorem dX0_ranked_15 : decode cX0_ranked 15 = .ok (.iload_n 1, 1) := by decide +kernel
theorem dX0_ranked_16 : decode cX0_ranked 16 = .ok (.if_icmp .ne 5, 3) := by decide +kernel
theorem dX0_ranked_19 : decode cX0_ranked 19 = .ok (.iload_n 2, 1) := by decide +kernel
theorem dX0_ranked_20 : decode cX0_ranked 20 = .ok (.ireturn, 1) := by decide +kernel
theorem dX0_ranked_21 : decode cX0_ranked 21 = .ok (.iinc 2 1, 3) := by decide +kernel
theorem dX0_ranked_24 : decode cX0_ranked 24 = .ok (.goto (-22), 3) := by decide +kernel
theorem dX0_ranked_27 : decode cX0_ranked 27 = .ok (.iconst (-1), 1) := by decide +kernel
theorem dX0_ranked_28 : decode cX0_ranked 28 = .ok (.ireturn, 1) := by decide +kernel
set_option maxRecDepth 20000 in
theorem ggX0_betterThan_X0_isBetter : GoodIn wsX0_betterThan wsX0_isBetter := goodIn_r _ [6, 7, 8, 9, 10, 5, 11, 12, 13, 14, 15, 16, 1, 17, 18, 19, 20, 21, 22, 23, 24, 25, 26, 27, 28, 29, 30, 31, 32, 33, 34, 35, 36, 37, 38, 39, 40, 41, 42] (by decide +kernel) (by decide +kernel)
set_option maxRecDepth 20000 in
theorem gX0_betterThan_X0_isBetter : GoodIn wsX0_betterThan (wsV RX0 82 RX0 yX0_isBetter wsX0_isBetter) := goodIn_app (goodIn_of _ (by decide +kernel)) ggX0_betterThan_X0_isBetter
theorem dX0_betterThan_0 : decode cX0_betterThan 0 = .ok (.iconst 0, 1) := by decide +kernel
theorem dX0_betterThan_1 : decode cX0_betterThan 1 = .ok (.istore_n 2, 1) := by decide +kernel
theorem dX0_betterThan_2 : decode cX0_betterThan 2 = .ok (.iconst 0, 1) := by decide +kernel
theorem dX0_betterThan_3 : decode cX0_betterThan 3 = .ok (.istore_n 3, 1) := by decide +kernel
theorem dX0_betterThan_4 : decode cX0_betterThan 4 = .ok (.iload_n 3, 1) := by decide +kernel
theorem dX0_betterThan_5 : decode cX0_betterThan 5 = .ok (.aload_n 0, 1) := by decide +kernel
theorem dX0_betterThan_6 : decode cX0_betterThan 6 = .ok (.getfield 21, 3) := by decide +kernel
theorem dX0_betterThan_9 : decode cX0_betterThan 9 = .ok (.if_icmp .ge 21, 3) := by decide +kernel
theorem dX0_betterThan_12 : decode cX0_betterThan 12 = .ok (.aload_n 0, 1) := by decide +kernel
theorem dX0_betterThan_13 : decode cX0_betterThan 13 = .ok (.iload_n 3, 1) := by decide +kernel
theorem dX0_betterThan_14 : decode cX0_betterThan 14 = .ok (.iload_n 1, 1) := by decide +kernel
theorem dX0_betterThan_15 : decode cX0_betterThan 15 = .ok (.invokevirtual 82, 3) := by decide +kernel
theorem dX0_betterThan_18 : decode cX0_betterThan 18 = .ok (.ifCond .eq 6, 3) := by decide +kernel
theorem dX0_betterThan_21 : decode cX0_betterThan 21 = .ok (.iinc 2 1, 3) := by decide +kernel
theorem dX0_betterThan_24 : decode cX0_betterThan 24 = .ok (.iinc 3 1, 3) := by decide +kernel
theorem dX0_betterThan_27 : decode cX0_betterThan 27 = .ok (.goto (-23), 3) := by decide +kernel
theorem dX0_betterThan_30 : decode cX0_betterThan 30 = .ok (.iload_n 2, 1) := by decide +kernel
theorem dX0_betterThan_31 : decode cX0_betterThan 31 = .ok (.ireturn, 1) := by decide +kernel
set_option maxRecDepth 20000 in
theorem ggX0_isBetter_X0_maskOf : GoodIn wsX0_isBetter wsX0_maskOf := goodIn_r _ [6, 7, 8, 9, 10, 5, 11, 12, 34, 35, 36, 37, 38] (by decide +kernel) (by decide +kernel)
set_option maxRecDepth 20000 in
theorem gX0_isBetter_X0_maskOf : GoodIn wsX0_isBetter (wsV RX0 63 RX0 yX0_maskOf wsX0_maskOf) := goodIn_app (goodIn_of _ (by decide +kernel)) ggX0_isBetter_X0_maskOf
set_option maxRecDepth 20000 in
theorem ggX0_isBetter_X0_freshnessOf : GoodIn wsX0_isBetter wsX0_freshnessOf := goodIn_r _ [16, 17, 8, 9, 10, 5, 11, 12, 18, 19, 20, 21, 22, 23, 24, 34, 35, 36, 37, 38] (by decide +kernel) (by decide +kernel)
set_option maxRecDepth 20000 in
theorem gX0_isBetter_X0_freshnessOf : GoodIn wsX0_isBetter (wsV RX0 86 RX0 yX0_freshnessOf wsX0_freshnessOf) := goodIn_app (goodIn_of _ (by decide +kernel)) ggX0_isBetter_X0_freshnessOf
set_option maxRecDepth 20000 in
theorem ggX0_isBetter_X0_sizeOf : GoodIn wsX0_isBetter wsX0_sizeOf := goodIn_r _ [28, 29, 30, 31, 5, 32, 33, 8, 9, 10, 11, 12, 18, 19, 20, 21, 22, 23, 24, 34, 35, 36, 37, 38] (by decide +kernel) (by decide +kernel)
set_option maxRecDepth 20000 in
theorem gX0_isBetter_X0_sizeOf : GoodIn wsX0_isBetter (wsV RX0 76 RX0 yX0_sizeOf wsX0_sizeOf) := goodIn_app (goodIn_of _ (by decide +kernel)) ggX0_isBetter_X0_sizeOf
set_option maxRecDepth 20000 in
theorem ggX0_isBetter_J6_bitCount_0f7a4 : GoodIn wsX0_isBetter wsJ6_bitCount_0f7a4 := goodIn_r _ [21, 22, 23, 24] (by decide +kernel) (by decide +kernel)
set_option maxRecDepth 20000 in
theorem gX0_isBetter_J6_bitCount_0f7a4 : GoodIn wsX0_isBetter (va_wsS RX0 71 yJ6_bitCount_0f7a4 wsJ6_bitCount_0f7a4) := goodIn_app (goodIn_of _ (by decide +kernel)) ggX0_isBetter_J6_bitCount_0f7a4
theorem dX0_isBetter_0 : decode cX0_isBetter 0 = .ok (.aload_n 0, 1) := by decide +kernel
theorem dX0_isBetter_1 : decode cX0_isBetter 1 = .ok (.getfield 30, 3) := by decide +kernel
theorem dX0_isBetter_4 : decode cX0_isBetter 4 = .ok (.iconst 1, 1) := by decide +kernel
theorem dX0_isBetter_5 : decode cX0_isBetter 5 = .ok (.if_icmp .ne 46, 3) := by decide +kernel
theorem dX0_isBetter_8 : decode cX0_isBetter 8 = .ok (.aload_n 0, 1) := by decide +kernel
theorem dX0_isBetter_9 : decode cX0_isBetter 9 = .ok (.iload_n 1, 1) := by decide +kernel
theorem dX0_isBetter_10 : decode cX0_isBetter 10 = .ok (.invokevirtual 63, 3) := by decide +kernel
theorem dX0_isBetter_13 : decode cX0_isBetter 13 = .ok (.ifCond .ne 7, 3) := by decide +kernel
theorem dX0_isBetter_16 : decode cX0_isBetter 16 = .ok (.iconst 1, 1) := by decide +kernel
theorem dX0_isBetter_17 : decode cX0_isBetter 17 = .ok (.goto 4, 3) := by decide +kernel
theorem dX0_isBetter_20 : decode cX0_isBetter 20 = .ok (.iconst 0, 1) := by decide +kernel
theorem dX0_isBetter_21 : decode cX0_isBetter 21 = .ok (.aload_n 0, 1) := by decide +kernel
theorem dX0_isBetter_22 : decode cX0_isBetter 22 = .ok (.iload_n 2, 1) := by decide +kernel
theorem dX0_isBetter_23 : decode cX0_isBetter 23 = .ok (.invokevirtual 63, 3) := by decide +kernel
theorem dX0_isBetter_26 : decode cX0_isBetter 26 = .ok (.ifCond .ne 7, 3) := by decide +kernel
theorem dX0_isBetter_29 : decode cX0_isBetter 29 = .ok (.iconst 1, 1) := by decide +kernel
theorem dX0_isBetter_30 : decode cX0_isBetter 30 = .ok (.goto 4, 3) := by decide +kernel
theorem dX0_isBetter_33 : decode cX0_isBetter 33 = .ok (.iconst 0, 1) := by decide +kernel
theorem dX0_isBetter_34 : decode cX0_isBetter 34 = .ok (.if_icmp .eq 17, 3) := by decide +kernel
theorem dX0_isBetter_37 : decode cX0_isBetter 37 = .ok (.aload_n 0, 1) := by decide +kernel
theorem dX0_isBetter_38 : decode cX0_isBetter 38 = .ok (.iload_n 1, 1) := by decide +kernel
theorem dX0_isBetter_39 : decode cX0_isBetter 39 = .ok (.invokevirtual 63, 3) := by decide +kernel
theorem dX0_isBetter_42 : decode cX0_isBetter 42 = .ok (.ifCond .ne 7, 3) := by decide +kernel
theorem dX0_isBetter_45 : decode cX0_isBetter 45 = .ok (.iconst 1, 1) := by decide +kernel
theorem dX0_isBetter_46 : decode cX0_isBetter 46 = .ok (.goto 4, 3) := by decide +kernel
theorem dX0_isBetter_49 : decode cX0_isBetter 49 = .ok (.iconst 0, 1) := by decide +kernel
theorem dX0_isBetter_50 : decode cX0_isBetter 50 = .ok (.ireturn, 1) := by decide +kernel
theorem dX0_isBetter_51 : decode cX0_isBetter 51 = .ok (.aload_n 0, 1) := by decide +kernel
theorem dX0_isBetter_52 : decode cX0_isBetter 52 = .ok (.getfield 30, 3) := by decide +kernel
theorem dX0_isBetter_55 : decode cX0_isBetter 55 = .ok (.iconst 2, 1) := by decide +kernel
theorem dX0_isBetter_56 : decode cX0_isBetter 56 = .ok (.if_icmp .ne 35, 3) := by decide +kernel
theorem dX0_isBetter_59 : decode cX0_isBetter 59 = .ok (.aload_n 0, 1) := by decide +kernel
theorem dX0_isBetter_60 : decode cX0_isBetter 60 = .ok (.iload_n 1, 1) := by decide +kernel
theorem dX0_isBetter_61 : decode cX0_isBetter 61 = .ok (.invokevirtual 86, 3) := by decide +kernel
theorem dX0_isBetter_64 : decode cX0_isBetter 64 = .ok (.aload_n 0, 1) := by decide +kernel
theorem dX0_isBetter_65 : decode cX0_isBetter 65 = .ok (.iload_n 2, 1) := by decide +kernel
theorem dX0_isBetter_66 : decode cX0_isBetter 66 = .ok (.invokevirtual 86, 3) := by decide +kernel
theorem dX0_isBetter_69 : decode cX0_isBetter 69 = .ok (.if_icmp .eq 22, 3) := by decide +kernel
theorem dX0_isBetter_72 : decode cX0_isBetter 72 = .ok (.aload_n 0, 1) := by decide +kernel
theorem dX0_isBetter_73 : decode cX0_isBetter 73 = .ok (.iload_n 1, 1) := by decide +kernel
theorem dX0_isBetter_74 : decode cX0_isBetter 74 = .ok (.invokevirtual 86, 3) := by decide +kernel
theorem dX0_isBetter_77 : decode cX0_isBetter 77 = .ok (.aload_n 0, 1) := by decide +kernel
theorem dX0_isBetter_78 : decode cX0_isBetter 78 = .ok (.iload_n 2, 1) := by decide +kernel
theorem dX0_isBetter_79 : decode cX0_isBetter 79 = .ok (.invokevirtual 86, 3) := by decide +kernel
theorem dX0_isBetter_82 : decode cX0_isBetter 82 = .ok (.if_icmp .le 7, 3) := by decide +kernel
theorem dX0_isBetter_85 : decode cX0_isBetter 85 = .ok (.iconst 1, 1) := by decide +kernel
theorem dX0_isBetter_86 : decode cX0_isBetter 86 = .ok (.goto 4, 3) := by decide +kernel
theorem dX0_isBetter_89 : decode cX0_isBetter 89 = .ok (.iconst 0, 1) := by decide +kernel
theorem dX0_isBetter_90 : decode cX0_isBetter 90 = .ok (.ireturn, 1) := by decide +kernel
theorem dX0_isBetter_91 : decode cX0_isBetter 91 = .ok (.aload_n 0, 1) := by decide +kernel
theorem dX0_isBetter_92 : decode cX0_isBetter 92 = .ok (.iload_n 1, 1) := by decide +kernel
theorem dX0_isBetter_93 : decode cX0_isBetter 93 = .ok (.invokevirtual 76, 3) := by decide +kernel
theorem dX0_isBetter_96 : decode cX0_isBetter 96 = .ok (.aload_n 0, 1) := by decide +kernel
theorem dX0_isBetter_97 : decode cX0_isBetter 97 = .ok (.iload_n 2, 1) := by decide +kernel
theorem dX0_isBetter_98 : decode cX0_isBetter 98 = .ok (.invokevirtual 76, 3) := by decide +kernel
theorem dX0_isBetter_101 : decode cX0_isBetter 101 = .ok (.if_icmp .eq 22, 3) := by decide +kernel
theorem dX0_isBetter_104 : decode cX0_isBetter 104 = .ok (.aload_n 0, 1) := by decide +kernel
theorem dX0_isBetter_105 : decode cX0_isBetter 105 = .ok (.iload_n 1, 1) := by decide +kernel
theorem dX0_isBetter_106 : decode cX0_isBetter 106 = .ok (.invokevirtual 76, 3) := by decide +kernel
theorem dX0_isBetter_109 : decode cX0_isBetter 109 = .ok (.aload_n 0, 1) := by decide +kernel
theorem dX0_isBetter_110 : decode cX0_isBetter 110 = .ok (.iload_n 2, 1) := by decide +kernel
theorem dX0_isBetter_111 : decode cX0_isBetter 111 = .ok (.invokevirtual 76, 3) := by decide +kernel
theorem dX0_isBetter_114 : decode cX0_isBetter 114 = .ok (.if_icmp .le 7, 3) := by decide +kernel
theorem dX0_isBetter_117 : decode cX0_isBetter 117 = .ok (.iconst 1, 1) := by decide +kernel
theorem dX0_isBetter_118 : decode cX0_isBetter 118 = .ok (.goto 4, 3) := by decide +kernel
theorem dX0_isBetter_121 : decode cX0_isBetter 121 = .ok (.iconst 0, 1) := by decide +kernel
theorem dX0_isBetter_122 : decode cX0_isBetter 122 = .ok (.ireturn, 1) := by decide +kernel
theorem dX0_isBetter_123 : decode cX0_isBetter 123 = .ok (.aload_n 0, 1) := by decide +kernel
theorem dX0_isBetter_124 : decode cX0_isBetter 124 = .ok (.iload_n 1, 1) := by decide +kernel
theorem dX0_isBetter_125 : decode cX0_isBetter 125 = .ok (.invokevirtual 63, 3) := by decide +kernel
theorem dX0_isBetter_128 : decode cX0_isBetter 128 = .ok (.invokestatic 71, 3) := by decide +kernel
theorem dX0_isBetter_131 : decode cX0_isBetter 131 = .ok (.istore_n 3, 1) := by decide +kernel
theorem dX0_isBetter_132 : decode cX0_isBetter 132 = .ok (.aload_n 0, 1) := by decide +kernel
theorem dX0_isBetter_133 : decode cX0_isBetter 133 = .ok (.iload_n 2, 1) := by decide +kernel
theorem dX0_isBetter_134 : decode cX0_isBetter 134 = .ok (.invokevirtual 63, 3) := by decide +kernel
theorem dX0_isBetter_137 : decode cX0_isBetter 137 = .ok (.invokestatic 71, 3) := by decide +kernel
theorem dX0_isBetter_140 : decode cX0_isBetter 140 = .ok (.istore 4, 2) := by decide +kernel
theorem dX0_isBetter_142 : decode cX0_isBetter 142 = .ok (.iload_n 3, 1) := by decide +kernel
theorem dX0_isBetter_143 : decode cX0_isBetter 143 = .ok (.iload 4, 2) := by decide +kernel
theorem dX0_isBetter_145 : decode cX0_isBetter 145 = .ok (.if_icmp .eq 17, 3) := by decide +kernel
theorem dX0_isBetter_148 : decode cX0_isBetter 148 = .ok (.iload_n 3, 1) := by decide +kernel
theorem dX0_isBetter_149 : decode cX0_isBetter 149 = .ok (.iload 4, 2) := by decide +kernel
theorem dX0_isBetter_151 : decode cX0_isBetter 151 = .ok (.if_icmp .ge 7, 3) := by decide +kernel
theorem dX0_isBetter_154 : decode cX0_isBetter 154 = .ok (.iconst 1, 1) := by decide +kernel
theorem dX0_isBetter_155 : decode cX0_isBetter 155 = .ok (.goto 25, 3) := by decide +kernel
theorem dX0_isBetter_158 : decode cX0_isBetter 158 = .ok (.iconst 0, 1) := by decide +kernel
theorem dX0_isBetter_159 : decode cX0_isBetter 159 = .ok (.goto 21, 3) := by decide +kernel
theorem dX0_isBetter_162 : decode cX0_isBetter 162 = .ok (.aload_n 0, 1) := by decide +kernel
theorem dX0_isBetter_163 : decode cX0_isBetter 163 = .ok (.iload_n 1, 1) := by decide +kernel
theorem dX0_isBetter_164 : decode cX0_isBetter 164 = .ok (.invokevirtual 63, 3) := by decide +kernel
theorem dX0_isBetter_167 : decode cX0_isBetter 167 = .ok (.aload_n 0, 1) := by decide +kernel
theorem dX0_isBetter_168 : decode cX0_isBetter 168 = .ok (.iload_n 2, 1) := by decide +kernel
theorem dX0_isBetter_169 : decode cX0_isBetter 169 = .ok (.invokevirtual 63, 3) := by decide +kernel
theorem dX0_isBetter_172 : decode cX0_isBetter 172 = .ok (.if_icmp .ge 7, 3) := by decide +kernel
theorem dX0_isBetter_175 : decode cX0_isBetter 175 = .ok (.iconst 1, 1) := by decide +kernel
theorem dX0_isBetter_176 : decode cX0_isBetter 176 = .ok (.goto 4, 3) := by decide +kernel
theorem dX0_isBetter_179 : decode cX0_isBetter 179 = .ok (.iconst 0, 1) := by decide +kernel
theorem dX0_isBetter_180 : decode cX0_isBetter 180 = .ok (.ireturn, 1) := by decide +kernel
theorem dX1_init_0 : decode cX1_init 0 = .ok (.aload_n 0, 1) := by decide +kernel
theorem dX1_init_1 : decode cX1_init 1 = .ok (.invokespecial 3, 3) := by decide +kernel
theorem dX1_init_4 : decode cX1_init 4 = .ok (.aload_n 0, 1) := by decide +kernel
theorem dX1_init_5 : decode cX1_init 5 = .ok (.bipush 6, 2) := by decide +kernel
theorem dX1_init_7 : decode cX1_init 7 = .ok (.anewarray 9, 3) := by decide +kernel
theorem dX1_init_10 : decode cX1_init 10 = .ok (.putfield 11, 3) := by decide +kernel
theorem dX1_init_13 : decode cX1_init 13 = .ok (.return_, 1) := by decide +kernel
set_option maxRecDepth 20000 in
theorem ggX1_push_X2_init : GoodIn wsX1_push wsX2_init := goodIn_r _ [12, 13, 14, 15, 16, 17, 18, 19, 20, 41, 42, 43, 44, 45, 46, 47, 48, 49, 50, 51, 52] (by decide +kernel) (by decide +kernel)
set_option maxRecDepth 20000 in
theorem gX1_push_X2_init_n21 : GoodIn wsX1_push (wsX2_init) := ggX1_push_X2_init
set_option maxRecDepth 20000 in
theorem ggX1_push_X2_copyFrom : GoodIn wsX1_push wsX2_copyFrom := goodIn_r _ [24, 17, 25, 26, 27, 28, 19, 20, 29, 30, 31, 32, 33, 34, 35, 36, 37, 41, 42, 43, 44, 45, 46, 47, 48, 49, 50, 51, 52] (by decide +kernel) (by decide +kernel)
set_option maxRecDepth 20000 in
theorem gX1_push_X2_copyFrom : GoodIn wsX1_push (wsV RX1 22 RX2 yX2_copyFrom wsX2_copyFrom) := goodIn_app (goodIn_of _ (by decide +kernel)) ggX1_push_X2_copyFrom
theorem dX1_push_0 : decode cX1_push 0 = .ok (.aload_n 0, 1) := by decide +kernel
theorem dX1_push_1 : decode cX1_push 1 = .ok (.getfield 17, 3) := by decide +kernel
theorem dX1_push_4 : decode cX1_push 4 = .ok (.ifCond .lt 12, 3) := by decide +kernel
theorem dX1_push_7 : decode cX1_push 7 = .ok (.aload_n 0, 1) := by decide +kernel
theorem dX1_push_8 : decode cX1_push 8 = .ok (.getfield 17, 3) := by decide +kernel
theorem dX1_push_11 : decode cX1_push 11 = .ok (.bipush 6, 2) := by decide +kernel
theorem dX1_push_13 : decode cX1_push 13 = .ok (.if_icmp .lt 4, 3) := by decide +kernel
theorem dX1_push_16 : decode cX1_push 16 = .ok (.return_, 1) := by decide +kernel
theorem dX1_push_17 : decode cX1_push 17 = .ok (.aload_n 0, 1) := by decide +kernel
theorem dX1_push_18 : decode cX1_push 18 = .ok (.getfield 11, 3) := by decide +kernel
theorem dX1_push_21 : decode cX1_push 21 = .ok (.aload_n 0, 1) := by decide +kernel
theorem dX1_push_22 : decode cX1_push 22 = .ok (.getfield 17, 3) := by decide +kernel
theorem dX1_push_25 : decode cX1_push 25 = .ok (.aaload, 1) := by decide +kernel
theorem dX1_push_26 : decode cX1_push 26 = .ok (.astore_n 2, 1) := by decide +kernel
theorem dX1_push_27 : decode cX1_push 27 = .ok (.aload_n 2, 1) := by decide +kernel
theorem dX1_push_28 : decode cX1_push 28 = .ok (.ifnonnull 21, 3) := by decide +kernel
theorem dX1_push_31 : decode cX1_push 31 = .ok (.new 9, 3) := by decide +kernel
theorem dX1_push_34 : decode cX1_push 34 = .ok (.dup, 1) := by decide +kernel
theorem dX1_push_35 : decode cX1_push 35 = .ok (.invokespecial 21, 3) := by decide +kernel
theorem dX1_push_38 : decode cX1_push 38 = .ok (.astore_n 2, 1) := by decide +kernel
theorem dX1_push_39 : decode cX1_push 39 = .ok (.aload_n 0, 1) := by decide +kernel
theorem dX1_push_40 : decode cX1_push 40 = .ok (.getfield 11, 3) := by decide +kernel
theorem dX1_push_43 : decode cX1_push 43 = .ok (.aload_n 0, 1) := by decide +kernel
theorem dX1_push_44 : decode cX1_push 44 = .ok (.getfield 17, 3) := by decide +kernel
theorem dX1_push_47 : decode cX1_push 47 = .ok (.aload_n 2, 1) := by decide +kernel
theorem dX1_push_48 : decode cX1_push 48 = .ok (.aastore, 1) := by decide +kernel
theorem dX1_push_49 : decode cX1_push 49 = .ok (.aload_n 2, 1) := by decide +kernel
theorem dX1_push_50 : decode cX1_push 50 = .ok (.aload_n 1, 1) := by decide +kernel
theorem dX1_push_51 : decode cX1_push 51 = .ok (.invokevirtual 22, 3) := by decide +kernel
theorem dX1_push_54 : decode cX1_push 54 = .ok (.aload_n 0, 1) := by decide +kernel
theorem dX1_push_55 : decode cX1_push 55 = .ok (.aload_n 0, 1) := by decide +kernel
theorem dX1_push_56 : decode cX1_push 56 = .ok (.getfield 17, 3) := by decide +kernel
theorem dX1_push_59 : decode cX1_push 59 = .ok (.iconst 5, 1) := by decide +kernel
theorem dX1_push_60 : decode cX1_push 60 = .ok (.if_icmp .ne 7, 3) := by decide +kernel
theorem dX1_push_63 : decode cX1_push 63 = .ok (.iconst 0, 1) := by decide +kernel
theorem dX1_push_64 : decode cX1_push 64 = .ok (.goto 9, 3) := by decide +kernel
theorem dX1_push_67 : decode cX1_push 67 = .ok (.aload_n 0, 1) := by decide +kernel
theorem dX1_push_68 : decode cX1_push 68 = .ok (.getfield 17, 3) := by decide +kernel
theorem dX1_push_71 : decode cX1_push 71 = .ok (.iconst 1, 1) := by decide +kernel
theorem dX1_push_72 : decode cX1_push 72 = .ok (.iadd, 1) := by decide +kernel
theorem dX1_push_73 : decode cX1_push 73 = .ok (.putfield 17, 3) := by decide +kernel
theorem dX1_push_76 : decode cX1_push 76 = .ok (.aload_n 0, 1) := by decide +kernel
theorem dX1_push_77 : decode cX1_push 77 = .ok (.aload_n 0, 1) := by decide +kernel
theorem dX1_push_78 : decode cX1_push 78 = .ok (.getfield 26, 3) := by decide +kernel
theorem dX1_push_81 : decode cX1_push 81 = .ok (.iconst 1, 1) := by decide +kernel
theorem dX1_push_82 : decode cX1_push 82 = .ok (.iadd, 1) := by decide +kernel
theorem dX1_push_83 : decode cX1_push 83 = .ok (.bipush 6, 2) := by decide +kernel
theorem dX1_push_85 : decode cX1_push 85 = .ok (.invokestatic 29, 3) := by decide +kernel
theorem dX1_push_88 : decode cX1_push 88 = .ok (.putfield 26, 3) := by decide +kernel
theorem dX1_push_91 : decode cX1_push 91 = .ok (.return_, 1) := by decide +kernel
set_option maxRecDepth 20000 in
theorem ggX1_popInto_X2_copyFrom : GoodIn wsX1_popInto wsX2_copyFrom := goodIn_r _ [8, 9, 10, 11, 12, 13, 14, 15, 16, 17, 18, 19, 20, 21, 22, 23, 24, 28, 29, 30, 31, 32, 33, 34, 35, 36, 37, 38, 39] (by decide +kernel) (by decide +kernel)
set_option maxRecDepth 20000 in
theorem gX1_popInto_X2_copyFrom : GoodIn wsX1_popInto (wsV RX1 22 RX2 yX2_copyFrom wsX2_copyFrom) := goodIn_app (goodIn_of _ (by decide +kernel)) ggX1_popInto_X2_copyFrom
theorem dX1_popInto_0 : decode cX1_popInto 0 = .ok (.aload_n 0, 1) := by decide +kernel
theorem dX1_popInto_1 : decode cX1_popInto 1 = .ok (.getfield 17, 3) := by decide +kernel
theorem dX1_popInto_4 : decode cX1_popInto 4 = .ok (.ifCond .ne 7, 3) := by decide +kernel
theorem dX1_popInto_7 : decode cX1_popInto 7 = .ok (.iconst 5, 1) := by decide +kernel
theorem dX1_popInto_8 : decode cX1_popInto 8 = .ok (.goto 9, 3) := by decide +kernel
theorem dX1_popInto_11 : decode cX1_popInto 11 = .ok (.aload_n 0, 1) := by decide +kernel
theorem dX1_popInto_12 : decode cX1_popInto 12 = .ok (.getfield 17, 3) := by decide +kernel
theorem dX1_popInto_15 : decode cX1_popInto 15 = .ok (.iconst 1, 1) := by decide +kernel
theorem dX1_popInto_16 : decode cX1_popInto 16 = .ok (.isub, 1) := by decide +kernel
theorem dX1_popInto_17 : decode cX1_popInto 17 = .ok (.istore_n 2, 1) := by decide +kernel
theorem dX1_popInto_18 : decode cX1_popInto 18 = .ok (.aload_n 0, 1) := by decide +kernel
theorem dX1_popInto_19 : decode cX1_popInto 19 = .ok (.getfield 26, 3) := by decide +kernel
theorem dX1_popInto_22 : decode cX1_popInto 22 = .ok (.ifCond .eq 13, 3) := by decide +kernel
theorem dX1_popInto_25 : decode cX1_popInto 25 = .ok (.iload_n 2, 1) := by decide +kernel
theorem dX1_popInto_26 : decode cX1_popInto 26 = .ok (.ifCond .lt 9, 3) := by decide +kernel
theorem dX1_popInto_29 : decode cX1_popInto 29 = .ok (.iload_n 2, 1) := by decide +kernel
theorem dX1_popInto_30 : decode cX1_popInto 30 = .ok (.bipush 6, 2) := by decide +kernel
theorem dX1_popInto_32 : decode cX1_popInto 32 = .ok (.if_icmp .lt 5, 3) := by decide +kernel
theorem dX1_popInto_35 : decode cX1_popInto 35 = .ok (.iconst 0, 1) := by decide +kernel
theorem dX1_popInto_36 : decode cX1_popInto 36 = .ok (.ireturn, 1) := by decide +kernel
theorem dX1_popInto_37 : decode cX1_popInto 37 = .ok (.aload_n 0, 1) := by decide +kernel
theorem dX1_popInto_38 : decode cX1_popInto 38 = .ok (.getfield 11, 3) := by decide +kernel
theorem dX1_popInto_41 : decode cX1_popInto 41 = .ok (.iload_n 2, 1) := by decide +kernel
theorem dX1_popInto_42 : decode cX1_popInto 42 = .ok (.aaload, 1) := by decide +kernel
theorem dX1_popInto_43 : decode cX1_popInto 43 = .ok (.astore_n 3, 1) := by decide +kernel
theorem dX1_popInto_44 : decode cX1_popInto 44 = .ok (.aload_n 3, 1) := by decide +kernel
theorem dX1_popInto_45 : decode cX1_popInto 45 = .ok (.ifnonnull 5, 3) := by decide +kernel
theorem dX1_popInto_48 : decode cX1_popInto 48 = .ok (.iconst 0, 1) := by decide +kernel
theorem dX1_popInto_49 : decode cX1_popInto 49 = .ok (.ireturn, 1) := by decide +kernel
theorem dX1_popInto_50 : decode cX1_popInto 50 = .ok (.aload_n 1, 1) := by decide +kernel
theorem dX1_popInto_51 : decode cX1_popInto 51 = .ok (.aload_n 3, 1) := by decide +kernel
theorem dX1_popInto_52 : decode cX1_popInto 52 = .ok (.invokevirtual 22, 3) := by decide +kernel
theorem dX1_popInto_55 : decode cX1_popInto 55 = .ok (.aload_n 0, 1) := by decide +kernel
theorem dX1_popInto_56 : decode cX1_popInto 56 = .ok (.iload_n 2, 1) := by decide +kernel
theorem dX1_popInto_57 : decode cX1_popInto 57 = .ok (.putfield 17, 3) := by decide +kernel
theorem dX1_popInto_60 : decode cX1_popInto 60 = .ok (.aload_n 0, 1) := by decide +kernel
theorem dX1_popInto_61 : decode cX1_popInto 61 = .ok (.dup, 1) := by decide +kernel
theorem dX1_popInto_62 : decode cX1_popInto 62 = .ok (.getfield 26, 3) := by decide +kernel
theorem dX1_popInto_65 : decode cX1_popInto 65 = .ok (.iconst 1, 1) := by decide +kernel
theorem dX1_popInto_66 : decode cX1_popInto 66 = .ok (.isub, 1) := by decide +kernel
theorem dX1_popInto_67 : decode cX1_popInto 67 = .ok (.putfield 26, 3) := by decide +kernel
theorem dX1_popInto_70 : decode cX1_popInto 70 = .ok (.iconst 1, 1) := by decide +kernel
theorem dX1_popInto_71 : decode cX1_popInto 71 = .ok (.ireturn, 1) := by decide +kernel
theorem dX2_init_0 : decode cX2_init 0 = .ok (.aload_n 0, 1) := by decide +kernel
theorem dX2_init_1 : decode cX2_init 1 = .ok (.invokespecial 3, 3) := by decide +kernel
theorem dX2_init_4 : decode cX2_init 4 = .ok (.aload_n 0, 1) := by decide +kernel
theorem dX2_init_5 : decode cX2_init 5 = .ok (.bipush 30, 2) := by decide +kernel
theorem dX2_init_7 : decode cX2_init 7 = .ok (.newarray .long, 2) := by decide +kernel
theorem dX2_init_9 : decode cX2_init 9 = .ok (.putfield 9, 3) := by decide +kernel
theorem dX2_init_12 : decode cX2_init 12 = .ok (.aload_n 0, 1) := by decide +kernel
theorem dX2_init_13 : decode cX2_init 13 = .ok (.bipush 26, 2) := by decide +kernel
theorem dX2_init_15 : decode cX2_init 15 = .ok (.newarray .int, 2) := by decide +kernel
theorem dX2_init_17 : decode cX2_init 17 = .ok (.putfield 15, 3) := by decide +kernel
theorem dX2_init_20 : decode cX2_init 20 = .ok (.aload_n 0, 1) := by decide +kernel
theorem dX2_init_21 : decode cX2_init 21 = .ok (.bipush 7, 2) := by decide +kernel
theorem dX2_init_23 : decode cX2_init 23 = .ok (.newarray .int, 2) := by decide +kernel
theorem dX2_init_25 : decode cX2_init 25 = .ok (.putfield 19, 3) := by decide +kernel
theorem dX2_init_28 : decode cX2_init 28 = .ok (.return_, 1) := by decide +kernel
theorem dX2_copyFrom_0 : decode cX2_copyFrom 0 = .ok (.aload_n 1, 1) := by decide +kernel
theorem dX2_copyFrom_1 : decode cX2_copyFrom 1 = .ok (.getfield 9, 3) := by decide +kernel
theorem dX2_copyFrom_4 : decode cX2_copyFrom 4 = .ok (.iconst 0, 1) := by decide +kernel
theorem dX2_copyFrom_5 : decode cX2_copyFrom 5 = .ok (.aload_n 0, 1) := by decide +kernel
theorem dX2_copyFrom_6 : decode cX2_copyFrom 6 = .ok (.getfield 9, 3) := by decide +kernel
theorem dX2_copyFrom_9 : decode cX2_copyFrom 9 = .ok (.iconst 0, 1) := by decide +kernel
theorem dX2_copyFrom_10 : decode cX2_copyFrom 10 = .ok (.bipush 30, 2) := by decide +kernel
theorem dX2_copyFrom_12 : decode cX2_copyFrom 12 = .ok (.invokestatic 22, 3) := by decide +kernel
theorem dX2_copyFrom_15 : decode cX2_copyFrom 15 = .ok (.aload_n 1, 1) := by decide +kernel
theorem dX2_copyFrom_16 : decode cX2_copyFrom 16 = .ok (.getfield 15, 3) := by decide +kernel
theorem dX2_copyFrom_19 : decode cX2_copyFrom 19 = .ok (.iconst 0, 1) := by decide +kernel
theorem dX2_copyFrom_20 : decode cX2_copyFrom 20 = .ok (.aload_n 0, 1) := by decide +kernel
theorem dX2_copyFrom_21 : decode cX2_copyFrom 21 = .ok (.getfield 15, 3) := by decide +kernel
theorem dX2_copyFrom_24 : decode cX2_copyFrom 24 = .ok (.iconst 0, 1) := by decide +kernel
theorem dX2_copyFrom_25 : decode cX2_copyFrom 25 = .ok (.bipush 26, 2) := by decide +kernel
theorem dX2_copyFrom_27 : decode cX2_copyFrom 27 = .ok (.invokestatic 22, 3) := by decide +kernel
theorem dX2_copyFrom_30 : decode cX2_copyFrom 30 = .ok (.aload_n 1, 1) := by decide +kernel
theorem dX2_copyFrom_31 : decode cX2_copyFrom 31 = .ok (.getfield 19, 3) := by decide +kernel
theorem dX2_copyFrom_34 : decode cX2_copyFrom 34 = .ok (.iconst 0, 1) := by decide +kernel
theorem dX2_copyFrom_35 : decode cX2_copyFrom 35 = .ok (.aload_n 0, 1) := by decide +kernel
theorem dX2_copyFrom_36 : decode cX2_copyFrom 36 = .ok (.getfield 19, 3) := by decide +kernel
theorem dX2_copyFrom_39 : decode cX2_copyFrom 39 = .ok (.iconst 0, 1) := by decide +kernel
theorem dX2_copyFrom_40 : decode cX2_copyFrom 40 = .ok (.bipush 7, 2) := by decide +kernel
theorem dX2_copyFrom_42 : decode cX2_copyFrom 42 = .ok (.invokestatic 22, 3) := by decide +kernel
theorem dX2_copyFrom_45 : decode cX2_copyFrom 45 = .ok (.aload_n 0, 1) := by decide +kernel
theorem dX2_copyFrom_46 : decode cX2_copyFrom 46 = .ok (.aload_n 1, 1) := by decide +kernel
theorem dX2_copyFrom_47 : decode cX2_copyFrom 47 = .ok (.getfield 28, 3) := by decide +kernel
theorem dX2_copyFrom_50 : decode cX2_copyFrom 50 = .ok (.putfield 28, 3) := by decide +kernel
theorem dX2_copyFrom_53 : decode cX2_copyFrom 53 = .ok (.aload_n 0, 1) := by decide +kernel
theorem dX2_copyFrom_54 : decode cX2_copyFrom 54 = .ok (.aload_n 1, 1) := by decide +kernel
theorem dX2_copyFrom_55 : decode cX2_copyFrom 55 = .ok (.getfield 32, 3) := by decide +kernel
theorem dX2_copyFrom_58 : decode cX2_copyFrom 58 = .ok (.putfield 32, 3) := by decide +kernel
theorem dX2_copyFrom_61 : decode cX2_copyFrom 61 = .ok (.aload_n 0, 1) := by decide +kernel
theorem dX2_copyFrom_62 : decode cX2_copyFrom 62 = .ok (.aload_n 1, 1) := by decide +kernel
theorem dX2_copyFrom_63 : decode cX2_copyFrom 63 = .ok (.getfield 35, 3) := by decide +kernel
theorem dX2_copyFrom_66 : decode cX2_copyFrom 66 = .ok (.putfield 35, 3) := by decide +kernel
theorem dX2_copyFrom_69 : decode cX2_copyFrom 69 = .ok (.aload_n 0, 1) := by decide +kernel
theorem dX2_copyFrom_70 : decode cX2_copyFrom 70 = .ok (.aload_n 1, 1) := by decide +kernel
theorem dX2_copyFrom_71 : decode cX2_copyFrom 71 = .ok (.getfield 38, 3) := by decide +kernel
theorem dX2_copyFrom_74 : decode cX2_copyFrom 74 = .ok (.putfield 38, 3) := by decide +kernel
theorem dX2_copyFrom_77 : decode cX2_copyFrom 77 = .ok (.aload_n 0, 1) := by decide +kernel
theorem dX2_copyFrom_78 : decode cX2_copyFrom 78 = .ok (.aload_n 1, 1) := by decide +kernel
theorem dX2_copyFrom_79 : decode cX2_copyFrom 79 = .ok (.getfield 41, 3) := by decide +kernel
theorem dX2_copyFrom_82 : decode cX2_copyFrom 82 = .ok (.putfield 41, 3) := by decide +kernel
theorem dX2_copyFrom_85 : decode cX2_copyFrom 85 = .ok (.aload_n 0, 1) := by decide +kernel
theorem dX2_copyFrom_86 : decode cX2_copyFrom 86 = .ok (.aload_n 1, 1) := by decide +kernel
theorem dX2_copyFrom_87 : decode cX2_copyFrom 87 = .ok (.getfield 44, 3) := by decide +kernel
theorem dX2_copyFrom_90 : decode cX2_copyFrom 90 = .ok (.putfield 44, 3) := by decide +kernel
theorem dX2_copyFrom_93 : decode cX2_copyFrom 93 = .ok (.aload_n 0, 1) := by decide +kernel
theorem dX2_copyFrom_94 : decode cX2_copyFrom 94 = .ok (.aload_n 1, 1) := by decide +kernel
theorem dX2_copyFrom_95 : decode cX2_copyFrom 95 = .ok (.getfield 47, 3) := by decide +kernel
theorem dX2_copyFrom_98 : decode cX2_copyFrom 98 = .ok (.putfield 47, 3) := by decide +kernel
theorem dX2_copyFrom_101 : decode cX2_copyFrom 101 = .ok (.aload_n 0, 1) := by decide +kernel
theorem dX2_copyFrom_102 : decode cX2_copyFrom 102 = .ok (.aload_n 1, 1) := by decide +kernel
theorem dX2_copyFrom_103 : decode cX2_copyFrom 103 = .ok (.getfield 50, 3) := by decide +kernel
theorem dX2_copyFrom_106 : decode cX2_copyFrom 106 = .ok (.putfield 50, 3) := by decide +kernel
theorem dX2_copyFrom_109 : decode cX2_copyFrom 109 = .ok (.aload_n 0, 1) := by decide +kernel
theorem dX2_copyFrom_110 : decode cX2_copyFrom 110 = .ok (.aload_n 1, 1) := by decide +kernel
theorem dX2_copyFrom_111 : decode cX2_copyFrom 111 = .ok (.getfield 53, 3) := by decide +kernel
theorem dX2_copyFrom_114 : decode cX2_copyFrom 114 = .ok (.putfield 53, 3) := by decide +kernel
theorem dX2_copyFrom_117 : decode cX2_copyFrom 117 = .ok (.return_, 1) := by decide +kernel
theorem dX2_hasWord_0 : decode cX2_hasWord 0 = .ok (.iload_n 1, 1) := by decide +kernel
theorem dX2_hasWord_1 : decode cX2_hasWord 1 = .ok (.ifCond .lt 21, 3) := by decide +kernel
theorem dX2_hasWord_4 : decode cX2_hasWord 4 = .ok (.iload_n 1, 1) := by decide +kernel
theorem dX2_hasWord_5 : decode cX2_hasWord 5 = .ok (.aload_n 0, 1) := by decide +kernel
theorem dX2_hasWord_6 : decode cX2_hasWord 6 = .ok (.getfield 28, 3) := by decide +kernel
theorem dX2_hasWord_9 : decode cX2_hasWord 9 = .ok (.if_icmp .ge 13, 3) := by decide +kernel
theorem dX2_hasWord_12 : decode cX2_hasWord 12 = .ok (.iload_n 1, 1) := by decide +kernel
theorem dX2_hasWord_13 : decode cX2_hasWord 13 = .ok (.bipush 30, 2) := by decide +kernel
theorem dX2_hasWord_15 : decode cX2_hasWord 15 = .ok (.if_icmp .ge 7, 3) := by decide +kernel
theorem dX2_hasWord_18 : decode cX2_hasWord 18 = .ok (.iconst 1, 1) := by decide +kernel
theorem dX2_hasWord_19 : decode cX2_hasWord 19 = .ok (.goto 4, 3) := by decide +kernel
theorem dX2_hasWord_22 : decode cX2_hasWord 22 = .ok (.iconst 0, 1) := by decide +kernel
theorem dX2_hasWord_23 : decode cX2_hasWord 23 = .ok (.ireturn, 1) := by decide +kernel
set_option maxRecDepth 20000 in
theorem ggX2_wordAt_X2_hasWord : GoodIn wsX2_wordAt wsX2_hasWord := goodIn_r _ [6, 7, 8, 9, 10, 11, 12, 13, 14, 15, 16, 17, 18, 19] (by decide +kernel) (by decide +kernel)
set_option maxRecDepth 20000 in
theorem gX2_wordAt_X2_hasWord : GoodIn wsX2_wordAt (wsV RX2 57 RX2 yX2_hasWord wsX2_hasWord) := goodIn_app (goodIn_of _ (by decide +kernel)) ggX2_wordAt_X2_hasWord
theorem dX2_wordAt_0 : decode cX2_wordAt 0 = .ok (.aload_n 0, 1) := by decide +kernel
theorem dX2_wordAt_1 : decode cX2_wordAt 1 = .ok (.iload_n 1, 1) := by decide +kernel
theorem dX2_wordAt_2 : decode cX2_wordAt 2 = .ok (.invokevirtual 57, 3) := by decide +kernel
theorem dX2_wordAt_5 : decode cX2_wordAt 5 = .ok (.ifCond .eq 12, 3) := by decide +kernel
theorem dX2_wordAt_8 : decode cX2_wordAt 8 = .ok (.aload_n 0, 1) := by decide +kernel
theorem dX2_wordAt_9 : decode cX2_wordAt 9 = .ok (.getfield 9, 3) := by decide +kernel
theorem dX2_wordAt_12 : decode cX2_wordAt 12 = .ok (.iload_n 1, 1) := by decide +kernel
theorem dX2_wordAt_13 : decode cX2_wordAt 13 = .ok (.laload, 1) := by decide +kernel
theorem dX2_wordAt_14 : decode cX2_wordAt 14 = .ok (.goto 4, 3) := by decide +kernel
theorem dX2_wordAt_17 : decode cX2_wordAt 17 = .ok (.lconst 0, 1) := by decide +kernel
theorem dX2_wordAt_18 : decode cX2_wordAt 18 = .ok (.lreturn, 1) := by decide +kernel
set_option maxRecDepth 20000 in
theorem ggX2_isInList_X2_numberOf : GoodIn wsX2_isInList wsX2_numberOf := goodIn_r _ [5, 6, 7, 8, 9, 4, 10, 11, 12, 13, 14, 15, 16, 17, 18, 19, 20, 21, 22, 23, 24, 25, 26, 27] (by decide +kernel) (by decide +kernel)
set_option maxRecDepth 20000 in
theorem gX2_isInList_X2_numberOf : GoodIn wsX2_isInList (wsV RX2 63 RX2 yX2_numberOf wsX2_numberOf) := goodIn_app (goodIn_of _ (by decide +kernel)) ggX2_isInList_X2_numberOf
theorem dX2_isInList_0 : decode cX2_isInList 0 = .ok (.aload_n 0, 1) := by decide +kernel
theorem dX2_isInList_1 : decode cX2_isInList 1 = .ok (.lload_n 1, 1) := by decide +kernel
theorem dX2_isInList_2 : decode cX2_isInList 2 = .ok (.invokevirtual 63, 3) := by decide +kernel
theorem dX2_isInList_5 : decode cX2_isInList 5 = .ok (.iconst (-1), 1) := by decide +kernel
theorem dX2_isInList_6 : decode cX2_isInList 6 = .ok (.if_icmp .eq 7, 3) := by decide +kernel
theorem dX2_isInList_9 : decode cX2_isInList 9 = .ok (.iconst 1, 1) := by decide +kernel
theorem dX2_isInList_10 : decode cX2_isInList 10 = .ok (.goto 4, 3) := by decide +kernel
theorem dX2_isInList_13 : decode cX2_isInList 13 = .ok (.iconst 0, 1) := by decide +kernel
theorem dX2_isInList_14 : decode cX2_isInList 14 = .ok (.ireturn, 1) := by decide +kernel
set_option maxRecDepth 20000 in
theorem ggX2_numberOf_X2_wordAt : GoodIn wsX2_numberOf wsX2_wordAt := goodIn_r _ [6, 7, 8, 9, 10, 5, 11, 1, 12, 13, 14, 15, 16, 17, 18, 19, 20, 21, 22, 23] (by decide +kernel) (by decide +kernel)
set_option maxRecDepth 20000 in
theorem gX2_numberOf_X2_wordAt : GoodIn wsX2_numberOf (wsV RX2 67 RX2 yX2_wordAt wsX2_wordAt) := goodIn_app (goodIn_of _ (by decide +kernel)) ggX2_numberOf_X2_wordAt
theorem dX2_numberOf_0 : decode cX2_numberOf 0 = .ok (.iconst 0, 1) := by decide +kernel
theorem dX2_numberOf_1 : decode cX2_numberOf 1 = .ok (.istore_n 3, 1) := by decide +kernel
theorem dX2_numberOf_2 : decode cX2_numberOf 2 = .ok (.iload_n 3, 1) := by decide +kernel
theorem dX2_numberOf_3 : decode cX2_numberOf 3 = .ok (.aload_n 0, 1) := by decide +kernel
theorem dX2_numberOf_4 : decode cX2_numberOf 4 = .ok (.getfield 28, 3) := by decide +kernel
theorem dX2_numberOf_7 : decode cX2_numberOf 7 = .ok (.if_icmp .ge 21, 3) := by decide +kernel
theorem dX2_numberOf_10 : decode cX2_numberOf 10 = .ok (.aload_n 0, 1) := by decide +kernel
theorem dX2_numberOf_11 : decode cX2_numberOf 11 = .ok (.iload_n 3, 1) := by decide +kernel
theorem dX2_numberOf_12 : decode cX2_numberOf 12 = .ok (.invokevirtual 67, 3) := by decide +kernel
theorem dX2_numberOf_15 : decode cX2_numberOf 15 = .ok (.lload_n 1, 1) := by decide +kernel
theorem dX2_numberOf_16 : decode cX2_numberOf 16 = .ok (.lcmp, 1) := by decide +kernel
theorem dX2_numberOf_17 : decode cX2_numberOf 17 = .ok (.ifCond .ne 5, 3) := by decide +kernel
theorem dX2_numberOf_20 : decode cX2_numberOf 20 = .ok (.iload_n 3, 1) := by decide +kernel
theorem dX2_numberOf_21 : decode cX2_numberOf 21 = .ok (.ireturn, 1) := by decide +kernel
theorem dX2_numberOf_22 : decode cX2_numberOf 22 = .ok (.iinc 3 1, 3) := by decide +kernel
theorem dX2_numberOf_25 : decode cX2_numberOf 25 = .ok (.goto (-23), 3) := by decide +kernel
theorem dX2_numberOf_28 : decode cX2_numberOf 28 = .ok (.iconst (-1), 1) := by decide +kernel
theorem dX2_numberOf_29 : decode cX2_numberOf 29 = .ok (.ireturn, 1) := by decide +kernel
theorem dX2_insert_0 : decode cX2_insert 0 = .ok (.aload_n 0, 1) := by decide +kernel
theorem dX2_insert_1 : decode cX2_insert 1 = .ok (.getfield 28, 3) := by decide +kernel
theorem dX2_insert_4 : decode cX2_insert 4 = .ok (.ifCond .lt 12, 3) := by decide +kernel
theorem dX2_insert_7 : decode cX2_insert 7 = .ok (.aload_n 0, 1) := by decide +kernel
theorem dX2_insert_8 : decode cX2_insert 8 = .ok (.getfield 28, 3) := by decide +kernel
theorem dX2_insert_11 : decode cX2_insert 11 = .ok (.bipush 30, 2) := by decide +kernel
theorem dX2_insert_13 : decode cX2_insert 13 = .ok (.if_icmp .lt 5, 3) := by decide +kernel
theorem dX2_insert_16 : decode cX2_insert 16 = .ok (.iconst 0, 1) := by decide +kernel
theorem dX2_insert_17 : decode cX2_insert 17 = .ok (.ireturn, 1) := by decide +kernel
theorem dX2_insert_18 : decode cX2_insert 18 = .ok (.aload_n 0, 1) := by decide +kernel
theorem dX2_insert_19 : decode cX2_insert 19 = .ok (.getfield 28, 3) := by decide +kernel
theorem dX2_insert_22 : decode cX2_insert 22 = .ok (.istore_n 3, 1) := by decide +kernel
theorem dX2_insert_23 : decode cX2_insert 23 = .ok (.iload_n 3, 1) := by decide +kernel
theorem dX2_insert_24 : decode cX2_insert 24 = .ok (.ifCond .le 36, 3) := by decide +kernel
theorem dX2_insert_27 : decode cX2_insert 27 = .ok (.aload_n 0, 1) := by decide +kernel
theorem dX2_insert_28 : decode cX2_insert 28 = .ok (.getfield 9, 3) := by decide +kernel
theorem dX2_insert_31 : decode cX2_insert 31 = .ok (.iload_n 3, 1) := by decide +kernel
theorem dX2_insert_32 : decode cX2_insert 32 = .ok (.iconst 1, 1) := by decide +kernel
theorem dX2_insert_33 : decode cX2_insert 33 = .ok (.isub, 1) := by decide +kernel
theorem dX2_insert_34 : decode cX2_insert 34 = .ok (.laload, 1) := by decide +kernel
theorem dX2_insert_35 : decode cX2_insert 35 = .ok (.lload_n 1, 1) := by decide +kernel
theorem dX2_insert_36 : decode cX2_insert 36 = .ok (.lcmp, 1) := by decide +kernel
theorem dX2_insert_37 : decode cX2_insert 37 = .ok (.ifCond .le 23, 3) := by decide +kernel
theorem dX2_insert_40 : decode cX2_insert 40 = .ok (.aload_n 0, 1) := by decide +kernel
theorem dX2_insert_41 : decode cX2_insert 41 = .ok (.getfield 9, 3) := by decide +kernel
theorem dX2_insert_44 : decode cX2_insert 44 = .ok (.iload_n 3, 1) := by decide +kernel
theorem dX2_insert_45 : decode cX2_insert 45 = .ok (.aload_n 0, 1) := by decide +kernel
theorem dX2_insert_46 : decode cX2_insert 46 = .ok (.getfield 9, 3) := by decide +kernel
theorem dX2_insert_49 : decode cX2_insert 49 = .ok (.iload_n 3, 1) := by decide +kernel
theorem dX2_insert_50 : decode cX2_insert 50 = .ok (.iconst 1, 1) := by decide +kernel
theorem dX2_insert_51 : decode cX2_insert 51 = .ok (.isub, 1) := by decide +kernel
theorem dX2_insert_52 : decode cX2_insert 52 = .ok (.laload, 1) := by decide +kernel
theorem dX2_insert_53 : decode cX2_insert 53 = .ok (.lastore, 1) := by decide +kernel
theorem dX2_insert_54 : decode cX2_insert 54 = .ok (.iinc 3 (-1), 3) := by decide +kernel
theorem dX2_insert_57 : decode cX2_insert 57 = .ok (.goto (-34), 3) := by decide +kernel
theorem dX2_insert_60 : decode cX2_insert 60 = .ok (.aload_n 0, 1) := by decide +kernel
theorem dX2_insert_61 : decode cX2_insert 61 = .ok (.getfield 9, 3) := by decide +kernel
theorem dX2_insert_64 : decode cX2_insert 64 = .ok (.iload_n 3, 1) := by decide +kernel
theorem dX2_insert_65 : decode cX2_insert 65 = .ok (.lload_n 1, 1) := by decide +kernel
theorem dX2_insert_66 : decode cX2_insert 66 = .ok (.lastore, 1) := by decide +kernel
theorem dX2_insert_67 : decode cX2_insert 67 = .ok (.aload_n 0, 1) := by decide +kernel
theorem dX2_insert_68 : decode cX2_insert 68 = .ok (.dup, 1) := by decide +kernel
theorem dX2_insert_69 : decode cX2_insert 69 = .ok (.getfield 28, 3) := by decide +kernel
theorem dX2_insert_72 : decode cX2_insert 72 = .ok (.iconst 1, 1) := by decide +kernel
theorem dX2_insert_73 : decode cX2_insert 73 = .ok (.iadd, 1) := by decide +kernel
theorem dX2_insert_74 : decode cX2_insert 74 = .ok (.putfield 28, 3) := by decide +kernel
theorem dX2_insert_77 : decode cX2_insert 77 = .ok (.iconst 1, 1) := by decide +kernel
theorem dX2_insert_78 : decode cX2_insert 78 = .ok (.ireturn, 1) := by decide +kernel
set_option maxRecDepth 20000 in
theorem ggX2_remove_X2_hasWord : GoodIn wsX2_remove wsX2_hasWord := goodIn_r _ [7, 2, 8, 9, 10, 11, 12, 13, 14, 15, 16, 17, 18, 19] (by decide +kernel) (by decide +kernel)
set_option maxRecDepth 20000 in
theorem gX2_remove_X2_hasWord : GoodIn wsX2_remove (wsV RX2 57 RX2 yX2_hasWord wsX2_hasWord) := goodIn_app (goodIn_of _ (by decide +kernel)) ggX2_remove_X2_hasWord
theorem dX2_remove_0 : decode cX2_remove 0 = .ok (.aload_n 0, 1) := by decide +kernel
theorem dX2_remove_1 : decode cX2_remove 1 = .ok (.iload_n 1, 1) := by decide +kernel
theorem dX2_remove_2 : decode cX2_remove 2 = .ok (.invokevirtual 57, 3) := by decide +kernel
theorem dX2_remove_5 : decode cX2_remove 5 = .ok (.ifCond .ne 4, 3) := by decide +kernel
theorem dX2_remove_8 : decode cX2_remove 8 = .ok (.return_, 1) := by decide +kernel
theorem dX2_remove_9 : decode cX2_remove 9 = .ok (.iload_n 1, 1) := by decide +kernel
theorem dX2_remove_10 : decode cX2_remove 10 = .ok (.istore_n 2, 1) := by decide +kernel
theorem dX2_remove_11 : decode cX2_remove 11 = .ok (.iload_n 2, 1) := by decide +kernel
theorem dX2_remove_12 : decode cX2_remove 12 = .ok (.bipush 29, 2) := by decide +kernel
theorem dX2_remove_14 : decode cX2_remove 14 = .ok (.if_icmp .ge 23, 3) := by decide +kernel
theorem dX2_remove_17 : decode cX2_remove 17 = .ok (.aload_n 0, 1) := by decide +kernel
theorem dX2_remove_18 : decode cX2_remove 18 = .ok (.getfield 9, 3) := by decide +kernel
theorem dX2_remove_21 : decode cX2_remove 21 = .ok (.iload_n 2, 1) := by decide +kernel
theorem dX2_remove_22 : decode cX2_remove 22 = .ok (.aload_n 0, 1) := by decide +kernel
theorem dX2_remove_23 : decode cX2_remove 23 = .ok (.getfield 9, 3) := by decide +kernel
theorem dX2_remove_26 : decode cX2_remove 26 = .ok (.iload_n 2, 1) := by decide +kernel
theorem dX2_remove_27 : decode cX2_remove 27 = .ok (.iconst 1, 1) := by decide +kernel
theorem dX2_remove_28 : decode cX2_remove 28 = .ok (.iadd, 1) := by decide +kernel
theorem dX2_remove_29 : decode cX2_remove 29 = .ok (.laload, 1) := by decide +kernel
theorem dX2_remove_30 : decode cX2_remove 30 = .ok (.lastore, 1) := by decide +kernel
theorem dX2_remove_31 : decode cX2_remove 31 = .ok (.iinc 2 1, 3) := by decide +kernel
theorem dX2_remove_34 : decode cX2_remove 34 = .ok (.goto (-23), 3) := by decide +kernel
theorem dX2_remove_37 : decode cX2_remove 37 = .ok (.aload_n 0, 1) := by decide +kernel
theorem dX2_remove_38 : decode cX2_remove 38 = .ok (.dup, 1) := by decide +kernel
theorem dX2_remove_39 : decode cX2_remove 39 = .ok (.getfield 28, 3) := by decide +kernel
theorem dX2_remove_42 : decode cX2_remove 42 = .ok (.iconst 1, 1) := by decide +kernel
theorem dX2_remove_43 : decode cX2_remove 43 = .ok (.isub, 1) := by decide +kernel
theorem dX2_remove_44 : decode cX2_remove 44 = .ok (.putfield 28, 3) := by decide +kernel
theorem dX2_remove_47 : decode cX2_remove 47 = .ok (.return_, 1) := by decide +kernel
set_option maxRecDepth 20000 in
theorem ggX2_wordsOfLength_X2_wordAt : GoodIn wsX2_wordsOfLength wsX2_wordAt := goodIn_r _ [6, 7, 8, 9, 10, 5, 11, 1, 22, 23, 24, 25, 26, 27, 28, 29, 30, 31, 32, 33] (by decide +kernel) (by decide +kernel)
set_option maxRecDepth 20000 in
theorem gX2_wordsOfLength_X2_wordAt : GoodIn wsX2_wordsOfLength (wsV RX2 67 RX2 yX2_wordAt wsX2_wordAt) := goodIn_app (goodIn_of _ (by decide +kernel)) ggX2_wordsOfLength_X2_wordAt
set_option maxRecDepth 20000 in
theorem ggX2_wordsOfLength_X4_lengthOf : GoodIn wsX2_wordsOfLength wsX4_lengthOf := goodIn_r _ [15, 16, 17, 14, 18, 19, 20, 21] (by decide +kernel) (by decide +kernel)
set_option maxRecDepth 20000 in
theorem gX2_wordsOfLength_X4_lengthOf : GoodIn wsX2_wordsOfLength (va_wsS RX2 71 yX4_lengthOf wsX4_lengthOf) := goodIn_app (goodIn_of _ (by decide +kernel)) ggX2_wordsOfLength_X4_lengthOf
theorem dX2_wordsOfLength_0 : decode cX2_wordsOfLength 0 = .ok (.iconst 0, 1) := by decide +kernel
theorem dX2_wordsOfLength_1 : decode cX2_wordsOfLength 1 = .ok (.istore_n 2, 1) := by decide +kernel
theorem dX2_wordsOfLength_2 : decode cX2_wordsOfLength 2 = .ok (.iconst 0, 1) := by decide +kernel
theorem dX2_wordsOfLength_3 : decode cX2_wordsOfLength 3 = .ok (.istore_n 3, 1) := by decide +kernel
theorem dX2_wordsOfLength_4 : decode cX2_wordsOfLength 4 = .ok (.iload_n 3, 1) := by decide +kernel
theorem dX2_wordsOfLength_5 : decode cX2_wordsOfLength 5 = .ok (.aload_n 0, 1) := by decide +kernel
theorem dX2_wordsOfLength_6 : decode cX2_wordsOfLength 6 = .ok (.getfield 28, 3) := by decide +kernel
theorem dX2_wordsOfLength_9 : decode cX2_wordsOfLength 9 = .ok (.if_icmp .ge 27, 3) := by decide +kernel
theorem dX2_wordsOfLength_12 : decode cX2_wordsOfLength 12 = .ok (.aload_n 0, 1) := by decide +kernel
theorem dX2_wordsOfLength_13 : decode cX2_wordsOfLength 13 = .ok (.iload_n 3, 1) := by decide +kernel
theorem dX2_wordsOfLength_14 : decode cX2_wordsOfLength 14 = .ok (.invokevirtual 67, 3) := by decide +kernel
theorem dX2_wordsOfLength_17 : decode cX2_wordsOfLength 17 = .ok (.invokestatic 71, 3) := by decide +kernel
theorem dX2_wordsOfLength_20 : decode cX2_wordsOfLength 20 = .ok (.iload_n 1, 1) := by decide +kernel
theorem dX2_wordsOfLength_21 : decode cX2_wordsOfLength 21 = .ok (.if_icmp .ne 9, 3) := by decide +kernel
theorem dX2_wordsOfLength_24 : decode cX2_wordsOfLength 24 = .ok (.iload_n 2, 1) := by decide +kernel
theorem dX2_wordsOfLength_25 : decode cX2_wordsOfLength 25 = .ok (.iconst 1, 1) := by decide +kernel
theorem dX2_wordsOfLength_26 : decode cX2_wordsOfLength 26 = .ok (.iload_n 3, 1) := by decide +kernel
theorem dX2_wordsOfLength_27 : decode cX2_wordsOfLength 27 = .ok (.ishl, 1) := by decide +kernel
theorem dX2_wordsOfLength_28 : decode cX2_wordsOfLength 28 = .ok (.ior, 1) := by decide +kernel
theorem dX2_wordsOfLength_29 : decode cX2_wordsOfLength 29 = .ok (.istore_n 2, 1) := by decide +kernel
theorem dX2_wordsOfLength_30 : decode cX2_wordsOfLength 30 = .ok (.iinc 3 1, 3) := by decide +kernel
theorem dX2_wordsOfLength_33 : decode cX2_wordsOfLength 33 = .ok (.goto (-29), 3) := by decide +kernel
theorem dX2_wordsOfLength_36 : decode cX2_wordsOfLength 36 = .ok (.iload_n 2, 1) := by decide +kernel
theorem dX2_wordsOfLength_37 : decode cX2_wordsOfLength 37 = .ok (.ireturn, 1) := by decide +kernel
theorem dX2_isRunning_0 : decode cX2_isRunning 0 = .ok (.aload_n 0, 1) := by decide +kernel
theorem dX2_isRunning_1 : decode cX2_isRunning 1 = .ok (.getfield 35, 3) := by decide +kernel
theorem dX2_isRunning_4 : decode cX2_isRunning 4 = .ok (.iconst 1, 1) := by decide +kernel
theorem dX2_isRunning_5 : decode cX2_isRunning 5 = .ok (.if_icmp .ne 7, 3) := by decide +kernel
theorem dX2_isRunning_8 : decode cX2_isRunning 8 = .ok (.iconst 1, 1) := by decide +kernel
theorem dX2_isRunning_9 : decode cX2_isRunning 9 = .ok (.goto 4, 3) := by decide +kernel
theorem dX2_isRunning_12 : decode cX2_isRunning 12 = .ok (.iconst 0, 1) := by decide +kernel
theorem dX2_isRunning_13 : decode cX2_isRunning 13 = .ok (.ireturn, 1) := by decide +kernel
set_option maxRecDepth 20000 in
theorem ggX2_isCandidate_X2_hasWord : GoodIn wsX2_isCandidate wsX2_hasWord := goodIn_r _ [6, 7, 8, 9, 10, 11, 12, 13, 14, 15, 16, 17, 18, 19] (by decide +kernel) (by decide +kernel)
set_option maxRecDepth 20000 in
theorem gX2_isCandidate_X2_hasWord : GoodIn wsX2_isCandidate (wsV RX2 57 RX2 yX2_hasWord wsX2_hasWord) := goodIn_app (goodIn_of _ (by decide +kernel)) ggX2_isCandidate_X2_hasWord
theorem dX2_isCandidate_0 : decode cX2_isCandidate 0 = .ok (.aload_n 0, 1) := by decide +kernel
theorem dX2_isCandidate_1 : decode cX2_isCandidate 1 = .ok (.iload_n 1, 1) := by decide +kernel
theorem dX2_isCandidate_2 : decode cX2_isCandidate 2 = .ok (.invokevirtual 57, 3) := by decide +kernel
theorem dX2_isCandidate_5 : decode cX2_isCandidate 5 = .ok (.ifCond .eq 18, 3) := by decide +kernel
theorem dX2_isCandidate_8 : decode cX2_isCandidate 8 = .ok (.aload_n 0, 1) := by decide +kernel
theorem dX2_isCandidate_9 : decode cX2_isCandidate 9 = .ok (.getfield 44, 3) := by decide +kernel
theorem dX2_isCandidate_12 : decode cX2_isCandidate 12 = .ok (.iload_n 1, 1) := by decide +kernel
theorem dX2_isCandidate_13 : decode cX2_isCandidate 13 = .ok (.ishr, 1) := by decide +kernel
theorem dX2_isCandidate_14 : decode cX2_isCandidate 14 = .ok (.iconst 1, 1) := by decide +kernel
theorem dX2_isCandidate_15 : decode cX2_isCandidate 15 = .ok (.iand, 1) := by decide +kernel
theorem dX2_isCandidate_16 : decode cX2_isCandidate 16 = .ok (.ifCond .eq 7, 3) := by decide +kernel
theorem dX2_isCandidate_19 : decode cX2_isCandidate 19 = .ok (.iconst 1, 1) := by decide +kernel
theorem dX2_isCandidate_20 : decode cX2_isCandidate 20 = .ok (.goto 4, 3) := by decide +kernel
theorem dX2_isCandidate_23 : decode cX2_isCandidate 23 = .ok (.iconst 0, 1) := by decide +kernel
theorem dX2_isCandidate_24 : decode cX2_isCandidate 24 = .ok (.ireturn, 1) := by decide +kernel
set_option maxRecDepth 20000 in
theorem ggX2_wasGuessed_X5_bitOf : GoodIn wsX2_wasGuessed wsX5_bitOf := goodIn_r _ [4, 5, 6, 3, 7] (by decide +kernel) (by decide +kernel)
set_option maxRecDepth 20000 in
theorem gX2_wasGuessed_X5_bitOf_n74 : GoodIn wsX2_wasGuessed (wsX5_bitOf) := ggX2_wasGuessed_X5_bitOf
theorem dX2_wasGuessed_0 : decode cX2_wasGuessed 0 = .ok (.aload_n 0, 1) := by decide +kernel
theorem dX2_wasGuessed_1 : decode cX2_wasGuessed 1 = .ok (.getfield 47, 3) := by decide +kernel
theorem dX2_wasGuessed_4 : decode cX2_wasGuessed 4 = .ok (.iload_n 1, 1) := by decide +kernel
theorem dX2_wasGuessed_5 : decode cX2_wasGuessed 5 = .ok (.invokestatic 74, 3) := by decide +kernel
theorem dX2_wasGuessed_8 : decode cX2_wasGuessed 8 = .ok (.iand, 1) := by decide +kernel
theorem dX2_wasGuessed_9 : decode cX2_wasGuessed 9 = .ok (.ifCond .eq 7, 3) := by decide +kernel
theorem dX2_wasGuessed_12 : decode cX2_wasGuessed 12 = .ok (.iconst 1, 1) := by decide +kernel
theorem dX2_wasGuessed_13 : decode cX2_wasGuessed 13 = .ok (.goto 4, 3) := by decide +kernel
theorem dX2_wasGuessed_16 : decode cX2_wasGuessed 16 = .ok (.iconst 0, 1) := by decide +kernel
theorem dX2_wasGuessed_17 : decode cX2_wasGuessed 17 = .ok (.ireturn, 1) := by decide +kernel
theorem dX2_guessedAt_0 : decode cX2_guessedAt 0 = .ok (.iload_n 1, 1) := by decide +kernel
theorem dX2_guessedAt_1 : decode cX2_guessedAt 1 = .ok (.ifCond .lt 26, 3) := by decide +kernel
theorem dX2_guessedAt_4 : decode cX2_guessedAt 4 = .ok (.iload_n 1, 1) := by decide +kernel
theorem dX2_guessedAt_5 : decode cX2_guessedAt 5 = .ok (.aload_n 0, 1) := by decide +kernel
theorem dX2_guessedAt_6 : decode cX2_guessedAt 6 = .ok (.getfield 50, 3) := by decide +kernel
theorem dX2_guessedAt_9 : decode cX2_guessedAt 9 = .ok (.if_icmp .ge 18, 3) := by decide +kernel
theorem dX2_guessedAt_12 : decode cX2_guessedAt 12 = .ok (.iload_n 1, 1) := by decide +kernel
theorem dX2_guessedAt_13 : decode cX2_guessedAt 13 = .ok (.bipush 26, 2) := by decide +kernel
theorem dX2_guessedAt_15 : decode cX2_guessedAt 15 = .ok (.if_icmp .ge 12, 3) := by decide +kernel
theorem dX2_guessedAt_18 : decode cX2_guessedAt 18 = .ok (.aload_n 0, 1) := by decide +kernel
theorem dX2_guessedAt_19 : decode cX2_guessedAt 19 = .ok (.getfield 15, 3) := by decide +kernel
theorem dX2_guessedAt_22 : decode cX2_guessedAt 22 = .ok (.iload_n 1, 1) := by decide +kernel
theorem dX2_guessedAt_23 : decode cX2_guessedAt 23 = .ok (.iaload, 1) := by decide +kernel
theorem dX2_guessedAt_24 : decode cX2_guessedAt 24 = .ok (.goto 4, 3) := by decide +kernel
theorem dX2_guessedAt_27 : decode cX2_guessedAt 27 = .ok (.iconst (-1), 1) := by decide +kernel
theorem dX2_guessedAt_28 : decode cX2_guessedAt 28 = .ok (.ireturn, 1) := by decide +kernel
set_option maxRecDepth 20000 in
theorem ggX2_candidatesWith_X2_isCandidate : GoodIn wsX2_candidatesWith wsX2_isCandidate := goodIn_r _ [6, 7, 8, 9, 10, 5, 11, 1, 27, 28, 29, 30, 31, 32, 33, 34, 35, 36, 37, 38] (by decide +kernel) (by decide +kernel)
set_option maxRecDepth 20000 in
theorem gX2_candidatesWith_X2_isCandidate : GoodIn wsX2_candidatesWith (wsV RX2 78 RX2 yX2_isCandidate wsX2_isCandidate) := goodIn_app (goodIn_of _ (by decide +kernel)) ggX2_candidatesWith_X2_isCandidate
set_option maxRecDepth 20000 in
theorem ggX2_candidatesWith_X2_wordAt : GoodIn wsX2_candidatesWith wsX2_wordAt := goodIn_r _ [15, 16, 8, 9, 10, 5, 11, 1, 27, 28, 29, 30, 31, 32, 33, 34, 35, 36, 37, 38] (by decide +kernel) (by decide +kernel)
set_option maxRecDepth 20000 in
theorem gX2_candidatesWith_X2_wordAt : GoodIn wsX2_candidatesWith (wsV RX2 67 RX2 yX2_wordAt wsX2_wordAt) := goodIn_app (goodIn_of _ (by decide +kernel)) ggX2_candidatesWith_X2_wordAt
set_option maxRecDepth 20000 in
theorem ggX2_candidatesWith_X4_maskOf : GoodIn wsX2_candidatesWith wsX4_maskOf := goodIn_r _ [20, 21, 22, 19, 23, 24, 25, 26] (by decide +kernel) (by decide +kernel)
set_option maxRecDepth 20000 in
theorem gX2_candidatesWith_X4_maskOf : GoodIn wsX2_candidatesWith (va_wsS RX2 81 yX4_maskOf wsX4_maskOf) := goodIn_app (goodIn_of _ (by decide +kernel)) ggX2_candidatesWith_X4_maskOf
theorem dX2_candidatesWith_0 : decode cX2_candidatesWith 0 = .ok (.iconst 0, 1) := by decide +kernel
theorem dX2_candidatesWith_1 : decode cX2_candidatesWith 1 = .ok (.istore_n 2, 1) := by decide +kernel
theorem dX2_candidatesWith_2 : decode cX2_candidatesWith 2 = .ok (.iconst 0, 1) := by decide +kernel
theorem dX2_candidatesWith_3 : decode cX2_candidatesWith 3 = .ok (.istore_n 3, 1) := by decide +kernel
theorem dX2_candidatesWith_4 : decode cX2_candidatesWith 4 = .ok (.iload_n 3, 1) := by decide +kernel
theorem dX2_candidatesWith_5 : decode cX2_candidatesWith 5 = .ok (.aload_n 0, 1) := by decide +kernel
theorem dX2_candidatesWith_6 : decode cX2_candidatesWith 6 = .ok (.getfield 28, 3) := by decide +kernel
theorem dX2_candidatesWith_9 : decode cX2_candidatesWith 9 = .ok (.if_icmp .ge 32, 3) := by decide +kernel
theorem dX2_candidatesWith_12 : decode cX2_candidatesWith 12 = .ok (.aload_n 0, 1) := by decide +kernel
theorem dX2_candidatesWith_13 : decode cX2_candidatesWith 13 = .ok (.iload_n 3, 1) := by decide +kernel
theorem dX2_candidatesWith_14 : decode cX2_candidatesWith 14 = .ok (.invokevirtual 78, 3) := by decide +kernel
theorem dX2_candidatesWith_17 : decode cX2_candidatesWith 17 = .ok (.ifCond .eq 18, 3) := by decide +kernel
theorem dX2_candidatesWith_20 : decode cX2_candidatesWith 20 = .ok (.aload_n 0, 1) := by decide +kernel
theorem dX2_candidatesWith_21 : decode cX2_candidatesWith 21 = .ok (.iload_n 3, 1) := by decide +kernel
theorem dX2_candidatesWith_22 : decode cX2_candidatesWith 22 = .ok (.invokevirtual 67, 3) := by decide +kernel
theorem dX2_candidatesWith_25 : decode cX2_candidatesWith 25 = .ok (.iload_n 1, 1) := by decide +kernel
theorem dX2_candidatesWith_26 : decode cX2_candidatesWith 26 = .ok (.invokestatic 81, 3) := by decide +kernel
theorem dX2_candidatesWith_29 : decode cX2_candidatesWith 29 = .ok (.ifCond .eq 6, 3) := by decide +kernel
theorem dX2_candidatesWith_32 : decode cX2_candidatesWith 32 = .ok (.iinc 2 1, 3) := by decide +kernel
theorem dX2_candidatesWith_35 : decode cX2_candidatesWith 35 = .ok (.iinc 3 1, 3) := by decide +kernel
theorem dX2_candidatesWith_38 : decode cX2_candidatesWith 38 = .ok (.goto (-34), 3) := by decide +kernel
theorem dX2_candidatesWith_41 : decode cX2_candidatesWith 41 = .ok (.iload_n 2, 1) := by decide +kernel
theorem dX2_candidatesWith_42 : decode cX2_candidatesWith 42 = .ok (.ireturn, 1) := by decide +kernel
set_option maxRecDepth 20000 in
theorem ggX2_lettersOfAll_X2_isCandidate : GoodIn wsX2_lettersOfAll wsX2_isCandidate := goodIn_r _ [7, 8, 9, 10, 11, 6, 12, 2, 34, 35, 36, 37, 38, 39, 40, 41, 42, 43, 44, 45] (by decide +kernel) (by decide +kernel)
set_option maxRecDepth 20000 in
theorem gX2_lettersOfAll_X2_isCandidate : GoodIn wsX2_lettersOfAll (wsV RX2 78 RX2 yX2_isCandidate wsX2_isCandidate) := goodIn_app (goodIn_of _ (by decide +kernel)) ggX2_lettersOfAll_X2_isCandidate
set_option maxRecDepth 20000 in
theorem ggX2_lettersOfAll_X2_wordAt : GoodIn wsX2_lettersOfAll wsX2_wordAt := goodIn_r _ [16, 17, 9, 10, 11, 6, 12, 2, 34, 35, 36, 37, 38, 39, 40, 41, 42, 43, 44, 45] (by decide +kernel) (by decide +kernel)
set_option maxRecDepth 20000 in
theorem gX2_lettersOfAll_X2_wordAt : GoodIn wsX2_lettersOfAll (wsV RX2 67 RX2 yX2_wordAt wsX2_wordAt) := goodIn_app (goodIn_of _ (by decide +kernel)) ggX2_lettersOfAll_X2_wordAt
set_option maxRecDepth 20000 in
theorem ggX2_lettersOfAll_X4_lettersOf : GoodIn wsX2_lettersOfAll wsX4_lettersOf := goodIn_r _ [21, 22, 23, 20, 24, 25, 26, 27, 28, 29, 30, 31, 32, 33] (by decide +kernel) (by decide +kernel)
set_option maxRecDepth 20000 in
theorem gX2_lettersOfAll_X4_lettersOf : GoodIn wsX2_lettersOfAll (va_wsS RX2 86 yX4_lettersOf wsX4_lettersOf) := goodIn_app (goodIn_of _ (by decide +kernel)) ggX2_lettersOfAll_X4_lettersOf
theorem dX2_lettersOfAll_0 : decode cX2_lettersOfAll 0 = .ok (.ldc 85, 2) := by decide +kernel
theorem dX2_lettersOfAll_2 : decode cX2_lettersOfAll 2 = .ok (.istore_n 1, 1) := by decide +kernel
theorem dX2_lettersOfAll_3 : decode cX2_lettersOfAll 3 = .ok (.iconst 0, 1) := by decide +kernel
theorem dX2_lettersOfAll_4 : decode cX2_lettersOfAll 4 = .ok (.istore_n 2, 1) := by decide +kernel
theorem dX2_lettersOfAll_5 : decode cX2_lettersOfAll 5 = .ok (.iload_n 2, 1) := by decide +kernel
theorem dX2_lettersOfAll_6 : decode cX2_lettersOfAll 6 = .ok (.aload_n 0, 1) := by decide +kernel
theorem dX2_lettersOfAll_7 : decode cX2_lettersOfAll 7 = .ok (.getfield 28, 3) := by decide +kernel
theorem dX2_lettersOfAll_10 : decode cX2_lettersOfAll 10 = .ok (.if_icmp .ge 28, 3) := by decide +kernel
theorem dX2_lettersOfAll_13 : decode cX2_lettersOfAll 13 = .ok (.aload_n 0, 1) := by decide +kernel
theorem dX2_lettersOfAll_14 : decode cX2_lettersOfAll 14 = .ok (.iload_n 2, 1) := by decide +kernel
theorem dX2_lettersOfAll_15 : decode cX2_lettersOfAll 15 = .ok (.invokevirtual 78, 3) := by decide +kernel
theorem dX2_lettersOfAll_18 : decode cX2_lettersOfAll 18 = .ok (.ifCond .eq 14, 3) := by decide +kernel
theorem dX2_lettersOfAll_21 : decode cX2_lettersOfAll 21 = .ok (.iload_n 1, 1) := by decide +kernel
theorem dX2_lettersOfAll_22 : decode cX2_lettersOfAll 22 = .ok (.aload_n 0, 1) := by decide +kernel
theorem dX2_lettersOfAll_23 : decode cX2_lettersOfAll 23 = .ok (.iload_n 2, 1) := by decide +kernel
theorem dX2_lettersOfAll_24 : decode cX2_lettersOfAll 24 = .ok (.invokevirtual 67, 3) := by decide +kernel
theorem dX2_lettersOfAll_27 : decode cX2_lettersOfAll 27 = .ok (.invokestatic 86, 3) := by decide +kernel
theorem dX2_lettersOfAll_30 : decode cX2_lettersOfAll 30 = .ok (.iand, 1) := by decide +kernel
theorem dX2_lettersOfAll_31 : decode cX2_lettersOfAll 31 = .ok (.istore_n 1, 1) := by decide +kernel
theorem dX2_lettersOfAll_32 : decode cX2_lettersOfAll 32 = .ok (.iinc 2 1, 3) := by decide +kernel
theorem dX2_lettersOfAll_35 : decode cX2_lettersOfAll 35 = .ok (.goto (-30), 3) := by decide +kernel
theorem dX2_lettersOfAll_38 : decode cX2_lettersOfAll 38 = .ok (.iload_n 1, 1) := by decide +kernel
theorem dX2_lettersOfAll_39 : decode cX2_lettersOfAll 39 = .ok (.ireturn, 1) := by decide +kernel
theorem dX2_totalOf_0 : decode cX2_totalOf 0 = .ok (.iload_n 1, 1) := by decide +kernel
theorem dX2_totalOf_1 : decode cX2_totalOf 1 = .ok (.ifCond .lt 18, 3) := by decide +kernel
theorem dX2_totalOf_4 : decode cX2_totalOf 4 = .ok (.iload_n 1, 1) := by decide +kernel
theorem dX2_totalOf_5 : decode cX2_totalOf 5 = .ok (.bipush 7, 2) := by decide +kernel
theorem dX2_totalOf_7 : decode cX2_totalOf 7 = .ok (.if_icmp .ge 12, 3) := by decide +kernel
theorem dX2_totalOf_10 : decode cX2_totalOf 10 = .ok (.aload_n 0, 1) := by decide +kernel
theorem dX2_totalOf_11 : decode cX2_totalOf 11 = .ok (.getfield 19, 3) := by decide +kernel
theorem dX2_totalOf_14 : decode cX2_totalOf 14 = .ok (.iload_n 1, 1) := by decide +kernel
theorem dX2_totalOf_15 : decode cX2_totalOf 15 = .ok (.iaload, 1) := by decide +kernel
theorem dX2_totalOf_16 : decode cX2_totalOf 16 = .ok (.goto 4, 3) := by decide +kernel
theorem dX2_totalOf_19 : decode cX2_totalOf 19 = .ok (.iconst 0, 1) := by decide +kernel
theorem dX2_totalOf_20 : decode cX2_totalOf 20 = .ok (.ireturn, 1) := by decide +kernel
theorem dX2_count_0 : decode cX2_count 0 = .ok (.iload_n 1, 1) := by decide +kernel
theorem dX2_count_1 : decode cX2_count 1 = .ok (.ifCond .lt 19, 3) := by decide +kernel
theorem dX2_count_4 : decode cX2_count 4 = .ok (.iload_n 1, 1) := by decide +kernel
theorem dX2_count_5 : decode cX2_count 5 = .ok (.bipush 7, 2) := by decide +kernel
theorem dX2_count_7 : decode cX2_count 7 = .ok (.if_icmp .ge 13, 3) := by decide +kernel
theorem dX2_count_10 : decode cX2_count 10 = .ok (.aload_n 0, 1) := by decide +kernel
theorem dX2_count_11 : decode cX2_count 11 = .ok (.getfield 19, 3) := by decide +kernel
theorem dX2_count_14 : decode cX2_count 14 = .ok (.iload_n 1, 1) := by decide +kernel
theorem dX2_count_15 : decode cX2_count 15 = .ok (.dup2, 1) := by decide +kernel
theorem dX2_count_16 : decode cX2_count 16 = .ok (.iaload, 1) := by decide +kernel
theorem dX2_count_17 : decode cX2_count 17 = .ok (.iconst 1, 1) := by decide +kernel
theorem dX2_count_18 : decode cX2_count 18 = .ok (.iadd, 1) := by decide +kernel
theorem dX2_count_19 : decode cX2_count 19 = .ok (.iastore, 1) := by decide +kernel
theorem dX2_count_20 : decode cX2_count 20 = .ok (.return_, 1) := by decide +kernel
set_option maxRecDepth 20000 in
theorem ggX2_begin_X2_endWithoutGame : GoodIn wsX2_begin wsX2_endWithoutGame := goodIn_r _ [9, 1, 2, 3, 4, 10, 11, 12, 18, 19, 20, 21, 22, 23, 24, 25, 26, 27, 28, 29] (by decide +kernel) (by decide +kernel)
set_option maxRecDepth 20000 in
theorem gX2_begin_X2_endWithoutGame : GoodIn wsX2_begin (wsV RX2 89 RX2 yX2_endWithoutGame wsX2_endWithoutGame) := goodIn_app (goodIn_of _ (by decide +kernel)) ggX2_begin_X2_endWithoutGame
set_option maxRecDepth 20000 in
theorem ggX2_begin_X2_count : GoodIn wsX2_begin wsX2_count := goodIn_r _ [16, 17, 18, 19, 20, 21, 22, 23, 24, 25, 26, 27, 28, 29] (by decide +kernel) (by decide +kernel)
set_option maxRecDepth 20000 in
theorem gX2_begin_X2_count : GoodIn wsX2_begin (wsV RX2 92 RX2 yX2_count wsX2_count) := goodIn_app (goodIn_of _ (by decide +kernel)) ggX2_begin_X2_count
theorem dX2_begin_0 : decode cX2_begin 0 = .ok (.aload_n 0, 1) := by decide +kernel
theorem dX2_begin_1 : decode cX2_begin 1 = .ok (.invokevirtual 89, 3) := by decide +kernel
theorem dX2_begin_4 : decode cX2_begin 4 = .ok (.aload_n 0, 1) := by decide +kernel
theorem dX2_begin_5 : decode cX2_begin 5 = .ok (.iconst 1, 1) := by decide +kernel
theorem dX2_begin_6 : decode cX2_begin 6 = .ok (.putfield 35, 3) := by decide +kernel
theorem dX2_begin_9 : decode cX2_begin 9 = .ok (.aload_n 0, 1) := by decide +kernel
theorem dX2_begin_10 : decode cX2_begin 10 = .ok (.iload_n 1, 1) := by decide +kernel
theorem dX2_begin_11 : decode cX2_begin 11 = .ok (.putfield 38, 3) := by decide +kernel
theorem dX2_begin_14 : decode cX2_begin 14 = .ok (.aload_n 0, 1) := by decide +kernel
theorem dX2_begin_15 : decode cX2_begin 15 = .ok (.iload_n 2, 1) := by decide +kernel
theorem dX2_begin_16 : decode cX2_begin 16 = .ok (.putfield 41, 3) := by decide +kernel
theorem dX2_begin_19 : decode cX2_begin 19 = .ok (.aload_n 0, 1) := by decide +kernel
theorem dX2_begin_20 : decode cX2_begin 20 = .ok (.iload_n 3, 1) := by decide +kernel
theorem dX2_begin_21 : decode cX2_begin 21 = .ok (.putfield 44, 3) := by decide +kernel
theorem dX2_begin_24 : decode cX2_begin 24 = .ok (.aload_n 0, 1) := by decide +kernel
theorem dX2_begin_25 : decode cX2_begin 25 = .ok (.iconst 0, 1) := by decide +kernel
theorem dX2_begin_26 : decode cX2_begin 26 = .ok (.invokevirtual 92, 3) := by decide +kernel
theorem dX2_begin_29 : decode cX2_begin 29 = .ok (.return_, 1) := by decide +kernel
theorem dX2_endWithoutGame_0 : decode cX2_endWithoutGame 0 = .ok (.aload_n 0, 1) := by decide +kernel
theorem dX2_endWithoutGame_1 : decode cX2_endWithoutGame 1 = .ok (.iconst 0, 1) := by decide +kernel
theorem dX2_endWithoutGame_2 : decode cX2_endWithoutGame 2 = .ok (.putfield 35, 3) := by decide +kernel
theorem dX2_endWithoutGame_5 : decode cX2_endWithoutGame 5 = .ok (.aload_n 0, 1) := by decide +kernel
theorem dX2_endWithoutGame_6 : decode cX2_endWithoutGame 6 = .ok (.iconst 0, 1) := by decide +kernel
theorem dX2_endWithoutGame_7 : decode cX2_endWithoutGame 7 = .ok (.putfield 38, 3) := by decide +kernel
theorem dX2_endWithoutGame_10 : decode cX2_endWithoutGame 10 = .ok (.aload_n 0, 1) := by decide +kernel
theorem dX2_endWithoutGame_11 : decode cX2_endWithoutGame 11 = .ok (.iconst 0, 1) := by decide +kernel
theorem dX2_endWithoutGame_12 : decode cX2_endWithoutGame 12 = .ok (.putfield 41, 3) := by decide +kernel
theorem dX2_endWithoutGame_15 : decode cX2_endWithoutGame 15 = .ok (.aload_n 0, 1) := by decide +kernel
theorem dX2_endWithoutGame_16 : decode cX2_endWithoutGame 16 = .ok (.iconst 0, 1) := by decide +kernel
theorem dX2_endWithoutGame_17 : decode cX2_endWithoutGame 17 = .ok (.putfield 44, 3) := by decide +kernel
theorem dX2_endWithoutGame_20 : decode cX2_endWithoutGame 20 = .ok (.aload_n 0, 1) := by decide +kernel
theorem dX2_endWithoutGame_21 : decode cX2_endWithoutGame 21 = .ok (.iconst 0, 1) := by decide +kernel
theorem dX2_endWithoutGame_22 : decode cX2_endWithoutGame 22 = .ok (.putfield 47, 3) := by decide +kernel
theorem dX2_endWithoutGame_25 : decode cX2_endWithoutGame 25 = .ok (.aload_n 0, 1) := by decide +kernel
theorem dX2_endWithoutGame_26 : decode cX2_endWithoutGame 26 = .ok (.iconst 0, 1) := by decide +kernel
theorem dX2_endWithoutGame_27 : decode cX2_endWithoutGame 27 = .ok (.putfield 50, 3) := by decide +kernel
theorem dX2_endWithoutGame_30 : decode cX2_endWithoutGame 30 = .ok (.aload_n 0, 1) := by decide +kernel
theorem dX2_endWithoutGame_31 : decode cX2_endWithoutGame 31 = .ok (.lconst 0, 1) := by decide +kernel
theorem dX2_endWithoutGame_32 : decode cX2_endWithoutGame 32 = .ok (.putfield 53, 3) := by decide +kernel
theorem dX2_endWithoutGame_35 : decode cX2_endWithoutGame 35 = .ok (.return_, 1) := by decide +kernel
set_option maxRecDepth 20000 in
theorem ggX2_takeLetter_X2_noteGuess : GoodIn wsX2_takeLetter wsX2_noteGuess := goodIn_r _ [8, 9, 10, 11, 12, 13, 14, 15, 16, 17, 18, 19, 20, 7, 21, 22, 50, 51, 52, 53, 54, 55, 56, 57, 58, 59, 60, 61] (by decide +kernel) (by decide +kernel)
set_option maxRecDepth 20000 in
theorem gX2_takeLetter_X2_noteGuess : GoodIn wsX2_takeLetter (wsV RX2 96 RX2 yX2_noteGuess wsX2_noteGuess) := goodIn_app (goodIn_of _ (by decide +kernel)) ggX2_takeLetter_X2_noteGuess
set_option maxRecDepth 20000 in
theorem ggX2_takeLetter_X2_miss : GoodIn wsX2_takeLetter wsX2_miss := goodIn_r _ [26, 27, 18, 19, 20, 7, 21, 22, 28, 29, 30, 31, 32, 50, 51, 52, 53, 54, 55, 56, 57, 58, 59, 60, 61] (by decide +kernel) (by decide +kernel)
set_option maxRecDepth 20000 in
theorem gX2_takeLetter_X2_miss : GoodIn wsX2_takeLetter (wsV RX2 99 RX2 yX2_miss wsX2_miss) := goodIn_app (goodIn_of _ (by decide +kernel)) ggX2_takeLetter_X2_miss
set_option maxRecDepth 20000 in
theorem ggX2_takeLetter_X4_withLetter : GoodIn wsX2_takeLetter wsX4_withLetter := goodIn_r _ [36, 16, 13, 17, 37, 38, 35, 39] (by decide +kernel) (by decide +kernel)
set_option maxRecDepth 20000 in
theorem gX2_takeLetter_X4_withLetter : GoodIn wsX2_takeLetter (va_wsS RX2 103 yX4_withLetter wsX4_withLetter) := goodIn_app (goodIn_of _ (by decide +kernel)) ggX2_takeLetter_X4_withLetter
set_option maxRecDepth 20000 in
theorem ggX2_takeLetter_X4_lengthOf : GoodIn wsX2_takeLetter wsX4_lengthOf := goodIn_r _ [42, 43, 44, 35, 45, 37, 38, 39] (by decide +kernel) (by decide +kernel)
set_option maxRecDepth 20000 in
theorem gX2_takeLetter_X4_lengthOf : GoodIn wsX2_takeLetter (va_wsS RX2 71 yX4_lengthOf wsX4_lengthOf) := goodIn_app (goodIn_of _ (by decide +kernel)) ggX2_takeLetter_X4_lengthOf
set_option maxRecDepth 20000 in
theorem ggX2_takeLetter_X2_win : GoodIn wsX2_takeLetter wsX2_win := goodIn_r _ [49, 32, 18, 19, 20, 7, 21, 22, 50, 51, 52, 53, 54, 55, 56, 57, 58, 59, 60, 61] (by decide +kernel) (by decide +kernel)
set_option maxRecDepth 20000 in
theorem gX2_takeLetter_X2_win : GoodIn wsX2_takeLetter (wsV RX2 107 RX2 yX2_win wsX2_win) := goodIn_app (goodIn_of _ (by decide +kernel)) ggX2_takeLetter_X2_win
theorem dX2_takeLetter_0 : decode cX2_takeLetter 0 = .ok (.aload_n 0, 1) := by decide +kernel
theorem dX2_takeLetter_1 : decode cX2_takeLetter 1 = .ok (.iload_n 1, 1) := by decide +kernel
theorem dX2_takeLetter_2 : decode cX2_takeLetter 2 = .ok (.invokevirtual 96, 3) := by decide +kernel
theorem dX2_takeLetter_5 : decode cX2_takeLetter 5 = .ok (.iload_n 3, 1) := by decide +kernel
theorem dX2_takeLetter_6 : decode cX2_takeLetter 6 = .ok (.aload_n 0, 1) := by decide +kernel
theorem dX2_takeLetter_7 : decode cX2_takeLetter 7 = .ok (.getfield 44, 3) := by decide +kernel
theorem dX2_takeLetter_10 : decode cX2_takeLetter 10 = .ok (.if_icmp .eq 7, 3) := by decide +kernel
theorem dX2_takeLetter_13 : decode cX2_takeLetter 13 = .ok (.iconst 1, 1) := by decide +kernel
theorem dX2_takeLetter_14 : decode cX2_takeLetter 14 = .ok (.goto 4, 3) := by decide +kernel
theorem dX2_takeLetter_17 : decode cX2_takeLetter 17 = .ok (.iconst 0, 1) := by decide +kernel
theorem dX2_takeLetter_18 : decode cX2_takeLetter 18 = .ok (.istore 4, 2) := by decide +kernel
theorem dX2_takeLetter_20 : decode cX2_takeLetter 20 = .ok (.aload_n 0, 1) := by decide +kernel
theorem dX2_takeLetter_21 : decode cX2_takeLetter 21 = .ok (.iload_n 3, 1) := by decide +kernel
theorem dX2_takeLetter_22 : decode cX2_takeLetter 22 = .ok (.putfield 44, 3) := by decide +kernel
theorem dX2_takeLetter_25 : decode cX2_takeLetter 25 = .ok (.iload_n 2, 1) := by decide +kernel
theorem dX2_takeLetter_26 : decode cX2_takeLetter 26 = .ok (.ifCond .ne 10, 3) := by decide +kernel
theorem dX2_takeLetter_29 : decode cX2_takeLetter 29 = .ok (.aload_n 0, 1) := by decide +kernel
theorem dX2_takeLetter_30 : decode cX2_takeLetter 30 = .ok (.iload 4, 2) := by decide +kernel
theorem dX2_takeLetter_32 : decode cX2_takeLetter 32 = .ok (.invokevirtual 99, 3) := by decide +kernel
theorem dX2_takeLetter_35 : decode cX2_takeLetter 35 = .ok (.return_, 1) := by decide +kernel
theorem dX2_takeLetter_36 : decode cX2_takeLetter 36 = .ok (.iconst 0, 1) := by decide +kernel
theorem dX2_takeLetter_37 : decode cX2_takeLetter 37 = .ok (.istore 5, 2) := by decide +kernel
theorem dX2_takeLetter_39 : decode cX2_takeLetter 39 = .ok (.iload 5, 2) := by decide +kernel
theorem dX2_takeLetter_41 : decode cX2_takeLetter 41 = .ok (.aload_n 0, 1) := by decide +kernel
theorem dX2_takeLetter_42 : decode cX2_takeLetter 42 = .ok (.getfield 38, 3) := by decide +kernel
theorem dX2_takeLetter_45 : decode cX2_takeLetter 45 = .ok (.if_icmp .ge 32, 3) := by decide +kernel
theorem dX2_takeLetter_48 : decode cX2_takeLetter 48 = .ok (.iload_n 2, 1) := by decide +kernel
theorem dX2_takeLetter_49 : decode cX2_takeLetter 49 = .ok (.iload 5, 2) := by decide +kernel
theorem dX2_takeLetter_51 : decode cX2_takeLetter 51 = .ok (.ishr, 1) := by decide +kernel
theorem dX2_takeLetter_52 : decode cX2_takeLetter 52 = .ok (.iconst 1, 1) := by decide +kernel
theorem dX2_takeLetter_53 : decode cX2_takeLetter 53 = .ok (.iand, 1) := by decide +kernel
theorem dX2_takeLetter_54 : decode cX2_takeLetter 54 = .ok (.ifCond .eq 17, 3) := by decide +kernel
theorem dX2_takeLetter_57 : decode cX2_takeLetter 57 = .ok (.aload_n 0, 1) := by decide +kernel
theorem dX2_takeLetter_58 : decode cX2_takeLetter 58 = .ok (.aload_n 0, 1) := by decide +kernel
theorem dX2_takeLetter_59 : decode cX2_takeLetter 59 = .ok (.getfield 53, 3) := by decide +kernel
theorem dX2_takeLetter_62 : decode cX2_takeLetter 62 = .ok (.iload 5, 2) := by decide +kernel
theorem dX2_takeLetter_64 : decode cX2_takeLetter 64 = .ok (.iload_n 1, 1) := by decide +kernel
theorem dX2_takeLetter_65 : decode cX2_takeLetter 65 = .ok (.invokestatic 103, 3) := by decide +kernel
theorem dX2_takeLetter_68 : decode cX2_takeLetter 68 = .ok (.putfield 53, 3) := by decide +kernel
theorem dX2_takeLetter_71 : decode cX2_takeLetter 71 = .ok (.iinc 5 1, 3) := by decide +kernel
theorem dX2_takeLetter_74 : decode cX2_takeLetter 74 = .ok (.goto (-35), 3) := by decide +kernel
theorem dX2_takeLetter_77 : decode cX2_takeLetter 77 = .ok (.aload_n 0, 1) := by decide +kernel
theorem dX2_takeLetter_78 : decode cX2_takeLetter 78 = .ok (.getfield 53, 3) := by decide +kernel
theorem dX2_takeLetter_81 : decode cX2_takeLetter 81 = .ok (.invokestatic 71, 3) := by decide +kernel
theorem dX2_takeLetter_84 : decode cX2_takeLetter 84 = .ok (.aload_n 0, 1) := by decide +kernel
theorem dX2_takeLetter_85 : decode cX2_takeLetter 85 = .ok (.getfield 38, 3) := by decide +kernel
theorem dX2_takeLetter_88 : decode cX2_takeLetter 88 = .ok (.if_icmp .ne 7, 3) := by decide +kernel
theorem dX2_takeLetter_91 : decode cX2_takeLetter 91 = .ok (.aload_n 0, 1) := by decide +kernel
theorem dX2_takeLetter_92 : decode cX2_takeLetter 92 = .ok (.invokevirtual 107, 3) := by decide +kernel
theorem dX2_takeLetter_95 : decode cX2_takeLetter 95 = .ok (.return_, 1) := by decide +kernel
set_option maxRecDepth 20000 in
theorem ggX2_noteGuess_X5_bitOf : GoodIn wsX2_noteGuess wsX5_bitOf := goodIn_r _ [6, 7, 8, 5, 9] (by decide +kernel) (by decide +kernel)
set_option maxRecDepth 20000 in
theorem gX2_noteGuess_X5_bitOf_n74 : GoodIn wsX2_noteGuess (wsX5_bitOf) := ggX2_noteGuess_X5_bitOf
set_option maxRecDepth 20000 in
theorem ggX2_noteGuess_X2_count : GoodIn wsX2_noteGuess wsX2_count := goodIn_r _ [14, 15, 16, 17, 18, 19, 20, 21, 22, 23, 24, 25, 26, 27] (by decide +kernel) (by decide +kernel)
set_option maxRecDepth 20000 in
theorem gX2_noteGuess_X2_count : GoodIn wsX2_noteGuess (wsV RX2 92 RX2 yX2_count wsX2_count) := goodIn_app (goodIn_of _ (by decide +kernel)) ggX2_noteGuess_X2_count
theorem dX2_noteGuess_0 : decode cX2_noteGuess 0 = .ok (.aload_n 0, 1) := by decide +kernel
theorem dX2_noteGuess_1 : decode cX2_noteGuess 1 = .ok (.getfield 50, 3) := by decide +kernel
theorem dX2_noteGuess_4 : decode cX2_noteGuess 4 = .ok (.ifCond .lt 32, 3) := by decide +kernel
theorem dX2_noteGuess_7 : decode cX2_noteGuess 7 = .ok (.aload_n 0, 1) := by decide +kernel
theorem dX2_noteGuess_8 : decode cX2_noteGuess 8 = .ok (.getfield 50, 3) := by decide +kernel
theorem dX2_noteGuess_11 : decode cX2_noteGuess 11 = .ok (.bipush 26, 2) := by decide +kernel
theorem dX2_noteGuess_13 : decode cX2_noteGuess 13 = .ok (.if_icmp .ge 23, 3) := by decide +kernel
theorem dX2_noteGuess_16 : decode cX2_noteGuess 16 = .ok (.aload_n 0, 1) := by decide +kernel
theorem dX2_noteGuess_17 : decode cX2_noteGuess 17 = .ok (.getfield 15, 3) := by decide +kernel
theorem dX2_noteGuess_20 : decode cX2_noteGuess 20 = .ok (.aload_n 0, 1) := by decide +kernel
theorem dX2_noteGuess_21 : decode cX2_noteGuess 21 = .ok (.getfield 50, 3) := by decide +kernel
theorem dX2_noteGuess_24 : decode cX2_noteGuess 24 = .ok (.iload_n 1, 1) := by decide +kernel
theorem dX2_noteGuess_25 : decode cX2_noteGuess 25 = .ok (.iastore, 1) := by decide +kernel
theorem dX2_noteGuess_26 : decode cX2_noteGuess 26 = .ok (.aload_n 0, 1) := by decide +kernel
theorem dX2_noteGuess_27 : decode cX2_noteGuess 27 = .ok (.dup, 1) := by decide +kernel
theorem dX2_noteGuess_28 : decode cX2_noteGuess 28 = .ok (.getfield 50, 3) := by decide +kernel
theorem dX2_noteGuess_31 : decode cX2_noteGuess 31 = .ok (.iconst 1, 1) := by decide +kernel
theorem dX2_noteGuess_32 : decode cX2_noteGuess 32 = .ok (.iadd, 1) := by decide +kernel
theorem dX2_noteGuess_33 : decode cX2_noteGuess 33 = .ok (.putfield 50, 3) := by decide +kernel
theorem dX2_noteGuess_36 : decode cX2_noteGuess 36 = .ok (.aload_n 0, 1) := by decide +kernel
theorem dX2_noteGuess_37 : decode cX2_noteGuess 37 = .ok (.dup, 1) := by decide +kernel
theorem dX2_noteGuess_38 : decode cX2_noteGuess 38 = .ok (.getfield 47, 3) := by decide +kernel
theorem dX2_noteGuess_41 : decode cX2_noteGuess 41 = .ok (.iload_n 1, 1) := by decide +kernel
theorem dX2_noteGuess_42 : decode cX2_noteGuess 42 = .ok (.invokestatic 74, 3) := by decide +kernel
theorem dX2_noteGuess_45 : decode cX2_noteGuess 45 = .ok (.ior, 1) := by decide +kernel
theorem dX2_noteGuess_46 : decode cX2_noteGuess 46 = .ok (.putfield 47, 3) := by decide +kernel
theorem dX2_noteGuess_49 : decode cX2_noteGuess 49 = .ok (.aload_n 0, 1) := by decide +kernel
theorem dX2_noteGuess_50 : decode cX2_noteGuess 50 = .ok (.iconst 3, 1) := by decide +kernel
theorem dX2_noteGuess_51 : decode cX2_noteGuess 51 = .ok (.invokevirtual 92, 3) := by decide +kernel
theorem dX2_noteGuess_54 : decode cX2_noteGuess 54 = .ok (.return_, 1) := by decide +kernel
set_option maxRecDepth 20000 in
theorem ggX2_takeWord_X2_count : GoodIn wsX2_takeWord wsX2_count := goodIn_r _ [7, 8, 41, 42, 43, 44, 45, 46, 47, 48, 49, 50, 51, 52] (by decide +kernel) (by decide +kernel)
set_option maxRecDepth 20000 in
theorem gX2_takeWord_X2_count : GoodIn wsX2_takeWord (wsV RX2 92 RX2 yX2_count wsX2_count) := goodIn_app (goodIn_of _ (by decide +kernel)) ggX2_takeWord_X2_count
set_option maxRecDepth 20000 in
theorem ggX2_takeWord_X2_numberOf : GoodIn wsX2_takeWord wsX2_numberOf := goodIn_r _ [12, 13, 14, 15, 16, 6, 17, 18, 19, 20, 21, 22, 41, 42, 43, 44, 45, 46, 47, 48, 49, 50, 51, 52] (by decide +kernel) (by decide +kernel)
set_option maxRecDepth 20000 in
theorem gX2_takeWord_X2_numberOf : GoodIn wsX2_takeWord (wsV RX2 63 RX2 yX2_numberOf wsX2_numberOf) := goodIn_app (goodIn_of _ (by decide +kernel)) ggX2_takeWord_X2_numberOf
set_option maxRecDepth 20000 in
theorem ggX2_takeWord_X2_isCandidate : GoodIn wsX2_takeWord wsX2_isCandidate := goodIn_r _ [26, 1, 19, 20, 21, 6, 22, 13, 41, 42, 43, 44, 45, 46, 47, 48, 49, 50, 51, 52] (by decide +kernel) (by decide +kernel)
set_option maxRecDepth 20000 in
theorem gX2_takeWord_X2_isCandidate : GoodIn wsX2_takeWord (wsV RX2 78 RX2 yX2_isCandidate wsX2_isCandidate) := goodIn_app (goodIn_of _ (by decide +kernel)) ggX2_takeWord_X2_isCandidate
set_option maxRecDepth 20000 in
theorem ggX2_takeWord_X2_win : GoodIn wsX2_takeWord wsX2_win := goodIn_r _ [30, 31, 3, 4, 5, 6, 7, 8, 41, 42, 43, 44, 45, 46, 47, 48, 49, 50, 51, 52] (by decide +kernel) (by decide +kernel)
set_option maxRecDepth 20000 in
theorem gX2_takeWord_X2_win : GoodIn wsX2_takeWord (wsV RX2 107 RX2 yX2_win wsX2_win) := goodIn_app (goodIn_of _ (by decide +kernel)) ggX2_takeWord_X2_win
set_option maxRecDepth 20000 in
theorem ggX2_takeWord_X2_miss : GoodIn wsX2_takeWord wsX2_miss := goodIn_r _ [35, 36, 3, 4, 5, 6, 7, 8, 37, 38, 39, 40, 31, 41, 42, 43, 44, 45, 46, 47, 48, 49, 50, 51, 52] (by decide +kernel) (by decide +kernel)
set_option maxRecDepth 20000 in
theorem gX2_takeWord_X2_miss : GoodIn wsX2_takeWord (wsV RX2 99 RX2 yX2_miss wsX2_miss) := goodIn_app (goodIn_of _ (by decide +kernel)) ggX2_takeWord_X2_miss
theorem dX2_takeWord_0 : decode cX2_takeWord 0 = .ok (.aload_n 0, 1) := by decide +kernel
theorem dX2_takeWord_1 : decode cX2_takeWord 1 = .ok (.iconst 4, 1) := by decide +kernel
theorem dX2_takeWord_2 : decode cX2_takeWord 2 = .ok (.invokevirtual 92, 3) := by decide +kernel
theorem dX2_takeWord_5 : decode cX2_takeWord 5 = .ok (.aload_n 0, 1) := by decide +kernel
theorem dX2_takeWord_6 : decode cX2_takeWord 6 = .ok (.lload_n 1, 1) := by decide +kernel
theorem dX2_takeWord_7 : decode cX2_takeWord 7 = .ok (.invokevirtual 63, 3) := by decide +kernel
theorem dX2_takeWord_10 : decode cX2_takeWord 10 = .ok (.istore_n 3, 1) := by decide +kernel
theorem dX2_takeWord_11 : decode cX2_takeWord 11 = .ok (.aload_n 0, 1) := by decide +kernel
theorem dX2_takeWord_12 : decode cX2_takeWord 12 = .ok (.iload_n 3, 1) := by decide +kernel
theorem dX2_takeWord_13 : decode cX2_takeWord 13 = .ok (.invokevirtual 78, 3) := by decide +kernel
theorem dX2_takeWord_16 : decode cX2_takeWord 16 = .ok (.ifCond .eq 9, 3) := by decide +kernel
theorem dX2_takeWord_19 : decode cX2_takeWord 19 = .ok (.iconst 1, 1) := by decide +kernel
theorem dX2_takeWord_20 : decode cX2_takeWord 20 = .ok (.iload_n 3, 1) := by decide +kernel
theorem dX2_takeWord_21 : decode cX2_takeWord 21 = .ok (.ishl, 1) := by decide +kernel
theorem dX2_takeWord_22 : decode cX2_takeWord 22 = .ok (.goto 4, 3) := by decide +kernel
theorem dX2_takeWord_25 : decode cX2_takeWord 25 = .ok (.iconst 0, 1) := by decide +kernel
theorem dX2_takeWord_26 : decode cX2_takeWord 26 = .ok (.istore 4, 2) := by decide +kernel
theorem dX2_takeWord_28 : decode cX2_takeWord 28 = .ok (.iload 4, 2) := by decide +kernel
theorem dX2_takeWord_30 : decode cX2_takeWord 30 = .ok (.ifCond .eq 24, 3) := by decide +kernel
theorem dX2_takeWord_33 : decode cX2_takeWord 33 = .ok (.iload 4, 2) := by decide +kernel
theorem dX2_takeWord_35 : decode cX2_takeWord 35 = .ok (.aload_n 0, 1) := by decide +kernel
theorem dX2_takeWord_36 : decode cX2_takeWord 36 = .ok (.getfield 44, 3) := by decide +kernel
theorem dX2_takeWord_39 : decode cX2_takeWord 39 = .ok (.if_icmp .ne 15, 3) := by decide +kernel
theorem dX2_takeWord_42 : decode cX2_takeWord 42 = .ok (.aload_n 0, 1) := by decide +kernel
theorem dX2_takeWord_43 : decode cX2_takeWord 43 = .ok (.lload_n 1, 1) := by decide +kernel
theorem dX2_takeWord_44 : decode cX2_takeWord 44 = .ok (.putfield 53, 3) := by decide +kernel
theorem dX2_takeWord_47 : decode cX2_takeWord 47 = .ok (.aload_n 0, 1) := by decide +kernel
theorem dX2_takeWord_48 : decode cX2_takeWord 48 = .ok (.invokevirtual 107, 3) := by decide +kernel
theorem dX2_takeWord_51 : decode cX2_takeWord 51 = .ok (.goto 30, 3) := by decide +kernel
theorem dX2_takeWord_54 : decode cX2_takeWord 54 = .ok (.aload_n 0, 1) := by decide +kernel
theorem dX2_takeWord_55 : decode cX2_takeWord 55 = .ok (.dup, 1) := by decide +kernel
theorem dX2_takeWord_56 : decode cX2_takeWord 56 = .ok (.getfield 44, 3) := by decide +kernel
theorem dX2_takeWord_59 : decode cX2_takeWord 59 = .ok (.iload 4, 2) := by decide +kernel
theorem dX2_takeWord_61 : decode cX2_takeWord 61 = .ok (.iconst (-1), 1) := by decide +kernel
theorem dX2_takeWord_62 : decode cX2_takeWord 62 = .ok (.ixor, 1) := by decide +kernel
theorem dX2_takeWord_63 : decode cX2_takeWord 63 = .ok (.iand, 1) := by decide +kernel
theorem dX2_takeWord_64 : decode cX2_takeWord 64 = .ok (.putfield 44, 3) := by decide +kernel
theorem dX2_takeWord_67 : decode cX2_takeWord 67 = .ok (.aload_n 0, 1) := by decide +kernel
theorem dX2_takeWord_68 : decode cX2_takeWord 68 = .ok (.iload 4, 2) := by decide +kernel
theorem dX2_takeWord_70 : decode cX2_takeWord 70 = .ok (.ifCond .eq 7, 3) := by decide +kernel
theorem dX2_takeWord_73 : decode cX2_takeWord 73 = .ok (.iconst 1, 1) := by decide +kernel
theorem dX2_takeWord_74 : decode cX2_takeWord 74 = .ok (.goto 4, 3) := by decide +kernel
theorem dX2_takeWord_77 : decode cX2_takeWord 77 = .ok (.iconst 0, 1) := by decide +kernel
theorem dX2_takeWord_78 : decode cX2_takeWord 78 = .ok (.invokevirtual 99, 3) := by decide +kernel
theorem dX2_takeWord_81 : decode cX2_takeWord 81 = .ok (.return_, 1) := by decide +kernel
set_option maxRecDepth 20000 in
theorem ggX2_miss_X2_count : GoodIn wsX2_miss wsX2_count := goodIn_r _ [6, 7, 13, 14, 15, 16, 17, 18, 19, 20, 21, 22, 23, 24] (by decide +kernel) (by decide +kernel)
set_option maxRecDepth 20000 in
theorem gX2_miss_X2_count : GoodIn wsX2_miss (wsV RX2 92 RX2 yX2_count wsX2_count) := goodIn_app (goodIn_of _ (by decide +kernel)) ggX2_miss_X2_count
set_option maxRecDepth 20000 in
theorem ggX2_miss_X2_lose : GoodIn wsX2_miss wsX2_lose := goodIn_r _ [11, 12, 2, 3, 4, 5, 6, 7, 13, 14, 15, 16, 17, 18, 19, 20, 21, 22, 23, 24] (by decide +kernel) (by decide +kernel)
set_option maxRecDepth 20000 in
theorem gX2_miss_X2_lose : GoodIn wsX2_miss (wsV RX2 110 RX2 yX2_lose wsX2_lose) := goodIn_app (goodIn_of _ (by decide +kernel)) ggX2_miss_X2_lose
theorem dX2_miss_0 : decode cX2_miss 0 = .ok (.aload_n 0, 1) := by decide +kernel
theorem dX2_miss_1 : decode cX2_miss 1 = .ok (.iconst 5, 1) := by decide +kernel
theorem dX2_miss_2 : decode cX2_miss 2 = .ok (.invokevirtual 92, 3) := by decide +kernel
theorem dX2_miss_5 : decode cX2_miss 5 = .ok (.iload_n 1, 1) := by decide +kernel
theorem dX2_miss_6 : decode cX2_miss 6 = .ok (.ifCond .eq 9, 3) := by decide +kernel
theorem dX2_miss_9 : decode cX2_miss 9 = .ok (.aload_n 0, 1) := by decide +kernel
theorem dX2_miss_10 : decode cX2_miss 10 = .ok (.bipush 6, 2) := by decide +kernel
theorem dX2_miss_12 : decode cX2_miss 12 = .ok (.invokevirtual 92, 3) := by decide +kernel
theorem dX2_miss_15 : decode cX2_miss 15 = .ok (.aload_n 0, 1) := by decide +kernel
theorem dX2_miss_16 : decode cX2_miss 16 = .ok (.dup, 1) := by decide +kernel
theorem dX2_miss_17 : decode cX2_miss 17 = .ok (.getfield 41, 3) := by decide +kernel
theorem dX2_miss_20 : decode cX2_miss 20 = .ok (.iconst 1, 1) := by decide +kernel
theorem dX2_miss_21 : decode cX2_miss 21 = .ok (.isub, 1) := by decide +kernel
theorem dX2_miss_22 : decode cX2_miss 22 = .ok (.putfield 41, 3) := by decide +kernel
theorem dX2_miss_25 : decode cX2_miss 25 = .ok (.aload_n 0, 1) := by decide +kernel
theorem dX2_miss_26 : decode cX2_miss 26 = .ok (.getfield 41, 3) := by decide +kernel
theorem dX2_miss_29 : decode cX2_miss 29 = .ok (.ifCond .ne 7, 3) := by decide +kernel
theorem dX2_miss_32 : decode cX2_miss 32 = .ok (.aload_n 0, 1) := by decide +kernel
theorem dX2_miss_33 : decode cX2_miss 33 = .ok (.invokevirtual 110, 3) := by decide +kernel
theorem dX2_miss_36 : decode cX2_miss 36 = .ok (.return_, 1) := by decide +kernel
set_option maxRecDepth 20000 in
theorem ggX2_win_X2_count : GoodIn wsX2_win wsX2_count := goodIn_r _ [6, 7, 8, 9, 10, 11, 12, 13, 14, 15, 16, 17, 18, 19] (by decide +kernel) (by decide +kernel)
set_option maxRecDepth 20000 in
theorem gX2_win_X2_count : GoodIn wsX2_win (wsV RX2 92 RX2 yX2_count wsX2_count) := goodIn_app (goodIn_of _ (by decide +kernel)) ggX2_win_X2_count
theorem dX2_win_0 : decode cX2_win 0 = .ok (.aload_n 0, 1) := by decide +kernel
theorem dX2_win_1 : decode cX2_win 1 = .ok (.iconst 2, 1) := by decide +kernel
theorem dX2_win_2 : decode cX2_win 2 = .ok (.putfield 35, 3) := by decide +kernel
theorem dX2_win_5 : decode cX2_win 5 = .ok (.aload_n 0, 1) := by decide +kernel
theorem dX2_win_6 : decode cX2_win 6 = .ok (.iconst 1, 1) := by decide +kernel
theorem dX2_win_7 : decode cX2_win 7 = .ok (.invokevirtual 92, 3) := by decide +kernel
theorem dX2_win_10 : decode cX2_win 10 = .ok (.return_, 1) := by decide +kernel
set_option maxRecDepth 20000 in
theorem ggX2_lose_X2_count : GoodIn wsX2_lose wsX2_count := goodIn_r _ [6, 7, 8, 9, 10, 11, 12, 13, 14, 15, 16, 17, 18, 19] (by decide +kernel) (by decide +kernel)
set_option maxRecDepth 20000 in
theorem gX2_lose_X2_count : GoodIn wsX2_lose (wsV RX2 92 RX2 yX2_count wsX2_count) := goodIn_app (goodIn_of _ (by decide +kernel)) ggX2_lose_X2_count
theorem dX2_lose_0 : decode cX2_lose 0 = .ok (.aload_n 0, 1) := by decide +kernel
theorem dX2_lose_1 : decode cX2_lose 1 = .ok (.iconst 3, 1) := by decide +kernel
theorem dX2_lose_2 : decode cX2_lose 2 = .ok (.putfield 35, 3) := by decide +kernel
theorem dX2_lose_5 : decode cX2_lose 5 = .ok (.aload_n 0, 1) := by decide +kernel
theorem dX2_lose_6 : decode cX2_lose 6 = .ok (.iconst 2, 1) := by decide +kernel
theorem dX2_lose_7 : decode cX2_lose 7 = .ok (.invokevirtual 92, 3) := by decide +kernel
theorem dX2_lose_10 : decode cX2_lose 10 = .ok (.return_, 1) := by decide +kernel
theorem dX3_init_0 : decode cX3_init 0 = .ok (.aload_n 0, 1) := by decide +kernel
theorem dX3_init_1 : decode cX3_init 1 = .ok (.invokespecial 3, 3) := by decide +kernel
theorem dX3_init_4 : decode cX3_init 4 = .ok (.aload_n 0, 1) := by decide +kernel
theorem dX3_init_5 : decode cX3_init 5 = .ok (.bipush 80, 2) := by decide +kernel
theorem dX3_init_7 : decode cX3_init 7 = .ok (.newarray .char, 2) := by decide +kernel
theorem dX3_init_9 : decode cX3_init 9 = .ok (.putfield 9, 3) := by decide +kernel
theorem dX3_init_12 : decode cX3_init 12 = .ok (.aload_n 0, 1) := by decide +kernel
theorem dX3_init_13 : decode cX3_init 13 = .ok (.bipush 27, 2) := by decide +kernel
theorem dX3_init_15 : decode cX3_init 15 = .ok (.newarray .long, 2) := by decide +kernel
theorem dX3_init_17 : decode cX3_init 17 = .ok (.putfield 15, 3) := by decide +kernel
theorem dX3_init_20 : decode cX3_init 20 = .ok (.return_, 1) := by decide +kernel
theorem dX3_append_0 : decode cX3_append 0 = .ok (.aload_n 0, 1) := by decide +kernel
theorem dX3_append_1 : decode cX3_append 1 = .ok (.getfield 19, 3) := by decide +kernel
theorem dX3_append_4 : decode cX3_append 4 = .ok (.ifCond .lt 12, 3) := by decide +kernel
theorem dX3_append_7 : decode cX3_append 7 = .ok (.aload_n 0, 1) := by decide +kernel
theorem dX3_append_8 : decode cX3_append 8 = .ok (.getfield 19, 3) := by decide +kernel
theorem dX3_append_11 : decode cX3_append 11 = .ok (.bipush 80, 2) := by decide +kernel
theorem dX3_append_13 : decode cX3_append 13 = .ok (.if_icmp .lt 5, 3) := by decide +kernel
theorem dX3_append_16 : decode cX3_append 16 = .ok (.iconst 0, 1) := by decide +kernel
theorem dX3_append_17 : decode cX3_append 17 = .ok (.ireturn, 1) := by decide +kernel
theorem dX3_append_18 : decode cX3_append 18 = .ok (.aload_n 0, 1) := by decide +kernel
theorem dX3_append_19 : decode cX3_append 19 = .ok (.getfield 9, 3) := by decide +kernel
theorem dX3_append_22 : decode cX3_append 22 = .ok (.aload_n 0, 1) := by decide +kernel
theorem dX3_append_23 : decode cX3_append 23 = .ok (.getfield 19, 3) := by decide +kernel
theorem dX3_append_26 : decode cX3_append 26 = .ok (.iload_n 1, 1) := by decide +kernel
theorem dX3_append_27 : decode cX3_append 27 = .ok (.castore, 1) := by decide +kernel
theorem dX3_append_28 : decode cX3_append 28 = .ok (.aload_n 0, 1) := by decide +kernel
theorem dX3_append_29 : decode cX3_append 29 = .ok (.dup, 1) := by decide +kernel
theorem dX3_append_30 : decode cX3_append 30 = .ok (.getfield 19, 3) := by decide +kernel
theorem dX3_append_33 : decode cX3_append 33 = .ok (.iconst 1, 1) := by decide +kernel
theorem dX3_append_34 : decode cX3_append 34 = .ok (.iadd, 1) := by decide +kernel
theorem dX3_append_35 : decode cX3_append 35 = .ok (.putfield 19, 3) := by decide +kernel
theorem dX3_append_38 : decode cX3_append 38 = .ok (.iconst 1, 1) := by decide +kernel
theorem dX3_append_39 : decode cX3_append 39 = .ok (.ireturn, 1) := by decide +kernel
theorem dX3_empty_0 : decode cX3_empty 0 = .ok (.aload_n 0, 1) := by decide +kernel
theorem dX3_empty_1 : decode cX3_empty 1 = .ok (.iconst 0, 1) := by decide +kernel
theorem dX3_empty_2 : decode cX3_empty 2 = .ok (.putfield 19, 3) := by decide +kernel
theorem dX3_empty_5 : decode cX3_empty 5 = .ok (.return_, 1) := by decide +kernel
theorem dX3_signAt_0 : decode cX3_signAt 0 = .ok (.iload_n 1, 1) := by decide +kernel
theorem dX3_signAt_1 : decode cX3_signAt 1 = .ok (.ifCond .lt 18, 3) := by decide +kernel
theorem dX3_signAt_4 : decode cX3_signAt 4 = .ok (.iload_n 1, 1) := by decide +kernel
theorem dX3_signAt_5 : decode cX3_signAt 5 = .ok (.bipush 80, 2) := by decide +kernel
theorem dX3_signAt_7 : decode cX3_signAt 7 = .ok (.if_icmp .ge 12, 3) := by decide +kernel
theorem dX3_signAt_10 : decode cX3_signAt 10 = .ok (.aload_n 0, 1) := by decide +kernel
theorem dX3_signAt_11 : decode cX3_signAt 11 = .ok (.getfield 9, 3) := by decide +kernel
theorem dX3_signAt_14 : decode cX3_signAt 14 = .ok (.iload_n 1, 1) := by decide +kernel
theorem dX3_signAt_15 : decode cX3_signAt 15 = .ok (.caload, 1) := by decide +kernel
theorem dX3_signAt_16 : decode cX3_signAt 16 = .ok (.goto 4, 3) := by decide +kernel
theorem dX3_signAt_19 : decode cX3_signAt 19 = .ok (.iconst 0, 1) := by decide +kernel
theorem dX3_signAt_20 : decode cX3_signAt 20 = .ok (.ireturn, 1) := by decide +kernel
set_option maxRecDepth 20000 in
theorem ggX3_firstError_X3_signAt : GoodIn wsX3_firstError wsX3_signAt := goodIn_r _ [6, 7, 11, 12, 13] (by decide +kernel) (by decide +kernel)
set_option maxRecDepth 20000 in
theorem gX3_firstError_X3_signAt : GoodIn wsX3_firstError (wsV RX3 23 RX3 yX3_signAt wsX3_signAt) := goodIn_app (goodIn_of _ (by decide +kernel)) ggX3_firstError_X3_signAt
set_option maxRecDepth 20000 in
theorem ggX3_firstError_X5_isLetter : GoodIn wsX3_firstError wsX5_isLetter := goodIn_r _ [10] (by decide +kernel) (by decide +kernel)
set_option maxRecDepth 20000 in
theorem gX3_firstError_X5_isLetter_n27 : GoodIn wsX3_firstError (wsX5_isLetter) := ggX3_firstError_X5_isLetter
theorem dX3_firstError_0 : decode cX3_firstError 0 = .ok (.iconst 0, 1) := by decide +kernel
theorem dX3_firstError_1 : decode cX3_firstError 1 = .ok (.istore_n 1, 1) := by decide +kernel
theorem dX3_firstError_2 : decode cX3_firstError 2 = .ok (.iconst 0, 1) := by decide +kernel
theorem dX3_firstError_3 : decode cX3_firstError 3 = .ok (.istore_n 2, 1) := by decide +kernel
theorem dX3_firstError_4 : decode cX3_firstError 4 = .ok (.iload_n 2, 1) := by decide +kernel
theorem dX3_firstError_5 : decode cX3_firstError 5 = .ok (.aload_n 0, 1) := by decide +kernel
theorem dX3_firstError_6 : decode cX3_firstError 6 = .ok (.getfield 19, 3) := by decide +kernel
theorem dX3_firstError_9 : decode cX3_firstError 9 = .ok (.if_icmp .ge 52, 3) := by decide +kernel
theorem dX3_firstError_12 : decode cX3_firstError 12 = .ok (.aload_n 0, 1) := by decide +kernel
theorem dX3_firstError_13 : decode cX3_firstError 13 = .ok (.iload_n 2, 1) := by decide +kernel
theorem dX3_firstError_14 : decode cX3_firstError 14 = .ok (.invokevirtual 23, 3) := by decide +kernel
theorem dX3_firstError_17 : decode cX3_firstError 17 = .ok (.istore_n 3, 1) := by decide +kernel
theorem dX3_firstError_18 : decode cX3_firstError 18 = .ok (.iload_n 3, 1) := by decide +kernel
theorem dX3_firstError_19 : decode cX3_firstError 19 = .ok (.bipush 44, 2) := by decide +kernel
theorem dX3_firstError_21 : decode cX3_firstError 21 = .ok (.if_icmp .ne 13, 3) := by decide +kernel
theorem dX3_firstError_24 : decode cX3_firstError 24 = .ok (.iload_n 1, 1) := by decide +kernel
theorem dX3_firstError_25 : decode cX3_firstError 25 = .ok (.iconst 2, 1) := by decide +kernel
theorem dX3_firstError_26 : decode cX3_firstError 26 = .ok (.if_icmp .lt 8, 3) := by decide +kernel
theorem dX3_firstError_29 : decode cX3_firstError 29 = .ok (.iconst 0, 1) := by decide +kernel
theorem dX3_firstError_30 : decode cX3_firstError 30 = .ok (.istore_n 1, 1) := by decide +kernel
theorem dX3_firstError_31 : decode cX3_firstError 31 = .ok (.goto 24, 3) := by decide +kernel
theorem dX3_firstError_34 : decode cX3_firstError 34 = .ok (.iload_n 3, 1) := by decide +kernel
theorem dX3_firstError_35 : decode cX3_firstError 35 = .ok (.invokestatic 27, 3) := by decide +kernel
theorem dX3_firstError_38 : decode cX3_firstError 38 = .ok (.ifCond .eq 15, 3) := by decide +kernel
theorem dX3_firstError_41 : decode cX3_firstError 41 = .ok (.iload_n 1, 1) := by decide +kernel
theorem dX3_firstError_42 : decode cX3_firstError 42 = .ok (.bipush 8, 2) := by decide +kernel
theorem dX3_firstError_44 : decode cX3_firstError 44 = .ok (.if_icmp .ge 9, 3) := by decide +kernel
theorem dX3_firstError_47 : decode cX3_firstError 47 = .ok (.iinc 1 1, 3) := by decide +kernel
theorem dX3_firstError_50 : decode cX3_firstError 50 = .ok (.goto 5, 3) := by decide +kernel
theorem dX3_firstError_53 : decode cX3_firstError 53 = .ok (.iload_n 2, 1) := by decide +kernel
theorem dX3_firstError_54 : decode cX3_firstError 54 = .ok (.ireturn, 1) := by decide +kernel
theorem dX3_firstError_55 : decode cX3_firstError 55 = .ok (.iinc 2 1, 3) := by decide +kernel
theorem dX3_firstError_58 : decode cX3_firstError 58 = .ok (.goto (-54), 3) := by decide +kernel
theorem dX3_firstError_61 : decode cX3_firstError 61 = .ok (.iload_n 1, 1) := by decide +kernel
theorem dX3_firstError_62 : decode cX3_firstError 62 = .ok (.iconst 2, 1) := by decide +kernel
theorem dX3_firstError_63 : decode cX3_firstError 63 = .ok (.if_icmp .ge 10, 3) := by decide +kernel
theorem dX3_firstError_66 : decode cX3_firstError 66 = .ok (.aload_n 0, 1) := by decide +kernel
theorem dX3_firstError_67 : decode cX3_firstError 67 = .ok (.getfield 19, 3) := by decide +kernel
theorem dX3_firstError_70 : decode cX3_firstError 70 = .ok (.goto 5, 3) := by decide +kernel
theorem dX3_firstError_73 : decode cX3_firstError 73 = .ok (.bipush (-6), 2) := by decide +kernel
theorem dX3_firstError_75 : decode cX3_firstError 75 = .ok (.ireturn, 1) := by decide +kernel
set_option maxRecDepth 20000 in
theorem ggX3_readWords_X3_signAt : GoodIn wsX3_readWords wsX3_signAt := goodIn_r _ [6, 7, 23, 24, 25] (by decide +kernel) (by decide +kernel)
set_option maxRecDepth 20000 in
theorem gX3_readWords_X3_signAt : GoodIn wsX3_readWords (wsV RX3 23 RX3 yX3_signAt wsX3_signAt) := goodIn_app (goodIn_of _ (by decide +kernel)) ggX3_readWords_X3_signAt
set_option maxRecDepth 20000 in
theorem ggX3_readWords_X3_keepRead : GoodIn wsX3_readWords wsX3_keepRead := goodIn_r _ [11, 12, 23, 24, 25] (by decide +kernel) (by decide +kernel)
set_option maxRecDepth 20000 in
theorem gX3_readWords_X3_keepRead : GoodIn wsX3_readWords (wsV RX3 33 RX3 yX3_keepRead wsX3_keepRead) := goodIn_app (goodIn_of _ (by decide +kernel)) ggX3_readWords_X3_keepRead
set_option maxRecDepth 20000 in
theorem ggX3_readWords_X4_withLetter : GoodIn wsX3_readWords wsX4_withLetter := goodIn_r _ [16, 17, 18, 19, 20, 21, 15, 22] (by decide +kernel) (by decide +kernel)
set_option maxRecDepth 20000 in
theorem gX3_readWords_X4_withLetter : GoodIn wsX3_readWords (va_wsS RX3 37 yX4_withLetter wsX4_withLetter) := goodIn_app (goodIn_of _ (by decide +kernel)) ggX3_readWords_X4_withLetter
theorem dX3_readWords_0 : decode cX3_readWords 0 = .ok (.iconst 0, 1) := by decide +kernel
theorem dX3_readWords_1 : decode cX3_readWords 1 = .ok (.istore_n 1, 1) := by decide +kernel
theorem dX3_readWords_2 : decode cX3_readWords 2 = .ok (.iconst 0, 1) := by decide +kernel
theorem dX3_readWords_3 : decode cX3_readWords 3 = .ok (.istore_n 2, 1) := by decide +kernel
theorem dX3_readWords_4 : decode cX3_readWords 4 = .ok (.lconst 0, 1) := by decide +kernel
theorem dX3_readWords_5 : decode cX3_readWords 5 = .ok (.lstore_n 3, 1) := by decide +kernel
theorem dX3_readWords_6 : decode cX3_readWords 6 = .ok (.iconst 0, 1) := by decide +kernel
theorem dX3_readWords_7 : decode cX3_readWords 7 = .ok (.istore 5, 2) := by decide +kernel
theorem dX3_readWords_9 : decode cX3_readWords 9 = .ok (.iload 5, 2) := by decide +kernel
theorem dX3_readWords_11 : decode cX3_readWords 11 = .ok (.aload_n 0, 1) := by decide +kernel
theorem dX3_readWords_12 : decode cX3_readWords 12 = .ok (.getfield 19, 3) := by decide +kernel
theorem dX3_readWords_15 : decode cX3_readWords 15 = .ok (.if_icmp .ge 49, 3) := by decide +kernel
theorem dX3_readWords_18 : decode cX3_readWords 18 = .ok (.aload_n 0, 1) := by decide +kernel
theorem dX3_readWords_19 : decode cX3_readWords 19 = .ok (.iload 5, 2) := by decide +kernel
theorem dX3_readWords_21 : decode cX3_readWords 21 = .ok (.invokevirtual 23, 3) := by decide +kernel
theorem dX3_readWords_24 : decode cX3_readWords 24 = .ok (.istore 6, 2) := by decide +kernel
theorem dX3_readWords_26 : decode cX3_readWords 26 = .ok (.iload 6, 2) := by decide +kernel
theorem dX3_readWords_28 : decode cX3_readWords 28 = .ok (.bipush 44, 2) := by decide +kernel
theorem dX3_readWords_30 : decode cX3_readWords 30 = .ok (.if_icmp .ne 17, 3) := by decide +kernel
theorem dX3_readWords_33 : decode cX3_readWords 33 = .ok (.aload_n 0, 1) := by decide +kernel
theorem dX3_readWords_34 : decode cX3_readWords 34 = .ok (.iload_n 1, 1) := by decide +kernel
theorem dX3_readWords_35 : decode cX3_readWords 35 = .ok (.lload_n 3, 1) := by decide +kernel
theorem dX3_readWords_36 : decode cX3_readWords 36 = .ok (.invokevirtual 33, 3) := by decide +kernel
theorem dX3_readWords_39 : decode cX3_readWords 39 = .ok (.istore_n 1, 1) := by decide +kernel
theorem dX3_readWords_40 : decode cX3_readWords 40 = .ok (.iconst 0, 1) := by decide +kernel
theorem dX3_readWords_41 : decode cX3_readWords 41 = .ok (.istore_n 2, 1) := by decide +kernel
theorem dX3_readWords_42 : decode cX3_readWords 42 = .ok (.lconst 0, 1) := by decide +kernel
theorem dX3_readWords_43 : decode cX3_readWords 43 = .ok (.lstore_n 3, 1) := by decide +kernel
theorem dX3_readWords_44 : decode cX3_readWords 44 = .ok (.goto 14, 3) := by decide +kernel
theorem dX3_readWords_47 : decode cX3_readWords 47 = .ok (.lload_n 3, 1) := by decide +kernel
theorem dX3_readWords_48 : decode cX3_readWords 48 = .ok (.iload_n 2, 1) := by decide +kernel
theorem dX3_readWords_49 : decode cX3_readWords 49 = .ok (.iload 6, 2) := by decide +kernel
theorem dX3_readWords_51 : decode cX3_readWords 51 = .ok (.invokestatic 37, 3) := by decide +kernel
theorem dX3_readWords_54 : decode cX3_readWords 54 = .ok (.lstore_n 3, 1) := by decide +kernel
theorem dX3_readWords_55 : decode cX3_readWords 55 = .ok (.iinc 2 1, 3) := by decide +kernel
theorem dX3_readWords_58 : decode cX3_readWords 58 = .ok (.iinc 5 1, 3) := by decide +kernel
theorem dX3_readWords_61 : decode cX3_readWords 61 = .ok (.goto (-52), 3) := by decide +kernel
theorem dX3_readWords_64 : decode cX3_readWords 64 = .ok (.aload_n 0, 1) := by decide +kernel
theorem dX3_readWords_65 : decode cX3_readWords 65 = .ok (.iload_n 1, 1) := by decide +kernel
theorem dX3_readWords_66 : decode cX3_readWords 66 = .ok (.lload_n 3, 1) := by decide +kernel
theorem dX3_readWords_67 : decode cX3_readWords 67 = .ok (.invokevirtual 33, 3) := by decide +kernel
theorem dX3_readWords_70 : decode cX3_readWords 70 = .ok (.ireturn, 1) := by decide +kernel
theorem dX3_keepRead_0 : decode cX3_keepRead 0 = .ok (.iload_n 1, 1) := by decide +kernel
theorem dX3_keepRead_1 : decode cX3_keepRead 1 = .ok (.ifCond .lt 9, 3) := by decide +kernel
theorem dX3_keepRead_4 : decode cX3_keepRead 4 = .ok (.iload_n 1, 1) := by decide +kernel
theorem dX3_keepRead_5 : decode cX3_keepRead 5 = .ok (.bipush 27, 2) := by decide +kernel
theorem dX3_keepRead_7 : decode cX3_keepRead 7 = .ok (.if_icmp .lt 5, 3) := by decide +kernel
theorem dX3_keepRead_10 : decode cX3_keepRead 10 = .ok (.iload_n 1, 1) := by decide +kernel
theorem dX3_keepRead_11 : decode cX3_keepRead 11 = .ok (.ireturn, 1) := by decide +kernel
theorem dX3_keepRead_12 : decode cX3_keepRead 12 = .ok (.aload_n 0, 1) := by decide +kernel
theorem dX3_keepRead_13 : decode cX3_keepRead 13 = .ok (.getfield 15, 3) := by decide +kernel
theorem dX3_keepRead_16 : decode cX3_keepRead 16 = .ok (.iload_n 1, 1) := by decide +kernel
theorem dX3_keepRead_17 : decode cX3_keepRead 17 = .ok (.lload_n 2, 1) := by decide +kernel
theorem dX3_keepRead_18 : decode cX3_keepRead 18 = .ok (.lastore, 1) := by decide +kernel
theorem dX3_keepRead_19 : decode cX3_keepRead 19 = .ok (.iload_n 1, 1) := by decide +kernel
theorem dX3_keepRead_20 : decode cX3_keepRead 20 = .ok (.iconst 1, 1) := by decide +kernel
theorem dX3_keepRead_21 : decode cX3_keepRead 21 = .ok (.iadd, 1) := by decide +kernel
theorem dX3_keepRead_22 : decode cX3_keepRead 22 = .ok (.ireturn, 1) := by decide +kernel
theorem dX3_wordRead_0 : decode cX3_wordRead 0 = .ok (.iload_n 1, 1) := by decide +kernel
theorem dX3_wordRead_1 : decode cX3_wordRead 1 = .ok (.ifCond .lt 18, 3) := by decide +kernel
theorem dX3_wordRead_4 : decode cX3_wordRead 4 = .ok (.iload_n 1, 1) := by decide +kernel
theorem dX3_wordRead_5 : decode cX3_wordRead 5 = .ok (.bipush 27, 2) := by decide +kernel
theorem dX3_wordRead_7 : decode cX3_wordRead 7 = .ok (.if_icmp .ge 12, 3) := by decide +kernel
theorem dX3_wordRead_10 : decode cX3_wordRead 10 = .ok (.aload_n 0, 1) := by decide +kernel
theorem dX3_wordRead_11 : decode cX3_wordRead 11 = .ok (.getfield 15, 3) := by decide +kernel
theorem dX3_wordRead_14 : decode cX3_wordRead 14 = .ok (.iload_n 1, 1) := by decide +kernel
theorem dX3_wordRead_15 : decode cX3_wordRead 15 = .ok (.laload, 1) := by decide +kernel
theorem dX3_wordRead_16 : decode cX3_wordRead 16 = .ok (.goto 4, 3) := by decide +kernel
theorem dX3_wordRead_19 : decode cX3_wordRead 19 = .ok (.lconst 0, 1) := by decide +kernel
theorem dX3_wordRead_20 : decode cX3_wordRead 20 = .ok (.lreturn, 1) := by decide +kernel
set_option maxRecDepth 20000 in
theorem ggX4_letterAt_X4_shiftOf : GoodIn wsX4_letterAt wsX4_shiftOf := goodIn_r _ [4] (by decide +kernel) (by decide +kernel)
set_option maxRecDepth 20000 in
theorem gX4_letterAt_X4_shiftOf : GoodIn wsX4_letterAt (va_wsS RX4 11 yX4_shiftOf wsX4_shiftOf) := goodIn_app (goodIn_of _ (by decide +kernel)) ggX4_letterAt_X4_shiftOf
theorem dX4_letterAt_0 : decode cX4_letterAt 0 = .ok (.iload_n 2, 1) := by decide +kernel
theorem dX4_letterAt_1 : decode cX4_letterAt 1 = .ok (.ifCond .lt 9, 3) := by decide +kernel
theorem dX4_letterAt_4 : decode cX4_letterAt 4 = .ok (.iload_n 2, 1) := by decide +kernel
theorem dX4_letterAt_5 : decode cX4_letterAt 5 = .ok (.bipush 8, 2) := by decide +kernel
theorem dX4_letterAt_7 : decode cX4_letterAt 7 = .ok (.if_icmp .lt 5, 3) := by decide +kernel
theorem dX4_letterAt_10 : decode cX4_letterAt 10 = .ok (.iconst 0, 1) := by decide +kernel
theorem dX4_letterAt_11 : decode cX4_letterAt 11 = .ok (.ireturn, 1) := by decide +kernel
theorem dX4_letterAt_12 : decode cX4_letterAt 12 = .ok (.lload_n 0, 1) := by decide +kernel
theorem dX4_letterAt_13 : decode cX4_letterAt 13 = .ok (.iload_n 2, 1) := by decide +kernel
theorem dX4_letterAt_14 : decode cX4_letterAt 14 = .ok (.invokestatic 11, 3) := by decide +kernel
theorem dX4_letterAt_17 : decode cX4_letterAt 17 = .ok (.lshr, 1) := by decide +kernel
theorem dX4_letterAt_18 : decode cX4_letterAt 18 = .ok (.l2i, 1) := by decide +kernel
theorem dX4_letterAt_19 : decode cX4_letterAt 19 = .ok (.bipush 31, 2) := by decide +kernel
theorem dX4_letterAt_21 : decode cX4_letterAt 21 = .ok (.iand, 1) := by decide +kernel
theorem dX4_letterAt_22 : decode cX4_letterAt 22 = .ok (.istore_n 3, 1) := by decide +kernel
theorem dX4_letterAt_23 : decode cX4_letterAt 23 = .ok (.iload_n 3, 1) := by decide +kernel
theorem dX4_letterAt_24 : decode cX4_letterAt 24 = .ok (.ifCond .ne 7, 3) := by decide +kernel
theorem dX4_letterAt_27 : decode cX4_letterAt 27 = .ok (.iconst 0, 1) := by decide +kernel
theorem dX4_letterAt_28 : decode cX4_letterAt 28 = .ok (.goto 7, 3) := by decide +kernel
theorem dX4_letterAt_31 : decode cX4_letterAt 31 = .ok (.bipush 96, 2) := by decide +kernel
theorem dX4_letterAt_33 : decode cX4_letterAt 33 = .ok (.iload_n 3, 1) := by decide +kernel
theorem dX4_letterAt_34 : decode cX4_letterAt 34 = .ok (.iadd, 1) := by decide +kernel
theorem dX4_letterAt_35 : decode cX4_letterAt 35 = .ok (.ireturn, 1) := by decide +kernel
set_option maxRecDepth 20000 in
theorem ggX4_withLetter_X5_isLetter : GoodIn wsX4_withLetter wsX5_isLetter := goodIn_r _ [3] (by decide +kernel) (by decide +kernel)
set_option maxRecDepth 20000 in
theorem gX4_withLetter_X5_isLetter_n15 : GoodIn wsX4_withLetter (wsX5_isLetter) := ggX4_withLetter_X5_isLetter
set_option maxRecDepth 20000 in
theorem ggX4_withLetter_X4_shiftOf : GoodIn wsX4_withLetter wsX4_shiftOf := goodIn_r _ [7] (by decide +kernel) (by decide +kernel)
set_option maxRecDepth 20000 in
theorem gX4_withLetter_X4_shiftOf : GoodIn wsX4_withLetter (va_wsS RX4 11 yX4_shiftOf wsX4_shiftOf) := goodIn_app (goodIn_of _ (by decide +kernel)) ggX4_withLetter_X4_shiftOf
theorem dX4_withLetter_0 : decode cX4_withLetter 0 = .ok (.iload_n 2, 1) := by decide +kernel
theorem dX4_withLetter_1 : decode cX4_withLetter 1 = .ok (.ifCond .lt 16, 3) := by decide +kernel
theorem dX4_withLetter_4 : decode cX4_withLetter 4 = .ok (.iload_n 2, 1) := by decide +kernel
theorem dX4_withLetter_5 : decode cX4_withLetter 5 = .ok (.bipush 8, 2) := by decide +kernel
theorem dX4_withLetter_7 : decode cX4_withLetter 7 = .ok (.if_icmp .ge 10, 3) := by decide +kernel
theorem dX4_withLetter_10 : decode cX4_withLetter 10 = .ok (.iload_n 3, 1) := by decide +kernel
theorem dX4_withLetter_11 : decode cX4_withLetter 11 = .ok (.invokestatic 15, 3) := by decide +kernel
theorem dX4_withLetter_14 : decode cX4_withLetter 14 = .ok (.ifCond .ne 5, 3) := by decide +kernel
theorem dX4_withLetter_17 : decode cX4_withLetter 17 = .ok (.lload_n 0, 1) := by decide +kernel
theorem dX4_withLetter_18 : decode cX4_withLetter 18 = .ok (.lreturn, 1) := by decide +kernel
theorem dX4_withLetter_19 : decode cX4_withLetter 19 = .ok (.lload_n 0, 1) := by decide +kernel
theorem dX4_withLetter_20 : decode cX4_withLetter 20 = .ok (.iload_n 3, 1) := by decide +kernel
theorem dX4_withLetter_21 : decode cX4_withLetter 21 = .ok (.bipush 96, 2) := by decide +kernel
theorem dX4_withLetter_23 : decode cX4_withLetter 23 = .ok (.isub, 1) := by decide +kernel
theorem dX4_withLetter_24 : decode cX4_withLetter 24 = .ok (.i2l, 1) := by decide +kernel
theorem dX4_withLetter_25 : decode cX4_withLetter 25 = .ok (.iload_n 2, 1) := by decide +kernel
theorem dX4_withLetter_26 : decode cX4_withLetter 26 = .ok (.invokestatic 11, 3) := by decide +kernel
theorem dX4_withLetter_29 : decode cX4_withLetter 29 = .ok (.lshl, 1) := by decide +kernel
theorem dX4_withLetter_30 : decode cX4_withLetter 30 = .ok (.lor, 1) := by decide +kernel
theorem dX4_withLetter_31 : decode cX4_withLetter 31 = .ok (.lreturn, 1) := by decide +kernel
theorem dX4_shiftOf_0 : decode cX4_shiftOf 0 = .ok (.iconst 5, 1) := by decide +kernel
theorem dX4_shiftOf_1 : decode cX4_shiftOf 1 = .ok (.bipush 7, 2) := by decide +kernel
theorem dX4_shiftOf_3 : decode cX4_shiftOf 3 = .ok (.iload_n 0, 1) := by decide +kernel
theorem dX4_shiftOf_4 : decode cX4_shiftOf 4 = .ok (.isub, 1) := by decide +kernel
theorem dX4_shiftOf_5 : decode cX4_shiftOf 5 = .ok (.imul, 1) := by decide +kernel
theorem dX4_shiftOf_6 : decode cX4_shiftOf 6 = .ok (.ireturn, 1) := by decide +kernel
set_option maxRecDepth 20000 in
theorem ggX4_lengthOf_X4_letterAt : GoodIn wsX4_lengthOf wsX4_letterAt := goodIn_r _ [4, 5, 6, 3, 7] (by decide +kernel) (by decide +kernel)
set_option maxRecDepth 20000 in
theorem gX4_lengthOf_X4_letterAt : GoodIn wsX4_lengthOf (va_wsS RX4 19 yX4_letterAt wsX4_letterAt) := goodIn_app (goodIn_of _ (by decide +kernel)) ggX4_lengthOf_X4_letterAt
theorem dX4_lengthOf_0 : decode cX4_lengthOf 0 = .ok (.iconst 0, 1) := by decide +kernel
theorem dX4_lengthOf_1 : decode cX4_lengthOf 1 = .ok (.istore_n 2, 1) := by decide +kernel
theorem dX4_lengthOf_2 : decode cX4_lengthOf 2 = .ok (.iconst 0, 1) := by decide +kernel
theorem dX4_lengthOf_3 : decode cX4_lengthOf 3 = .ok (.istore_n 3, 1) := by decide +kernel
theorem dX4_lengthOf_4 : decode cX4_lengthOf 4 = .ok (.iload_n 3, 1) := by decide +kernel
theorem dX4_lengthOf_5 : decode cX4_lengthOf 5 = .ok (.bipush 8, 2) := by decide +kernel
theorem dX4_lengthOf_7 : decode cX4_lengthOf 7 = .ok (.if_icmp .ge 20, 3) := by decide +kernel
theorem dX4_lengthOf_10 : decode cX4_lengthOf 10 = .ok (.lload_n 0, 1) := by decide +kernel
theorem dX4_lengthOf_11 : decode cX4_lengthOf 11 = .ok (.iload_n 3, 1) := by decide +kernel
theorem dX4_lengthOf_12 : decode cX4_lengthOf 12 = .ok (.invokestatic 19, 3) := by decide +kernel
theorem dX4_lengthOf_15 : decode cX4_lengthOf 15 = .ok (.ifCond .eq 6, 3) := by decide +kernel
theorem dX4_lengthOf_18 : decode cX4_lengthOf 18 = .ok (.iinc 2 1, 3) := by decide +kernel
theorem dX4_lengthOf_21 : decode cX4_lengthOf 21 = .ok (.iinc 3 1, 3) := by decide +kernel
theorem dX4_lengthOf_24 : decode cX4_lengthOf 24 = .ok (.goto (-20), 3) := by decide +kernel
theorem dX4_lengthOf_27 : decode cX4_lengthOf 27 = .ok (.iload_n 2, 1) := by decide +kernel
theorem dX4_lengthOf_28 : decode cX4_lengthOf 28 = .ok (.ireturn, 1) := by decide +kernel
set_option maxRecDepth 20000 in
theorem ggX4_maskOf_X4_letterAt : GoodIn wsX4_maskOf wsX4_letterAt := goodIn_r _ [4, 5, 6, 3, 7] (by decide +kernel) (by decide +kernel)
set_option maxRecDepth 20000 in
theorem gX4_maskOf_X4_letterAt : GoodIn wsX4_maskOf (va_wsS RX4 19 yX4_letterAt wsX4_letterAt) := goodIn_app (goodIn_of _ (by decide +kernel)) ggX4_maskOf_X4_letterAt
theorem dX4_maskOf_0 : decode cX4_maskOf 0 = .ok (.iconst 0, 1) := by decide +kernel
theorem dX4_maskOf_1 : decode cX4_maskOf 1 = .ok (.istore_n 3, 1) := by decide +kernel
theorem dX4_maskOf_2 : decode cX4_maskOf 2 = .ok (.iconst 0, 1) := by decide +kernel
theorem dX4_maskOf_3 : decode cX4_maskOf 3 = .ok (.istore 4, 2) := by decide +kernel
theorem dX4_maskOf_5 : decode cX4_maskOf 5 = .ok (.iload 4, 2) := by decide +kernel
theorem dX4_maskOf_7 : decode cX4_maskOf 7 = .ok (.bipush 8, 2) := by decide +kernel
theorem dX4_maskOf_9 : decode cX4_maskOf 9 = .ok (.if_icmp .ge 26, 3) := by decide +kernel
theorem dX4_maskOf_12 : decode cX4_maskOf 12 = .ok (.lload_n 0, 1) := by decide +kernel
theorem dX4_maskOf_13 : decode cX4_maskOf 13 = .ok (.iload 4, 2) := by decide +kernel
theorem dX4_maskOf_15 : decode cX4_maskOf 15 = .ok (.invokestatic 19, 3) := by decide +kernel
theorem dX4_maskOf_18 : decode cX4_maskOf 18 = .ok (.iload_n 2, 1) := by decide +kernel
theorem dX4_maskOf_19 : decode cX4_maskOf 19 = .ok (.if_icmp .ne 10, 3) := by decide +kernel
theorem dX4_maskOf_22 : decode cX4_maskOf 22 = .ok (.iload_n 3, 1) := by decide +kernel
theorem dX4_maskOf_23 : decode cX4_maskOf 23 = .ok (.iconst 1, 1) := by decide +kernel
theorem dX4_maskOf_24 : decode cX4_maskOf 24 = .ok (.iload 4, 2) := by decide +kernel
theorem dX4_maskOf_26 : decode cX4_maskOf 26 = .ok (.ishl, 1) := by decide +kernel
theorem dX4_maskOf_27 : decode cX4_maskOf 27 = .ok (.ior, 1) := by decide +kernel
theorem dX4_maskOf_28 : decode cX4_maskOf 28 = .ok (.istore_n 3, 1) := by decide +kernel
theorem dX4_maskOf_29 : decode cX4_maskOf 29 = .ok (.iinc 4 1, 3) := by decide +kernel
theorem dX4_maskOf_32 : decode cX4_maskOf 32 = .ok (.goto (-27), 3) := by decide +kernel
theorem dX4_maskOf_35 : decode cX4_maskOf 35 = .ok (.iload_n 3, 1) := by decide +kernel
theorem dX4_maskOf_36 : decode cX4_maskOf 36 = .ok (.ireturn, 1) := by decide +kernel
set_option maxRecDepth 20000 in
theorem ggX4_lettersOf_X4_letterAt : GoodIn wsX4_lettersOf wsX4_letterAt := goodIn_r _ [4, 5, 6, 3, 7] (by decide +kernel) (by decide +kernel)
set_option maxRecDepth 20000 in
theorem gX4_lettersOf_X4_letterAt : GoodIn wsX4_lettersOf (va_wsS RX4 19 yX4_letterAt wsX4_letterAt) := goodIn_app (goodIn_of _ (by decide +kernel)) ggX4_lettersOf_X4_letterAt
set_option maxRecDepth 20000 in
theorem ggX4_lettersOf_X5_bitOf : GoodIn wsX4_lettersOf wsX5_bitOf := goodIn_r _ [10, 11, 12, 9, 13] (by decide +kernel) (by decide +kernel)
set_option maxRecDepth 20000 in
theorem gX4_lettersOf_X5_bitOf_n23 : GoodIn wsX4_lettersOf (wsX5_bitOf) := ggX4_lettersOf_X5_bitOf
theorem dX4_lettersOf_0 : decode cX4_lettersOf 0 = .ok (.iconst 0, 1) := by decide +kernel
theorem dX4_lettersOf_1 : decode cX4_lettersOf 1 = .ok (.istore_n 2, 1) := by decide +kernel
theorem dX4_lettersOf_2 : decode cX4_lettersOf 2 = .ok (.iconst 0, 1) := by decide +kernel
theorem dX4_lettersOf_3 : decode cX4_lettersOf 3 = .ok (.istore_n 3, 1) := by decide +kernel
theorem dX4_lettersOf_4 : decode cX4_lettersOf 4 = .ok (.iload_n 3, 1) := by decide +kernel
theorem dX4_lettersOf_5 : decode cX4_lettersOf 5 = .ok (.bipush 8, 2) := by decide +kernel
theorem dX4_lettersOf_7 : decode cX4_lettersOf 7 = .ok (.if_icmp .ge 20, 3) := by decide +kernel
theorem dX4_lettersOf_10 : decode cX4_lettersOf 10 = .ok (.iload_n 2, 1) := by decide +kernel
theorem dX4_lettersOf_11 : decode cX4_lettersOf 11 = .ok (.lload_n 0, 1) := by decide +kernel
theorem dX4_lettersOf_12 : decode cX4_lettersOf 12 = .ok (.iload_n 3, 1) := by decide +kernel
theorem dX4_lettersOf_13 : decode cX4_lettersOf 13 = .ok (.invokestatic 19, 3) := by decide +kernel
theorem dX4_lettersOf_16 : decode cX4_lettersOf 16 = .ok (.invokestatic 23, 3) := by decide +kernel
theorem dX4_lettersOf_19 : decode cX4_lettersOf 19 = .ok (.ior, 1) := by decide +kernel
theorem dX4_lettersOf_20 : decode cX4_lettersOf 20 = .ok (.istore_n 2, 1) := by decide +kernel
theorem dX4_lettersOf_21 : decode cX4_lettersOf 21 = .ok (.iinc 3 1, 3) := by decide +kernel
theorem dX4_lettersOf_24 : decode cX4_lettersOf 24 = .ok (.goto (-20), 3) := by decide +kernel
theorem dX4_lettersOf_27 : decode cX4_lettersOf 27 = .ok (.iload_n 2, 1) := by decide +kernel
theorem dX4_lettersOf_28 : decode cX4_lettersOf 28 = .ok (.ireturn, 1) := by decide +kernel
set_option maxRecDepth 20000 in
theorem ggX5_init_X3_init : GoodIn wsX5_init wsX3_init := goodIn_r _ [22, 23, 2, 3, 24, 25, 26, 27, 46, 47, 48] (by decide +kernel) (by decide +kernel)
set_option maxRecDepth 20000 in
theorem gX5_init_X3_init_n9 : GoodIn wsX5_init (wsX3_init) := ggX5_init_X3_init
set_option maxRecDepth 20000 in
theorem ggX5_init_X2_init : GoodIn wsX5_init wsX2_init := goodIn_r _ [29, 30, 2, 3, 26, 31, 32, 33, 34, 54, 55, 56, 57, 58, 59, 60, 61, 62, 63, 64, 65] (by decide +kernel) (by decide +kernel)
set_option maxRecDepth 20000 in
theorem gX5_init_X2_init_n18 : GoodIn wsX5_init (wsX2_init) := ggX5_init_X2_init
set_option maxRecDepth 20000 in
theorem ggX5_init_X1_init : GoodIn wsX5_init wsX1_init := goodIn_r _ [36, 37, 2, 3, 38, 39, 66, 67, 68] (by decide +kernel) (by decide +kernel)
set_option maxRecDepth 20000 in
theorem gX5_init_X1_init_n25 : GoodIn wsX5_init (wsX1_init) := ggX5_init_X1_init
set_option maxRecDepth 20000 in
theorem ggX5_init_X0_init : GoodIn wsX5_init wsX0_init := goodIn_r _ [41, 42, 2, 3, 32, 43, 44, 45, 69, 70, 71, 72, 73] (by decide +kernel) (by decide +kernel)
set_option maxRecDepth 20000 in
theorem gX5_init_X0_init_n35 : GoodIn wsX5_init (wsX0_init) := ggX5_init_X0_init
theorem dX5_init_0 : decode cX5_init 0 = .ok (.aload_n 0, 1) := by decide +kernel
theorem dX5_init_1 : decode cX5_init 1 = .ok (.invokespecial 1, 3) := by decide +kernel
theorem dX5_init_4 : decode cX5_init 4 = .ok (.aload_n 0, 1) := by decide +kernel
theorem dX5_init_5 : decode cX5_init 5 = .ok (.new 7, 3) := by decide +kernel
theorem dX5_init_8 : decode cX5_init 8 = .ok (.dup, 1) := by decide +kernel
theorem dX5_init_9 : decode cX5_init 9 = .ok (.invokespecial 9, 3) := by decide +kernel
theorem dX5_init_12 : decode cX5_init 12 = .ok (.putfield 10, 3) := by decide +kernel
theorem dX5_init_15 : decode cX5_init 15 = .ok (.aload_n 0, 1) := by decide +kernel
theorem dX5_init_16 : decode cX5_init 16 = .ok (.new 16, 3) := by decide +kernel
theorem dX5_init_19 : decode cX5_init 19 = .ok (.dup, 1) := by decide +kernel
theorem dX5_init_20 : decode cX5_init 20 = .ok (.invokespecial 18, 3) := by decide +kernel
theorem dX5_init_23 : decode cX5_init 23 = .ok (.putfield 19, 3) := by decide +kernel
theorem dX5_init_26 : decode cX5_init 26 = .ok (.aload_n 0, 1) := by decide +kernel
theorem dX5_init_27 : decode cX5_init 27 = .ok (.new 23, 3) := by decide +kernel
theorem dX5_init_30 : decode cX5_init 30 = .ok (.dup, 1) := by decide +kernel
theorem dX5_init_31 : decode cX5_init 31 = .ok (.invokespecial 25, 3) := by decide +kernel
theorem dX5_init_34 : decode cX5_init 34 = .ok (.putfield 26, 3) := by decide +kernel
theorem dX5_init_37 : decode cX5_init 37 = .ok (.aload_n 0, 1) := by decide +kernel
theorem dX5_init_38 : decode cX5_init 38 = .ok (.new 16, 3) := by decide +kernel
theorem dX5_init_41 : decode cX5_init 41 = .ok (.dup, 1) := by decide +kernel
theorem dX5_init_42 : decode cX5_init 42 = .ok (.invokespecial 18, 3) := by decide +kernel
theorem dX5_init_45 : decode cX5_init 45 = .ok (.putfield 30, 3) := by decide +kernel
theorem dX5_init_48 : decode cX5_init 48 = .ok (.aload_n 0, 1) := by decide +kernel
theorem dX5_init_49 : decode cX5_init 49 = .ok (.new 33, 3) := by decide +kernel
theorem dX5_init_52 : decode cX5_init 52 = .ok (.dup, 1) := by decide +kernel
theorem dX5_init_53 : decode cX5_init 53 = .ok (.invokespecial 35, 3) := by decide +kernel
theorem dX5_init_56 : decode cX5_init 56 = .ok (.putfield 36, 3) := by decide +kernel
theorem dX5_init_59 : decode cX5_init 59 = .ok (.return_, 1) := by decide +kernel
set_option maxRecDepth 20000 in
theorem ggX5_type_X3_append : GoodIn wsX5_type wsX3_append := goodIn_r _ [6, 7, 8, 14, 15, 16] (by decide +kernel) (by decide +kernel)
set_option maxRecDepth 20000 in
theorem gX5_type_X3_append : GoodIn wsX5_type (wsV RX5 40 RX3 yX3_append wsX3_append) := goodIn_app (goodIn_of _ (by decide +kernel)) ggX5_type_X3_append
theorem dX5_type_0 : decode cX5_type 0 = .ok (.iload_n 1, 1) := by decide +kernel
theorem dX5_type_1 : decode cX5_type 1 = .ok (.bipush 33, 2) := by decide +kernel
theorem dX5_type_3 : decode cX5_type 3 = .ok (.if_icmp .lt 9, 3) := by decide +kernel
theorem dX5_type_6 : decode cX5_type 6 = .ok (.iload_n 1, 1) := by decide +kernel
theorem dX5_type_7 : decode cX5_type 7 = .ok (.bipush 126, 2) := by decide +kernel
theorem dX5_type_9 : decode cX5_type 9 = .ok (.if_icmp .le 6, 3) := by decide +kernel
theorem dX5_type_12 : decode cX5_type 12 = .ok (.bipush (-2), 2) := by decide +kernel
theorem dX5_type_14 : decode cX5_type 14 = .ok (.ireturn, 1) := by decide +kernel
theorem dX5_type_15 : decode cX5_type 15 = .ok (.aload_n 0, 1) := by decide +kernel
theorem dX5_type_16 : decode cX5_type 16 = .ok (.getfield 10, 3) := by decide +kernel
theorem dX5_type_19 : decode cX5_type 19 = .ok (.iload_n 1, 1) := by decide +kernel
theorem dX5_type_20 : decode cX5_type 20 = .ok (.i2c, 1) := by decide +kernel
theorem dX5_type_21 : decode cX5_type 21 = .ok (.invokevirtual 40, 3) := by decide +kernel
theorem dX5_type_24 : decode cX5_type 24 = .ok (.ifCond .eq 13, 3) := by decide +kernel
theorem dX5_type_27 : decode cX5_type 27 = .ok (.aload_n 0, 1) := by decide +kernel
theorem dX5_type_28 : decode cX5_type 28 = .ok (.getfield 10, 3) := by decide +kernel
theorem dX5_type_31 : decode cX5_type 31 = .ok (.getfield 44, 3) := by decide +kernel
theorem dX5_type_34 : decode cX5_type 34 = .ok (.goto 5, 3) := by decide +kernel
theorem dX5_type_37 : decode cX5_type 37 = .ok (.bipush (-4), 2) := by decide +kernel
theorem dX5_type_39 : decode cX5_type 39 = .ok (.ireturn, 1) := by decide +kernel
set_option maxRecDepth 20000 in
theorem ggX5_clearText_X3_empty : GoodIn wsX5_clearText wsX3_empty := goodIn_r _ [6, 7, 13, 14, 15] (by decide +kernel) (by decide +kernel)
set_option maxRecDepth 20000 in
theorem gX5_clearText_X3_empty : GoodIn wsX5_clearText (wsV RX5 48 RX3 yX3_empty wsX3_empty) := goodIn_app (goodIn_of _ (by decide +kernel)) ggX5_clearText_X3_empty
theorem dX5_clearText_0 : decode cX5_clearText 0 = .ok (.aload_n 0, 1) := by decide +kernel
theorem dX5_clearText_1 : decode cX5_clearText 1 = .ok (.getfield 10, 3) := by decide +kernel
theorem dX5_clearText_4 : decode cX5_clearText 4 = .ok (.getfield 44, 3) := by decide +kernel
theorem dX5_clearText_7 : decode cX5_clearText 7 = .ok (.istore_n 1, 1) := by decide +kernel
theorem dX5_clearText_8 : decode cX5_clearText 8 = .ok (.aload_n 0, 1) := by decide +kernel
theorem dX5_clearText_9 : decode cX5_clearText 9 = .ok (.getfield 10, 3) := by decide +kernel
theorem dX5_clearText_12 : decode cX5_clearText 12 = .ok (.invokevirtual 48, 3) := by decide +kernel
theorem dX5_clearText_15 : decode cX5_clearText 15 = .ok (.iload_n 1, 1) := by decide +kernel
theorem dX5_clearText_16 : decode cX5_clearText 16 = .ok (.ireturn, 1) := by decide +kernel
set_option maxRecDepth 20000 in
theorem ggX5_syntaxError_X3_firstError : GoodIn wsX5_syntaxError wsX3_firstError := goodIn_r _ [6, 7, 8, 9, 10, 5, 11, 12, 13, 14, 15, 21, 22, 23] (by decide +kernel) (by decide +kernel)
set_option maxRecDepth 20000 in
theorem gX5_syntaxError_X3_firstError : GoodIn wsX5_syntaxError (wsV RX5 51 RX3 yX3_firstError wsX3_firstError) := goodIn_app (goodIn_of _ (by decide +kernel)) ggX5_syntaxError_X3_firstError
theorem dX5_syntaxError_0 : decode cX5_syntaxError 0 = .ok (.aload_n 0, 1) := by decide +kernel
theorem dX5_syntaxError_1 : decode cX5_syntaxError 1 = .ok (.getfield 10, 3) := by decide +kernel
theorem dX5_syntaxError_4 : decode cX5_syntaxError 4 = .ok (.invokevirtual 51, 3) := by decide +kernel
theorem dX5_syntaxError_7 : decode cX5_syntaxError 7 = .ok (.ireturn, 1) := by decide +kernel
set_option maxRecDepth 20000 in
theorem ggX5_addWords_X3_firstError : GoodIn wsX5_addWords wsX3_firstError := goodIn_r _ [9, 10, 11, 12, 13, 8, 14, 15, 16, 17, 18, 135, 136, 137] (by decide +kernel) (by decide +kernel)
set_option maxRecDepth 20000 in
theorem gX5_addWords_X3_firstError : GoodIn wsX5_addWords (wsV RX5 51 RX3 yX3_firstError wsX3_firstError) := goodIn_app (goodIn_of _ (by decide +kernel)) ggX5_addWords_X3_firstError
set_option maxRecDepth 20000 in
theorem ggX5_addWords_X2_isRunning : GoodIn wsX5_addWords wsX2_isRunning := goodIn_r _ [23, 24, 123, 124, 125, 126, 127, 128, 129, 130, 131, 132, 133, 134] (by decide +kernel) (by decide +kernel)
set_option maxRecDepth 20000 in
theorem gX5_addWords_X2_isRunning : GoodIn wsX5_addWords (wsV RX5 55 RX2 yX2_isRunning wsX2_isRunning) := goodIn_app (goodIn_of _ (by decide +kernel)) ggX5_addWords_X2_isRunning
set_option maxRecDepth 20000 in
theorem ggX5_addWords_X2_copyFrom : GoodIn wsX5_addWords wsX2_copyFrom := goodIn_r _ [28, 29, 30, 31, 32, 33, 34, 35, 36, 37, 24, 38, 39, 40, 41, 42, 43, 123, 124, 125, 126, 127, 128, 129, 130, 131, 132, 133, 134] (by decide +kernel) (by decide +kernel)
set_option maxRecDepth 20000 in
theorem gX5_addWords_X2_copyFrom : GoodIn wsX5_addWords (wsV RX5 59 RX2 yX2_copyFrom wsX2_copyFrom) := goodIn_app (goodIn_of _ (by decide +kernel)) ggX5_addWords_X2_copyFrom
set_option maxRecDepth 20000 in
theorem ggX5_addWords_X5_addTextTo : GoodIn wsX5_addWords wsX5_addTextTo := goodIn_r _ [47, 1, 48, 49, 50, 8, 51, 10, 11, 12, 13, 14, 15, 52, 53, 54, 55, 56, 57, 58, 59, 60, 16, 17, 18, 61, 62, 63, 64, 65, 66, 67, 68, 69, 70, 22, 71, 72, 73, 74, 75, 36, 76, 77, 78, 79, 29, 80, 81, 82, 83, 84, 85, 86, 87, 118, 119, 120, 121, 122, 135, 136, 137, 123, 124, 125, 126, 127, 128, 129, 130, 131, 132, 133, 134] (by decide +kernel) (by decide +kernel)
set_option maxRecDepth 20000 in
theorem gX5_addWords_X5_addTextTo : GoodIn wsX5_addWords (wsV RX5 63 RX5 yX5_addTextTo wsX5_addTextTo) := goodIn_app (goodIn_of _ (by decide +kernel)) ggX5_addWords_X5_addTextTo
set_option maxRecDepth 20000 in
theorem ggX5_addWords_X1_push : GoodIn wsX5_addWords wsX1_push := goodIn_r _ [92, 93, 94, 95, 96, 22, 97, 98, 99, 100, 101, 102, 103, 104, 105, 106, 107, 29, 108, 34, 35, 109, 26, 27, 28, 30, 31, 32, 33, 36, 37, 24, 38, 39, 40, 41, 42, 43, 138, 139, 140, 123, 124, 125, 126, 127, 128, 129, 130, 131, 132, 133, 134] (by decide +kernel) (by decide +kernel)
set_option maxRecDepth 20000 in
theorem gX5_addWords_X1_push : GoodIn wsX5_addWords (wsV RX5 70 RX1 yX1_push wsX1_push) := goodIn_app (goodIn_of _ (by decide +kernel)) ggX5_addWords_X1_push
set_option maxRecDepth 20000 in
theorem ggX5_addWords_X2_endWithoutGame : GoodIn wsX5_addWords wsX2_endWithoutGame := goodIn_r _ [113, 24, 38, 39, 40, 41, 42, 43, 123, 124, 125, 126, 127, 128, 129, 130, 131, 132, 133, 134] (by decide +kernel) (by decide +kernel)
set_option maxRecDepth 20000 in
theorem gX5_addWords_X2_endWithoutGame : GoodIn wsX5_addWords (wsV RX5 73 RX2 yX2_endWithoutGame wsX2_endWithoutGame) := goodIn_app (goodIn_of _ (by decide +kernel)) ggX5_addWords_X2_endWithoutGame
set_option maxRecDepth 20000 in
theorem ggX5_addWords_X3_empty : GoodIn wsX5_addWords wsX3_empty := goodIn_r _ [117, 10, 135, 136, 137] (by decide +kernel) (by decide +kernel)
set_option maxRecDepth 20000 in
theorem gX5_addWords_X3_empty : GoodIn wsX5_addWords (wsV RX5 48 RX3 yX3_empty wsX3_empty) := goodIn_app (goodIn_of _ (by decide +kernel)) ggX5_addWords_X3_empty
theorem dX5_addWords_0 : decode cX5_addWords 0 = .ok (.aload_n 0, 1) := by decide +kernel
theorem dX5_addWords_1 : decode cX5_addWords 1 = .ok (.getfield 10, 3) := by decide +kernel
theorem dX5_addWords_4 : decode cX5_addWords 4 = .ok (.invokevirtual 51, 3) := by decide +kernel
theorem dX5_addWords_7 : decode cX5_addWords 7 = .ok (.bipush (-6), 2) := by decide +kernel
theorem dX5_addWords_9 : decode cX5_addWords 9 = .ok (.if_icmp .eq 6, 3) := by decide +kernel
theorem dX5_addWords_12 : decode cX5_addWords 12 = .ok (.bipush (-5), 2) := by decide +kernel
theorem dX5_addWords_14 : decode cX5_addWords 14 = .ok (.ireturn, 1) := by decide +kernel
theorem dX5_addWords_15 : decode cX5_addWords 15 = .ok (.aload_n 0, 1) := by decide +kernel
theorem dX5_addWords_16 : decode cX5_addWords 16 = .ok (.getfield 19, 3) := by decide +kernel
theorem dX5_addWords_19 : decode cX5_addWords 19 = .ok (.invokevirtual 55, 3) := by decide +kernel
theorem dX5_addWords_22 : decode cX5_addWords 22 = .ok (.ifCond .eq 6, 3) := by decide +kernel
theorem dX5_addWords_25 : decode cX5_addWords 25 = .ok (.bipush (-3), 2) := by decide +kernel
theorem dX5_addWords_27 : decode cX5_addWords 27 = .ok (.ireturn, 1) := by decide +kernel
theorem dX5_addWords_28 : decode cX5_addWords 28 = .ok (.aload_n 0, 1) := by decide +kernel
theorem dX5_addWords_29 : decode cX5_addWords 29 = .ok (.getfield 30, 3) := by decide +kernel
theorem dX5_addWords_32 : decode cX5_addWords 32 = .ok (.aload_n 0, 1) := by decide +kernel
theorem dX5_addWords_33 : decode cX5_addWords 33 = .ok (.getfield 19, 3) := by decide +kernel
theorem dX5_addWords_36 : decode cX5_addWords 36 = .ok (.invokevirtual 59, 3) := by decide +kernel
theorem dX5_addWords_39 : decode cX5_addWords 39 = .ok (.aload_n 0, 1) := by decide +kernel
theorem dX5_addWords_40 : decode cX5_addWords 40 = .ok (.aload_n 0, 1) := by decide +kernel
theorem dX5_addWords_41 : decode cX5_addWords 41 = .ok (.getfield 30, 3) := by decide +kernel
theorem dX5_addWords_44 : decode cX5_addWords 44 = .ok (.invokevirtual 63, 3) := by decide +kernel
theorem dX5_addWords_47 : decode cX5_addWords 47 = .ok (.ifCond .ne 6, 3) := by decide +kernel
theorem dX5_addWords_50 : decode cX5_addWords 50 = .ok (.bipush (-4), 2) := by decide +kernel
theorem dX5_addWords_52 : decode cX5_addWords 52 = .ok (.ireturn, 1) := by decide +kernel
theorem dX5_addWords_53 : decode cX5_addWords 53 = .ok (.aload_n 0, 1) := by decide +kernel
theorem dX5_addWords_54 : decode cX5_addWords 54 = .ok (.getfield 30, 3) := by decide +kernel
theorem dX5_addWords_57 : decode cX5_addWords 57 = .ok (.getfield 67, 3) := by decide +kernel
theorem dX5_addWords_60 : decode cX5_addWords 60 = .ok (.aload_n 0, 1) := by decide +kernel
theorem dX5_addWords_61 : decode cX5_addWords 61 = .ok (.getfield 19, 3) := by decide +kernel
theorem dX5_addWords_64 : decode cX5_addWords 64 = .ok (.getfield 67, 3) := by decide +kernel
theorem dX5_addWords_67 : decode cX5_addWords 67 = .ok (.isub, 1) := by decide +kernel
theorem dX5_addWords_68 : decode cX5_addWords 68 = .ok (.istore_n 1, 1) := by decide +kernel
theorem dX5_addWords_69 : decode cX5_addWords 69 = .ok (.aload_n 0, 1) := by decide +kernel
theorem dX5_addWords_70 : decode cX5_addWords 70 = .ok (.getfield 26, 3) := by decide +kernel
theorem dX5_addWords_73 : decode cX5_addWords 73 = .ok (.aload_n 0, 1) := by decide +kernel
theorem dX5_addWords_74 : decode cX5_addWords 74 = .ok (.getfield 19, 3) := by decide +kernel
theorem dX5_addWords_77 : decode cX5_addWords 77 = .ok (.invokevirtual 70, 3) := by decide +kernel
theorem dX5_addWords_80 : decode cX5_addWords 80 = .ok (.aload_n 0, 1) := by decide +kernel
theorem dX5_addWords_81 : decode cX5_addWords 81 = .ok (.getfield 30, 3) := by decide +kernel
theorem dX5_addWords_84 : decode cX5_addWords 84 = .ok (.invokevirtual 73, 3) := by decide +kernel
theorem dX5_addWords_87 : decode cX5_addWords 87 = .ok (.aload_n 0, 1) := by decide +kernel
theorem dX5_addWords_88 : decode cX5_addWords 88 = .ok (.getfield 19, 3) := by decide +kernel
theorem dX5_addWords_91 : decode cX5_addWords 91 = .ok (.aload_n 0, 1) := by decide +kernel
theorem dX5_addWords_92 : decode cX5_addWords 92 = .ok (.getfield 30, 3) := by decide +kernel
theorem dX5_addWords_95 : decode cX5_addWords 95 = .ok (.invokevirtual 59, 3) := by decide +kernel
theorem dX5_addWords_98 : decode cX5_addWords 98 = .ok (.aload_n 0, 1) := by decide +kernel
theorem dX5_addWords_99 : decode cX5_addWords 99 = .ok (.getfield 10, 3) := by decide +kernel
theorem dX5_addWords_102 : decode cX5_addWords 102 = .ok (.invokevirtual 48, 3) := by decide +kernel
theorem dX5_addWords_105 : decode cX5_addWords 105 = .ok (.iload_n 1, 1) := by decide +kernel
theorem dX5_addWords_106 : decode cX5_addWords 106 = .ok (.ireturn, 1) := by decide +kernel
set_option maxRecDepth 20000 in
theorem ggX5_removeWord_X2_hasWord : GoodIn wsX5_removeWord wsX2_hasWord := goodIn_r _ [7, 8, 67, 68, 69, 70, 71, 72, 73, 74, 75, 76, 77, 78] (by decide +kernel) (by decide +kernel)
set_option maxRecDepth 20000 in
theorem gX5_removeWord_X2_hasWord : GoodIn wsX5_removeWord (wsV RX5 76 RX2 yX2_hasWord wsX2_hasWord) := goodIn_app (goodIn_of _ (by decide +kernel)) ggX5_removeWord_X2_hasWord
set_option maxRecDepth 20000 in
theorem ggX5_removeWord_X2_isRunning : GoodIn wsX5_removeWord wsX2_isRunning := goodIn_r _ [12, 13, 67, 68, 69, 70, 71, 72, 73, 74, 75, 76, 77, 78] (by decide +kernel) (by decide +kernel)
set_option maxRecDepth 20000 in
theorem gX5_removeWord_X2_isRunning : GoodIn wsX5_removeWord (wsV RX5 55 RX2 yX2_isRunning wsX2_isRunning) := goodIn_app (goodIn_of _ (by decide +kernel)) ggX5_removeWord_X2_isRunning
set_option maxRecDepth 20000 in
theorem ggX5_removeWord_X1_push : GoodIn wsX5_removeWord wsX1_push := goodIn_r _ [18, 19, 20, 21, 22, 6, 23, 24, 25, 26, 27, 28, 29, 30, 31, 32, 33, 34, 35, 36, 37, 38, 39, 40, 41, 42, 43, 44, 45, 8, 46, 13, 47, 48, 49, 50, 51, 52, 79, 80, 81, 67, 68, 69, 70, 71, 72, 73, 74, 75, 76, 77, 78] (by decide +kernel) (by decide +kernel)
set_option maxRecDepth 20000 in
theorem gX5_removeWord_X1_push : GoodIn wsX5_removeWord (wsV RX5 70 RX1 yX1_push wsX1_push) := goodIn_app (goodIn_of _ (by decide +kernel)) ggX5_removeWord_X1_push
set_option maxRecDepth 20000 in
theorem ggX5_removeWord_X2_remove : GoodIn wsX5_removeWord wsX2_remove := goodIn_r _ [56, 34, 8, 57, 4, 5, 6, 7, 67, 68, 69, 70, 71, 72, 73, 74, 75, 76, 77, 78] (by decide +kernel) (by decide +kernel)
set_option maxRecDepth 20000 in
theorem gX5_removeWord_X2_remove : GoodIn wsX5_removeWord (wsV RX5 80 RX2 yX2_remove wsX2_remove) := goodIn_app (goodIn_of _ (by decide +kernel)) ggX5_removeWord_X2_remove
set_option maxRecDepth 20000 in
theorem ggX5_removeWord_X2_endWithoutGame : GoodIn wsX5_removeWord wsX2_endWithoutGame := goodIn_r _ [61, 13, 47, 48, 49, 50, 51, 52, 67, 68, 69, 70, 71, 72, 73, 74, 75, 76, 77, 78] (by decide +kernel) (by decide +kernel)
set_option maxRecDepth 20000 in
theorem gX5_removeWord_X2_endWithoutGame : GoodIn wsX5_removeWord (wsV RX5 73 RX2 yX2_endWithoutGame wsX2_endWithoutGame) := goodIn_app (goodIn_of _ (by decide +kernel)) ggX5_removeWord_X2_endWithoutGame
theorem dX5_removeWord_0 : decode cX5_removeWord 0 = .ok (.aload_n 0, 1) := by decide +kernel
theorem dX5_removeWord_1 : decode cX5_removeWord 1 = .ok (.getfield 19, 3) := by decide +kernel
theorem dX5_removeWord_4 : decode cX5_removeWord 4 = .ok (.iload_n 1, 1) := by decide +kernel
theorem dX5_removeWord_5 : decode cX5_removeWord 5 = .ok (.invokevirtual 76, 3) := by decide +kernel
theorem dX5_removeWord_8 : decode cX5_removeWord 8 = .ok (.ifCond .ne 5, 3) := by decide +kernel
theorem dX5_removeWord_11 : decode cX5_removeWord 11 = .ok (.iconst (-1), 1) := by decide +kernel
theorem dX5_removeWord_12 : decode cX5_removeWord 12 = .ok (.ireturn, 1) := by decide +kernel
theorem dX5_removeWord_13 : decode cX5_removeWord 13 = .ok (.aload_n 0, 1) := by decide +kernel
theorem dX5_removeWord_14 : decode cX5_removeWord 14 = .ok (.getfield 19, 3) := by decide +kernel
theorem dX5_removeWord_17 : decode cX5_removeWord 17 = .ok (.invokevirtual 55, 3) := by decide +kernel
theorem dX5_removeWord_20 : decode cX5_removeWord 20 = .ok (.ifCond .eq 6, 3) := by decide +kernel
theorem dX5_removeWord_23 : decode cX5_removeWord 23 = .ok (.bipush (-3), 2) := by decide +kernel
theorem dX5_removeWord_25 : decode cX5_removeWord 25 = .ok (.ireturn, 1) := by decide +kernel
theorem dX5_removeWord_26 : decode cX5_removeWord 26 = .ok (.aload_n 0, 1) := by decide +kernel
theorem dX5_removeWord_27 : decode cX5_removeWord 27 = .ok (.getfield 26, 3) := by decide +kernel
theorem dX5_removeWord_30 : decode cX5_removeWord 30 = .ok (.aload_n 0, 1) := by decide +kernel
theorem dX5_removeWord_31 : decode cX5_removeWord 31 = .ok (.getfield 19, 3) := by decide +kernel
theorem dX5_removeWord_34 : decode cX5_removeWord 34 = .ok (.invokevirtual 70, 3) := by decide +kernel
theorem dX5_removeWord_37 : decode cX5_removeWord 37 = .ok (.aload_n 0, 1) := by decide +kernel
theorem dX5_removeWord_38 : decode cX5_removeWord 38 = .ok (.getfield 19, 3) := by decide +kernel
theorem dX5_removeWord_41 : decode cX5_removeWord 41 = .ok (.iload_n 1, 1) := by decide +kernel
theorem dX5_removeWord_42 : decode cX5_removeWord 42 = .ok (.invokevirtual 80, 3) := by decide +kernel
theorem dX5_removeWord_45 : decode cX5_removeWord 45 = .ok (.aload_n 0, 1) := by decide +kernel
theorem dX5_removeWord_46 : decode cX5_removeWord 46 = .ok (.getfield 19, 3) := by decide +kernel
theorem dX5_removeWord_49 : decode cX5_removeWord 49 = .ok (.invokevirtual 73, 3) := by decide +kernel
theorem dX5_removeWord_52 : decode cX5_removeWord 52 = .ok (.aload_n 0, 1) := by decide +kernel
theorem dX5_removeWord_53 : decode cX5_removeWord 53 = .ok (.getfield 19, 3) := by decide +kernel
theorem dX5_removeWord_56 : decode cX5_removeWord 56 = .ok (.getfield 67, 3) := by decide +kernel
theorem dX5_removeWord_59 : decode cX5_removeWord 59 = .ok (.ireturn, 1) := by decide +kernel
theorem dX5_words_0 : decode cX5_words 0 = .ok (.aload_n 0, 1) := by decide +kernel
theorem dX5_words_1 : decode cX5_words 1 = .ok (.getfield 19, 3) := by decide +kernel
theorem dX5_words_4 : decode cX5_words 4 = .ok (.getfield 67, 3) := by decide +kernel
theorem dX5_words_7 : decode cX5_words 7 = .ok (.ireturn, 1) := by decide +kernel
set_option maxRecDepth 20000 in
theorem ggX5_letterOf_X2_wordAt : GoodIn wsX5_letterOf wsX2_wordAt := goodIn_r _ [6, 7, 8, 9, 10, 5, 11, 12, 25, 26, 27, 28, 29, 30, 31, 32, 33, 34, 35, 36] (by decide +kernel) (by decide +kernel)
set_option maxRecDepth 20000 in
theorem gX5_letterOf_X2_wordAt : GoodIn wsX5_letterOf (wsV RX5 84 RX2 yX2_wordAt wsX2_wordAt) := goodIn_app (goodIn_of _ (by decide +kernel)) ggX5_letterOf_X2_wordAt
set_option maxRecDepth 20000 in
theorem ggX5_letterOf_X4_letterAt : GoodIn wsX5_letterOf wsX4_letterAt := goodIn_r _ [16, 17, 18, 15, 19] (by decide +kernel) (by decide +kernel)
set_option maxRecDepth 20000 in
theorem gX5_letterOf_X4_letterAt : GoodIn wsX5_letterOf (va_wsS RX5 88 yX4_letterAt wsX4_letterAt) := goodIn_app (goodIn_of _ (by decide +kernel)) ggX5_letterOf_X4_letterAt
theorem dX5_letterOf_0 : decode cX5_letterOf 0 = .ok (.aload_n 0, 1) := by decide +kernel
theorem dX5_letterOf_1 : decode cX5_letterOf 1 = .ok (.getfield 19, 3) := by decide +kernel
theorem dX5_letterOf_4 : decode cX5_letterOf 4 = .ok (.iload_n 1, 1) := by decide +kernel
theorem dX5_letterOf_5 : decode cX5_letterOf 5 = .ok (.invokevirtual 84, 3) := by decide +kernel
theorem dX5_letterOf_8 : decode cX5_letterOf 8 = .ok (.iload_n 2, 1) := by decide +kernel
theorem dX5_letterOf_9 : decode cX5_letterOf 9 = .ok (.invokestatic 88, 3) := by decide +kernel
theorem dX5_letterOf_12 : decode cX5_letterOf 12 = .ok (.istore_n 3, 1) := by decide +kernel
theorem dX5_letterOf_13 : decode cX5_letterOf 13 = .ok (.iload_n 3, 1) := by decide +kernel
theorem dX5_letterOf_14 : decode cX5_letterOf 14 = .ok (.ifCond .ne 7, 3) := by decide +kernel
theorem dX5_letterOf_17 : decode cX5_letterOf 17 = .ok (.iconst (-1), 1) := by decide +kernel
theorem dX5_letterOf_18 : decode cX5_letterOf 18 = .ok (.goto 4, 3) := by decide +kernel
theorem dX5_letterOf_21 : decode cX5_letterOf 21 = .ok (.iload_n 3, 1) := by decide +kernel
theorem dX5_letterOf_22 : decode cX5_letterOf 22 = .ok (.ireturn, 1) := by decide +kernel
set_option maxRecDepth 20000 in
theorem ggX5_setPolicy_X1_push : GoodIn wsX5_setPolicy wsX1_push := goodIn_r _ [7, 8, 9, 10, 11, 12, 13, 14, 15, 16, 17, 18, 19, 20, 21, 22, 23, 24, 25, 26, 27, 28, 29, 30, 31, 32, 33, 34, 35, 36, 37, 38, 39, 40, 41, 42, 43, 44, 62, 63, 64, 50, 51, 52, 53, 54, 55, 56, 57, 58, 59, 60, 61] (by decide +kernel) (by decide +kernel)
set_option maxRecDepth 20000 in
theorem gX5_setPolicy_X1_push : GoodIn wsX5_setPolicy (wsV RX5 70 RX1 yX1_push wsX1_push) := goodIn_app (goodIn_of _ (by decide +kernel)) ggX5_setPolicy_X1_push
theorem dX5_setPolicy_0 : decode cX5_setPolicy 0 = .ok (.iload_n 1, 1) := by decide +kernel
theorem dX5_setPolicy_1 : decode cX5_setPolicy 1 = .ok (.ifCond .lt 8, 3) := by decide +kernel
theorem dX5_setPolicy_4 : decode cX5_setPolicy 4 = .ok (.iload_n 1, 1) := by decide +kernel
theorem dX5_setPolicy_5 : decode cX5_setPolicy 5 = .ok (.iconst 2, 1) := by decide +kernel
theorem dX5_setPolicy_6 : decode cX5_setPolicy 6 = .ok (.if_icmp .le 6, 3) := by decide +kernel
theorem dX5_setPolicy_9 : decode cX5_setPolicy 9 = .ok (.bipush (-2), 2) := by decide +kernel
theorem dX5_setPolicy_11 : decode cX5_setPolicy 11 = .ok (.ireturn, 1) := by decide +kernel
theorem dX5_setPolicy_12 : decode cX5_setPolicy 12 = .ok (.aload_n 0, 1) := by decide +kernel
theorem dX5_setPolicy_13 : decode cX5_setPolicy 13 = .ok (.getfield 19, 3) := by decide +kernel
theorem dX5_setPolicy_16 : decode cX5_setPolicy 16 = .ok (.getfield 94, 3) := by decide +kernel
theorem dX5_setPolicy_19 : decode cX5_setPolicy 19 = .ok (.istore_n 2, 1) := by decide +kernel
theorem dX5_setPolicy_20 : decode cX5_setPolicy 20 = .ok (.aload_n 0, 1) := by decide +kernel
theorem dX5_setPolicy_21 : decode cX5_setPolicy 21 = .ok (.getfield 26, 3) := by decide +kernel
theorem dX5_setPolicy_24 : decode cX5_setPolicy 24 = .ok (.aload_n 0, 1) := by decide +kernel
theorem dX5_setPolicy_25 : decode cX5_setPolicy 25 = .ok (.getfield 19, 3) := by decide +kernel
theorem dX5_setPolicy_28 : decode cX5_setPolicy 28 = .ok (.invokevirtual 70, 3) := by decide +kernel
theorem dX5_setPolicy_31 : decode cX5_setPolicy 31 = .ok (.aload_n 0, 1) := by decide +kernel
theorem dX5_setPolicy_32 : decode cX5_setPolicy 32 = .ok (.getfield 19, 3) := by decide +kernel
theorem dX5_setPolicy_35 : decode cX5_setPolicy 35 = .ok (.iload_n 1, 1) := by decide +kernel
theorem dX5_setPolicy_36 : decode cX5_setPolicy 36 = .ok (.putfield 94, 3) := by decide +kernel
theorem dX5_setPolicy_39 : decode cX5_setPolicy 39 = .ok (.iload_n 2, 1) := by decide +kernel
theorem dX5_setPolicy_40 : decode cX5_setPolicy 40 = .ok (.ireturn, 1) := by decide +kernel
set_option maxRecDepth 20000 in
theorem ggX5_start_X2_wordsOfLength : GoodIn wsX5_start wsX2_wordsOfLength := goodIn_r _ [7, 8, 9, 10, 11, 6, 12, 13, 14, 15, 16, 17, 18, 19, 20, 21, 22, 23, 24, 25, 26, 27, 91, 92, 93, 94, 95, 96, 97, 98, 99, 100, 101, 102] (by decide +kernel) (by decide +kernel)
set_option maxRecDepth 20000 in
theorem gX5_start_X2_wordsOfLength : GoodIn wsX5_start (wsV RX5 97 RX2 yX2_wordsOfLength wsX2_wordsOfLength) := goodIn_app (goodIn_of _ (by decide +kernel)) ggX5_start_X2_wordsOfLength
set_option maxRecDepth 20000 in
theorem ggX5_start_X1_push : GoodIn wsX5_start wsX1_push := goodIn_r _ [32, 33, 34, 35, 36, 6, 37, 38, 39, 40, 41, 42, 43, 44, 45, 46, 47, 13, 48, 49, 50, 51, 52, 53, 54, 55, 56, 57, 58, 8, 59, 60, 61, 62, 63, 64, 65, 66, 103, 104, 105, 91, 92, 93, 94, 95, 96, 97, 98, 99, 100, 101, 102] (by decide +kernel) (by decide +kernel)
set_option maxRecDepth 20000 in
theorem gX5_start_X1_push : GoodIn wsX5_start (wsV RX5 70 RX1 yX1_push wsX1_push) := goodIn_app (goodIn_of _ (by decide +kernel)) ggX5_start_X1_push
set_option maxRecDepth 20000 in
theorem ggX5_start_X2_begin : GoodIn wsX5_start wsX2_begin := goodIn_r _ [70, 60, 61, 62, 63, 71, 72, 73, 6, 74, 64, 65, 66, 75, 76, 77, 78, 50, 91, 92, 93, 94, 95, 96, 97, 98, 99, 100, 101, 102] (by decide +kernel) (by decide +kernel)
set_option maxRecDepth 20000 in
theorem gX5_start_X2_begin : GoodIn wsX5_start (wsV RX5 101 RX2 yX2_begin wsX2_begin) := goodIn_app (goodIn_of _ (by decide +kernel)) ggX5_start_X2_begin
set_option maxRecDepth 20000 in
theorem ggX5_start_J6_bitCount_0f7a4 : GoodIn wsX5_start wsJ6_bitCount_0f7a4 := goodIn_r _ [82, 83, 84, 85] (by decide +kernel) (by decide +kernel)
set_option maxRecDepth 20000 in
theorem gX5_start_J6_bitCount_0f7a4 : GoodIn wsX5_start (va_wsS RX5 105 yJ6_bitCount_0f7a4 wsJ6_bitCount_0f7a4) := goodIn_app (goodIn_of _ (by decide +kernel)) ggX5_start_J6_bitCount_0f7a4
theorem dX5_start_0 : decode cX5_start 0 = .ok (.iload_n 1, 1) := by decide +kernel
theorem dX5_start_1 : decode cX5_start 1 = .ok (.iconst 2, 1) := by decide +kernel
theorem dX5_start_2 : decode cX5_start 2 = .ok (.if_icmp .lt 20, 3) := by decide +kernel
theorem dX5_start_5 : decode cX5_start 5 = .ok (.iload_n 1, 1) := by decide +kernel
theorem dX5_start_6 : decode cX5_start 6 = .ok (.bipush 8, 2) := by decide +kernel
theorem dX5_start_8 : decode cX5_start 8 = .ok (.if_icmp .gt 14, 3) := by decide +kernel
theorem dX5_start_11 : decode cX5_start 11 = .ok (.iload_n 2, 1) := by decide +kernel
theorem dX5_start_12 : decode cX5_start 12 = .ok (.iconst 1, 1) := by decide +kernel
theorem dX5_start_13 : decode cX5_start 13 = .ok (.if_icmp .lt 9, 3) := by decide +kernel
theorem dX5_start_16 : decode cX5_start 16 = .ok (.iload_n 2, 1) := by decide +kernel
theorem dX5_start_17 : decode cX5_start 17 = .ok (.bipush 20, 2) := by decide +kernel
theorem dX5_start_19 : decode cX5_start 19 = .ok (.if_icmp .le 6, 3) := by decide +kernel
theorem dX5_start_22 : decode cX5_start 22 = .ok (.bipush (-2), 2) := by decide +kernel
theorem dX5_start_24 : decode cX5_start 24 = .ok (.ireturn, 1) := by decide +kernel
theorem dX5_start_25 : decode cX5_start 25 = .ok (.aload_n 0, 1) := by decide +kernel
theorem dX5_start_26 : decode cX5_start 26 = .ok (.getfield 19, 3) := by decide +kernel
theorem dX5_start_29 : decode cX5_start 29 = .ok (.iload_n 1, 1) := by decide +kernel
theorem dX5_start_30 : decode cX5_start 30 = .ok (.invokevirtual 97, 3) := by decide +kernel
theorem dX5_start_33 : decode cX5_start 33 = .ok (.istore_n 3, 1) := by decide +kernel
theorem dX5_start_34 : decode cX5_start 34 = .ok (.iload_n 3, 1) := by decide +kernel
theorem dX5_start_35 : decode cX5_start 35 = .ok (.ifCond .ne 6, 3) := by decide +kernel
theorem dX5_start_38 : decode cX5_start 38 = .ok (.bipush (-3), 2) := by decide +kernel
theorem dX5_start_40 : decode cX5_start 40 = .ok (.ireturn, 1) := by decide +kernel
theorem dX5_start_41 : decode cX5_start 41 = .ok (.aload_n 0, 1) := by decide +kernel
theorem dX5_start_42 : decode cX5_start 42 = .ok (.getfield 26, 3) := by decide +kernel
theorem dX5_start_45 : decode cX5_start 45 = .ok (.aload_n 0, 1) := by decide +kernel
theorem dX5_start_46 : decode cX5_start 46 = .ok (.getfield 19, 3) := by decide +kernel
theorem dX5_start_49 : decode cX5_start 49 = .ok (.invokevirtual 70, 3) := by decide +kernel
theorem dX5_start_52 : decode cX5_start 52 = .ok (.aload_n 0, 1) := by decide +kernel
theorem dX5_start_53 : decode cX5_start 53 = .ok (.getfield 19, 3) := by decide +kernel
theorem dX5_start_56 : decode cX5_start 56 = .ok (.iload_n 1, 1) := by decide +kernel
theorem dX5_start_57 : decode cX5_start 57 = .ok (.iload_n 2, 1) := by decide +kernel
theorem dX5_start_58 : decode cX5_start 58 = .ok (.iload_n 3, 1) := by decide +kernel
theorem dX5_start_59 : decode cX5_start 59 = .ok (.invokevirtual 101, 3) := by decide +kernel
theorem dX5_start_62 : decode cX5_start 62 = .ok (.iload_n 3, 1) := by decide +kernel
theorem dX5_start_63 : decode cX5_start 63 = .ok (.invokestatic 105, 3) := by decide +kernel
theorem dX5_start_66 : decode cX5_start 66 = .ok (.ireturn, 1) := by decide +kernel
set_option maxRecDepth 20000 in
theorem ggX5_guess_X5_isLetter : GoodIn wsX5_guess wsX5_isLetter := goodIn_r _ [6] (by decide +kernel) (by decide +kernel)
set_option maxRecDepth 20000 in
theorem gX5_guess_X5_isLetter : GoodIn wsX5_guess (va_wsS RX5 110 yX5_isLetter wsX5_isLetter) := goodIn_app (goodIn_of _ (by decide +kernel)) ggX5_guess_X5_isLetter
set_option maxRecDepth 20000 in
theorem ggX5_guess_X2_isRunning : GoodIn wsX5_guess wsX2_isRunning := goodIn_r _ [11, 12, 180, 181, 182, 183, 184, 185, 186, 187, 188, 189, 190, 191] (by decide +kernel) (by decide +kernel)
set_option maxRecDepth 20000 in
theorem gX5_guess_X2_isRunning : GoodIn wsX5_guess (wsV RX5 55 RX2 yX2_isRunning wsX2_isRunning) := goodIn_app (goodIn_of _ (by decide +kernel)) ggX5_guess_X2_isRunning
set_option maxRecDepth 20000 in
theorem ggX5_guess_X2_wasGuessed : GoodIn wsX5_guess wsX2_wasGuessed := goodIn_r _ [16, 17, 18, 5, 19, 3, 4, 6, 180, 181, 182, 183, 184, 185, 186, 187, 188, 189, 190, 191] (by decide +kernel) (by decide +kernel)
set_option maxRecDepth 20000 in
theorem gX5_guess_X2_wasGuessed : GoodIn wsX5_guess (wsV RX5 113 RX2 yX2_wasGuessed wsX2_wasGuessed) := goodIn_app (goodIn_of _ (by decide +kernel)) ggX5_guess_X2_wasGuessed
set_option maxRecDepth 20000 in
theorem ggX5_guess_X1_push : GoodIn wsX5_guess wsX1_push := goodIn_r _ [24, 25, 26, 27, 28, 10, 29, 30, 31, 32, 33, 34, 35, 36, 37, 38, 39, 40, 41, 42, 43, 44, 45, 46, 47, 48, 49, 50, 51, 52, 53, 12, 54, 55, 56, 17, 57, 58, 192, 193, 194, 180, 181, 182, 183, 184, 185, 186, 187, 188, 189, 190, 191] (by decide +kernel) (by decide +kernel)
set_option maxRecDepth 20000 in
theorem gX5_guess_X1_push : GoodIn wsX5_guess (wsV RX5 70 RX1 yX1_push wsX1_push) := goodIn_app (goodIn_of _ (by decide +kernel)) ggX5_guess_X1_push
set_option maxRecDepth 20000 in
theorem ggX5_guess_X5_play : GoodIn wsX5_guess wsX5_play := goodIn_r _ [62, 63, 64, 65, 66, 67, 68, 69, 70, 18, 5, 19, 3, 4, 6, 71, 72, 73, 10, 74, 56, 75, 76, 77, 78, 52, 79, 80, 81, 82, 40, 83, 84, 85, 86, 87, 88, 89, 90, 91, 92, 93, 94, 95, 96, 97, 98, 99, 100, 101, 102, 103, 104, 105, 106, 107, 108, 109, 110, 111, 112, 113, 114, 115, 116, 117, 118, 119, 120, 121, 122, 123, 124, 125, 126, 127, 128, 129, 130, 131, 132, 133, 134, 135, 136, 137, 138, 139, 140, 141, 142, 143, 144, 145, 146, 147, 54, 58, 148, 149, 150, 151, 57, 42, 17, 152, 153, 154, 155, 43, 156, 157, 158, 159, 55, 160, 161, 162, 163, 12, 164, 165, 166, 167, 168, 169, 170, 171, 172, 173, 174, 175, 176, 177, 178, 179, 195, 196, 197, 198, 199, 180, 181, 182, 183, 184, 185, 186, 187, 188, 189, 190, 191] (by decide +kernel) (by decide +kernel)
set_option maxRecDepth 20000 in
theorem gX5_guess_X5_play : GoodIn wsX5_guess (wsV RX5 116 RX5 yX5_play wsX5_play) := goodIn_app (goodIn_of _ (by decide +kernel)) ggX5_guess_X5_play
theorem dX5_guess_0 : decode cX5_guess 0 = .ok (.iload_n 1, 1) := by decide +kernel
theorem dX5_guess_1 : decode cX5_guess 1 = .ok (.invokestatic 110, 3) := by decide +kernel
theorem dX5_guess_4 : decode cX5_guess 4 = .ok (.ifCond .ne 6, 3) := by decide +kernel
theorem dX5_guess_7 : decode cX5_guess 7 = .ok (.bipush (-2), 2) := by decide +kernel
theorem dX5_guess_9 : decode cX5_guess 9 = .ok (.ireturn, 1) := by decide +kernel
theorem dX5_guess_10 : decode cX5_guess 10 = .ok (.aload_n 0, 1) := by decide +kernel
theorem dX5_guess_11 : decode cX5_guess 11 = .ok (.getfield 19, 3) := by decide +kernel
theorem dX5_guess_14 : decode cX5_guess 14 = .ok (.invokevirtual 55, 3) := by decide +kernel
theorem dX5_guess_17 : decode cX5_guess 17 = .ok (.ifCond .ne 6, 3) := by decide +kernel
theorem dX5_guess_20 : decode cX5_guess 20 = .ok (.bipush (-3), 2) := by decide +kernel
theorem dX5_guess_22 : decode cX5_guess 22 = .ok (.ireturn, 1) := by decide +kernel
theorem dX5_guess_23 : decode cX5_guess 23 = .ok (.aload_n 0, 1) := by decide +kernel
theorem dX5_guess_24 : decode cX5_guess 24 = .ok (.getfield 19, 3) := by decide +kernel
theorem dX5_guess_27 : decode cX5_guess 27 = .ok (.iload_n 1, 1) := by decide +kernel
theorem dX5_guess_28 : decode cX5_guess 28 = .ok (.invokevirtual 113, 3) := by decide +kernel
theorem dX5_guess_31 : decode cX5_guess 31 = .ok (.ifCond .eq 6, 3) := by decide +kernel
theorem dX5_guess_34 : decode cX5_guess 34 = .ok (.bipush (-6), 2) := by decide +kernel
theorem dX5_guess_36 : decode cX5_guess 36 = .ok (.ireturn, 1) := by decide +kernel
theorem dX5_guess_37 : decode cX5_guess 37 = .ok (.aload_n 0, 1) := by decide +kernel
theorem dX5_guess_38 : decode cX5_guess 38 = .ok (.getfield 26, 3) := by decide +kernel
theorem dX5_guess_41 : decode cX5_guess 41 = .ok (.aload_n 0, 1) := by decide +kernel
theorem dX5_guess_42 : decode cX5_guess 42 = .ok (.getfield 19, 3) := by decide +kernel
theorem dX5_guess_45 : decode cX5_guess 45 = .ok (.invokevirtual 70, 3) := by decide +kernel
theorem dX5_guess_48 : decode cX5_guess 48 = .ok (.aload_n 0, 1) := by decide +kernel
theorem dX5_guess_49 : decode cX5_guess 49 = .ok (.aload_n 0, 1) := by decide +kernel
theorem dX5_guess_50 : decode cX5_guess 50 = .ok (.getfield 19, 3) := by decide +kernel
theorem dX5_guess_53 : decode cX5_guess 53 = .ok (.iload_n 1, 1) := by decide +kernel
theorem dX5_guess_54 : decode cX5_guess 54 = .ok (.invokevirtual 116, 3) := by decide +kernel
theorem dX5_guess_57 : decode cX5_guess 57 = .ok (.ireturn, 1) := by decide +kernel
set_option maxRecDepth 20000 in
theorem ggX5_guessWord_X3_firstError : GoodIn wsX5_guessWord wsX3_firstError := goodIn_r _ [8, 9, 10, 11, 12, 7, 13, 14, 15, 16, 17, 147, 148, 149] (by decide +kernel) (by decide +kernel)
set_option maxRecDepth 20000 in
theorem gX5_guessWord_X3_firstError : GoodIn wsX5_guessWord (wsV RX5 51 RX3 yX3_firstError wsX3_firstError) := goodIn_app (goodIn_of _ (by decide +kernel)) ggX5_guessWord_X3_firstError
set_option maxRecDepth 20000 in
theorem ggX5_guessWord_X3_readWords : GoodIn wsX5_guessWord wsX3_readWords := goodIn_r _ [21, 9, 10, 11, 12, 7, 13, 14, 22, 23, 24, 25, 26, 27, 28, 29, 30, 15, 16, 17, 31, 32, 33, 147, 148, 149] (by decide +kernel) (by decide +kernel)
set_option maxRecDepth 20000 in
theorem gX5_guessWord_X3_readWords : GoodIn wsX5_guessWord (wsV RX5 120 RX3 yX3_readWords wsX3_readWords) := goodIn_app (goodIn_of _ (by decide +kernel)) ggX5_guessWord_X3_readWords
set_option maxRecDepth 20000 in
theorem ggX5_guessWord_X3_wordRead : GoodIn wsX5_guessWord wsX3_wordRead := goodIn_r _ [37, 26, 147, 148, 149] (by decide +kernel) (by decide +kernel)
set_option maxRecDepth 20000 in
theorem gX5_guessWord_X3_wordRead : GoodIn wsX5_guessWord (wsV RX5 123 RX3 yX3_wordRead wsX3_wordRead) := goodIn_app (goodIn_of _ (by decide +kernel)) ggX5_guessWord_X3_wordRead
set_option maxRecDepth 20000 in
theorem ggX5_guessWord_X2_isRunning : GoodIn wsX5_guessWord wsX2_isRunning := goodIn_r _ [42, 43, 135, 136, 137, 138, 139, 140, 141, 142, 143, 144, 145, 146] (by decide +kernel) (by decide +kernel)
set_option maxRecDepth 20000 in
theorem gX5_guessWord_X2_isRunning : GoodIn wsX5_guessWord (wsV RX5 55 RX2 yX2_isRunning wsX2_isRunning) := goodIn_app (goodIn_of _ (by decide +kernel)) ggX5_guessWord_X2_isRunning
set_option maxRecDepth 20000 in
theorem ggX5_guessWord_X4_lengthOf : GoodIn wsX5_guessWord wsX4_lengthOf := goodIn_r _ [46, 47, 48, 29, 49, 31, 32, 33] (by decide +kernel) (by decide +kernel)
set_option maxRecDepth 20000 in
theorem gX5_guessWord_X4_lengthOf : GoodIn wsX5_guessWord (va_wsS RX5 126 yX4_lengthOf wsX4_lengthOf) := goodIn_app (goodIn_of _ (by decide +kernel)) ggX5_guessWord_X4_lengthOf
set_option maxRecDepth 20000 in
theorem ggX5_guessWord_X1_push : GoodIn wsX5_guessWord wsX1_push := goodIn_r _ [54, 55, 56, 57, 58, 41, 59, 60, 61, 62, 63, 64, 65, 66, 67, 68, 69, 70, 71, 72, 73, 74, 75, 76, 77, 78, 79, 80, 81, 82, 83, 43, 84, 85, 86, 87, 88, 89, 150, 151, 152, 135, 136, 137, 138, 139, 140, 141, 142, 143, 144, 145, 146] (by decide +kernel) (by decide +kernel)
set_option maxRecDepth 20000 in
theorem gX5_guessWord_X1_push : GoodIn wsX5_guessWord (wsV RX5 70 RX1 yX1_push wsX1_push) := goodIn_app (goodIn_of _ (by decide +kernel)) ggX5_guessWord_X1_push
set_option maxRecDepth 20000 in
theorem ggX5_guessWord_X2_takeWord : GoodIn wsX5_guessWord wsX2_takeWord := goodIn_r _ [93, 86, 89, 94, 95, 96, 41, 97, 73, 98, 99, 100, 101, 82, 102, 103, 104, 105, 70, 106, 107, 108, 109, 110, 111, 112, 113, 114, 115, 116, 117, 43, 118, 119, 120, 121, 85, 122, 123, 124, 125, 135, 136, 137, 138, 139, 140, 141, 142, 143, 144, 145, 146] (by decide +kernel) (by decide +kernel)
set_option maxRecDepth 20000 in
theorem gX5_guessWord_X2_takeWord : GoodIn wsX5_guessWord (wsV RX5 131 RX2 yX2_takeWord wsX2_takeWord) := goodIn_app (goodIn_of _ (by decide +kernel)) ggX5_guessWord_X2_takeWord
set_option maxRecDepth 20000 in
theorem ggX5_guessWord_X3_empty : GoodIn wsX5_guessWord wsX3_empty := goodIn_r _ [129, 9, 147, 148, 149] (by decide +kernel) (by decide +kernel)
set_option maxRecDepth 20000 in
theorem gX5_guessWord_X3_empty : GoodIn wsX5_guessWord (wsV RX5 48 RX3 yX3_empty wsX3_empty) := goodIn_app (goodIn_of _ (by decide +kernel)) ggX5_guessWord_X3_empty
theorem dX5_guessWord_0 : decode cX5_guessWord 0 = .ok (.aload_n 0, 1) := by decide +kernel
theorem dX5_guessWord_1 : decode cX5_guessWord 1 = .ok (.getfield 10, 3) := by decide +kernel
theorem dX5_guessWord_4 : decode cX5_guessWord 4 = .ok (.invokevirtual 51, 3) := by decide +kernel
theorem dX5_guessWord_7 : decode cX5_guessWord 7 = .ok (.bipush (-6), 2) := by decide +kernel
theorem dX5_guessWord_9 : decode cX5_guessWord 9 = .ok (.if_icmp .ne 14, 3) := by decide +kernel
theorem dX5_guessWord_12 : decode cX5_guessWord 12 = .ok (.aload_n 0, 1) := by decide +kernel
theorem dX5_guessWord_13 : decode cX5_guessWord 13 = .ok (.getfield 10, 3) := by decide +kernel
theorem dX5_guessWord_16 : decode cX5_guessWord 16 = .ok (.invokevirtual 120, 3) := by decide +kernel
theorem dX5_guessWord_19 : decode cX5_guessWord 19 = .ok (.iconst 1, 1) := by decide +kernel
theorem dX5_guessWord_20 : decode cX5_guessWord 20 = .ok (.if_icmp .eq 6, 3) := by decide +kernel
theorem dX5_guessWord_23 : decode cX5_guessWord 23 = .ok (.bipush (-5), 2) := by decide +kernel
theorem dX5_guessWord_25 : decode cX5_guessWord 25 = .ok (.ireturn, 1) := by decide +kernel
theorem dX5_guessWord_26 : decode cX5_guessWord 26 = .ok (.aload_n 0, 1) := by decide +kernel
theorem dX5_guessWord_27 : decode cX5_guessWord 27 = .ok (.getfield 10, 3) := by decide +kernel
theorem dX5_guessWord_30 : decode cX5_guessWord 30 = .ok (.iconst 0, 1) := by decide +kernel
theorem dX5_guessWord_31 : decode cX5_guessWord 31 = .ok (.invokevirtual 123, 3) := by decide +kernel
theorem dX5_guessWord_34 : decode cX5_guessWord 34 = .ok (.lstore_n 1, 1) := by decide +kernel
theorem dX5_guessWord_35 : decode cX5_guessWord 35 = .ok (.aload_n 0, 1) := by decide +kernel
theorem dX5_guessWord_36 : decode cX5_guessWord 36 = .ok (.getfield 19, 3) := by decide +kernel
theorem dX5_guessWord_39 : decode cX5_guessWord 39 = .ok (.invokevirtual 55, 3) := by decide +kernel
theorem dX5_guessWord_42 : decode cX5_guessWord 42 = .ok (.ifCond .eq 17, 3) := by decide +kernel
theorem dX5_guessWord_45 : decode cX5_guessWord 45 = .ok (.lload_n 1, 1) := by decide +kernel
theorem dX5_guessWord_46 : decode cX5_guessWord 46 = .ok (.invokestatic 126, 3) := by decide +kernel
theorem dX5_guessWord_49 : decode cX5_guessWord 49 = .ok (.aload_n 0, 1) := by decide +kernel
theorem dX5_guessWord_50 : decode cX5_guessWord 50 = .ok (.getfield 19, 3) := by decide +kernel
theorem dX5_guessWord_53 : decode cX5_guessWord 53 = .ok (.getfield 130, 3) := by decide +kernel
theorem dX5_guessWord_56 : decode cX5_guessWord 56 = .ok (.if_icmp .eq 6, 3) := by decide +kernel
theorem dX5_guessWord_59 : decode cX5_guessWord 59 = .ok (.bipush (-3), 2) := by decide +kernel
theorem dX5_guessWord_61 : decode cX5_guessWord 61 = .ok (.ireturn, 1) := by decide +kernel
theorem dX5_guessWord_62 : decode cX5_guessWord 62 = .ok (.aload_n 0, 1) := by decide +kernel
theorem dX5_guessWord_63 : decode cX5_guessWord 63 = .ok (.getfield 26, 3) := by decide +kernel
theorem dX5_guessWord_66 : decode cX5_guessWord 66 = .ok (.aload_n 0, 1) := by decide +kernel
theorem dX5_guessWord_67 : decode cX5_guessWord 67 = .ok (.getfield 19, 3) := by decide +kernel
theorem dX5_guessWord_70 : decode cX5_guessWord 70 = .ok (.invokevirtual 70, 3) := by decide +kernel
theorem dX5_guessWord_73 : decode cX5_guessWord 73 = .ok (.aload_n 0, 1) := by decide +kernel
theorem dX5_guessWord_74 : decode cX5_guessWord 74 = .ok (.getfield 19, 3) := by decide +kernel
theorem dX5_guessWord_77 : decode cX5_guessWord 77 = .ok (.lload_n 1, 1) := by decide +kernel
theorem dX5_guessWord_78 : decode cX5_guessWord 78 = .ok (.invokevirtual 131, 3) := by decide +kernel
theorem dX5_guessWord_81 : decode cX5_guessWord 81 = .ok (.aload_n 0, 1) := by decide +kernel
theorem dX5_guessWord_82 : decode cX5_guessWord 82 = .ok (.getfield 10, 3) := by decide +kernel
theorem dX5_guessWord_85 : decode cX5_guessWord 85 = .ok (.invokevirtual 48, 3) := by decide +kernel
theorem dX5_guessWord_88 : decode cX5_guessWord 88 = .ok (.aload_n 0, 1) := by decide +kernel
theorem dX5_guessWord_89 : decode cX5_guessWord 89 = .ok (.getfield 19, 3) := by decide +kernel
theorem dX5_guessWord_92 : decode cX5_guessWord 92 = .ok (.getfield 135, 3) := by decide +kernel
theorem dX5_guessWord_95 : decode cX5_guessWord 95 = .ok (.iconst 2, 1) := by decide +kernel
theorem dX5_guessWord_96 : decode cX5_guessWord 96 = .ok (.if_icmp .ne 7, 3) := by decide +kernel
theorem dX5_guessWord_99 : decode cX5_guessWord 99 = .ok (.iconst 1, 1) := by decide +kernel
theorem dX5_guessWord_100 : decode cX5_guessWord 100 = .ok (.goto 4, 3) := by decide +kernel
theorem dX5_guessWord_103 : decode cX5_guessWord 103 = .ok (.iconst 0, 1) := by decide +kernel
theorem dX5_guessWord_104 : decode cX5_guessWord 104 = .ok (.ireturn, 1) := by decide +kernel
set_option maxRecDepth 20000 in
theorem ggX5_giveUp_X2_isRunning : GoodIn wsX5_giveUp wsX2_isRunning := goodIn_r _ [7, 8, 66, 67, 68, 69, 70, 71, 72, 73, 74, 75, 76, 77] (by decide +kernel) (by decide +kernel)
set_option maxRecDepth 20000 in
theorem gX5_giveUp_X2_isRunning : GoodIn wsX5_giveUp (wsV RX5 55 RX2 yX2_isRunning wsX2_isRunning) := goodIn_app (goodIn_of _ (by decide +kernel)) ggX5_giveUp_X2_isRunning
set_option maxRecDepth 20000 in
theorem ggX5_giveUp_X1_push : GoodIn wsX5_giveUp wsX1_push := goodIn_r _ [13, 14, 15, 16, 17, 6, 18, 19, 20, 21, 22, 23, 24, 25, 26, 27, 28, 29, 30, 31, 32, 33, 34, 35, 36, 37, 38, 39, 40, 41, 42, 8, 43, 44, 45, 46, 47, 48, 78, 79, 80, 66, 67, 68, 69, 70, 71, 72, 73, 74, 75, 76, 77] (by decide +kernel) (by decide +kernel)
set_option maxRecDepth 20000 in
theorem gX5_giveUp_X1_push : GoodIn wsX5_giveUp (wsV RX5 70 RX1 yX1_push wsX1_push) := goodIn_app (goodIn_of _ (by decide +kernel)) ggX5_giveUp_X1_push
set_option maxRecDepth 20000 in
theorem ggX5_giveUp_X2_lose : GoodIn wsX5_giveUp wsX2_lose := goodIn_r _ [52, 8, 53, 54, 55, 6, 56, 32, 66, 67, 68, 69, 70, 71, 72, 73, 74, 75, 76, 77] (by decide +kernel) (by decide +kernel)
set_option maxRecDepth 20000 in
theorem gX5_giveUp_X2_lose : GoodIn wsX5_giveUp (wsV RX5 138 RX2 yX2_lose wsX2_lose) := goodIn_app (goodIn_of _ (by decide +kernel)) ggX5_giveUp_X2_lose
set_option maxRecDepth 20000 in
theorem ggX5_giveUp_X5_memberAt : GoodIn wsX5_giveUp wsX5_memberAt := goodIn_r _ [60] (by decide +kernel) (by decide +kernel)
set_option maxRecDepth 20000 in
theorem gX5_giveUp_X5_memberAt : GoodIn wsX5_giveUp (va_wsS RX5 144 yX5_memberAt wsX5_memberAt) := goodIn_app (goodIn_of _ (by decide +kernel)) ggX5_giveUp_X5_memberAt
theorem dX5_giveUp_0 : decode cX5_giveUp 0 = .ok (.aload_n 0, 1) := by decide +kernel
theorem dX5_giveUp_1 : decode cX5_giveUp 1 = .ok (.getfield 19, 3) := by decide +kernel
theorem dX5_giveUp_4 : decode cX5_giveUp 4 = .ok (.invokevirtual 55, 3) := by decide +kernel
theorem dX5_giveUp_7 : decode cX5_giveUp 7 = .ok (.ifCond .ne 6, 3) := by decide +kernel
theorem dX5_giveUp_10 : decode cX5_giveUp 10 = .ok (.bipush (-3), 2) := by decide +kernel
theorem dX5_giveUp_12 : decode cX5_giveUp 12 = .ok (.ireturn, 1) := by decide +kernel
theorem dX5_giveUp_13 : decode cX5_giveUp 13 = .ok (.aload_n 0, 1) := by decide +kernel
theorem dX5_giveUp_14 : decode cX5_giveUp 14 = .ok (.getfield 26, 3) := by decide +kernel
theorem dX5_giveUp_17 : decode cX5_giveUp 17 = .ok (.aload_n 0, 1) := by decide +kernel
theorem dX5_giveUp_18 : decode cX5_giveUp 18 = .ok (.getfield 19, 3) := by decide +kernel
theorem dX5_giveUp_21 : decode cX5_giveUp 21 = .ok (.invokevirtual 70, 3) := by decide +kernel
theorem dX5_giveUp_24 : decode cX5_giveUp 24 = .ok (.aload_n 0, 1) := by decide +kernel
theorem dX5_giveUp_25 : decode cX5_giveUp 25 = .ok (.getfield 19, 3) := by decide +kernel
theorem dX5_giveUp_28 : decode cX5_giveUp 28 = .ok (.invokevirtual 138, 3) := by decide +kernel
theorem dX5_giveUp_31 : decode cX5_giveUp 31 = .ok (.aload_n 0, 1) := by decide +kernel
theorem dX5_giveUp_32 : decode cX5_giveUp 32 = .ok (.getfield 19, 3) := by decide +kernel
theorem dX5_giveUp_35 : decode cX5_giveUp 35 = .ok (.getfield 141, 3) := by decide +kernel
theorem dX5_giveUp_38 : decode cX5_giveUp 38 = .ok (.iconst 0, 1) := by decide +kernel
theorem dX5_giveUp_39 : decode cX5_giveUp 39 = .ok (.invokestatic 144, 3) := by decide +kernel
theorem dX5_giveUp_42 : decode cX5_giveUp 42 = .ok (.ireturn, 1) := by decide +kernel
theorem dX5_status_0 : decode cX5_status 0 = .ok (.aload_n 0, 1) := by decide +kernel
theorem dX5_status_1 : decode cX5_status 1 = .ok (.getfield 19, 3) := by decide +kernel
theorem dX5_status_4 : decode cX5_status 4 = .ok (.getfield 135, 3) := by decide +kernel
theorem dX5_status_7 : decode cX5_status 7 = .ok (.ireturn, 1) := by decide +kernel
theorem dX5_lives_0 : decode cX5_lives 0 = .ok (.aload_n 0, 1) := by decide +kernel
theorem dX5_lives_1 : decode cX5_lives 1 = .ok (.getfield 19, 3) := by decide +kernel
theorem dX5_lives_4 : decode cX5_lives 4 = .ok (.getfield 148, 3) := by decide +kernel
theorem dX5_lives_7 : decode cX5_lives 7 = .ok (.ireturn, 1) := by decide +kernel
set_option maxRecDepth 20000 in
theorem ggX5_shown_X4_letterAt : GoodIn wsX5_shown wsX4_letterAt := goodIn_r _ [5, 6, 7, 4, 8] (by decide +kernel) (by decide +kernel)
set_option maxRecDepth 20000 in
theorem gX5_shown_X4_letterAt : GoodIn wsX5_shown (va_wsS RX5 88 yX4_letterAt wsX4_letterAt) := goodIn_app (goodIn_of _ (by decide +kernel)) ggX5_shown_X4_letterAt
theorem dX5_shown_0 : decode cX5_shown 0 = .ok (.iload_n 1, 1) := by decide +kernel
theorem dX5_shown_1 : decode cX5_shown 1 = .ok (.ifCond .lt 14, 3) := by decide +kernel
theorem dX5_shown_4 : decode cX5_shown 4 = .ok (.iload_n 1, 1) := by decide +kernel
theorem dX5_shown_5 : decode cX5_shown 5 = .ok (.aload_n 0, 1) := by decide +kernel
theorem dX5_shown_6 : decode cX5_shown 6 = .ok (.getfield 19, 3) := by decide +kernel
theorem dX5_shown_9 : decode cX5_shown 9 = .ok (.getfield 130, 3) := by decide +kernel
theorem dX5_shown_12 : decode cX5_shown 12 = .ok (.if_icmp .lt 5, 3) := by decide +kernel
theorem dX5_shown_15 : decode cX5_shown 15 = .ok (.iconst (-1), 1) := by decide +kernel
theorem dX5_shown_16 : decode cX5_shown 16 = .ok (.ireturn, 1) := by decide +kernel
theorem dX5_shown_17 : decode cX5_shown 17 = .ok (.aload_n 0, 1) := by decide +kernel
theorem dX5_shown_18 : decode cX5_shown 18 = .ok (.getfield 19, 3) := by decide +kernel
theorem dX5_shown_21 : decode cX5_shown 21 = .ok (.getfield 151, 3) := by decide +kernel
theorem dX5_shown_24 : decode cX5_shown 24 = .ok (.iload_n 1, 1) := by decide +kernel
theorem dX5_shown_25 : decode cX5_shown 25 = .ok (.invokestatic 88, 3) := by decide +kernel
theorem dX5_shown_28 : decode cX5_shown 28 = .ok (.istore_n 2, 1) := by decide +kernel
theorem dX5_shown_29 : decode cX5_shown 29 = .ok (.iload_n 2, 1) := by decide +kernel
theorem dX5_shown_30 : decode cX5_shown 30 = .ok (.ifCond .ne 8, 3) := by decide +kernel
theorem dX5_shown_33 : decode cX5_shown 33 = .ok (.bipush (-6), 2) := by decide +kernel
theorem dX5_shown_35 : decode cX5_shown 35 = .ok (.goto 4, 3) := by decide +kernel
theorem dX5_shown_38 : decode cX5_shown 38 = .ok (.iload_n 2, 1) := by decide +kernel
theorem dX5_shown_39 : decode cX5_shown 39 = .ok (.ireturn, 1) := by decide +kernel
set_option maxRecDepth 20000 in
theorem ggX5_candidates_J6_bitCount_0f7a4 : GoodIn wsX5_candidates wsJ6_bitCount_0f7a4 := goodIn_r _ [5, 6, 7, 8] (by decide +kernel) (by decide +kernel)
set_option maxRecDepth 20000 in
theorem gX5_candidates_J6_bitCount_0f7a4 : GoodIn wsX5_candidates (va_wsS RX5 105 yJ6_bitCount_0f7a4 wsJ6_bitCount_0f7a4) := goodIn_app (goodIn_of _ (by decide +kernel)) ggX5_candidates_J6_bitCount_0f7a4
theorem dX5_candidates_0 : decode cX5_candidates 0 = .ok (.aload_n 0, 1) := by decide +kernel
theorem dX5_candidates_1 : decode cX5_candidates 1 = .ok (.getfield 19, 3) := by decide +kernel
theorem dX5_candidates_4 : decode cX5_candidates 4 = .ok (.getfield 141, 3) := by decide +kernel
theorem dX5_candidates_7 : decode cX5_candidates 7 = .ok (.invokestatic 105, 3) := by decide +kernel
theorem dX5_candidates_10 : decode cX5_candidates 10 = .ok (.ireturn, 1) := by decide +kernel
set_option maxRecDepth 20000 in
theorem ggX5_candidate_X5_memberAt : GoodIn wsX5_candidate wsX5_memberAt := goodIn_r _ [5] (by decide +kernel) (by decide +kernel)
set_option maxRecDepth 20000 in
theorem gX5_candidate_X5_memberAt : GoodIn wsX5_candidate (va_wsS RX5 144 yX5_memberAt wsX5_memberAt) := goodIn_app (goodIn_of _ (by decide +kernel)) ggX5_candidate_X5_memberAt
theorem dX5_candidate_0 : decode cX5_candidate 0 = .ok (.aload_n 0, 1) := by decide +kernel
theorem dX5_candidate_1 : decode cX5_candidate 1 = .ok (.getfield 19, 3) := by decide +kernel
theorem dX5_candidate_4 : decode cX5_candidate 4 = .ok (.getfield 141, 3) := by decide +kernel
theorem dX5_candidate_7 : decode cX5_candidate 7 = .ok (.iload_n 1, 1) := by decide +kernel
theorem dX5_candidate_8 : decode cX5_candidate 8 = .ok (.invokestatic 144, 3) := by decide +kernel
theorem dX5_candidate_11 : decode cX5_candidate 11 = .ok (.ireturn, 1) := by decide +kernel
theorem dX5_guesses_0 : decode cX5_guesses 0 = .ok (.aload_n 0, 1) := by decide +kernel
theorem dX5_guesses_1 : decode cX5_guesses 1 = .ok (.getfield 19, 3) := by decide +kernel
theorem dX5_guesses_4 : decode cX5_guesses 4 = .ok (.getfield 155, 3) := by decide +kernel
theorem dX5_guesses_7 : decode cX5_guesses 7 = .ok (.ireturn, 1) := by decide +kernel
set_option maxRecDepth 20000 in
theorem ggX5_guessAt_X2_guessedAt : GoodIn wsX5_guessAt wsX2_guessedAt := goodIn_r _ [6, 7, 8, 14, 15, 16, 17, 18, 19, 20, 21, 22, 23, 24, 25] (by decide +kernel) (by decide +kernel)
set_option maxRecDepth 20000 in
theorem gX5_guessAt_X2_guessedAt : GoodIn wsX5_guessAt (wsV RX5 158 RX2 yX2_guessedAt wsX2_guessedAt) := goodIn_app (goodIn_of _ (by decide +kernel)) ggX5_guessAt_X2_guessedAt
theorem dX5_guessAt_0 : decode cX5_guessAt 0 = .ok (.aload_n 0, 1) := by decide +kernel
theorem dX5_guessAt_1 : decode cX5_guessAt 1 = .ok (.getfield 19, 3) := by decide +kernel
theorem dX5_guessAt_4 : decode cX5_guessAt 4 = .ok (.iload_n 1, 1) := by decide +kernel
theorem dX5_guessAt_5 : decode cX5_guessAt 5 = .ok (.invokevirtual 158, 3) := by decide +kernel
theorem dX5_guessAt_8 : decode cX5_guessAt 8 = .ok (.ireturn, 1) := by decide +kernel
set_option maxRecDepth 20000 in
theorem ggX5_families_X5_faultOfAsking : GoodIn wsX5_families wsX5_faultOfAsking := goodIn_r _ [7, 2, 8, 9, 6, 10, 11, 12, 13, 14, 15, 16, 17, 18, 19, 20, 21, 22, 23, 74, 75, 76, 77, 78, 84, 85, 86, 87, 88, 89, 90, 91, 92, 93, 94, 95] (by decide +kernel) (by decide +kernel)
set_option maxRecDepth 20000 in
theorem gX5_families_X5_faultOfAsking : GoodIn wsX5_families (wsV RX5 161 RX5 yX5_faultOfAsking wsX5_faultOfAsking) := goodIn_app (goodIn_of _ (by decide +kernel)) ggX5_families_X5_faultOfAsking
set_option maxRecDepth 20000 in
theorem ggX5_families_X0_make : GoodIn wsX5_families wsX0_make := goodIn_r _ [28, 29, 30, 22, 6, 23, 8, 9, 10, 31, 32, 33, 14, 34, 35, 36, 37, 38, 39, 40, 41, 42, 43, 44, 45, 46, 47, 48, 49, 50, 51, 52, 53, 54, 55, 56, 57, 58, 59, 60, 61, 27, 62, 63, 64, 65, 66, 67, 68, 69, 70, 71, 72, 73, 79, 80, 81, 82, 83, 84, 85, 86, 87, 88, 89, 90, 91, 92, 93, 94, 95] (by decide +kernel) (by decide +kernel)
set_option maxRecDepth 20000 in
theorem gX5_families_X0_make : GoodIn wsX5_families (wsV RX5 164 RX0 yX0_make wsX0_make) := goodIn_app (goodIn_of _ (by decide +kernel)) ggX5_families_X0_make
theorem dX5_families_0 : decode cX5_families 0 = .ok (.aload_n 0, 1) := by decide +kernel
theorem dX5_families_1 : decode cX5_families 1 = .ok (.iload_n 1, 1) := by decide +kernel
theorem dX5_families_2 : decode cX5_families 2 = .ok (.invokevirtual 161, 3) := by decide +kernel
theorem dX5_families_5 : decode cX5_families 5 = .ok (.istore_n 2, 1) := by decide +kernel
theorem dX5_families_6 : decode cX5_families 6 = .ok (.iload_n 2, 1) := by decide +kernel
theorem dX5_families_7 : decode cX5_families 7 = .ok (.ifCond .eq 5, 3) := by decide +kernel
theorem dX5_families_10 : decode cX5_families 10 = .ok (.iload_n 2, 1) := by decide +kernel
theorem dX5_families_11 : decode cX5_families 11 = .ok (.ireturn, 1) := by decide +kernel
theorem dX5_families_12 : decode cX5_families 12 = .ok (.aload_n 0, 1) := by decide +kernel
theorem dX5_families_13 : decode cX5_families 13 = .ok (.getfield 36, 3) := by decide +kernel
theorem dX5_families_16 : decode cX5_families 16 = .ok (.aload_n 0, 1) := by decide +kernel
theorem dX5_families_17 : decode cX5_families 17 = .ok (.getfield 19, 3) := by decide +kernel
theorem dX5_families_20 : decode cX5_families 20 = .ok (.iload_n 1, 1) := by decide +kernel
theorem dX5_families_21 : decode cX5_families 21 = .ok (.invokevirtual 164, 3) := by decide +kernel
theorem dX5_families_24 : decode cX5_families 24 = .ok (.aload_n 0, 1) := by decide +kernel
theorem dX5_families_25 : decode cX5_families 25 = .ok (.getfield 36, 3) := by decide +kernel
theorem dX5_families_28 : decode cX5_families 28 = .ok (.getfield 168, 3) := by decide +kernel
theorem dX5_families_31 : decode cX5_families 31 = .ok (.ireturn, 1) := by decide +kernel
set_option maxRecDepth 20000 in
theorem ggX5_family_X5_faultOfAsking : GoodIn wsX5_family wsX5_faultOfAsking := goodIn_r _ [7, 2, 8, 9, 6, 10, 11, 12, 13, 14, 15, 16, 17, 18, 19, 20, 21, 22, 23, 113, 114, 115, 116, 117, 118, 119, 120, 121, 122, 123, 124, 125, 126, 127, 128, 129] (by decide +kernel) (by decide +kernel)
set_option maxRecDepth 20000 in
theorem gX5_family_X5_faultOfAsking : GoodIn wsX5_family (wsV RX5 161 RX5 yX5_faultOfAsking wsX5_faultOfAsking) := goodIn_app (goodIn_of _ (by decide +kernel)) ggX5_family_X5_faultOfAsking
set_option maxRecDepth 20000 in
theorem ggX5_family_X0_make : GoodIn wsX5_family wsX0_make := goodIn_r _ [28, 29, 30, 22, 6, 23, 8, 9, 10, 31, 32, 33, 14, 34, 35, 36, 37, 38, 39, 40, 41, 42, 43, 44, 45, 46, 47, 48, 49, 50, 51, 52, 53, 54, 55, 56, 57, 58, 59, 60, 61, 27, 62, 63, 64, 65, 66, 67, 68, 69, 70, 71, 72, 73, 130, 131, 132, 133, 134, 118, 119, 120, 121, 122, 123, 124, 125, 126, 127, 128, 129] (by decide +kernel) (by decide +kernel)
set_option maxRecDepth 20000 in
theorem gX5_family_X0_make : GoodIn wsX5_family (wsV RX5 164 RX0 yX0_make wsX0_make) := goodIn_app (goodIn_of _ (by decide +kernel)) ggX5_family_X0_make
set_option maxRecDepth 20000 in
theorem ggX5_family_X0_ranked : GoodIn wsX5_family wsX0_ranked := goodIn_r _ [77, 29, 78, 79, 80, 27, 81, 82, 83, 84, 85, 30, 66, 67, 68, 69, 63, 70, 71, 72, 73, 86, 87, 88, 89, 65, 90, 91, 92, 93, 94, 95, 96, 97, 98, 99, 100, 101, 102, 103, 104, 64, 130, 131, 132, 133, 134] (by decide +kernel) (by decide +kernel)
set_option maxRecDepth 20000 in
theorem gX5_family_X0_ranked : GoodIn wsX5_family (wsV RX5 171 RX0 yX0_ranked wsX0_ranked) := goodIn_app (goodIn_of _ (by decide +kernel)) ggX5_family_X0_ranked
set_option maxRecDepth 20000 in
theorem ggX5_family_X0_has : GoodIn wsX5_family wsX0_has := goodIn_r _ [73, 29, 130, 131, 132, 133, 134] (by decide +kernel) (by decide +kernel)
set_option maxRecDepth 20000 in
theorem gX5_family_X0_has : GoodIn wsX5_family (wsV RX5 174 RX0 yX0_has wsX0_has) := goodIn_app (goodIn_of _ (by decide +kernel)) ggX5_family_X0_has
set_option maxRecDepth 20000 in
theorem ggX5_family_X0_sizeOf : GoodIn wsX5_family wsX0_sizeOf := goodIn_r _ [100, 101, 102, 103, 27, 104, 64, 70, 71, 72, 73, 29, 90, 91, 92, 93, 94, 95, 96, 130, 131, 132, 133, 134] (by decide +kernel) (by decide +kernel)
set_option maxRecDepth 20000 in
theorem gX5_family_X0_sizeOf : GoodIn wsX5_family (wsV RX5 177 RX0 yX0_sizeOf wsX0_sizeOf) := goodIn_app (goodIn_of _ (by decide +kernel)) ggX5_family_X0_sizeOf
set_option maxRecDepth 20000 in
theorem ggX5_family_X0_maskOf : GoodIn wsX5_family wsX0_maskOf := goodIn_r _ [69, 63, 70, 71, 72, 27, 73, 29, 130, 131, 132, 133, 134] (by decide +kernel) (by decide +kernel)
set_option maxRecDepth 20000 in
theorem gX5_family_X0_maskOf : GoodIn wsX5_family (wsV RX5 180 RX0 yX0_maskOf wsX0_maskOf) := goodIn_app (goodIn_of _ (by decide +kernel)) ggX5_family_X0_maskOf
set_option maxRecDepth 20000 in
theorem ggX5_family_X0_membersOf : GoodIn wsX5_family wsX0_membersOf := goodIn_r _ [104, 64, 70, 71, 72, 27, 73, 29, 130, 131, 132, 133, 134] (by decide +kernel) (by decide +kernel)
set_option maxRecDepth 20000 in
theorem gX5_family_X0_membersOf : GoodIn wsX5_family (wsV RX5 183 RX0 yX0_membersOf wsX0_membersOf) := goodIn_app (goodIn_of _ (by decide +kernel)) ggX5_family_X0_membersOf
set_option maxRecDepth 20000 in
theorem ggX5_family_X5_memberAt : GoodIn wsX5_family wsX5_memberAt := goodIn_r _ [111] (by decide +kernel) (by decide +kernel)
set_option maxRecDepth 20000 in
theorem gX5_family_X5_memberAt : GoodIn wsX5_family (va_wsS RX5 144 yX5_memberAt wsX5_memberAt) := goodIn_app (goodIn_of _ (by decide +kernel)) ggX5_family_X5_memberAt
set_option maxRecDepth 20000 in
theorem ggX5_family_X0_freshnessOf : GoodIn wsX5_family wsX0_freshnessOf := goodIn_r _ [89, 65, 70, 71, 72, 27, 73, 29, 90, 91, 92, 93, 94, 95, 96, 130, 131, 132, 133, 134] (by decide +kernel) (by decide +kernel)
set_option maxRecDepth 20000 in
theorem gX5_family_X0_freshnessOf : GoodIn wsX5_family (wsV RX5 186 RX0 yX0_freshnessOf wsX0_freshnessOf) := goodIn_app (goodIn_of _ (by decide +kernel)) ggX5_family_X0_freshnessOf
theorem dX5_family_0 : decode cX5_family 0 = .ok (.aload_n 0, 1) := by decide +kernel
theorem dX5_family_1 : decode cX5_family 1 = .ok (.iload_n 1, 1) := by decide +kernel
theorem dX5_family_2 : decode cX5_family 2 = .ok (.invokevirtual 161, 3) := by decide +kernel
theorem dX5_family_5 : decode cX5_family 5 = .ok (.istore 4, 2) := by decide +kernel
theorem dX5_family_7 : decode cX5_family 7 = .ok (.iload 4, 2) := by decide +kernel
theorem dX5_family_9 : decode cX5_family 9 = .ok (.ifCond .eq 6, 3) := by decide +kernel
theorem dX5_family_12 : decode cX5_family 12 = .ok (.iload 4, 2) := by decide +kernel
theorem dX5_family_14 : decode cX5_family 14 = .ok (.ireturn, 1) := by decide +kernel
theorem dX5_family_15 : decode cX5_family 15 = .ok (.aload_n 0, 1) := by decide +kernel
theorem dX5_family_16 : decode cX5_family 16 = .ok (.getfield 36, 3) := by decide +kernel
theorem dX5_family_19 : decode cX5_family 19 = .ok (.aload_n 0, 1) := by decide +kernel
theorem dX5_family_20 : decode cX5_family 20 = .ok (.getfield 19, 3) := by decide +kernel
theorem dX5_family_23 : decode cX5_family 23 = .ok (.iload_n 1, 1) := by decide +kernel
theorem dX5_family_24 : decode cX5_family 24 = .ok (.invokevirtual 164, 3) := by decide +kernel
theorem dX5_family_27 : decode cX5_family 27 = .ok (.aload_n 0, 1) := by decide +kernel
theorem dX5_family_28 : decode cX5_family 28 = .ok (.getfield 36, 3) := by decide +kernel
theorem dX5_family_31 : decode cX5_family 31 = .ok (.iload_n 2, 1) := by decide +kernel
theorem dX5_family_32 : decode cX5_family 32 = .ok (.invokevirtual 171, 3) := by decide +kernel
theorem dX5_family_35 : decode cX5_family 35 = .ok (.istore 5, 2) := by decide +kernel
theorem dX5_family_37 : decode cX5_family 37 = .ok (.aload_n 0, 1) := by decide +kernel
theorem dX5_family_38 : decode cX5_family 38 = .ok (.getfield 36, 3) := by decide +kernel
theorem dX5_family_41 : decode cX5_family 41 = .ok (.iload 5, 2) := by decide +kernel
theorem dX5_family_43 : decode cX5_family 43 = .ok (.invokevirtual 174, 3) := by decide +kernel
theorem dX5_family_46 : decode cX5_family 46 = .ok (.ifCond .ne 5, 3) := by decide +kernel
theorem dX5_family_49 : decode cX5_family 49 = .ok (.iconst (-1), 1) := by decide +kernel
theorem dX5_family_50 : decode cX5_family 50 = .ok (.ireturn, 1) := by decide +kernel
theorem dX5_family_51 : decode cX5_family 51 = .ok (.iload_n 3, 1) := by decide +kernel
theorem dX5_family_52 : decode cX5_family 52 = .ok (.tableswitch 76 0 3 #[32, 42, 52, 66], 32) := by decide +kernel
theorem dX5_family_84 : decode cX5_family 84 = .ok (.aload_n 0, 1) := by decide +kernel
theorem dX5_family_85 : decode cX5_family 85 = .ok (.getfield 36, 3) := by decide +kernel
theorem dX5_family_88 : decode cX5_family 88 = .ok (.iload 5, 2) := by decide +kernel
theorem dX5_family_90 : decode cX5_family 90 = .ok (.invokevirtual 177, 3) := by decide +kernel
theorem dX5_family_93 : decode cX5_family 93 = .ok (.ireturn, 1) := by decide +kernel
theorem dX5_family_94 : decode cX5_family 94 = .ok (.aload_n 0, 1) := by decide +kernel
theorem dX5_family_95 : decode cX5_family 95 = .ok (.getfield 36, 3) := by decide +kernel
theorem dX5_family_98 : decode cX5_family 98 = .ok (.iload 5, 2) := by decide +kernel
theorem dX5_family_100 : decode cX5_family 100 = .ok (.invokevirtual 180, 3) := by decide +kernel
theorem dX5_family_103 : decode cX5_family 103 = .ok (.ireturn, 1) := by decide +kernel
theorem dX5_family_104 : decode cX5_family 104 = .ok (.aload_n 0, 1) := by decide +kernel
theorem dX5_family_105 : decode cX5_family 105 = .ok (.getfield 36, 3) := by decide +kernel
theorem dX5_family_108 : decode cX5_family 108 = .ok (.iload 5, 2) := by decide +kernel
theorem dX5_family_110 : decode cX5_family 110 = .ok (.invokevirtual 183, 3) := by decide +kernel
theorem dX5_family_113 : decode cX5_family 113 = .ok (.iconst 0, 1) := by decide +kernel
theorem dX5_family_114 : decode cX5_family 114 = .ok (.invokestatic 144, 3) := by decide +kernel
theorem dX5_family_117 : decode cX5_family 117 = .ok (.ireturn, 1) := by decide +kernel
theorem dX5_family_118 : decode cX5_family 118 = .ok (.aload_n 0, 1) := by decide +kernel
theorem dX5_family_119 : decode cX5_family 119 = .ok (.getfield 36, 3) := by decide +kernel
theorem dX5_family_122 : decode cX5_family 122 = .ok (.iload 5, 2) := by decide +kernel
theorem dX5_family_124 : decode cX5_family 124 = .ok (.invokevirtual 186, 3) := by decide +kernel
theorem dX5_family_127 : decode cX5_family 127 = .ok (.ireturn, 1) := by decide +kernel
theorem dX5_family_128 : decode cX5_family 128 = .ok (.bipush (-2), 2) := by decide +kernel
theorem dX5_family_130 : decode cX5_family 130 = .ok (.ireturn, 1) := by decide +kernel
set_option maxRecDepth 20000 in
theorem ggX5_spread_X5_faultOfAsking : GoodIn wsX5_spread wsX5_faultOfAsking := goodIn_r _ [7, 2, 8, 9, 6, 10, 11, 12, 13, 14, 15, 16, 17, 18, 19, 20, 21, 22, 23, 98, 99, 100, 101, 102, 103, 104, 105, 106, 107, 108, 109, 110, 111, 112, 113, 114] (by decide +kernel) (by decide +kernel)
set_option maxRecDepth 20000 in
theorem gX5_spread_X5_faultOfAsking : GoodIn wsX5_spread (wsV RX5 161 RX5 yX5_faultOfAsking wsX5_faultOfAsking) := goodIn_app (goodIn_of _ (by decide +kernel)) ggX5_spread_X5_faultOfAsking
set_option maxRecDepth 20000 in
theorem ggX5_spread_X0_make : GoodIn wsX5_spread wsX0_make := goodIn_r _ [28, 29, 30, 22, 6, 23, 8, 9, 10, 31, 32, 33, 14, 34, 35, 36, 37, 38, 39, 40, 41, 42, 43, 44, 45, 46, 47, 48, 49, 50, 51, 52, 53, 54, 55, 56, 57, 58, 59, 60, 61, 27, 62, 63, 64, 65, 66, 67, 68, 69, 70, 71, 72, 73, 115, 116, 117, 118, 119, 103, 104, 105, 106, 107, 108, 109, 110, 111, 112, 113, 114] (by decide +kernel) (by decide +kernel)
set_option maxRecDepth 20000 in
theorem gX5_spread_X0_make : GoodIn wsX5_spread (wsV RX5 164 RX0 yX0_make wsX0_make) := goodIn_app (goodIn_of _ (by decide +kernel)) ggX5_spread_X0_make
set_option maxRecDepth 20000 in
theorem ggX5_spread_X5_candidates : GoodIn wsX5_spread wsX5_candidates := goodIn_r _ [77, 2, 78, 79, 80, 81, 82, 83, 84, 98, 99, 100, 101, 102, 103, 104, 105, 106, 107, 108, 109, 110, 111, 112, 113, 114] (by decide +kernel) (by decide +kernel)
set_option maxRecDepth 20000 in
theorem gX5_spread_X5_candidates : GoodIn wsX5_spread (wsV RX5 189 RX5 yX5_candidates wsX5_candidates) := goodIn_app (goodIn_of _ (by decide +kernel)) ggX5_spread_X5_candidates
set_option maxRecDepth 20000 in
theorem ggX5_spread_X0_squares : GoodIn wsX5_spread wsX0_squares := goodIn_r _ [88, 29, 89, 90, 91, 27, 92, 93, 94, 95, 96, 64, 70, 71, 72, 73, 97, 79, 80, 81, 82, 83, 84, 115, 116, 117, 118, 119] (by decide +kernel) (by decide +kernel)
set_option maxRecDepth 20000 in
theorem gX5_spread_X0_squares : GoodIn wsX5_spread (wsV RX5 191 RX0 yX0_squares wsX0_squares) := goodIn_app (goodIn_of _ (by decide +kernel)) ggX5_spread_X0_squares
theorem dX5_spread_0 : decode cX5_spread 0 = .ok (.aload_n 0, 1) := by decide +kernel
theorem dX5_spread_1 : decode cX5_spread 1 = .ok (.iload_n 1, 1) := by decide +kernel
theorem dX5_spread_2 : decode cX5_spread 2 = .ok (.invokevirtual 161, 3) := by decide +kernel
theorem dX5_spread_5 : decode cX5_spread 5 = .ok (.istore_n 2, 1) := by decide +kernel
theorem dX5_spread_6 : decode cX5_spread 6 = .ok (.iload_n 2, 1) := by decide +kernel
theorem dX5_spread_7 : decode cX5_spread 7 = .ok (.ifCond .eq 5, 3) := by decide +kernel
theorem dX5_spread_10 : decode cX5_spread 10 = .ok (.iload_n 2, 1) := by decide +kernel
theorem dX5_spread_11 : decode cX5_spread 11 = .ok (.ireturn, 1) := by decide +kernel
theorem dX5_spread_12 : decode cX5_spread 12 = .ok (.aload_n 0, 1) := by decide +kernel
theorem dX5_spread_13 : decode cX5_spread 13 = .ok (.getfield 36, 3) := by decide +kernel
theorem dX5_spread_16 : decode cX5_spread 16 = .ok (.aload_n 0, 1) := by decide +kernel
theorem dX5_spread_17 : decode cX5_spread 17 = .ok (.getfield 19, 3) := by decide +kernel
theorem dX5_spread_20 : decode cX5_spread 20 = .ok (.iload_n 1, 1) := by decide +kernel
theorem dX5_spread_21 : decode cX5_spread 21 = .ok (.invokevirtual 164, 3) := by decide +kernel
theorem dX5_spread_24 : decode cX5_spread 24 = .ok (.aload_n 0, 1) := by decide +kernel
theorem dX5_spread_25 : decode cX5_spread 25 = .ok (.invokevirtual 189, 3) := by decide +kernel
theorem dX5_spread_28 : decode cX5_spread 28 = .ok (.istore_n 3, 1) := by decide +kernel
theorem dX5_spread_29 : decode cX5_spread 29 = .ok (.iload_n 3, 1) := by decide +kernel
theorem dX5_spread_30 : decode cX5_spread 30 = .ok (.ifCond .ne 7, 3) := by decide +kernel
theorem dX5_spread_33 : decode cX5_spread 33 = .ok (.iconst 0, 1) := by decide +kernel
theorem dX5_spread_34 : decode cX5_spread 34 = .ok (.goto 16, 3) := by decide +kernel
theorem dX5_spread_37 : decode cX5_spread 37 = .ok (.sipush 1000, 3) := by decide +kernel
theorem dX5_spread_40 : decode cX5_spread 40 = .ok (.aload_n 0, 1) := by decide +kernel
theorem dX5_spread_41 : decode cX5_spread 41 = .ok (.getfield 36, 3) := by decide +kernel
theorem dX5_spread_44 : decode cX5_spread 44 = .ok (.invokevirtual 191, 3) := by decide +kernel
theorem dX5_spread_47 : decode cX5_spread 47 = .ok (.imul, 1) := by decide +kernel
theorem dX5_spread_48 : decode cX5_spread 48 = .ok (.iload_n 3, 1) := by decide +kernel
theorem dX5_spread_49 : decode cX5_spread 49 = .ok (.idiv, 1) := by decide +kernel
theorem dX5_spread_50 : decode cX5_spread 50 = .ok (.ireturn, 1) := by decide +kernel
set_option maxRecDepth 20000 in
theorem ggX5_having_X5_isLetter : GoodIn wsX5_having wsX5_isLetter := goodIn_r _ [5] (by decide +kernel) (by decide +kernel)
set_option maxRecDepth 20000 in
theorem gX5_having_X5_isLetter : GoodIn wsX5_having (va_wsS RX5 110 yX5_isLetter wsX5_isLetter) := goodIn_app (goodIn_of _ (by decide +kernel)) ggX5_having_X5_isLetter
set_option maxRecDepth 20000 in
theorem ggX5_having_X2_candidatesWith : GoodIn wsX5_having wsX2_candidatesWith := goodIn_r _ [10, 11, 12, 13, 14, 9, 15, 16, 17, 18, 19, 20, 21, 22, 23, 24, 25, 26, 27, 28, 29, 30, 31, 32, 33, 34, 35, 41, 42, 43, 44, 45, 46, 47, 48, 49, 50, 51, 52] (by decide +kernel) (by decide +kernel)
set_option maxRecDepth 20000 in
theorem gX5_having_X2_candidatesWith : GoodIn wsX5_having (wsV RX5 194 RX2 yX2_candidatesWith wsX2_candidatesWith) := goodIn_app (goodIn_of _ (by decide +kernel)) ggX5_having_X2_candidatesWith
theorem dX5_having_0 : decode cX5_having 0 = .ok (.iload_n 1, 1) := by decide +kernel
theorem dX5_having_1 : decode cX5_having 1 = .ok (.invokestatic 110, 3) := by decide +kernel
theorem dX5_having_4 : decode cX5_having 4 = .ok (.ifCond .ne 6, 3) := by decide +kernel
theorem dX5_having_7 : decode cX5_having 7 = .ok (.bipush (-2), 2) := by decide +kernel
theorem dX5_having_9 : decode cX5_having 9 = .ok (.ireturn, 1) := by decide +kernel
theorem dX5_having_10 : decode cX5_having 10 = .ok (.aload_n 0, 1) := by decide +kernel
theorem dX5_having_11 : decode cX5_having 11 = .ok (.getfield 19, 3) := by decide +kernel
theorem dX5_having_14 : decode cX5_having 14 = .ok (.getfield 135, 3) := by decide +kernel
theorem dX5_having_17 : decode cX5_having 17 = .ok (.ifCond .ne 6, 3) := by decide +kernel
theorem dX5_having_20 : decode cX5_having 20 = .ok (.bipush (-3), 2) := by decide +kernel
theorem dX5_having_22 : decode cX5_having 22 = .ok (.ireturn, 1) := by decide +kernel
theorem dX5_having_23 : decode cX5_having 23 = .ok (.aload_n 0, 1) := by decide +kernel
theorem dX5_having_24 : decode cX5_having 24 = .ok (.getfield 19, 3) := by decide +kernel
theorem dX5_having_27 : decode cX5_having 27 = .ok (.iload_n 1, 1) := by decide +kernel
theorem dX5_having_28 : decode cX5_having 28 = .ok (.invokevirtual 194, 3) := by decide +kernel
theorem dX5_having_31 : decode cX5_having 31 = .ok (.ireturn, 1) := by decide +kernel
set_option maxRecDepth 20000 in
theorem ggX5_sureLetters_X2_isRunning : GoodIn wsX5_sureLetters wsX2_isRunning := goodIn_r _ [6, 7, 49, 50, 51, 52, 53, 54, 55, 56, 57, 58, 59, 60] (by decide +kernel) (by decide +kernel)
set_option maxRecDepth 20000 in
theorem gX5_sureLetters_X2_isRunning : GoodIn wsX5_sureLetters (wsV RX5 55 RX2 yX2_isRunning wsX2_isRunning) := goodIn_app (goodIn_of _ (by decide +kernel)) ggX5_sureLetters_X2_isRunning
set_option maxRecDepth 20000 in
theorem ggX5_sureLetters_X2_lettersOfAll : GoodIn wsX5_sureLetters wsX2_lettersOfAll := goodIn_r _ [11, 12, 13, 14, 15, 16, 5, 17, 18, 19, 20, 21, 22, 23, 24, 25, 26, 27, 28, 29, 30, 31, 32, 33, 34, 35, 36, 37, 38, 39, 40, 41, 42, 43, 49, 50, 51, 52, 53, 54, 55, 56, 57, 58, 59, 60] (by decide +kernel) (by decide +kernel)
set_option maxRecDepth 20000 in
theorem gX5_sureLetters_X2_lettersOfAll : GoodIn wsX5_sureLetters (wsV RX5 197 RX2 yX2_lettersOfAll wsX2_lettersOfAll) := goodIn_app (goodIn_of _ (by decide +kernel)) ggX5_sureLetters_X2_lettersOfAll
theorem dX5_sureLetters_0 : decode cX5_sureLetters 0 = .ok (.aload_n 0, 1) := by decide +kernel
theorem dX5_sureLetters_1 : decode cX5_sureLetters 1 = .ok (.getfield 19, 3) := by decide +kernel
theorem dX5_sureLetters_4 : decode cX5_sureLetters 4 = .ok (.invokevirtual 55, 3) := by decide +kernel
theorem dX5_sureLetters_7 : decode cX5_sureLetters 7 = .ok (.ifCond .eq 23, 3) := by decide +kernel
theorem dX5_sureLetters_10 : decode cX5_sureLetters 10 = .ok (.aload_n 0, 1) := by decide +kernel
theorem dX5_sureLetters_11 : decode cX5_sureLetters 11 = .ok (.getfield 19, 3) := by decide +kernel
theorem dX5_sureLetters_14 : decode cX5_sureLetters 14 = .ok (.invokevirtual 197, 3) := by decide +kernel
theorem dX5_sureLetters_17 : decode cX5_sureLetters 17 = .ok (.aload_n 0, 1) := by decide +kernel
theorem dX5_sureLetters_18 : decode cX5_sureLetters 18 = .ok (.getfield 19, 3) := by decide +kernel
theorem dX5_sureLetters_21 : decode cX5_sureLetters 21 = .ok (.getfield 200, 3) := by decide +kernel
theorem dX5_sureLetters_24 : decode cX5_sureLetters 24 = .ok (.iconst (-1), 1) := by decide +kernel
theorem dX5_sureLetters_25 : decode cX5_sureLetters 25 = .ok (.ixor, 1) := by decide +kernel
theorem dX5_sureLetters_26 : decode cX5_sureLetters 26 = .ok (.iand, 1) := by decide +kernel
theorem dX5_sureLetters_27 : decode cX5_sureLetters 27 = .ok (.goto 5, 3) := by decide +kernel
theorem dX5_sureLetters_30 : decode cX5_sureLetters 30 = .ok (.bipush (-3), 2) := by decide +kernel
theorem dX5_sureLetters_32 : decode cX5_sureLetters 32 = .ok (.ireturn, 1) := by decide +kernel
set_option maxRecDepth 20000 in
theorem ggX5_bestGuess_X2_isRunning : GoodIn wsX5_bestGuess wsX2_isRunning := goodIn_r _ [6, 7, 113, 114, 115, 116, 117, 118, 119, 120, 121, 122, 123, 124] (by decide +kernel) (by decide +kernel)
set_option maxRecDepth 20000 in
theorem gX5_bestGuess_X2_isRunning : GoodIn wsX5_bestGuess (wsV RX5 55 RX2 yX2_isRunning wsX2_isRunning) := goodIn_app (goodIn_of _ (by decide +kernel)) ggX5_bestGuess_X2_isRunning
set_option maxRecDepth 20000 in
theorem ggX5_bestGuess_X5_bestLetter : GoodIn wsX5_bestGuess wsX5_bestLetter := goodIn_r _ [12, 13, 14, 15, 16, 5, 17, 18, 19, 11, 20, 21, 22, 23, 24, 25, 26, 27, 28, 29, 30, 31, 32, 33, 34, 35, 36, 37, 38, 39, 40, 41, 42, 43, 44, 45, 46, 47, 48, 49, 50, 51, 52, 53, 54, 55, 56, 57, 58, 59, 60, 61, 62, 63, 64, 65, 66, 67, 68, 69, 70, 71, 72, 73, 74, 75, 76, 77, 78, 79, 80, 81, 82, 83, 84, 85, 86, 87, 88, 89, 90, 91, 92, 93, 94, 95, 96, 97, 98, 99, 100, 101, 102, 103, 104, 105, 106, 107, 108, 109, 110, 111, 112, 113, 114, 115, 116, 117, 118, 119, 120, 121, 122, 123, 124, 125, 126, 127, 128, 129] (by decide +kernel) (by decide +kernel)
set_option maxRecDepth 20000 in
theorem gX5_bestGuess_X5_bestLetter : GoodIn wsX5_bestGuess (wsV RX5 203 RX5 yX5_bestLetter wsX5_bestLetter) := goodIn_app (goodIn_of _ (by decide +kernel)) ggX5_bestGuess_X5_bestLetter
theorem dX5_bestGuess_0 : decode cX5_bestGuess 0 = .ok (.aload_n 0, 1) := by decide +kernel
theorem dX5_bestGuess_1 : decode cX5_bestGuess 1 = .ok (.getfield 19, 3) := by decide +kernel
theorem dX5_bestGuess_4 : decode cX5_bestGuess 4 = .ok (.invokevirtual 55, 3) := by decide +kernel
theorem dX5_bestGuess_7 : decode cX5_bestGuess 7 = .ok (.ifCond .eq 14, 3) := by decide +kernel
theorem dX5_bestGuess_10 : decode cX5_bestGuess 10 = .ok (.aload_n 0, 1) := by decide +kernel
theorem dX5_bestGuess_11 : decode cX5_bestGuess 11 = .ok (.aload_n 0, 1) := by decide +kernel
theorem dX5_bestGuess_12 : decode cX5_bestGuess 12 = .ok (.getfield 19, 3) := by decide +kernel
theorem dX5_bestGuess_15 : decode cX5_bestGuess 15 = .ok (.invokevirtual 203, 3) := by decide +kernel
theorem dX5_bestGuess_18 : decode cX5_bestGuess 18 = .ok (.goto 5, 3) := by decide +kernel
theorem dX5_bestGuess_21 : decode cX5_bestGuess 21 = .ok (.bipush (-3), 2) := by decide +kernel
theorem dX5_bestGuess_23 : decode cX5_bestGuess 23 = .ok (.ireturn, 1) := by decide +kernel
set_option maxRecDepth 20000 in
theorem ggX5_missesAhead_X2_isRunning : GoodIn wsX5_missesAhead wsX2_isRunning := goodIn_r _ [7, 8, 168, 169, 170, 171, 172, 173, 174, 175, 176, 177, 178, 179] (by decide +kernel) (by decide +kernel)
set_option maxRecDepth 20000 in
theorem gX5_missesAhead_X2_isRunning : GoodIn wsX5_missesAhead (wsV RX5 55 RX2 yX2_isRunning wsX2_isRunning) := goodIn_app (goodIn_of _ (by decide +kernel)) ggX5_missesAhead_X2_isRunning
set_option maxRecDepth 20000 in
theorem ggX5_missesAhead_X2_copyFrom : GoodIn wsX5_missesAhead wsX2_copyFrom := goodIn_r _ [12, 13, 14, 15, 16, 17, 18, 19, 20, 21, 8, 22, 23, 24, 25, 26, 27, 168, 169, 170, 171, 172, 173, 174, 175, 176, 177, 178, 179] (by decide +kernel) (by decide +kernel)
set_option maxRecDepth 20000 in
theorem gX5_missesAhead_X2_copyFrom : GoodIn wsX5_missesAhead (wsV RX5 59 RX2 yX2_copyFrom wsX2_copyFrom) := goodIn_app (goodIn_of _ (by decide +kernel)) ggX5_missesAhead_X2_copyFrom
set_option maxRecDepth 20000 in
theorem ggX5_missesAhead_X5_bestLetter : GoodIn wsX5_missesAhead wsX5_bestLetter := goodIn_r _ [32, 33, 34, 35, 36, 6, 37, 25, 38, 31, 39, 40, 41, 42, 43, 44, 45, 46, 47, 48, 49, 50, 51, 52, 53, 24, 54, 55, 56, 57, 20, 58, 59, 60, 61, 13, 62, 63, 64, 65, 66, 67, 68, 69, 70, 71, 72, 73, 74, 75, 76, 77, 78, 79, 80, 81, 82, 83, 84, 85, 86, 87, 88, 89, 90, 91, 92, 93, 94, 95, 96, 97, 98, 99, 100, 101, 102, 103, 104, 105, 106, 107, 108, 109, 110, 111, 112, 113, 114, 115, 116, 117, 118, 119, 120, 121, 122, 123, 163, 164, 165, 166, 167, 168, 169, 170, 171, 172, 173, 174, 175, 176, 177, 178, 179, 180, 181, 182, 183, 184] (by decide +kernel) (by decide +kernel)
set_option maxRecDepth 20000 in
theorem gX5_missesAhead_X5_bestLetter : GoodIn wsX5_missesAhead (wsV RX5 203 RX5 yX5_bestLetter wsX5_bestLetter) := goodIn_app (goodIn_of _ (by decide +kernel)) ggX5_missesAhead_X5_bestLetter
set_option maxRecDepth 20000 in
theorem ggX5_missesAhead_X5_play : GoodIn wsX5_missesAhead wsX5_play := goodIn_r _ [127, 33, 43, 44, 45, 46, 47, 48, 49, 38, 31, 39, 40, 41, 42, 50, 51, 52, 6, 53, 24, 54, 55, 56, 57, 20, 58, 59, 60, 61, 13, 62, 63, 64, 65, 66, 67, 68, 69, 70, 71, 72, 73, 74, 75, 76, 77, 78, 79, 80, 81, 82, 83, 84, 85, 86, 87, 88, 89, 90, 91, 92, 93, 94, 95, 96, 97, 98, 99, 100, 101, 102, 103, 104, 105, 106, 107, 108, 109, 110, 111, 112, 113, 114, 115, 116, 117, 118, 119, 120, 122, 128, 129, 130, 131, 132, 22, 27, 133, 134, 135, 136, 26, 18, 25, 137, 138, 139, 140, 19, 141, 142, 143, 144, 23, 145, 146, 147, 148, 8, 149, 150, 151, 152, 153, 154, 155, 156, 157, 158, 123, 163, 164, 165, 166, 167, 180, 181, 182, 183, 184, 168, 169, 170, 171, 172, 173, 174, 175, 176, 177, 178, 179] (by decide +kernel) (by decide +kernel)
set_option maxRecDepth 20000 in
theorem gX5_missesAhead_X5_play : GoodIn wsX5_missesAhead (wsV RX5 116 RX5 yX5_play wsX5_play) := goodIn_app (goodIn_of _ (by decide +kernel)) ggX5_missesAhead_X5_play
set_option maxRecDepth 20000 in
theorem ggX5_missesAhead_X2_totalOf : GoodIn wsX5_missesAhead wsX2_totalOf := goodIn_r _ [162, 19, 168, 169, 170, 171, 172, 173, 174, 175, 176, 177, 178, 179] (by decide +kernel) (by decide +kernel)
set_option maxRecDepth 20000 in
theorem gX5_missesAhead_X2_totalOf : GoodIn wsX5_missesAhead (wsV RX5 207 RX2 yX2_totalOf wsX2_totalOf) := goodIn_app (goodIn_of _ (by decide +kernel)) ggX5_missesAhead_X2_totalOf
theorem dX5_missesAhead_0 : decode cX5_missesAhead 0 = .ok (.aload_n 0, 1) := by decide +kernel
theorem dX5_missesAhead_1 : decode cX5_missesAhead 1 = .ok (.getfield 19, 3) := by decide +kernel
theorem dX5_missesAhead_4 : decode cX5_missesAhead 4 = .ok (.invokevirtual 55, 3) := by decide +kernel
theorem dX5_missesAhead_7 : decode cX5_missesAhead 7 = .ok (.ifCond .ne 6, 3) := by decide +kernel
theorem dX5_missesAhead_10 : decode cX5_missesAhead 10 = .ok (.bipush (-3), 2) := by decide +kernel
theorem dX5_missesAhead_12 : decode cX5_missesAhead 12 = .ok (.ireturn, 1) := by decide +kernel
theorem dX5_missesAhead_13 : decode cX5_missesAhead 13 = .ok (.aload_n 0, 1) := by decide +kernel
theorem dX5_missesAhead_14 : decode cX5_missesAhead 14 = .ok (.getfield 30, 3) := by decide +kernel
theorem dX5_missesAhead_17 : decode cX5_missesAhead 17 = .ok (.aload_n 0, 1) := by decide +kernel
theorem dX5_missesAhead_18 : decode cX5_missesAhead 18 = .ok (.getfield 19, 3) := by decide +kernel
theorem dX5_missesAhead_21 : decode cX5_missesAhead 21 = .ok (.invokevirtual 59, 3) := by decide +kernel
theorem dX5_missesAhead_24 : decode cX5_missesAhead 24 = .ok (.iconst 0, 1) := by decide +kernel
theorem dX5_missesAhead_25 : decode cX5_missesAhead 25 = .ok (.istore_n 1, 1) := by decide +kernel
theorem dX5_missesAhead_26 : decode cX5_missesAhead 26 = .ok (.iload_n 1, 1) := by decide +kernel
theorem dX5_missesAhead_27 : decode cX5_missesAhead 27 = .ok (.bipush 26, 2) := by decide +kernel
theorem dX5_missesAhead_29 : decode cX5_missesAhead 29 = .ok (.if_icmp .ge 44, 3) := by decide +kernel
theorem dX5_missesAhead_32 : decode cX5_missesAhead 32 = .ok (.aload_n 0, 1) := by decide +kernel
theorem dX5_missesAhead_33 : decode cX5_missesAhead 33 = .ok (.getfield 30, 3) := by decide +kernel
theorem dX5_missesAhead_36 : decode cX5_missesAhead 36 = .ok (.invokevirtual 55, 3) := by decide +kernel
theorem dX5_missesAhead_39 : decode cX5_missesAhead 39 = .ok (.ifCond .eq 34, 3) := by decide +kernel
theorem dX5_missesAhead_42 : decode cX5_missesAhead 42 = .ok (.aload_n 0, 1) := by decide +kernel
theorem dX5_missesAhead_43 : decode cX5_missesAhead 43 = .ok (.aload_n 0, 1) := by decide +kernel
theorem dX5_missesAhead_44 : decode cX5_missesAhead 44 = .ok (.getfield 30, 3) := by decide +kernel
theorem dX5_missesAhead_47 : decode cX5_missesAhead 47 = .ok (.invokevirtual 203, 3) := by decide +kernel
theorem dX5_missesAhead_50 : decode cX5_missesAhead 50 = .ok (.istore_n 2, 1) := by decide +kernel
theorem dX5_missesAhead_51 : decode cX5_missesAhead 51 = .ok (.iload_n 2, 1) := by decide +kernel
theorem dX5_missesAhead_52 : decode cX5_missesAhead 52 = .ok (.bipush (-6), 2) := by decide +kernel
theorem dX5_missesAhead_54 : decode cX5_missesAhead 54 = .ok (.if_icmp .eq 13, 3) := by decide +kernel
theorem dX5_missesAhead_57 : decode cX5_missesAhead 57 = .ok (.aload_n 0, 1) := by decide +kernel
theorem dX5_missesAhead_58 : decode cX5_missesAhead 58 = .ok (.aload_n 0, 1) := by decide +kernel
theorem dX5_missesAhead_59 : decode cX5_missesAhead 59 = .ok (.getfield 30, 3) := by decide +kernel
theorem dX5_missesAhead_62 : decode cX5_missesAhead 62 = .ok (.iload_n 2, 1) := by decide +kernel
theorem dX5_missesAhead_63 : decode cX5_missesAhead 63 = .ok (.invokevirtual 116, 3) := by decide +kernel
theorem dX5_missesAhead_66 : decode cX5_missesAhead 66 = .ok (.pop, 1) := by decide +kernel
theorem dX5_missesAhead_67 : decode cX5_missesAhead 67 = .ok (.iinc 1 1, 3) := by decide +kernel
theorem dX5_missesAhead_70 : decode cX5_missesAhead 70 = .ok (.goto (-44), 3) := by decide +kernel
theorem dX5_missesAhead_73 : decode cX5_missesAhead 73 = .ok (.aload_n 0, 1) := by decide +kernel
theorem dX5_missesAhead_74 : decode cX5_missesAhead 74 = .ok (.getfield 30, 3) := by decide +kernel
theorem dX5_missesAhead_77 : decode cX5_missesAhead 77 = .ok (.iconst 5, 1) := by decide +kernel
theorem dX5_missesAhead_78 : decode cX5_missesAhead 78 = .ok (.invokevirtual 207, 3) := by decide +kernel
theorem dX5_missesAhead_81 : decode cX5_missesAhead 81 = .ok (.aload_n 0, 1) := by decide +kernel
theorem dX5_missesAhead_82 : decode cX5_missesAhead 82 = .ok (.getfield 19, 3) := by decide +kernel
theorem dX5_missesAhead_85 : decode cX5_missesAhead 85 = .ok (.iconst 5, 1) := by decide +kernel
theorem dX5_missesAhead_86 : decode cX5_missesAhead 86 = .ok (.invokevirtual 207, 3) := by decide +kernel
theorem dX5_missesAhead_89 : decode cX5_missesAhead 89 = .ok (.isub, 1) := by decide +kernel
theorem dX5_missesAhead_90 : decode cX5_missesAhead 90 = .ok (.ireturn, 1) := by decide +kernel
set_option maxRecDepth 20000 in
theorem ggX5_total_X2_totalOf : GoodIn wsX5_total wsX2_totalOf := goodIn_r _ [6, 7, 13, 14, 15, 16, 17, 18, 19, 20, 21, 22, 23, 24] (by decide +kernel) (by decide +kernel)
set_option maxRecDepth 20000 in
theorem gX5_total_X2_totalOf : GoodIn wsX5_total (wsV RX5 207 RX2 yX2_totalOf wsX2_totalOf) := goodIn_app (goodIn_of _ (by decide +kernel)) ggX5_total_X2_totalOf
theorem dX5_total_0 : decode cX5_total 0 = .ok (.iload_n 1, 1) := by decide +kernel
theorem dX5_total_1 : decode cX5_total 1 = .ok (.ifCond .lt 9, 3) := by decide +kernel
theorem dX5_total_4 : decode cX5_total 4 = .ok (.iload_n 1, 1) := by decide +kernel
theorem dX5_total_5 : decode cX5_total 5 = .ok (.bipush 7, 2) := by decide +kernel
theorem dX5_total_7 : decode cX5_total 7 = .ok (.if_icmp .lt 8, 3) := by decide +kernel
theorem dX5_total_10 : decode cX5_total 10 = .ok (.bipush (-2), 2) := by decide +kernel
theorem dX5_total_12 : decode cX5_total 12 = .ok (.goto 11, 3) := by decide +kernel
theorem dX5_total_15 : decode cX5_total 15 = .ok (.aload_n 0, 1) := by decide +kernel
theorem dX5_total_16 : decode cX5_total 16 = .ok (.getfield 19, 3) := by decide +kernel
theorem dX5_total_19 : decode cX5_total 19 = .ok (.iload_n 1, 1) := by decide +kernel
theorem dX5_total_20 : decode cX5_total 20 = .ok (.invokevirtual 207, 3) := by decide +kernel
theorem dX5_total_23 : decode cX5_total 23 = .ok (.ireturn, 1) := by decide +kernel
set_option maxRecDepth 20000 in
theorem ggX5_undo_X1_popInto : GoodIn wsX5_undo wsX1_popInto := goodIn_r _ [7, 8, 9, 10, 11, 12, 13, 14, 15, 16, 17, 18, 19, 20, 21, 22, 23, 24, 25, 26, 27, 28, 29, 30, 31, 37, 38, 39, 40, 41, 42, 43, 44, 45, 46, 47, 48, 49, 50, 51] (by decide +kernel) (by decide +kernel)
set_option maxRecDepth 20000 in
theorem gX5_undo_X1_popInto : GoodIn wsX5_undo (wsV RX5 210 RX1 yX1_popInto wsX1_popInto) := goodIn_app (goodIn_of _ (by decide +kernel)) ggX5_undo_X1_popInto
theorem dX5_undo_0 : decode cX5_undo 0 = .ok (.aload_n 0, 1) := by decide +kernel
theorem dX5_undo_1 : decode cX5_undo 1 = .ok (.getfield 26, 3) := by decide +kernel
theorem dX5_undo_4 : decode cX5_undo 4 = .ok (.aload_n 0, 1) := by decide +kernel
theorem dX5_undo_5 : decode cX5_undo 5 = .ok (.getfield 19, 3) := by decide +kernel
theorem dX5_undo_8 : decode cX5_undo 8 = .ok (.invokevirtual 210, 3) := by decide +kernel
theorem dX5_undo_11 : decode cX5_undo 11 = .ok (.ifCond .eq 13, 3) := by decide +kernel
theorem dX5_undo_14 : decode cX5_undo 14 = .ok (.aload_n 0, 1) := by decide +kernel
theorem dX5_undo_15 : decode cX5_undo 15 = .ok (.getfield 26, 3) := by decide +kernel
theorem dX5_undo_18 : decode cX5_undo 18 = .ok (.getfield 213, 3) := by decide +kernel
theorem dX5_undo_21 : decode cX5_undo 21 = .ok (.goto 5, 3) := by decide +kernel
theorem dX5_undo_24 : decode cX5_undo 24 = .ok (.bipush (-3), 2) := by decide +kernel
theorem dX5_undo_26 : decode cX5_undo 26 = .ok (.ireturn, 1) := by decide +kernel
set_option maxRecDepth 20000 in
theorem ggX5_digest_X5_hashOfList : GoodIn wsX5_digest wsX5_hashOfList := goodIn_r _ [6, 7, 8, 9, 10, 5, 11, 12, 13, 14, 15, 16, 17, 18, 19, 20, 21, 22, 23, 24, 25, 26, 27, 28, 29, 30, 31, 32, 33, 34, 35, 36, 37, 38, 39, 40, 41, 196, 197, 198, 199, 200, 201, 202, 203, 204, 205, 206, 207, 208, 209, 210, 211, 212] (by decide +kernel) (by decide +kernel)
set_option maxRecDepth 20000 in
theorem gX5_digest_X5_hashOfList : GoodIn wsX5_digest (wsV RX5 216 RX5 yX5_hashOfList wsX5_hashOfList) := goodIn_app (goodIn_of _ (by decide +kernel)) ggX5_digest_X5_hashOfList
set_option maxRecDepth 20000 in
theorem ggX5_digest_X5_hashOfGame : GoodIn wsX5_digest wsX5_hashOfGame := goodIn_r _ [45, 7, 46, 47, 48, 5, 49, 12, 13, 14, 15, 50, 51, 52, 53, 54, 55, 56, 57, 41, 32, 29, 33, 34, 35, 36, 58, 59, 60, 61, 62, 63, 64, 65, 66, 67, 68, 69, 70, 71, 72, 73, 74, 75, 76, 77, 78, 79, 80, 81, 82, 83, 84, 85, 86, 19, 87, 88, 89, 90, 91, 92, 93, 94, 95, 96, 97, 98, 99, 100, 101, 102, 103, 26, 104, 105, 106, 107, 108, 22, 23, 24, 25, 109, 17, 18, 20, 21, 110, 111, 112, 31, 113, 114, 115, 116, 117, 118, 119, 120, 121, 122, 123, 124, 125, 126, 127, 128, 129, 130, 131, 132, 133, 134, 135, 136, 137, 138, 139, 140, 141, 142, 143, 144, 145, 146, 147, 148, 149, 150, 151, 152, 153, 154, 155, 156, 157, 158, 159, 160, 161, 162, 163, 164, 165, 166, 167, 168, 169, 170, 171, 172, 173, 174, 175, 176, 177, 178, 179, 180, 181, 182, 183, 184, 185, 186, 196, 197, 198, 199, 200, 201, 202, 203, 204, 205, 206, 207, 208, 209, 210, 211, 212, 213, 214, 215, 216, 217] (by decide +kernel) (by decide +kernel)
set_option maxRecDepth 20000 in
theorem gX5_digest_X5_hashOfGame : GoodIn wsX5_digest (wsV RX5 220 RX5 yX5_hashOfGame wsX5_hashOfGame) := goodIn_app (goodIn_of _ (by decide +kernel)) ggX5_digest_X5_hashOfGame
set_option maxRecDepth 20000 in
theorem ggX5_digest_X5_total : GoodIn wsX5_digest wsX5_total := goodIn_r _ [190, 7, 191, 192, 193, 19, 194, 195, 196, 197, 198, 199, 200, 201, 202, 203, 204, 205, 206, 207, 208, 209, 210, 211, 212] (by decide +kernel) (by decide +kernel)
set_option maxRecDepth 20000 in
theorem gX5_digest_X5_total : GoodIn wsX5_digest (wsV RX5 223 RX5 yX5_total wsX5_total) := goodIn_app (goodIn_of _ (by decide +kernel)) ggX5_digest_X5_total
set_option maxRecDepth 20000 in
theorem ggX5_digest_X5_mixed : GoodIn wsX5_digest wsX5_mixed := goodIn_r _ [14, 15] (by decide +kernel) (by decide +kernel)
set_option maxRecDepth 20000 in
theorem gX5_digest_X5_mixed : GoodIn wsX5_digest (va_wsS RX5 226 yX5_mixed wsX5_mixed) := goodIn_app (goodIn_of _ (by decide +kernel)) ggX5_digest_X5_mixed
theorem dX5_digest_0 : decode cX5_digest 0 = .ok (.aload_n 0, 1) := by decide +kernel
theorem dX5_digest_1 : decode cX5_digest 1 = .ok (.ldc2_w 214, 3) := by decide +kernel
theorem dX5_digest_4 : decode cX5_digest 4 = .ok (.invokevirtual 216, 3) := by decide +kernel
theorem dX5_digest_7 : decode cX5_digest 7 = .ok (.lstore_n 1, 1) := by decide +kernel
theorem dX5_digest_8 : decode cX5_digest 8 = .ok (.aload_n 0, 1) := by decide +kernel
theorem dX5_digest_9 : decode cX5_digest 9 = .ok (.lload_n 1, 1) := by decide +kernel
theorem dX5_digest_10 : decode cX5_digest 10 = .ok (.invokevirtual 220, 3) := by decide +kernel
theorem dX5_digest_13 : decode cX5_digest 13 = .ok (.lstore_n 1, 1) := by decide +kernel
theorem dX5_digest_14 : decode cX5_digest 14 = .ok (.iconst 0, 1) := by decide +kernel
theorem dX5_digest_15 : decode cX5_digest 15 = .ok (.istore_n 3, 1) := by decide +kernel
theorem dX5_digest_16 : decode cX5_digest 16 = .ok (.iload_n 3, 1) := by decide +kernel
theorem dX5_digest_17 : decode cX5_digest 17 = .ok (.bipush 7, 2) := by decide +kernel
theorem dX5_digest_19 : decode cX5_digest 19 = .ok (.if_icmp .ge 20, 3) := by decide +kernel
theorem dX5_digest_22 : decode cX5_digest 22 = .ok (.lload_n 1, 1) := by decide +kernel
theorem dX5_digest_23 : decode cX5_digest 23 = .ok (.aload_n 0, 1) := by decide +kernel
theorem dX5_digest_24 : decode cX5_digest 24 = .ok (.iload_n 3, 1) := by decide +kernel
theorem dX5_digest_25 : decode cX5_digest 25 = .ok (.invokevirtual 223, 3) := by decide +kernel
theorem dX5_digest_28 : decode cX5_digest 28 = .ok (.i2l, 1) := by decide +kernel
theorem dX5_digest_29 : decode cX5_digest 29 = .ok (.invokestatic 226, 3) := by decide +kernel
theorem dX5_digest_32 : decode cX5_digest 32 = .ok (.lstore_n 1, 1) := by decide +kernel
theorem dX5_digest_33 : decode cX5_digest 33 = .ok (.iinc 3 1, 3) := by decide +kernel
theorem dX5_digest_36 : decode cX5_digest 36 = .ok (.goto (-20), 3) := by decide +kernel
theorem dX5_digest_39 : decode cX5_digest 39 = .ok (.lload_n 1, 1) := by decide +kernel
theorem dX5_digest_40 : decode cX5_digest 40 = .ok (.lreturn, 1) := by decide +kernel
set_option maxRecDepth 20000 in
theorem ggX5_hashOfList_X5_words : GoodIn wsX5_hashOfList wsX5_words := goodIn_r _ [6, 1, 37, 38, 39, 40, 41, 42, 43, 44, 45, 46, 47, 48, 49, 50, 51, 52, 53] (by decide +kernel) (by decide +kernel)
set_option maxRecDepth 20000 in
theorem gX5_hashOfList_X5_words : GoodIn wsX5_hashOfList (wsV RX5 230 RX5 yX5_words wsX5_words) := goodIn_app (goodIn_of _ (by decide +kernel)) ggX5_hashOfList_X5_words
set_option maxRecDepth 20000 in
theorem ggX5_hashOfList_X5_mixed : GoodIn wsX5_hashOfList wsX5_mixed := goodIn_r _ [9, 10] (by decide +kernel) (by decide +kernel)
set_option maxRecDepth 20000 in
theorem gX5_hashOfList_X5_mixed : GoodIn wsX5_hashOfList (va_wsS RX5 226 yX5_mixed wsX5_mixed) := goodIn_app (goodIn_of _ (by decide +kernel)) ggX5_hashOfList_X5_mixed
set_option maxRecDepth 20000 in
theorem ggX5_hashOfList_X2_wordAt : GoodIn wsX5_hashOfList wsX2_wordAt := goodIn_r _ [15, 16, 17, 18, 19, 14, 20, 21, 42, 43, 44, 45, 46, 47, 48, 49, 50, 51, 52, 53] (by decide +kernel) (by decide +kernel)
set_option maxRecDepth 20000 in
theorem gX5_hashOfList_X2_wordAt : GoodIn wsX5_hashOfList (wsV RX5 84 RX2 yX2_wordAt wsX2_wordAt) := goodIn_app (goodIn_of _ (by decide +kernel)) ggX5_hashOfList_X2_wordAt
set_option maxRecDepth 20000 in
theorem ggX5_hashOfList_X4_lengthOf : GoodIn wsX5_hashOfList wsX4_lengthOf := goodIn_r _ [25, 26, 27, 24, 28, 29, 30, 31] (by decide +kernel) (by decide +kernel)
set_option maxRecDepth 20000 in
theorem gX5_hashOfList_X4_lengthOf : GoodIn wsX5_hashOfList (va_wsS RX5 126 yX4_lengthOf wsX4_lengthOf) := goodIn_app (goodIn_of _ (by decide +kernel)) ggX5_hashOfList_X4_lengthOf
set_option maxRecDepth 20000 in
theorem ggX5_hashOfList_X5_letterOf : GoodIn wsX5_hashOfList wsX5_letterOf := goodIn_r _ [35, 1, 11, 12, 13, 14, 15, 16, 17, 18, 19, 20, 21, 36, 27, 24, 28, 29, 30, 31, 37, 38, 39, 40, 41, 42, 43, 44, 45, 46, 47, 48, 49, 50, 51, 52, 53] (by decide +kernel) (by decide +kernel)
set_option maxRecDepth 20000 in
theorem gX5_hashOfList_X5_letterOf : GoodIn wsX5_hashOfList (wsV RX5 233 RX5 yX5_letterOf wsX5_letterOf) := goodIn_app (goodIn_of _ (by decide +kernel)) ggX5_hashOfList_X5_letterOf
theorem dX5_hashOfList_0 : decode cX5_hashOfList 0 = .ok (.lload_n 1, 1) := by decide +kernel
theorem dX5_hashOfList_1 : decode cX5_hashOfList 1 = .ok (.aload_n 0, 1) := by decide +kernel
theorem dX5_hashOfList_2 : decode cX5_hashOfList 2 = .ok (.invokevirtual 230, 3) := by decide +kernel
theorem dX5_hashOfList_5 : decode cX5_hashOfList 5 = .ok (.i2l, 1) := by decide +kernel
theorem dX5_hashOfList_6 : decode cX5_hashOfList 6 = .ok (.invokestatic 226, 3) := by decide +kernel
theorem dX5_hashOfList_9 : decode cX5_hashOfList 9 = .ok (.lstore_n 3, 1) := by decide +kernel
theorem dX5_hashOfList_10 : decode cX5_hashOfList 10 = .ok (.iconst 0, 1) := by decide +kernel
theorem dX5_hashOfList_11 : decode cX5_hashOfList 11 = .ok (.istore 5, 2) := by decide +kernel
theorem dX5_hashOfList_13 : decode cX5_hashOfList 13 = .ok (.iload 5, 2) := by decide +kernel
theorem dX5_hashOfList_15 : decode cX5_hashOfList 15 = .ok (.aload_n 0, 1) := by decide +kernel
theorem dX5_hashOfList_16 : decode cX5_hashOfList 16 = .ok (.getfield 19, 3) := by decide +kernel
theorem dX5_hashOfList_19 : decode cX5_hashOfList 19 = .ok (.getfield 67, 3) := by decide +kernel
theorem dX5_hashOfList_22 : decode cX5_hashOfList 22 = .ok (.if_icmp .ge 61, 3) := by decide +kernel
theorem dX5_hashOfList_25 : decode cX5_hashOfList 25 = .ok (.aload_n 0, 1) := by decide +kernel
theorem dX5_hashOfList_26 : decode cX5_hashOfList 26 = .ok (.getfield 19, 3) := by decide +kernel
theorem dX5_hashOfList_29 : decode cX5_hashOfList 29 = .ok (.iload 5, 2) := by decide +kernel
theorem dX5_hashOfList_31 : decode cX5_hashOfList 31 = .ok (.invokevirtual 84, 3) := by decide +kernel
theorem dX5_hashOfList_34 : decode cX5_hashOfList 34 = .ok (.invokestatic 126, 3) := by decide +kernel
theorem dX5_hashOfList_37 : decode cX5_hashOfList 37 = .ok (.istore 6, 2) := by decide +kernel
theorem dX5_hashOfList_39 : decode cX5_hashOfList 39 = .ok (.lload_n 3, 1) := by decide +kernel
theorem dX5_hashOfList_40 : decode cX5_hashOfList 40 = .ok (.iload 6, 2) := by decide +kernel
theorem dX5_hashOfList_42 : decode cX5_hashOfList 42 = .ok (.i2l, 1) := by decide +kernel
theorem dX5_hashOfList_43 : decode cX5_hashOfList 43 = .ok (.invokestatic 226, 3) := by decide +kernel
theorem dX5_hashOfList_46 : decode cX5_hashOfList 46 = .ok (.lstore_n 3, 1) := by decide +kernel
theorem dX5_hashOfList_47 : decode cX5_hashOfList 47 = .ok (.iconst 0, 1) := by decide +kernel
theorem dX5_hashOfList_48 : decode cX5_hashOfList 48 = .ok (.istore 7, 2) := by decide +kernel
theorem dX5_hashOfList_50 : decode cX5_hashOfList 50 = .ok (.iload 7, 2) := by decide +kernel
theorem dX5_hashOfList_52 : decode cX5_hashOfList 52 = .ok (.iload 6, 2) := by decide +kernel
theorem dX5_hashOfList_54 : decode cX5_hashOfList 54 = .ok (.if_icmp .ge 23, 3) := by decide +kernel
theorem dX5_hashOfList_57 : decode cX5_hashOfList 57 = .ok (.lload_n 3, 1) := by decide +kernel
theorem dX5_hashOfList_58 : decode cX5_hashOfList 58 = .ok (.aload_n 0, 1) := by decide +kernel
theorem dX5_hashOfList_59 : decode cX5_hashOfList 59 = .ok (.iload 5, 2) := by decide +kernel
theorem dX5_hashOfList_61 : decode cX5_hashOfList 61 = .ok (.iload 7, 2) := by decide +kernel
theorem dX5_hashOfList_63 : decode cX5_hashOfList 63 = .ok (.invokevirtual 233, 3) := by decide +kernel
theorem dX5_hashOfList_66 : decode cX5_hashOfList 66 = .ok (.i2l, 1) := by decide +kernel
theorem dX5_hashOfList_67 : decode cX5_hashOfList 67 = .ok (.invokestatic 226, 3) := by decide +kernel
theorem dX5_hashOfList_70 : decode cX5_hashOfList 70 = .ok (.lstore_n 3, 1) := by decide +kernel
theorem dX5_hashOfList_71 : decode cX5_hashOfList 71 = .ok (.iinc 7 1, 3) := by decide +kernel
theorem dX5_hashOfList_74 : decode cX5_hashOfList 74 = .ok (.goto (-24), 3) := by decide +kernel
theorem dX5_hashOfList_77 : decode cX5_hashOfList 77 = .ok (.iinc 5 1, 3) := by decide +kernel
theorem dX5_hashOfList_80 : decode cX5_hashOfList 80 = .ok (.goto (-67), 3) := by decide +kernel
theorem dX5_hashOfList_83 : decode cX5_hashOfList 83 = .ok (.lload_n 3, 1) := by decide +kernel
theorem dX5_hashOfList_84 : decode cX5_hashOfList 84 = .ok (.lreturn, 1) := by decide +kernel
set_option maxRecDepth 20000 in
theorem ggX5_hashOfGame_X5_status : GoodIn wsX5_hashOfGame wsX5_status := goodIn_r _ [6, 1, 166, 167, 168, 169, 170, 171, 172, 173, 174, 175, 176, 177, 178, 179, 180, 181, 182] (by decide +kernel) (by decide +kernel)
set_option maxRecDepth 20000 in
theorem gX5_hashOfGame_X5_status : GoodIn wsX5_hashOfGame (wsV RX5 236 RX5 yX5_status wsX5_status) := goodIn_app (goodIn_of _ (by decide +kernel)) ggX5_hashOfGame_X5_status
set_option maxRecDepth 20000 in
theorem ggX5_hashOfGame_X5_mixed : GoodIn wsX5_hashOfGame wsX5_mixed := goodIn_r _ [9, 10] (by decide +kernel) (by decide +kernel)
set_option maxRecDepth 20000 in
theorem gX5_hashOfGame_X5_mixed : GoodIn wsX5_hashOfGame (va_wsS RX5 226 yX5_mixed wsX5_mixed) := goodIn_app (goodIn_of _ (by decide +kernel)) ggX5_hashOfGame_X5_mixed
set_option maxRecDepth 20000 in
theorem ggX5_hashOfGame_X5_lives : GoodIn wsX5_hashOfGame wsX5_lives := goodIn_r _ [14, 1, 166, 167, 168, 169, 170, 171, 172, 173, 174, 175, 176, 177, 178, 179, 180, 181, 182] (by decide +kernel) (by decide +kernel)
set_option maxRecDepth 20000 in
theorem gX5_hashOfGame_X5_lives : GoodIn wsX5_hashOfGame (wsV RX5 238 RX5 yX5_lives wsX5_lives) := goodIn_app (goodIn_of _ (by decide +kernel)) ggX5_hashOfGame_X5_lives
set_option maxRecDepth 20000 in
theorem ggX5_hashOfGame_X5_shown : GoodIn wsX5_hashOfGame wsX5_shown := goodIn_r _ [18, 1, 19, 20, 21, 22, 23, 24, 25, 166, 167, 168, 169, 170, 171, 172, 173, 174, 175, 176, 177, 178, 179, 180, 181, 182] (by decide +kernel) (by decide +kernel)
set_option maxRecDepth 20000 in
theorem gX5_hashOfGame_X5_shown : GoodIn wsX5_hashOfGame (wsV RX5 240 RX5 yX5_shown wsX5_shown) := goodIn_app (goodIn_of _ (by decide +kernel)) ggX5_hashOfGame_X5_shown
set_option maxRecDepth 20000 in
theorem ggX5_hashOfGame_X5_candidates : GoodIn wsX5_hashOfGame wsX5_candidates := goodIn_r _ [29, 1, 30, 31, 32, 33, 34, 35, 36, 166, 167, 168, 169, 170, 171, 172, 173, 174, 175, 176, 177, 178, 179, 180, 181, 182] (by decide +kernel) (by decide +kernel)
set_option maxRecDepth 20000 in
theorem gX5_hashOfGame_X5_candidates : GoodIn wsX5_hashOfGame (wsV RX5 189 RX5 yX5_candidates wsX5_candidates) := goodIn_app (goodIn_of _ (by decide +kernel)) ggX5_hashOfGame_X5_candidates
set_option maxRecDepth 20000 in
theorem ggX5_hashOfGame_X5_candidate : GoodIn wsX5_hashOfGame wsX5_candidate := goodIn_r _ [40, 1, 41, 42, 5, 43, 166, 167, 168, 169, 170, 171, 172, 173, 174, 175, 176, 177, 178, 179, 180, 181, 182] (by decide +kernel) (by decide +kernel)
set_option maxRecDepth 20000 in
theorem gX5_hashOfGame_X5_candidate : GoodIn wsX5_hashOfGame (wsV RX5 243 RX5 yX5_candidate wsX5_candidate) := goodIn_app (goodIn_of _ (by decide +kernel)) ggX5_hashOfGame_X5_candidate
set_option maxRecDepth 20000 in
theorem ggX5_hashOfGame_X5_guesses : GoodIn wsX5_hashOfGame wsX5_guesses := goodIn_r _ [47, 1, 166, 167, 168, 169, 170, 171, 172, 173, 174, 175, 176, 177, 178, 179, 180, 181, 182] (by decide +kernel) (by decide +kernel)
set_option maxRecDepth 20000 in
theorem gX5_hashOfGame_X5_guesses : GoodIn wsX5_hashOfGame (wsV RX5 246 RX5 yX5_guesses wsX5_guesses) := goodIn_app (goodIn_of _ (by decide +kernel)) ggX5_hashOfGame_X5_guesses
set_option maxRecDepth 20000 in
theorem ggX5_hashOfGame_X5_guessAt : GoodIn wsX5_hashOfGame wsX5_guessAt := goodIn_r _ [51, 1, 52, 53, 54, 55, 56, 57, 58, 166, 167, 168, 169, 170, 171, 172, 173, 174, 175, 176, 177, 178, 179, 180, 181, 182] (by decide +kernel) (by decide +kernel)
set_option maxRecDepth 20000 in
theorem gX5_hashOfGame_X5_guessAt : GoodIn wsX5_hashOfGame (wsV RX5 249 RX5 yX5_guessAt wsX5_guessAt) := goodIn_app (goodIn_of _ (by decide +kernel)) ggX5_hashOfGame_X5_guessAt
set_option maxRecDepth 20000 in
theorem ggX5_hashOfGame_X2_isRunning : GoodIn wsX5_hashOfGame wsX2_isRunning := goodIn_r _ [62, 63, 171, 172, 173, 174, 175, 176, 177, 178, 179, 180, 181, 182] (by decide +kernel) (by decide +kernel)
set_option maxRecDepth 20000 in
theorem gX5_hashOfGame_X2_isRunning : GoodIn wsX5_hashOfGame (wsV RX5 55 RX2 yX2_isRunning wsX2_isRunning) := goodIn_app (goodIn_of _ (by decide +kernel)) ggX5_hashOfGame_X2_isRunning
set_option maxRecDepth 20000 in
theorem ggX5_hashOfGame_X5_sureLetters : GoodIn wsX5_hashOfGame wsX5_sureLetters := goodIn_r _ [67, 1, 59, 60, 61, 55, 62, 63, 68, 69, 70, 71, 72, 73, 74, 75, 76, 77, 78, 79, 80, 81, 82, 83, 84, 85, 86, 87, 88, 89, 21, 90, 91, 20, 22, 23, 24, 25, 92, 5, 93, 94, 95, 96, 166, 167, 168, 169, 170, 171, 172, 173, 174, 175, 176, 177, 178, 179, 180, 181, 182] (by decide +kernel) (by decide +kernel)
set_option maxRecDepth 20000 in
theorem gX5_hashOfGame_X5_sureLetters : GoodIn wsX5_hashOfGame (wsV RX5 252 RX5 yX5_sureLetters wsX5_sureLetters) := goodIn_app (goodIn_of _ (by decide +kernel)) ggX5_hashOfGame_X5_sureLetters
set_option maxRecDepth 20000 in
theorem ggX5_hashOfGame_X5_bestGuess : GoodIn wsX5_hashOfGame wsX5_bestGuess := goodIn_r _ [100, 1, 59, 60, 61, 55, 62, 63, 101, 102, 103, 5, 104, 105, 106, 107, 108, 109, 110, 92, 93, 94, 95, 96, 111, 112, 113, 114, 115, 116, 117, 118, 75, 76, 77, 78, 79, 80, 81, 82, 73, 119, 84, 85, 86, 87, 120, 121, 21, 122, 91, 20, 22, 23, 24, 25, 123, 89, 90, 124, 125, 126, 127, 128, 129, 130, 131, 132, 133, 134, 135, 136, 137, 138, 139, 140, 141, 142, 143, 144, 145, 146, 147, 148, 149, 150, 151, 152, 153, 154, 155, 31, 32, 33, 34, 35, 36, 156, 157, 158, 159, 160, 161, 162, 163, 164, 165, 30, 166, 167, 168, 169, 170, 171, 172, 173, 174, 175, 176, 177, 178, 179, 180, 181, 182, 183, 184, 185, 186, 187] (by decide +kernel) (by decide +kernel)
set_option maxRecDepth 20000 in
theorem gX5_hashOfGame_X5_bestGuess : GoodIn wsX5_hashOfGame (wsV RX5 255 RX5 yX5_bestGuess wsX5_bestGuess) := goodIn_app (goodIn_of _ (by decide +kernel)) ggX5_hashOfGame_X5_bestGuess
theorem dX5_hashOfGame_0 : decode cX5_hashOfGame 0 = .ok (.lload_n 1, 1) := by decide +kernel
theorem dX5_hashOfGame_1 : decode cX5_hashOfGame 1 = .ok (.aload_n 0, 1) := by decide +kernel
theorem dX5_hashOfGame_2 : decode cX5_hashOfGame 2 = .ok (.invokevirtual 236, 3) := by decide +kernel
theorem dX5_hashOfGame_5 : decode cX5_hashOfGame 5 = .ok (.i2l, 1) := by decide +kernel
theorem dX5_hashOfGame_6 : decode cX5_hashOfGame 6 = .ok (.invokestatic 226, 3) := by decide +kernel
theorem dX5_hashOfGame_9 : decode cX5_hashOfGame 9 = .ok (.aload_n 0, 1) := by decide +kernel
theorem dX5_hashOfGame_10 : decode cX5_hashOfGame 10 = .ok (.invokevirtual 238, 3) := by decide +kernel
theorem dX5_hashOfGame_13 : decode cX5_hashOfGame 13 = .ok (.i2l, 1) := by decide +kernel
theorem dX5_hashOfGame_14 : decode cX5_hashOfGame 14 = .ok (.invokestatic 226, 3) := by decide +kernel
theorem dX5_hashOfGame_17 : decode cX5_hashOfGame 17 = .ok (.lstore_n 3, 1) := by decide +kernel
theorem dX5_hashOfGame_18 : decode cX5_hashOfGame 18 = .ok (.iconst 0, 1) := by decide +kernel
theorem dX5_hashOfGame_19 : decode cX5_hashOfGame 19 = .ok (.istore 5, 2) := by decide +kernel
theorem dX5_hashOfGame_21 : decode cX5_hashOfGame 21 = .ok (.iload 5, 2) := by decide +kernel
theorem dX5_hashOfGame_23 : decode cX5_hashOfGame 23 = .ok (.aload_n 0, 1) := by decide +kernel
theorem dX5_hashOfGame_24 : decode cX5_hashOfGame 24 = .ok (.getfield 19, 3) := by decide +kernel
theorem dX5_hashOfGame_27 : decode cX5_hashOfGame 27 = .ok (.getfield 130, 3) := by decide +kernel
theorem dX5_hashOfGame_30 : decode cX5_hashOfGame 30 = .ok (.if_icmp .ge 21, 3) := by decide +kernel
theorem dX5_hashOfGame_33 : decode cX5_hashOfGame 33 = .ok (.lload_n 3, 1) := by decide +kernel
theorem dX5_hashOfGame_34 : decode cX5_hashOfGame 34 = .ok (.aload_n 0, 1) := by decide +kernel
theorem dX5_hashOfGame_35 : decode cX5_hashOfGame 35 = .ok (.iload 5, 2) := by decide +kernel
theorem dX5_hashOfGame_37 : decode cX5_hashOfGame 37 = .ok (.invokevirtual 240, 3) := by decide +kernel
theorem dX5_hashOfGame_40 : decode cX5_hashOfGame 40 = .ok (.i2l, 1) := by decide +kernel
theorem dX5_hashOfGame_41 : decode cX5_hashOfGame 41 = .ok (.invokestatic 226, 3) := by decide +kernel
theorem dX5_hashOfGame_44 : decode cX5_hashOfGame 44 = .ok (.lstore_n 3, 1) := by decide +kernel
theorem dX5_hashOfGame_45 : decode cX5_hashOfGame 45 = .ok (.iinc 5 1, 3) := by decide +kernel
theorem dX5_hashOfGame_48 : decode cX5_hashOfGame 48 = .ok (.goto (-27), 3) := by decide +kernel
theorem dX5_hashOfGame_51 : decode cX5_hashOfGame 51 = .ok (.aload_n 0, 1) := by decide +kernel
theorem dX5_hashOfGame_52 : decode cX5_hashOfGame 52 = .ok (.invokevirtual 189, 3) := by decide +kernel
theorem dX5_hashOfGame_55 : decode cX5_hashOfGame 55 = .ok (.istore 5, 2) := by decide +kernel
theorem dX5_hashOfGame_57 : decode cX5_hashOfGame 57 = .ok (.lload_n 3, 1) := by decide +kernel
theorem dX5_hashOfGame_58 : decode cX5_hashOfGame 58 = .ok (.iload 5, 2) := by decide +kernel
theorem dX5_hashOfGame_60 : decode cX5_hashOfGame 60 = .ok (.i2l, 1) := by decide +kernel
theorem dX5_hashOfGame_61 : decode cX5_hashOfGame 61 = .ok (.invokestatic 226, 3) := by decide +kernel
theorem dX5_hashOfGame_64 : decode cX5_hashOfGame 64 = .ok (.lstore_n 3, 1) := by decide +kernel
theorem dX5_hashOfGame_65 : decode cX5_hashOfGame 65 = .ok (.iconst 0, 1) := by decide +kernel
theorem dX5_hashOfGame_66 : decode cX5_hashOfGame 66 = .ok (.istore 6, 2) := by decide +kernel
theorem dX5_hashOfGame_68 : decode cX5_hashOfGame 68 = .ok (.iload 6, 2) := by decide +kernel
theorem dX5_hashOfGame_70 : decode cX5_hashOfGame 70 = .ok (.iload 5, 2) := by decide +kernel
theorem dX5_hashOfGame_72 : decode cX5_hashOfGame 72 = .ok (.if_icmp .ge 21, 3) := by decide +kernel
theorem dX5_hashOfGame_75 : decode cX5_hashOfGame 75 = .ok (.lload_n 3, 1) := by decide +kernel
theorem dX5_hashOfGame_76 : decode cX5_hashOfGame 76 = .ok (.aload_n 0, 1) := by decide +kernel
theorem dX5_hashOfGame_77 : decode cX5_hashOfGame 77 = .ok (.iload 6, 2) := by decide +kernel
theorem dX5_hashOfGame_79 : decode cX5_hashOfGame 79 = .ok (.invokevirtual 243, 3) := by decide +kernel
theorem dX5_hashOfGame_82 : decode cX5_hashOfGame 82 = .ok (.i2l, 1) := by decide +kernel
theorem dX5_hashOfGame_83 : decode cX5_hashOfGame 83 = .ok (.invokestatic 226, 3) := by decide +kernel
theorem dX5_hashOfGame_86 : decode cX5_hashOfGame 86 = .ok (.lstore_n 3, 1) := by decide +kernel
theorem dX5_hashOfGame_87 : decode cX5_hashOfGame 87 = .ok (.iinc 6 1, 3) := by decide +kernel
theorem dX5_hashOfGame_90 : decode cX5_hashOfGame 90 = .ok (.goto (-22), 3) := by decide +kernel
theorem dX5_hashOfGame_93 : decode cX5_hashOfGame 93 = .ok (.lload_n 3, 1) := by decide +kernel
theorem dX5_hashOfGame_94 : decode cX5_hashOfGame 94 = .ok (.aload_n 0, 1) := by decide +kernel
theorem dX5_hashOfGame_95 : decode cX5_hashOfGame 95 = .ok (.invokevirtual 246, 3) := by decide +kernel
theorem dX5_hashOfGame_98 : decode cX5_hashOfGame 98 = .ok (.i2l, 1) := by decide +kernel
theorem dX5_hashOfGame_99 : decode cX5_hashOfGame 99 = .ok (.invokestatic 226, 3) := by decide +kernel
theorem dX5_hashOfGame_102 : decode cX5_hashOfGame 102 = .ok (.lstore_n 3, 1) := by decide +kernel
theorem dX5_hashOfGame_103 : decode cX5_hashOfGame 103 = .ok (.iconst 0, 1) := by decide +kernel
theorem dX5_hashOfGame_104 : decode cX5_hashOfGame 104 = .ok (.istore 6, 2) := by decide +kernel
theorem dX5_hashOfGame_106 : decode cX5_hashOfGame 106 = .ok (.iload 6, 2) := by decide +kernel
theorem dX5_hashOfGame_108 : decode cX5_hashOfGame 108 = .ok (.aload_n 0, 1) := by decide +kernel
theorem dX5_hashOfGame_109 : decode cX5_hashOfGame 109 = .ok (.getfield 19, 3) := by decide +kernel
theorem dX5_hashOfGame_112 : decode cX5_hashOfGame 112 = .ok (.getfield 155, 3) := by decide +kernel
theorem dX5_hashOfGame_115 : decode cX5_hashOfGame 115 = .ok (.if_icmp .ge 21, 3) := by decide +kernel
theorem dX5_hashOfGame_118 : decode cX5_hashOfGame 118 = .ok (.lload_n 3, 1) := by decide +kernel
theorem dX5_hashOfGame_119 : decode cX5_hashOfGame 119 = .ok (.aload_n 0, 1) := by decide +kernel
theorem dX5_hashOfGame_120 : decode cX5_hashOfGame 120 = .ok (.iload 6, 2) := by decide +kernel
theorem dX5_hashOfGame_122 : decode cX5_hashOfGame 122 = .ok (.invokevirtual 249, 3) := by decide +kernel
theorem dX5_hashOfGame_125 : decode cX5_hashOfGame 125 = .ok (.i2l, 1) := by decide +kernel
theorem dX5_hashOfGame_126 : decode cX5_hashOfGame 126 = .ok (.invokestatic 226, 3) := by decide +kernel
theorem dX5_hashOfGame_129 : decode cX5_hashOfGame 129 = .ok (.lstore_n 3, 1) := by decide +kernel
theorem dX5_hashOfGame_130 : decode cX5_hashOfGame 130 = .ok (.iinc 6 1, 3) := by decide +kernel
theorem dX5_hashOfGame_133 : decode cX5_hashOfGame 133 = .ok (.goto (-27), 3) := by decide +kernel
theorem dX5_hashOfGame_136 : decode cX5_hashOfGame 136 = .ok (.aload_n 0, 1) := by decide +kernel
theorem dX5_hashOfGame_137 : decode cX5_hashOfGame 137 = .ok (.getfield 19, 3) := by decide +kernel
theorem dX5_hashOfGame_140 : decode cX5_hashOfGame 140 = .ok (.invokevirtual 55, 3) := by decide +kernel
theorem dX5_hashOfGame_143 : decode cX5_hashOfGame 143 = .ok (.ifCond .eq 23, 3) := by decide +kernel
theorem dX5_hashOfGame_146 : decode cX5_hashOfGame 146 = .ok (.lload_n 3, 1) := by decide +kernel
theorem dX5_hashOfGame_147 : decode cX5_hashOfGame 147 = .ok (.aload_n 0, 1) := by decide +kernel
theorem dX5_hashOfGame_148 : decode cX5_hashOfGame 148 = .ok (.invokevirtual 252, 3) := by decide +kernel
theorem dX5_hashOfGame_151 : decode cX5_hashOfGame 151 = .ok (.i2l, 1) := by decide +kernel
theorem dX5_hashOfGame_152 : decode cX5_hashOfGame 152 = .ok (.invokestatic 226, 3) := by decide +kernel
theorem dX5_hashOfGame_155 : decode cX5_hashOfGame 155 = .ok (.aload_n 0, 1) := by decide +kernel
theorem dX5_hashOfGame_156 : decode cX5_hashOfGame 156 = .ok (.invokevirtual 255, 3) := by decide +kernel
theorem dX5_hashOfGame_159 : decode cX5_hashOfGame 159 = .ok (.i2l, 1) := by decide +kernel
theorem dX5_hashOfGame_160 : decode cX5_hashOfGame 160 = .ok (.invokestatic 226, 3) := by decide +kernel
theorem dX5_hashOfGame_163 : decode cX5_hashOfGame 163 = .ok (.goto 4, 3) := by decide +kernel
theorem dX5_hashOfGame_166 : decode cX5_hashOfGame 166 = .ok (.lload_n 3, 1) := by decide +kernel
theorem dX5_hashOfGame_167 : decode cX5_hashOfGame 167 = .ok (.lreturn, 1) := by decide +kernel
theorem dX5_mixed_0 : decode cX5_mixed 0 = .ok (.ldc2_w 258, 3) := by decide +kernel
theorem dX5_mixed_3 : decode cX5_mixed 3 = .ok (.lload_n 0, 1) := by decide +kernel
theorem dX5_mixed_4 : decode cX5_mixed 4 = .ok (.lmul, 1) := by decide +kernel
theorem dX5_mixed_5 : decode cX5_mixed 5 = .ok (.lload_n 2, 1) := by decide +kernel
theorem dX5_mixed_6 : decode cX5_mixed 6 = .ok (.ladd, 1) := by decide +kernel
theorem dX5_mixed_7 : decode cX5_mixed 7 = .ok (.lreturn, 1) := by decide +kernel
set_option maxRecDepth 20000 in
theorem ggX5_addTextTo_X3_readWords : GoodIn wsX5_addTextTo wsX3_readWords := goodIn_r _ [6, 7, 8, 9, 10, 5, 11, 12, 13, 14, 15, 16, 17, 18, 19, 20, 21, 22, 23, 24, 25, 26, 27, 60, 61, 62] (by decide +kernel) (by decide +kernel)
set_option maxRecDepth 20000 in
theorem gX5_addTextTo_X3_readWords : GoodIn wsX5_addTextTo (wsV RX5 120 RX3 yX3_readWords wsX3_readWords) := goodIn_app (goodIn_of _ (by decide +kernel)) ggX5_addTextTo_X3_readWords
set_option maxRecDepth 20000 in
theorem ggX5_addTextTo_X3_wordRead : GoodIn wsX5_addTextTo wsX3_wordRead := goodIn_r _ [31, 17, 60, 61, 62] (by decide +kernel) (by decide +kernel)
set_option maxRecDepth 20000 in
theorem gX5_addTextTo_X3_wordRead : GoodIn wsX5_addTextTo (wsV RX5 123 RX3 yX3_wordRead wsX3_wordRead) := goodIn_app (goodIn_of _ (by decide +kernel)) ggX5_addTextTo_X3_wordRead
set_option maxRecDepth 20000 in
theorem ggX5_addTextTo_X2_isInList : GoodIn wsX5_addTextTo wsX2_isInList := goodIn_r _ [36, 37, 38, 39, 35, 40, 41, 42, 43, 44, 45, 46, 47, 48, 49, 50, 63, 64, 65, 66, 67, 68, 69, 70, 71, 72, 73, 74] (by decide +kernel) (by decide +kernel)
set_option maxRecDepth 20000 in
theorem gX5_addTextTo_X2_isInList : GoodIn wsX5_addTextTo (wsV RX5 260 RX2 yX2_isInList wsX2_isInList) := goodIn_app (goodIn_of _ (by decide +kernel)) ggX5_addTextTo_X2_isInList
set_option maxRecDepth 20000 in
theorem ggX5_addTextTo_X2_insert : GoodIn wsX5_addTextTo wsX2_insert := goodIn_r _ [54, 41, 46, 63, 64, 65, 66, 67, 68, 69, 70, 71, 72, 73, 74] (by decide +kernel) (by decide +kernel)
set_option maxRecDepth 20000 in
theorem gX5_addTextTo_X2_insert : GoodIn wsX5_addTextTo (wsV RX5 264 RX2 yX2_insert wsX2_insert) := goodIn_app (goodIn_of _ (by decide +kernel)) ggX5_addTextTo_X2_insert
theorem dX5_addTextTo_0 : decode cX5_addTextTo 0 = .ok (.aload_n 0, 1) := by decide +kernel
theorem dX5_addTextTo_1 : decode cX5_addTextTo 1 = .ok (.getfield 10, 3) := by decide +kernel
theorem dX5_addTextTo_4 : decode cX5_addTextTo 4 = .ok (.invokevirtual 120, 3) := by decide +kernel
theorem dX5_addTextTo_7 : decode cX5_addTextTo 7 = .ok (.istore_n 2, 1) := by decide +kernel
theorem dX5_addTextTo_8 : decode cX5_addTextTo 8 = .ok (.iconst 0, 1) := by decide +kernel
theorem dX5_addTextTo_9 : decode cX5_addTextTo 9 = .ok (.istore_n 3, 1) := by decide +kernel
theorem dX5_addTextTo_10 : decode cX5_addTextTo 10 = .ok (.iload_n 3, 1) := by decide +kernel
theorem dX5_addTextTo_11 : decode cX5_addTextTo 11 = .ok (.iload_n 2, 1) := by decide +kernel
theorem dX5_addTextTo_12 : decode cX5_addTextTo 12 = .ok (.if_icmp .ge 39, 3) := by decide +kernel
theorem dX5_addTextTo_15 : decode cX5_addTextTo 15 = .ok (.aload_n 0, 1) := by decide +kernel
theorem dX5_addTextTo_16 : decode cX5_addTextTo 16 = .ok (.getfield 10, 3) := by decide +kernel
theorem dX5_addTextTo_19 : decode cX5_addTextTo 19 = .ok (.iload_n 3, 1) := by decide +kernel
theorem dX5_addTextTo_20 : decode cX5_addTextTo 20 = .ok (.invokevirtual 123, 3) := by decide +kernel
theorem dX5_addTextTo_23 : decode cX5_addTextTo 23 = .ok (.lstore 4, 2) := by decide +kernel
theorem dX5_addTextTo_25 : decode cX5_addTextTo 25 = .ok (.aload_n 1, 1) := by decide +kernel
theorem dX5_addTextTo_26 : decode cX5_addTextTo 26 = .ok (.lload 4, 2) := by decide +kernel
theorem dX5_addTextTo_28 : decode cX5_addTextTo 28 = .ok (.invokevirtual 260, 3) := by decide +kernel
theorem dX5_addTextTo_31 : decode cX5_addTextTo 31 = .ok (.ifCond .ne 14, 3) := by decide +kernel
theorem dX5_addTextTo_34 : decode cX5_addTextTo 34 = .ok (.aload_n 1, 1) := by decide +kernel
theorem dX5_addTextTo_35 : decode cX5_addTextTo 35 = .ok (.lload 4, 2) := by decide +kernel
theorem dX5_addTextTo_37 : decode cX5_addTextTo 37 = .ok (.invokevirtual 264, 3) := by decide +kernel
theorem dX5_addTextTo_40 : decode cX5_addTextTo 40 = .ok (.ifCond .ne 5, 3) := by decide +kernel
theorem dX5_addTextTo_43 : decode cX5_addTextTo 43 = .ok (.iconst 0, 1) := by decide +kernel
theorem dX5_addTextTo_44 : decode cX5_addTextTo 44 = .ok (.ireturn, 1) := by decide +kernel
theorem dX5_addTextTo_45 : decode cX5_addTextTo 45 = .ok (.iinc 3 1, 3) := by decide +kernel
theorem dX5_addTextTo_48 : decode cX5_addTextTo 48 = .ok (.goto (-38), 3) := by decide +kernel
theorem dX5_addTextTo_51 : decode cX5_addTextTo 51 = .ok (.iconst 1, 1) := by decide +kernel
theorem dX5_addTextTo_52 : decode cX5_addTextTo 52 = .ok (.ireturn, 1) := by decide +kernel
set_option maxRecDepth 20000 in
theorem ggX5_play_X0_make : GoodIn wsX5_play wsX0_make := goodIn_r _ [6, 7, 8, 9, 10, 11, 12, 13, 14, 15, 16, 17, 18, 19, 20, 21, 22, 23, 24, 25, 26, 27, 28, 29, 30, 31, 32, 33, 34, 35, 36, 37, 38, 39, 40, 41, 42, 43, 44, 45, 46, 5, 47, 48, 49, 50, 51, 52, 53, 54, 55, 56, 57, 58, 136, 137, 138, 139, 140, 141, 142, 143, 144, 145, 146, 147, 148, 149, 150, 151, 152] (by decide +kernel) (by decide +kernel)
set_option maxRecDepth 20000 in
theorem gX5_play_X0_make : GoodIn wsX5_play (wsV RX5 164 RX0 yX0_make wsX0_make) := goodIn_app (goodIn_of _ (by decide +kernel)) ggX5_play_X0_make
set_option maxRecDepth 20000 in
theorem ggX5_play_X0_ranked : GoodIn wsX5_play wsX0_ranked := goodIn_r _ [62, 7, 63, 64, 65, 5, 66, 67, 68, 69, 70, 8, 51, 52, 53, 54, 48, 55, 56, 57, 58, 71, 72, 73, 74, 50, 75, 76, 77, 78, 79, 80, 81, 82, 83, 84, 85, 86, 87, 88, 89, 49, 136, 137, 138, 139, 140] (by decide +kernel) (by decide +kernel)
set_option maxRecDepth 20000 in
theorem gX5_play_X0_ranked : GoodIn wsX5_play (wsV RX5 171 RX0 yX0_ranked wsX0_ranked) := goodIn_app (goodIn_of _ (by decide +kernel)) ggX5_play_X0_ranked
set_option maxRecDepth 20000 in
theorem ggX5_play_X0_maskOf : GoodIn wsX5_play wsX0_maskOf := goodIn_r _ [54, 48, 55, 56, 57, 5, 58, 7, 136, 137, 138, 139, 140] (by decide +kernel) (by decide +kernel)
set_option maxRecDepth 20000 in
theorem gX5_play_X0_maskOf : GoodIn wsX5_play (wsV RX5 180 RX0 yX0_maskOf wsX0_maskOf) := goodIn_app (goodIn_of _ (by decide +kernel)) ggX5_play_X0_maskOf
set_option maxRecDepth 20000 in
theorem ggX5_play_X0_membersOf : GoodIn wsX5_play wsX0_membersOf := goodIn_r _ [89, 49, 55, 56, 57, 5, 58, 7, 136, 137, 138, 139, 140] (by decide +kernel) (by decide +kernel)
set_option maxRecDepth 20000 in
theorem gX5_play_X0_membersOf : GoodIn wsX5_play (wsV RX5 183 RX0 yX0_membersOf wsX0_membersOf) := goodIn_app (goodIn_of _ (by decide +kernel)) ggX5_play_X0_membersOf
set_option maxRecDepth 20000 in
theorem ggX5_play_X2_takeLetter : GoodIn wsX5_play wsX2_takeLetter := goodIn_r _ [95, 20, 96, 97, 98, 99, 100, 18, 101, 102, 103, 104, 9, 10, 11, 12, 13, 14, 105, 106, 107, 108, 109, 110, 111, 112, 113, 114, 115, 116, 117, 118, 119, 120, 121, 33, 122, 38, 39, 40, 123, 124, 125, 35, 36, 37, 126, 127, 128, 129, 141, 142, 143, 144, 145, 146, 147, 148, 149, 150, 151, 152] (by decide +kernel) (by decide +kernel)
set_option maxRecDepth 20000 in
theorem gX5_play_X2_takeLetter : GoodIn wsX5_play (wsV RX5 267 RX2 yX2_takeLetter wsX2_takeLetter) := goodIn_app (goodIn_of _ (by decide +kernel)) ggX5_play_X2_takeLetter
set_option maxRecDepth 20000 in
theorem ggX5_play_J6_bitCount_0f7a4 : GoodIn wsX5_play wsJ6_bitCount_0f7a4 := goodIn_r _ [78, 79, 80, 81] (by decide +kernel) (by decide +kernel)
set_option maxRecDepth 20000 in
theorem gX5_play_J6_bitCount_0f7a4 : GoodIn wsX5_play (va_wsS RX5 105 yJ6_bitCount_0f7a4 wsJ6_bitCount_0f7a4) := goodIn_app (goodIn_of _ (by decide +kernel)) ggX5_play_J6_bitCount_0f7a4
theorem dX5_play_0 : decode cX5_play 0 = .ok (.aload_n 0, 1) := by decide +kernel
theorem dX5_play_1 : decode cX5_play 1 = .ok (.getfield 36, 3) := by decide +kernel
theorem dX5_play_4 : decode cX5_play 4 = .ok (.aload_n 1, 1) := by decide +kernel
theorem dX5_play_5 : decode cX5_play 5 = .ok (.iload_n 2, 1) := by decide +kernel
theorem dX5_play_6 : decode cX5_play 6 = .ok (.invokevirtual 164, 3) := by decide +kernel
theorem dX5_play_9 : decode cX5_play 9 = .ok (.aload_n 0, 1) := by decide +kernel
theorem dX5_play_10 : decode cX5_play 10 = .ok (.getfield 36, 3) := by decide +kernel
theorem dX5_play_13 : decode cX5_play 13 = .ok (.iconst 0, 1) := by decide +kernel
theorem dX5_play_14 : decode cX5_play 14 = .ok (.invokevirtual 171, 3) := by decide +kernel
theorem dX5_play_17 : decode cX5_play 17 = .ok (.istore_n 3, 1) := by decide +kernel
theorem dX5_play_18 : decode cX5_play 18 = .ok (.aload_n 0, 1) := by decide +kernel
theorem dX5_play_19 : decode cX5_play 19 = .ok (.getfield 36, 3) := by decide +kernel
theorem dX5_play_22 : decode cX5_play 22 = .ok (.iload_n 3, 1) := by decide +kernel
theorem dX5_play_23 : decode cX5_play 23 = .ok (.invokevirtual 180, 3) := by decide +kernel
theorem dX5_play_26 : decode cX5_play 26 = .ok (.istore 4, 2) := by decide +kernel
theorem dX5_play_28 : decode cX5_play 28 = .ok (.aload_n 1, 1) := by decide +kernel
theorem dX5_play_29 : decode cX5_play 29 = .ok (.iload_n 2, 1) := by decide +kernel
theorem dX5_play_30 : decode cX5_play 30 = .ok (.iload 4, 2) := by decide +kernel
theorem dX5_play_32 : decode cX5_play 32 = .ok (.aload_n 0, 1) := by decide +kernel
theorem dX5_play_33 : decode cX5_play 33 = .ok (.getfield 36, 3) := by decide +kernel
theorem dX5_play_36 : decode cX5_play 36 = .ok (.iload_n 3, 1) := by decide +kernel
theorem dX5_play_37 : decode cX5_play 37 = .ok (.invokevirtual 183, 3) := by decide +kernel
theorem dX5_play_40 : decode cX5_play 40 = .ok (.invokevirtual 267, 3) := by decide +kernel
theorem dX5_play_43 : decode cX5_play 43 = .ok (.iload 4, 2) := by decide +kernel
theorem dX5_play_45 : decode cX5_play 45 = .ok (.invokestatic 105, 3) := by decide +kernel
theorem dX5_play_48 : decode cX5_play 48 = .ok (.ireturn, 1) := by decide +kernel
set_option maxRecDepth 20000 in
theorem ggX5_bestLetter_X2_wasGuessed : GoodIn wsX5_bestLetter wsX2_wasGuessed := goodIn_r _ [6, 7, 8, 9, 10, 11, 12, 13, 103, 104, 105, 106, 107, 108, 109, 110, 111, 112, 113, 114] (by decide +kernel) (by decide +kernel)
set_option maxRecDepth 20000 in
theorem gX5_bestLetter_X2_wasGuessed : GoodIn wsX5_bestLetter (wsV RX5 113 RX2 yX2_wasGuessed wsX2_wasGuessed) := goodIn_app (goodIn_of _ (by decide +kernel)) ggX5_bestLetter_X2_wasGuessed
set_option maxRecDepth 20000 in
theorem ggX5_bestLetter_X0_make : GoodIn wsX5_bestLetter wsX0_make := goodIn_r _ [18, 19, 20, 8, 9, 10, 11, 12, 13, 21, 22, 23, 5, 24, 25, 26, 27, 28, 29, 30, 31, 32, 33, 34, 35, 36, 37, 38, 39, 40, 41, 42, 43, 44, 45, 46, 47, 48, 49, 50, 51, 17, 52, 53, 54, 55, 56, 57, 58, 59, 60, 61, 62, 63, 115, 116, 117, 118, 119, 103, 104, 105, 106, 107, 108, 109, 110, 111, 112, 113, 114] (by decide +kernel) (by decide +kernel)
set_option maxRecDepth 20000 in
theorem gX5_bestLetter_X0_make : GoodIn wsX5_bestLetter (wsV RX5 164 RX0 yX0_make wsX0_make) := goodIn_app (goodIn_of _ (by decide +kernel)) ggX5_bestLetter_X0_make
set_option maxRecDepth 20000 in
theorem ggX5_bestLetter_X0_ranked : GoodIn wsX5_bestLetter wsX0_ranked := goodIn_r _ [67, 19, 68, 69, 70, 17, 71, 72, 73, 74, 75, 20, 56, 57, 58, 59, 53, 60, 61, 62, 63, 76, 77, 78, 79, 55, 80, 81, 82, 83, 84, 85, 86, 87, 88, 89, 90, 91, 92, 93, 94, 54, 115, 116, 117, 118, 119] (by decide +kernel) (by decide +kernel)
set_option maxRecDepth 20000 in
theorem gX5_bestLetter_X0_ranked : GoodIn wsX5_bestLetter (wsV RX5 171 RX0 yX0_ranked wsX0_ranked) := goodIn_app (goodIn_of _ (by decide +kernel)) ggX5_bestLetter_X0_ranked
set_option maxRecDepth 20000 in
theorem ggX5_bestLetter_X0_sizeOf : GoodIn wsX5_bestLetter wsX0_sizeOf := goodIn_r _ [90, 91, 92, 93, 17, 94, 54, 60, 61, 62, 63, 19, 80, 81, 82, 83, 84, 85, 86, 115, 116, 117, 118, 119] (by decide +kernel) (by decide +kernel)
set_option maxRecDepth 20000 in
theorem gX5_bestLetter_X0_sizeOf : GoodIn wsX5_bestLetter (wsV RX5 177 RX0 yX0_sizeOf wsX0_sizeOf) := goodIn_app (goodIn_of _ (by decide +kernel)) ggX5_bestLetter_X0_sizeOf
set_option maxRecDepth 20000 in
theorem ggX5_bestLetter_X0_maskOf : GoodIn wsX5_bestLetter wsX0_maskOf := goodIn_r _ [59, 53, 60, 61, 62, 17, 63, 19, 115, 116, 117, 118, 119] (by decide +kernel) (by decide +kernel)
set_option maxRecDepth 20000 in
theorem gX5_bestLetter_X0_maskOf : GoodIn wsX5_bestLetter (wsV RX5 180 RX0 yX0_maskOf wsX0_maskOf) := goodIn_app (goodIn_of _ (by decide +kernel)) ggX5_bestLetter_X0_maskOf
set_option maxRecDepth 20000 in
theorem ggX5_bestLetter_J6_bitCount_0f7a4 : GoodIn wsX5_bestLetter wsJ6_bitCount_0f7a4 := goodIn_r _ [83, 84, 85, 86] (by decide +kernel) (by decide +kernel)
set_option maxRecDepth 20000 in
theorem gX5_bestLetter_J6_bitCount_0f7a4 : GoodIn wsX5_bestLetter (va_wsS RX5 105 yJ6_bitCount_0f7a4 wsJ6_bitCount_0f7a4) := goodIn_app (goodIn_of _ (by decide +kernel)) ggX5_bestLetter_J6_bitCount_0f7a4
theorem dX5_bestLetter_0 : decode cX5_bestLetter 0 = .ok (.bipush (-6), 2) := by decide +kernel
theorem dX5_bestLetter_2 : decode cX5_bestLetter 2 = .ok (.istore_n 2, 1) := by decide +kernel
theorem dX5_bestLetter_3 : decode cX5_bestLetter 3 = .ok (.iconst 0, 1) := by decide +kernel
theorem dX5_bestLetter_4 : decode cX5_bestLetter 4 = .ok (.istore_n 3, 1) := by decide +kernel
theorem dX5_bestLetter_5 : decode cX5_bestLetter 5 = .ok (.iconst 0, 1) := by decide +kernel
theorem dX5_bestLetter_6 : decode cX5_bestLetter 6 = .ok (.istore 4, 2) := by decide +kernel
theorem dX5_bestLetter_8 : decode cX5_bestLetter 8 = .ok (.bipush 97, 2) := by decide +kernel
theorem dX5_bestLetter_10 : decode cX5_bestLetter 10 = .ok (.istore 5, 2) := by decide +kernel
theorem dX5_bestLetter_12 : decode cX5_bestLetter 12 = .ok (.iload 5, 2) := by decide +kernel
theorem dX5_bestLetter_14 : decode cX5_bestLetter 14 = .ok (.bipush 123, 2) := by decide +kernel
theorem dX5_bestLetter_16 : decode cX5_bestLetter 16 = .ok (.if_icmp .ge 98, 3) := by decide +kernel
theorem dX5_bestLetter_19 : decode cX5_bestLetter 19 = .ok (.aload_n 1, 1) := by decide +kernel
theorem dX5_bestLetter_20 : decode cX5_bestLetter 20 = .ok (.iload 5, 2) := by decide +kernel
theorem dX5_bestLetter_22 : decode cX5_bestLetter 22 = .ok (.invokevirtual 113, 3) := by decide +kernel
theorem dX5_bestLetter_25 : decode cX5_bestLetter 25 = .ok (.ifCond .ne 83, 3) := by decide +kernel
theorem dX5_bestLetter_28 : decode cX5_bestLetter 28 = .ok (.aload_n 0, 1) := by decide +kernel
theorem dX5_bestLetter_29 : decode cX5_bestLetter 29 = .ok (.getfield 36, 3) := by decide +kernel
theorem dX5_bestLetter_32 : decode cX5_bestLetter 32 = .ok (.aload_n 1, 1) := by decide +kernel
theorem dX5_bestLetter_33 : decode cX5_bestLetter 33 = .ok (.iload 5, 2) := by decide +kernel
theorem dX5_bestLetter_35 : decode cX5_bestLetter 35 = .ok (.invokevirtual 164, 3) := by decide +kernel
theorem dX5_bestLetter_38 : decode cX5_bestLetter 38 = .ok (.aload_n 0, 1) := by decide +kernel
theorem dX5_bestLetter_39 : decode cX5_bestLetter 39 = .ok (.getfield 36, 3) := by decide +kernel
theorem dX5_bestLetter_42 : decode cX5_bestLetter 42 = .ok (.iconst 0, 1) := by decide +kernel
theorem dX5_bestLetter_43 : decode cX5_bestLetter 43 = .ok (.invokevirtual 171, 3) := by decide +kernel
theorem dX5_bestLetter_46 : decode cX5_bestLetter 46 = .ok (.istore 6, 2) := by decide +kernel
theorem dX5_bestLetter_48 : decode cX5_bestLetter 48 = .ok (.aload_n 0, 1) := by decide +kernel
theorem dX5_bestLetter_49 : decode cX5_bestLetter 49 = .ok (.getfield 36, 3) := by decide +kernel
theorem dX5_bestLetter_52 : decode cX5_bestLetter 52 = .ok (.iload 6, 2) := by decide +kernel
theorem dX5_bestLetter_54 : decode cX5_bestLetter 54 = .ok (.invokevirtual 177, 3) := by decide +kernel
theorem dX5_bestLetter_57 : decode cX5_bestLetter 57 = .ok (.istore 7, 2) := by decide +kernel
theorem dX5_bestLetter_59 : decode cX5_bestLetter 59 = .ok (.aload_n 0, 1) := by decide +kernel
theorem dX5_bestLetter_60 : decode cX5_bestLetter 60 = .ok (.getfield 36, 3) := by decide +kernel
theorem dX5_bestLetter_63 : decode cX5_bestLetter 63 = .ok (.iload 6, 2) := by decide +kernel
theorem dX5_bestLetter_65 : decode cX5_bestLetter 65 = .ok (.invokevirtual 180, 3) := by decide +kernel
theorem dX5_bestLetter_68 : decode cX5_bestLetter 68 = .ok (.invokestatic 105, 3) := by decide +kernel
theorem dX5_bestLetter_71 : decode cX5_bestLetter 71 = .ok (.istore 8, 2) := by decide +kernel
theorem dX5_bestLetter_73 : decode cX5_bestLetter 73 = .ok (.iload_n 2, 1) := by decide +kernel
theorem dX5_bestLetter_74 : decode cX5_bestLetter 74 = .ok (.bipush (-6), 2) := by decide +kernel
theorem dX5_bestLetter_76 : decode cX5_bestLetter 76 = .ok (.if_icmp .eq 22, 3) := by decide +kernel
theorem dX5_bestLetter_79 : decode cX5_bestLetter 79 = .ok (.iload 7, 2) := by decide +kernel
theorem dX5_bestLetter_81 : decode cX5_bestLetter 81 = .ok (.iload_n 3, 1) := by decide +kernel
theorem dX5_bestLetter_82 : decode cX5_bestLetter 82 = .ok (.if_icmp .lt 16, 3) := by decide +kernel
theorem dX5_bestLetter_85 : decode cX5_bestLetter 85 = .ok (.iload 7, 2) := by decide +kernel
theorem dX5_bestLetter_87 : decode cX5_bestLetter 87 = .ok (.iload_n 3, 1) := by decide +kernel
theorem dX5_bestLetter_88 : decode cX5_bestLetter 88 = .ok (.if_icmp .ne 20, 3) := by decide +kernel
theorem dX5_bestLetter_91 : decode cX5_bestLetter 91 = .ok (.iload 8, 2) := by decide +kernel
theorem dX5_bestLetter_93 : decode cX5_bestLetter 93 = .ok (.iload 4, 2) := by decide +kernel
theorem dX5_bestLetter_95 : decode cX5_bestLetter 95 = .ok (.if_icmp .le 13, 3) := by decide +kernel
theorem dX5_bestLetter_98 : decode cX5_bestLetter 98 = .ok (.iload 5, 2) := by decide +kernel
theorem dX5_bestLetter_100 : decode cX5_bestLetter 100 = .ok (.istore_n 2, 1) := by decide +kernel
theorem dX5_bestLetter_101 : decode cX5_bestLetter 101 = .ok (.iload 7, 2) := by decide +kernel
theorem dX5_bestLetter_103 : decode cX5_bestLetter 103 = .ok (.istore_n 3, 1) := by decide +kernel
theorem dX5_bestLetter_104 : decode cX5_bestLetter 104 = .ok (.iload 8, 2) := by decide +kernel
theorem dX5_bestLetter_106 : decode cX5_bestLetter 106 = .ok (.istore 4, 2) := by decide +kernel
theorem dX5_bestLetter_108 : decode cX5_bestLetter 108 = .ok (.iinc 5 1, 3) := by decide +kernel
theorem dX5_bestLetter_111 : decode cX5_bestLetter 111 = .ok (.goto (-99), 3) := by decide +kernel
theorem dX5_bestLetter_114 : decode cX5_bestLetter 114 = .ok (.iload_n 2, 1) := by decide +kernel
theorem dX5_bestLetter_115 : decode cX5_bestLetter 115 = .ok (.ireturn, 1) := by decide +kernel
set_option maxRecDepth 20000 in
theorem ggX5_faultOfAsking_X5_isLetter : GoodIn wsX5_faultOfAsking wsX5_isLetter := goodIn_r _ [5] (by decide +kernel) (by decide +kernel)
set_option maxRecDepth 20000 in
theorem gX5_faultOfAsking_X5_isLetter : GoodIn wsX5_faultOfAsking (va_wsS RX5 110 yX5_isLetter wsX5_isLetter) := goodIn_app (goodIn_of _ (by decide +kernel)) ggX5_faultOfAsking_X5_isLetter
set_option maxRecDepth 20000 in
theorem ggX5_faultOfAsking_X2_isRunning : GoodIn wsX5_faultOfAsking wsX2_isRunning := goodIn_r _ [10, 11, 24, 25, 26, 27, 28, 29, 30, 31, 32, 33, 34, 35] (by decide +kernel) (by decide +kernel)
set_option maxRecDepth 20000 in
theorem gX5_faultOfAsking_X2_isRunning : GoodIn wsX5_faultOfAsking (wsV RX5 55 RX2 yX2_isRunning wsX2_isRunning) := goodIn_app (goodIn_of _ (by decide +kernel)) ggX5_faultOfAsking_X2_isRunning
set_option maxRecDepth 20000 in
theorem ggX5_faultOfAsking_X2_wasGuessed : GoodIn wsX5_faultOfAsking wsX2_wasGuessed := goodIn_r _ [15, 16, 17, 4, 18, 2, 3, 5, 24, 25, 26, 27, 28, 29, 30, 31, 32, 33, 34, 35] (by decide +kernel) (by decide +kernel)
set_option maxRecDepth 20000 in
theorem gX5_faultOfAsking_X2_wasGuessed : GoodIn wsX5_faultOfAsking (wsV RX5 113 RX2 yX2_wasGuessed wsX2_wasGuessed) := goodIn_app (goodIn_of _ (by decide +kernel)) ggX5_faultOfAsking_X2_wasGuessed
theorem dX5_faultOfAsking_0 : decode cX5_faultOfAsking 0 = .ok (.iload_n 1, 1) := by decide +kernel
theorem dX5_faultOfAsking_1 : decode cX5_faultOfAsking 1 = .ok (.invokestatic 110, 3) := by decide +kernel
theorem dX5_faultOfAsking_4 : decode cX5_faultOfAsking 4 = .ok (.ifCond .ne 6, 3) := by decide +kernel
theorem dX5_faultOfAsking_7 : decode cX5_faultOfAsking 7 = .ok (.bipush (-2), 2) := by decide +kernel
theorem dX5_faultOfAsking_9 : decode cX5_faultOfAsking 9 = .ok (.ireturn, 1) := by decide +kernel
theorem dX5_faultOfAsking_10 : decode cX5_faultOfAsking 10 = .ok (.aload_n 0, 1) := by decide +kernel
theorem dX5_faultOfAsking_11 : decode cX5_faultOfAsking 11 = .ok (.getfield 19, 3) := by decide +kernel
theorem dX5_faultOfAsking_14 : decode cX5_faultOfAsking 14 = .ok (.invokevirtual 55, 3) := by decide +kernel
theorem dX5_faultOfAsking_17 : decode cX5_faultOfAsking 17 = .ok (.ifCond .eq 18, 3) := by decide +kernel
theorem dX5_faultOfAsking_20 : decode cX5_faultOfAsking 20 = .ok (.aload_n 0, 1) := by decide +kernel
theorem dX5_faultOfAsking_21 : decode cX5_faultOfAsking 21 = .ok (.getfield 19, 3) := by decide +kernel
theorem dX5_faultOfAsking_24 : decode cX5_faultOfAsking 24 = .ok (.iload_n 1, 1) := by decide +kernel
theorem dX5_faultOfAsking_25 : decode cX5_faultOfAsking 25 = .ok (.invokevirtual 113, 3) := by decide +kernel
theorem dX5_faultOfAsking_28 : decode cX5_faultOfAsking 28 = .ok (.ifCond .ne 7, 3) := by decide +kernel
theorem dX5_faultOfAsking_31 : decode cX5_faultOfAsking 31 = .ok (.iconst 0, 1) := by decide +kernel
theorem dX5_faultOfAsking_32 : decode cX5_faultOfAsking 32 = .ok (.goto 5, 3) := by decide +kernel
theorem dX5_faultOfAsking_35 : decode cX5_faultOfAsking 35 = .ok (.bipush (-3), 2) := by decide +kernel
theorem dX5_faultOfAsking_37 : decode cX5_faultOfAsking 37 = .ok (.ireturn, 1) := by decide +kernel
theorem dX5_isLetter_0 : decode cX5_isLetter 0 = .ok (.iload_n 0, 1) := by decide +kernel
theorem dX5_isLetter_1 : decode cX5_isLetter 1 = .ok (.bipush 97, 2) := by decide +kernel
theorem dX5_isLetter_3 : decode cX5_isLetter 3 = .ok (.if_icmp .lt 13, 3) := by decide +kernel
theorem dX5_isLetter_6 : decode cX5_isLetter 6 = .ok (.iload_n 0, 1) := by decide +kernel
theorem dX5_isLetter_7 : decode cX5_isLetter 7 = .ok (.bipush 123, 2) := by decide +kernel
theorem dX5_isLetter_9 : decode cX5_isLetter 9 = .ok (.if_icmp .ge 7, 3) := by decide +kernel
theorem dX5_isLetter_12 : decode cX5_isLetter 12 = .ok (.iconst 1, 1) := by decide +kernel
theorem dX5_isLetter_13 : decode cX5_isLetter 13 = .ok (.goto 4, 3) := by decide +kernel
theorem dX5_isLetter_16 : decode cX5_isLetter 16 = .ok (.iconst 0, 1) := by decide +kernel
theorem dX5_isLetter_17 : decode cX5_isLetter 17 = .ok (.ireturn, 1) := by decide +kernel
set_option maxRecDepth 20000 in
theorem ggX5_bitOf_X5_isLetter : GoodIn wsX5_bitOf wsX5_isLetter := goodIn_r _ [4] (by decide +kernel) (by decide +kernel)
set_option maxRecDepth 20000 in
theorem gX5_bitOf_X5_isLetter : GoodIn wsX5_bitOf (va_wsS RX5 110 yX5_isLetter wsX5_isLetter) := goodIn_app (goodIn_of _ (by decide +kernel)) ggX5_bitOf_X5_isLetter
theorem dX5_bitOf_0 : decode cX5_bitOf 0 = .ok (.iload_n 0, 1) := by decide +kernel
theorem dX5_bitOf_1 : decode cX5_bitOf 1 = .ok (.invokestatic 110, 3) := by decide +kernel
theorem dX5_bitOf_4 : decode cX5_bitOf 4 = .ok (.ifCond .eq 12, 3) := by decide +kernel
theorem dX5_bitOf_7 : decode cX5_bitOf 7 = .ok (.iconst 1, 1) := by decide +kernel
theorem dX5_bitOf_8 : decode cX5_bitOf 8 = .ok (.iload_n 0, 1) := by decide +kernel
theorem dX5_bitOf_9 : decode cX5_bitOf 9 = .ok (.bipush 97, 2) := by decide +kernel
theorem dX5_bitOf_11 : decode cX5_bitOf 11 = .ok (.isub, 1) := by decide +kernel
theorem dX5_bitOf_12 : decode cX5_bitOf 12 = .ok (.ishl, 1) := by decide +kernel
theorem dX5_bitOf_13 : decode cX5_bitOf 13 = .ok (.goto 4, 3) := by decide +kernel
theorem dX5_bitOf_16 : decode cX5_bitOf 16 = .ok (.iconst 0, 1) := by decide +kernel
theorem dX5_bitOf_17 : decode cX5_bitOf 17 = .ok (.ireturn, 1) := by decide +kernel
theorem dX5_memberAt_0 : decode cX5_memberAt 0 = .ok (.iconst 0, 1) := by decide +kernel
theorem dX5_memberAt_1 : decode cX5_memberAt 1 = .ok (.istore_n 2, 1) := by decide +kernel
theorem dX5_memberAt_2 : decode cX5_memberAt 2 = .ok (.iconst 0, 1) := by decide +kernel
theorem dX5_memberAt_3 : decode cX5_memberAt 3 = .ok (.istore_n 3, 1) := by decide +kernel
theorem dX5_memberAt_4 : decode cX5_memberAt 4 = .ok (.iload_n 3, 1) := by decide +kernel
theorem dX5_memberAt_5 : decode cX5_memberAt 5 = .ok (.bipush 30, 2) := by decide +kernel
theorem dX5_memberAt_7 : decode cX5_memberAt 7 = .ok (.if_icmp .ge 27, 3) := by decide +kernel
theorem dX5_memberAt_10 : decode cX5_memberAt 10 = .ok (.iload_n 0, 1) := by decide +kernel
theorem dX5_memberAt_11 : decode cX5_memberAt 11 = .ok (.iload_n 3, 1) := by decide +kernel
theorem dX5_memberAt_12 : decode cX5_memberAt 12 = .ok (.ishr, 1) := by decide +kernel
theorem dX5_memberAt_13 : decode cX5_memberAt 13 = .ok (.iconst 1, 1) := by decide +kernel
theorem dX5_memberAt_14 : decode cX5_memberAt 14 = .ok (.iand, 1) := by decide +kernel
theorem dX5_memberAt_15 : decode cX5_memberAt 15 = .ok (.ifCond .eq 13, 3) := by decide +kernel
theorem dX5_memberAt_18 : decode cX5_memberAt 18 = .ok (.iload_n 2, 1) := by decide +kernel
theorem dX5_memberAt_19 : decode cX5_memberAt 19 = .ok (.iload_n 1, 1) := by decide +kernel
theorem dX5_memberAt_20 : decode cX5_memberAt 20 = .ok (.if_icmp .ne 5, 3) := by decide +kernel
theorem dX5_memberAt_23 : decode cX5_memberAt 23 = .ok (.iload_n 3, 1) := by decide +kernel
theorem dX5_memberAt_24 : decode cX5_memberAt 24 = .ok (.ireturn, 1) := by decide +kernel
theorem dX5_memberAt_25 : decode cX5_memberAt 25 = .ok (.iinc 2 1, 3) := by decide +kernel
theorem dX5_memberAt_28 : decode cX5_memberAt 28 = .ok (.iinc 3 1, 3) := by decide +kernel
theorem dX5_memberAt_31 : decode cX5_memberAt 31 = .ok (.goto (-27), 3) := by decide +kernel
theorem dX5_memberAt_34 : decode cX5_memberAt 34 = .ok (.iconst (-1), 1) := by decide +kernel
theorem dX5_memberAt_35 : decode cX5_memberAt 35 = .ok (.ireturn, 1) := by decide +kernel
theorem dX6_init_0 : decode cX6_init 0 = .ok (.aload_n 0, 1) := by decide +kernel
theorem dX6_init_1 : decode cX6_init 1 = .ok (.invokespecial 1, 3) := by decide +kernel
theorem dX6_init_4 : decode cX6_init 4 = .ok (.aload_n 0, 1) := by decide +kernel
theorem dX6_init_5 : decode cX6_init 5 = .ok (.sipush 319, 3) := by decide +kernel
theorem dX6_init_8 : decode cX6_init 8 = .ok (.newarray .int, 2) := by decide +kernel
theorem dX6_init_10 : decode cX6_init 10 = .ok (.putfield 7, 3) := by decide +kernel
theorem dX6_init_13 : decode cX6_init 13 = .ok (.aload_n 0, 1) := by decide +kernel
theorem dX6_init_14 : decode cX6_init 14 = .ok (.sipush 319, 3) := by decide +kernel
theorem dX6_init_17 : decode cX6_init 17 = .ok (.newarray .int, 2) := by decide +kernel
theorem dX6_init_19 : decode cX6_init 19 = .ok (.putfield 13, 3) := by decide +kernel
theorem dX6_init_22 : decode cX6_init 22 = .ok (.aload_n 0, 1) := by decide +kernel
theorem dX6_init_23 : decode cX6_init 23 = .ok (.sipush 1914, 3) := by decide +kernel
theorem dX6_init_26 : decode cX6_init 26 = .ok (.newarray .int, 2) := by decide +kernel
theorem dX6_init_28 : decode cX6_init 28 = .ok (.putfield 16, 3) := by decide +kernel
theorem dX6_init_31 : decode cX6_init 31 = .ok (.aload_n 0, 1) := by decide +kernel
theorem dX6_init_32 : decode cX6_init 32 = .ok (.bipush 80, 2) := by decide +kernel
theorem dX6_init_34 : decode cX6_init 34 = .ok (.newarray .int, 2) := by decide +kernel
theorem dX6_init_36 : decode cX6_init 36 = .ok (.putfield 19, 3) := by decide +kernel
theorem dX6_init_39 : decode cX6_init 39 = .ok (.aload_n 0, 1) := by decide +kernel
theorem dX6_init_40 : decode cX6_init 40 = .ok (.bipush 30, 2) := by decide +kernel
theorem dX6_init_42 : decode cX6_init 42 = .ok (.newarray .int, 2) := by decide +kernel
theorem dX6_init_44 : decode cX6_init 44 = .ok (.putfield 22, 3) := by decide +kernel
theorem dX6_init_47 : decode cX6_init 47 = .ok (.aload_n 0, 1) := by decide +kernel
theorem dX6_init_48 : decode cX6_init 48 = .ok (.bipush 30, 2) := by decide +kernel
theorem dX6_init_50 : decode cX6_init 50 = .ok (.newarray .int, 2) := by decide +kernel
theorem dX6_init_52 : decode cX6_init 52 = .ok (.putfield 25, 3) := by decide +kernel
theorem dX6_init_55 : decode cX6_init 55 = .ok (.aload_n 0, 1) := by decide +kernel
theorem dX6_init_56 : decode cX6_init 56 = .ok (.bipush 30, 2) := by decide +kernel
theorem dX6_init_58 : decode cX6_init 58 = .ok (.newarray .int, 2) := by decide +kernel
theorem dX6_init_60 : decode cX6_init 60 = .ok (.putfield 28, 3) := by decide +kernel
theorem dX6_init_63 : decode cX6_init 63 = .ok (.aload_n 0, 1) := by decide +kernel
theorem dX6_init_64 : decode cX6_init 64 = .ok (.bipush 30, 2) := by decide +kernel
theorem dX6_init_66 : decode cX6_init 66 = .ok (.newarray .int, 2) := by decide +kernel
theorem dX6_init_68 : decode cX6_init 68 = .ok (.putfield 31, 3) := by decide +kernel
theorem dX6_init_71 : decode cX6_init 71 = .ok (.aload_n 0, 1) := by decide +kernel
theorem dX6_init_72 : decode cX6_init 72 = .ok (.bipush 30, 2) := by decide +kernel
theorem dX6_init_74 : decode cX6_init 74 = .ok (.newarray .int, 2) := by decide +kernel
theorem dX6_init_76 : decode cX6_init 76 = .ok (.putfield 34, 3) := by decide +kernel
theorem dX6_init_79 : decode cX6_init 79 = .ok (.aload_n 0, 1) := by decide +kernel
theorem dX6_init_80 : decode cX6_init 80 = .ok (.iconst 0, 1) := by decide +kernel
theorem dX6_init_81 : decode cX6_init 81 = .ok (.putfield 37, 3) := by decide +kernel
theorem dX6_init_84 : decode cX6_init 84 = .ok (.return_, 1) := by decide +kernel
theorem dX6_in_0 : decode cX6_in 0 = .ok (.iload_n 0, 1) := by decide +kernel
theorem dX6_in_1 : decode cX6_in 1 = .ok (.iload_n 1, 1) := by decide +kernel
theorem dX6_in_2 : decode cX6_in 2 = .ok (.if_icmp .lt 12, 3) := by decide +kernel
theorem dX6_in_5 : decode cX6_in 5 = .ok (.iload_n 0, 1) := by decide +kernel
theorem dX6_in_6 : decode cX6_in 6 = .ok (.iload_n 2, 1) := by decide +kernel
theorem dX6_in_7 : decode cX6_in 7 = .ok (.if_icmp .gt 7, 3) := by decide +kernel
theorem dX6_in_10 : decode cX6_in 10 = .ok (.iconst 1, 1) := by decide +kernel
theorem dX6_in_11 : decode cX6_in 11 = .ok (.goto 4, 3) := by decide +kernel
theorem dX6_in_14 : decode cX6_in 14 = .ok (.iconst 0, 1) := by decide +kernel
theorem dX6_in_15 : decode cX6_in 15 = .ok (.ireturn, 1) := by decide +kernel
set_option maxRecDepth 20000 in
theorem ggX6_isLetter_X6_in : GoodIn wsX6_isLetter wsX6_in := goodIn_r _ [4] (by decide +kernel) (by decide +kernel)
set_option maxRecDepth 20000 in
theorem gX6_isLetter_X6_in : GoodIn wsX6_isLetter (va_wsS RX6 41 yX6_in wsX6_in) := goodIn_app (goodIn_of _ (by decide +kernel)) ggX6_isLetter_X6_in
theorem dX6_isLetter_0 : decode cX6_isLetter 0 = .ok (.iload_n 0, 1) := by decide +kernel
theorem dX6_isLetter_1 : decode cX6_isLetter 1 = .ok (.bipush 97, 2) := by decide +kernel
theorem dX6_isLetter_3 : decode cX6_isLetter 3 = .ok (.bipush 122, 2) := by decide +kernel
theorem dX6_isLetter_5 : decode cX6_isLetter 5 = .ok (.invokestatic 41, 3) := by decide +kernel
theorem dX6_isLetter_8 : decode cX6_isLetter 8 = .ok (.ireturn, 1) := by decide +kernel
theorem dX6_bits_0 : decode cX6_bits 0 = .ok (.iconst 0, 1) := by decide +kernel
theorem dX6_bits_1 : decode cX6_bits 1 = .ok (.istore_n 1, 1) := by decide +kernel
theorem dX6_bits_2 : decode cX6_bits 2 = .ok (.iconst 0, 1) := by decide +kernel
theorem dX6_bits_3 : decode cX6_bits 3 = .ok (.istore_n 2, 1) := by decide +kernel
theorem dX6_bits_4 : decode cX6_bits 4 = .ok (.iload_n 2, 1) := by decide +kernel
theorem dX6_bits_5 : decode cX6_bits 5 = .ok (.bipush 31, 2) := by decide +kernel
theorem dX6_bits_7 : decode cX6_bits 7 = .ok (.if_icmp .ge 17, 3) := by decide +kernel
theorem dX6_bits_10 : decode cX6_bits 10 = .ok (.iload_n 1, 1) := by decide +kernel
theorem dX6_bits_11 : decode cX6_bits 11 = .ok (.iload_n 0, 1) := by decide +kernel
theorem dX6_bits_12 : decode cX6_bits 12 = .ok (.iload_n 2, 1) := by decide +kernel
theorem dX6_bits_13 : decode cX6_bits 13 = .ok (.ishr, 1) := by decide +kernel
theorem dX6_bits_14 : decode cX6_bits 14 = .ok (.iconst 1, 1) := by decide +kernel
theorem dX6_bits_15 : decode cX6_bits 15 = .ok (.iand, 1) := by decide +kernel
theorem dX6_bits_16 : decode cX6_bits 16 = .ok (.iadd, 1) := by decide +kernel
theorem dX6_bits_17 : decode cX6_bits 17 = .ok (.istore_n 1, 1) := by decide +kernel
theorem dX6_bits_18 : decode cX6_bits 18 = .ok (.iinc 2 1, 3) := by decide +kernel
theorem dX6_bits_21 : decode cX6_bits 21 = .ok (.goto (-17), 3) := by decide +kernel
theorem dX6_bits_24 : decode cX6_bits 24 = .ok (.iload_n 1, 1) := by decide +kernel
theorem dX6_bits_25 : decode cX6_bits 25 = .ok (.ireturn, 1) := by decide +kernel
theorem dX6_lowest_0 : decode cX6_lowest 0 = .ok (.iconst 0, 1) := by decide +kernel
theorem dX6_lowest_1 : decode cX6_lowest 1 = .ok (.istore_n 1, 1) := by decide +kernel
theorem dX6_lowest_2 : decode cX6_lowest 2 = .ok (.iload_n 1, 1) := by decide +kernel
theorem dX6_lowest_3 : decode cX6_lowest 3 = .ok (.bipush 30, 2) := by decide +kernel
theorem dX6_lowest_5 : decode cX6_lowest 5 = .ok (.if_icmp .ge 17, 3) := by decide +kernel
theorem dX6_lowest_8 : decode cX6_lowest 8 = .ok (.iload_n 0, 1) := by decide +kernel
theorem dX6_lowest_9 : decode cX6_lowest 9 = .ok (.iload_n 1, 1) := by decide +kernel
theorem dX6_lowest_10 : decode cX6_lowest 10 = .ok (.ishr, 1) := by decide +kernel
theorem dX6_lowest_11 : decode cX6_lowest 11 = .ok (.iconst 1, 1) := by decide +kernel
theorem dX6_lowest_12 : decode cX6_lowest 12 = .ok (.iand, 1) := by decide +kernel
theorem dX6_lowest_13 : decode cX6_lowest 13 = .ok (.ifCond .ne 9, 3) := by decide +kernel
theorem dX6_lowest_16 : decode cX6_lowest 16 = .ok (.iinc 1 1, 3) := by decide +kernel
theorem dX6_lowest_19 : decode cX6_lowest 19 = .ok (.goto (-17), 3) := by decide +kernel
theorem dX6_lowest_22 : decode cX6_lowest 22 = .ok (.iload_n 1, 1) := by decide +kernel
theorem dX6_lowest_23 : decode cX6_lowest 23 = .ok (.ireturn, 1) := by decide +kernel
theorem dX6_saves_0 : decode cX6_saves 0 = .ok (.aload_n 0, 1) := by decide +kernel
theorem dX6_saves_1 : decode cX6_saves 1 = .ok (.getfield 45, 3) := by decide +kernel
theorem dX6_saves_4 : decode cX6_saves 4 = .ok (.bipush 6, 2) := by decide +kernel
theorem dX6_saves_6 : decode cX6_saves 6 = .ok (.if_icmp .ne 44, 3) := by decide +kernel
theorem dX6_saves_9 : decode cX6_saves 9 = .ok (.iconst 0, 1) := by decide +kernel
theorem dX6_saves_10 : decode cX6_saves 10 = .ok (.istore_n 1, 1) := by decide +kernel
theorem dX6_saves_11 : decode cX6_saves 11 = .ok (.iload_n 1, 1) := by decide +kernel
theorem dX6_saves_12 : decode cX6_saves 12 = .ok (.sipush 1595, 3) := by decide +kernel
theorem dX6_saves_15 : decode cX6_saves 15 = .ok (.if_icmp .ge 25, 3) := by decide +kernel
theorem dX6_saves_18 : decode cX6_saves 18 = .ok (.aload_n 0, 1) := by decide +kernel
theorem dX6_saves_19 : decode cX6_saves 19 = .ok (.getfield 16, 3) := by decide +kernel
theorem dX6_saves_22 : decode cX6_saves 22 = .ok (.iload_n 1, 1) := by decide +kernel
theorem dX6_saves_23 : decode cX6_saves 23 = .ok (.aload_n 0, 1) := by decide +kernel
theorem dX6_saves_24 : decode cX6_saves 24 = .ok (.getfield 16, 3) := by decide +kernel
theorem dX6_saves_27 : decode cX6_saves 27 = .ok (.sipush 319, 3) := by decide +kernel
theorem dX6_saves_30 : decode cX6_saves 30 = .ok (.iload_n 1, 1) := by decide +kernel
theorem dX6_saves_31 : decode cX6_saves 31 = .ok (.iadd, 1) := by decide +kernel
theorem dX6_saves_32 : decode cX6_saves 32 = .ok (.iaload, 1) := by decide +kernel
theorem dX6_saves_33 : decode cX6_saves 33 = .ok (.iastore, 1) := by decide +kernel
theorem dX6_saves_34 : decode cX6_saves 34 = .ok (.iinc 1 1, 3) := by decide +kernel
theorem dX6_saves_37 : decode cX6_saves 37 = .ok (.goto (-26), 3) := by decide +kernel
theorem dX6_saves_40 : decode cX6_saves 40 = .ok (.aload_n 0, 1) := by decide +kernel
theorem dX6_saves_41 : decode cX6_saves 41 = .ok (.dup, 1) := by decide +kernel
theorem dX6_saves_42 : decode cX6_saves 42 = .ok (.getfield 45, 3) := by decide +kernel
theorem dX6_saves_45 : decode cX6_saves 45 = .ok (.iconst 1, 1) := by decide +kernel
theorem dX6_saves_46 : decode cX6_saves 46 = .ok (.isub, 1) := by decide +kernel
theorem dX6_saves_47 : decode cX6_saves 47 = .ok (.putfield 45, 3) := by decide +kernel
theorem dX6_saves_50 : decode cX6_saves 50 = .ok (.iconst 0, 1) := by decide +kernel
theorem dX6_saves_51 : decode cX6_saves 51 = .ok (.istore_n 1, 1) := by decide +kernel
theorem dX6_saves_52 : decode cX6_saves 52 = .ok (.iload_n 1, 1) := by decide +kernel
theorem dX6_saves_53 : decode cX6_saves 53 = .ok (.sipush 319, 3) := by decide +kernel
theorem dX6_saves_56 : decode cX6_saves 56 = .ok (.if_icmp .ge 30, 3) := by decide +kernel
theorem dX6_saves_59 : decode cX6_saves 59 = .ok (.aload_n 0, 1) := by decide +kernel
theorem dX6_saves_60 : decode cX6_saves 60 = .ok (.getfield 16, 3) := by decide +kernel
theorem dX6_saves_63 : decode cX6_saves 63 = .ok (.sipush 319, 3) := by decide +kernel
theorem dX6_saves_66 : decode cX6_saves 66 = .ok (.aload_n 0, 1) := by decide +kernel
theorem dX6_saves_67 : decode cX6_saves 67 = .ok (.getfield 45, 3) := by decide +kernel
theorem dX6_saves_70 : decode cX6_saves 70 = .ok (.imul, 1) := by decide +kernel
theorem dX6_saves_71 : decode cX6_saves 71 = .ok (.iload_n 1, 1) := by decide +kernel
theorem dX6_saves_72 : decode cX6_saves 72 = .ok (.iadd, 1) := by decide +kernel
theorem dX6_saves_73 : decode cX6_saves 73 = .ok (.aload_n 0, 1) := by decide +kernel
theorem dX6_saves_74 : decode cX6_saves 74 = .ok (.getfield 7, 3) := by decide +kernel
theorem dX6_saves_77 : decode cX6_saves 77 = .ok (.iload_n 1, 1) := by decide +kernel
theorem dX6_saves_78 : decode cX6_saves 78 = .ok (.iaload, 1) := by decide +kernel
theorem dX6_saves_79 : decode cX6_saves 79 = .ok (.iastore, 1) := by decide +kernel
theorem dX6_saves_80 : decode cX6_saves 80 = .ok (.iinc 1 1, 3) := by decide +kernel
theorem dX6_saves_83 : decode cX6_saves 83 = .ok (.goto (-31), 3) := by decide +kernel
theorem dX6_saves_86 : decode cX6_saves 86 = .ok (.aload_n 0, 1) := by decide +kernel
theorem dX6_saves_87 : decode cX6_saves 87 = .ok (.dup, 1) := by decide +kernel
theorem dX6_saves_88 : decode cX6_saves 88 = .ok (.getfield 45, 3) := by decide +kernel
theorem dX6_saves_91 : decode cX6_saves 91 = .ok (.iconst 1, 1) := by decide +kernel
theorem dX6_saves_92 : decode cX6_saves 92 = .ok (.iadd, 1) := by decide +kernel
theorem dX6_saves_93 : decode cX6_saves 93 = .ok (.putfield 45, 3) := by decide +kernel
theorem dX6_saves_96 : decode cX6_saves 96 = .ok (.return_, 1) := by decide +kernel
theorem dX6_putAside_0 : decode cX6_putAside 0 = .ok (.iconst 0, 1) := by decide +kernel
theorem dX6_putAside_1 : decode cX6_putAside 1 = .ok (.istore_n 1, 1) := by decide +kernel
theorem dX6_putAside_2 : decode cX6_putAside 2 = .ok (.iload_n 1, 1) := by decide +kernel
theorem dX6_putAside_3 : decode cX6_putAside 3 = .ok (.sipush 319, 3) := by decide +kernel
theorem dX6_putAside_6 : decode cX6_putAside 6 = .ok (.if_icmp .ge 21, 3) := by decide +kernel
theorem dX6_putAside_9 : decode cX6_putAside 9 = .ok (.aload_n 0, 1) := by decide +kernel
theorem dX6_putAside_10 : decode cX6_putAside 10 = .ok (.getfield 13, 3) := by decide +kernel
theorem dX6_putAside_13 : decode cX6_putAside 13 = .ok (.iload_n 1, 1) := by decide +kernel
theorem dX6_putAside_14 : decode cX6_putAside 14 = .ok (.aload_n 0, 1) := by decide +kernel
theorem dX6_putAside_15 : decode cX6_putAside 15 = .ok (.getfield 7, 3) := by decide +kernel
theorem dX6_putAside_18 : decode cX6_putAside 18 = .ok (.iload_n 1, 1) := by decide +kernel
theorem dX6_putAside_19 : decode cX6_putAside 19 = .ok (.iaload, 1) := by decide +kernel
theorem dX6_putAside_20 : decode cX6_putAside 20 = .ok (.iastore, 1) := by decide +kernel
theorem dX6_putAside_21 : decode cX6_putAside 21 = .ok (.iinc 1 1, 3) := by decide +kernel
theorem dX6_putAside_24 : decode cX6_putAside 24 = .ok (.goto (-22), 3) := by decide +kernel
theorem dX6_putAside_27 : decode cX6_putAside 27 = .ok (.return_, 1) := by decide +kernel
theorem dX6_putBack_0 : decode cX6_putBack 0 = .ok (.iconst 0, 1) := by decide +kernel
theorem dX6_putBack_1 : decode cX6_putBack 1 = .ok (.istore_n 1, 1) := by decide +kernel
theorem dX6_putBack_2 : decode cX6_putBack 2 = .ok (.iload_n 1, 1) := by decide +kernel
theorem dX6_putBack_3 : decode cX6_putBack 3 = .ok (.sipush 319, 3) := by decide +kernel
theorem dX6_putBack_6 : decode cX6_putBack 6 = .ok (.if_icmp .ge 21, 3) := by decide +kernel
theorem dX6_putBack_9 : decode cX6_putBack 9 = .ok (.aload_n 0, 1) := by decide +kernel
theorem dX6_putBack_10 : decode cX6_putBack 10 = .ok (.getfield 7, 3) := by decide +kernel
theorem dX6_putBack_13 : decode cX6_putBack 13 = .ok (.iload_n 1, 1) := by decide +kernel
theorem dX6_putBack_14 : decode cX6_putBack 14 = .ok (.aload_n 0, 1) := by decide +kernel
theorem dX6_putBack_15 : decode cX6_putBack 15 = .ok (.getfield 13, 3) := by decide +kernel
theorem dX6_putBack_18 : decode cX6_putBack 18 = .ok (.iload_n 1, 1) := by decide +kernel
theorem dX6_putBack_19 : decode cX6_putBack 19 = .ok (.iaload, 1) := by decide +kernel
theorem dX6_putBack_20 : decode cX6_putBack 20 = .ok (.iastore, 1) := by decide +kernel
theorem dX6_putBack_21 : decode cX6_putBack 21 = .ok (.iinc 1 1, 3) := by decide +kernel
theorem dX6_putBack_24 : decode cX6_putBack 24 = .ok (.goto (-22), 3) := by decide +kernel
theorem dX6_putBack_27 : decode cX6_putBack 27 = .ok (.return_, 1) := by decide +kernel
theorem dX6_letter_0 : decode cX6_letter 0 = .ok (.aload_n 0, 1) := by decide +kernel
theorem dX6_letter_1 : decode cX6_letter 1 = .ok (.getfield 7, 3) := by decide +kernel
theorem dX6_letter_4 : decode cX6_letter 4 = .ok (.bipush 79, 2) := by decide +kernel
theorem dX6_letter_6 : decode cX6_letter 6 = .ok (.bipush 8, 2) := by decide +kernel
theorem dX6_letter_8 : decode cX6_letter 8 = .ok (.iload_n 1, 1) := by decide +kernel
theorem dX6_letter_9 : decode cX6_letter 9 = .ok (.imul, 1) := by decide +kernel
theorem dX6_letter_10 : decode cX6_letter 10 = .ok (.iadd, 1) := by decide +kernel
theorem dX6_letter_11 : decode cX6_letter 11 = .ok (.iload_n 2, 1) := by decide +kernel
theorem dX6_letter_12 : decode cX6_letter 12 = .ok (.iadd, 1) := by decide +kernel
theorem dX6_letter_13 : decode cX6_letter 13 = .ok (.iaload, 1) := by decide +kernel
theorem dX6_letter_14 : decode cX6_letter 14 = .ok (.ireturn, 1) := by decide +kernel
theorem dX6_isCandidate_0 : decode cX6_isCandidate 0 = .ok (.aload_n 0, 1) := by decide +kernel
theorem dX6_isCandidate_1 : decode cX6_isCandidate 1 = .ok (.getfield 7, 3) := by decide +kernel
theorem dX6_isCandidate_4 : decode cX6_isCandidate 4 = .ok (.bipush 7, 2) := by decide +kernel
theorem dX6_isCandidate_6 : decode cX6_isCandidate 6 = .ok (.iaload, 1) := by decide +kernel
theorem dX6_isCandidate_7 : decode cX6_isCandidate 7 = .ok (.iload_n 1, 1) := by decide +kernel
theorem dX6_isCandidate_8 : decode cX6_isCandidate 8 = .ok (.ishr, 1) := by decide +kernel
theorem dX6_isCandidate_9 : decode cX6_isCandidate 9 = .ok (.iconst 1, 1) := by decide +kernel
theorem dX6_isCandidate_10 : decode cX6_isCandidate 10 = .ok (.iand, 1) := by decide +kernel
theorem dX6_isCandidate_11 : decode cX6_isCandidate 11 = .ok (.iconst 1, 1) := by decide +kernel
theorem dX6_isCandidate_12 : decode cX6_isCandidate 12 = .ok (.if_icmp .ne 7, 3) := by decide +kernel
theorem dX6_isCandidate_15 : decode cX6_isCandidate 15 = .ok (.iconst 1, 1) := by decide +kernel
theorem dX6_isCandidate_16 : decode cX6_isCandidate 16 = .ok (.goto 4, 3) := by decide +kernel
theorem dX6_isCandidate_19 : decode cX6_isCandidate 19 = .ok (.iconst 0, 1) := by decide +kernel
theorem dX6_isCandidate_20 : decode cX6_isCandidate 20 = .ok (.ireturn, 1) := by decide +kernel
theorem dX6_isGuessed_0 : decode cX6_isGuessed 0 = .ok (.aload_n 0, 1) := by decide +kernel
theorem dX6_isGuessed_1 : decode cX6_isGuessed 1 = .ok (.getfield 7, 3) := by decide +kernel
theorem dX6_isGuessed_4 : decode cX6_isGuessed 4 = .ok (.iconst 5, 1) := by decide +kernel
theorem dX6_isGuessed_5 : decode cX6_isGuessed 5 = .ok (.iaload, 1) := by decide +kernel
theorem dX6_isGuessed_6 : decode cX6_isGuessed 6 = .ok (.iload_n 1, 1) := by decide +kernel
theorem dX6_isGuessed_7 : decode cX6_isGuessed 7 = .ok (.bipush 97, 2) := by decide +kernel
theorem dX6_isGuessed_9 : decode cX6_isGuessed 9 = .ok (.isub, 1) := by decide +kernel
theorem dX6_isGuessed_10 : decode cX6_isGuessed 10 = .ok (.ishr, 1) := by decide +kernel
theorem dX6_isGuessed_11 : decode cX6_isGuessed 11 = .ok (.iconst 1, 1) := by decide +kernel
theorem dX6_isGuessed_12 : decode cX6_isGuessed 12 = .ok (.iand, 1) := by decide +kernel
theorem dX6_isGuessed_13 : decode cX6_isGuessed 13 = .ok (.iconst 1, 1) := by decide +kernel
theorem dX6_isGuessed_14 : decode cX6_isGuessed 14 = .ok (.if_icmp .ne 7, 3) := by decide +kernel
theorem dX6_isGuessed_17 : decode cX6_isGuessed 17 = .ok (.iconst 1, 1) := by decide +kernel
theorem dX6_isGuessed_18 : decode cX6_isGuessed 18 = .ok (.goto 4, 3) := by decide +kernel
theorem dX6_isGuessed_21 : decode cX6_isGuessed 21 = .ok (.iconst 0, 1) := by decide +kernel
theorem dX6_isGuessed_22 : decode cX6_isGuessed 22 = .ok (.ireturn, 1) := by decide +kernel
theorem dX6_runs_0 : decode cX6_runs 0 = .ok (.aload_n 0, 1) := by decide +kernel
theorem dX6_runs_1 : decode cX6_runs 1 = .ok (.getfield 7, 3) := by decide +kernel
theorem dX6_runs_4 : decode cX6_runs 4 = .ok (.iconst 2, 1) := by decide +kernel
theorem dX6_runs_5 : decode cX6_runs 5 = .ok (.iaload, 1) := by decide +kernel
theorem dX6_runs_6 : decode cX6_runs 6 = .ok (.iconst 1, 1) := by decide +kernel
theorem dX6_runs_7 : decode cX6_runs 7 = .ok (.if_icmp .ne 7, 3) := by decide +kernel
theorem dX6_runs_10 : decode cX6_runs 10 = .ok (.iconst 1, 1) := by decide +kernel
theorem dX6_runs_11 : decode cX6_runs 11 = .ok (.goto 4, 3) := by decide +kernel
theorem dX6_runs_14 : decode cX6_runs 14 = .ok (.iconst 0, 1) := by decide +kernel
theorem dX6_runs_15 : decode cX6_runs 15 = .ok (.ireturn, 1) := by decide +kernel
set_option maxRecDepth 20000 in
theorem ggX6_type_X6_in : GoodIn wsX6_type wsX6_in := goodIn_r _ [6] (by decide +kernel) (by decide +kernel)
set_option maxRecDepth 20000 in
theorem gX6_type_X6_in : GoodIn wsX6_type (va_wsS RX6 41 yX6_in wsX6_in) := goodIn_app (goodIn_of _ (by decide +kernel)) ggX6_type_X6_in
theorem dX6_type_0 : decode cX6_type 0 = .ok (.iload_n 1, 1) := by decide +kernel
theorem dX6_type_1 : decode cX6_type 1 = .ok (.bipush 33, 2) := by decide +kernel
theorem dX6_type_3 : decode cX6_type 3 = .ok (.bipush 126, 2) := by decide +kernel
theorem dX6_type_5 : decode cX6_type 5 = .ok (.invokestatic 41, 3) := by decide +kernel
theorem dX6_type_8 : decode cX6_type 8 = .ok (.ifCond .ne 6, 3) := by decide +kernel
theorem dX6_type_11 : decode cX6_type 11 = .ok (.bipush (-2), 2) := by decide +kernel
theorem dX6_type_13 : decode cX6_type 13 = .ok (.ireturn, 1) := by decide +kernel
theorem dX6_type_14 : decode cX6_type 14 = .ok (.aload_n 0, 1) := by decide +kernel
theorem dX6_type_15 : decode cX6_type 15 = .ok (.getfield 48, 3) := by decide +kernel
theorem dX6_type_18 : decode cX6_type 18 = .ok (.bipush 80, 2) := by decide +kernel
theorem dX6_type_20 : decode cX6_type 20 = .ok (.if_icmp .ne 6, 3) := by decide +kernel
theorem dX6_type_23 : decode cX6_type 23 = .ok (.bipush (-4), 2) := by decide +kernel
theorem dX6_type_25 : decode cX6_type 25 = .ok (.ireturn, 1) := by decide +kernel
theorem dX6_type_26 : decode cX6_type 26 = .ok (.aload_n 0, 1) := by decide +kernel
theorem dX6_type_27 : decode cX6_type 27 = .ok (.getfield 19, 3) := by decide +kernel
theorem dX6_type_30 : decode cX6_type 30 = .ok (.aload_n 0, 1) := by decide +kernel
theorem dX6_type_31 : decode cX6_type 31 = .ok (.getfield 48, 3) := by decide +kernel
theorem dX6_type_34 : decode cX6_type 34 = .ok (.iload_n 1, 1) := by decide +kernel
theorem dX6_type_35 : decode cX6_type 35 = .ok (.iastore, 1) := by decide +kernel
theorem dX6_type_36 : decode cX6_type 36 = .ok (.aload_n 0, 1) := by decide +kernel
theorem dX6_type_37 : decode cX6_type 37 = .ok (.dup, 1) := by decide +kernel
theorem dX6_type_38 : decode cX6_type 38 = .ok (.getfield 48, 3) := by decide +kernel
theorem dX6_type_41 : decode cX6_type 41 = .ok (.iconst 1, 1) := by decide +kernel
theorem dX6_type_42 : decode cX6_type 42 = .ok (.iadd, 1) := by decide +kernel
theorem dX6_type_43 : decode cX6_type 43 = .ok (.putfield 48, 3) := by decide +kernel
theorem dX6_type_46 : decode cX6_type 46 = .ok (.aload_n 0, 1) := by decide +kernel
theorem dX6_type_47 : decode cX6_type 47 = .ok (.getfield 48, 3) := by decide +kernel
theorem dX6_type_50 : decode cX6_type 50 = .ok (.ireturn, 1) := by decide +kernel
theorem dX6_clearText_0 : decode cX6_clearText 0 = .ok (.aload_n 0, 1) := by decide +kernel
theorem dX6_clearText_1 : decode cX6_clearText 1 = .ok (.getfield 48, 3) := by decide +kernel
theorem dX6_clearText_4 : decode cX6_clearText 4 = .ok (.istore_n 1, 1) := by decide +kernel
theorem dX6_clearText_5 : decode cX6_clearText 5 = .ok (.aload_n 0, 1) := by decide +kernel
theorem dX6_clearText_6 : decode cX6_clearText 6 = .ok (.iconst 0, 1) := by decide +kernel
theorem dX6_clearText_7 : decode cX6_clearText 7 = .ok (.putfield 48, 3) := by decide +kernel
theorem dX6_clearText_10 : decode cX6_clearText 10 = .ok (.iload_n 1, 1) := by decide +kernel
theorem dX6_clearText_11 : decode cX6_clearText 11 = .ok (.ireturn, 1) := by decide +kernel
set_option maxRecDepth 20000 in
theorem ggX6_error_X6_isLetter : GoodIn wsX6_error wsX6_isLetter := goodIn_r _ [6, 7, 8, 5, 9] (by decide +kernel) (by decide +kernel)
set_option maxRecDepth 20000 in
theorem gX6_error_X6_isLetter : GoodIn wsX6_error (va_wsS RX6 51 yX6_isLetter wsX6_isLetter) := goodIn_app (goodIn_of _ (by decide +kernel)) ggX6_error_X6_isLetter
theorem dX6_error_0 : decode cX6_error 0 = .ok (.iconst 0, 1) := by decide +kernel
theorem dX6_error_1 : decode cX6_error 1 = .ok (.istore_n 1, 1) := by decide +kernel
theorem dX6_error_2 : decode cX6_error 2 = .ok (.iconst 0, 1) := by decide +kernel
theorem dX6_error_3 : decode cX6_error 3 = .ok (.istore_n 2, 1) := by decide +kernel
theorem dX6_error_4 : decode cX6_error 4 = .ok (.iload_n 2, 1) := by decide +kernel
theorem dX6_error_5 : decode cX6_error 5 = .ok (.aload_n 0, 1) := by decide +kernel
theorem dX6_error_6 : decode cX6_error 6 = .ok (.getfield 48, 3) := by decide +kernel
theorem dX6_error_9 : decode cX6_error 9 = .ok (.if_icmp .ge 62, 3) := by decide +kernel
theorem dX6_error_12 : decode cX6_error 12 = .ok (.aload_n 0, 1) := by decide +kernel
theorem dX6_error_13 : decode cX6_error 13 = .ok (.getfield 19, 3) := by decide +kernel
theorem dX6_error_16 : decode cX6_error 16 = .ok (.iload_n 2, 1) := by decide +kernel
theorem dX6_error_17 : decode cX6_error 17 = .ok (.iaload, 1) := by decide +kernel
theorem dX6_error_18 : decode cX6_error 18 = .ok (.invokestatic 51, 3) := by decide +kernel
theorem dX6_error_21 : decode cX6_error 21 = .ok (.istore_n 3, 1) := by decide +kernel
theorem dX6_error_22 : decode cX6_error 22 = .ok (.iload_n 3, 1) := by decide +kernel
theorem dX6_error_23 : decode cX6_error 23 = .ok (.ifCond .eq 12, 3) := by decide +kernel
theorem dX6_error_26 : decode cX6_error 26 = .ok (.iload_n 1, 1) := by decide +kernel
theorem dX6_error_27 : decode cX6_error 27 = .ok (.bipush 8, 2) := by decide +kernel
theorem dX6_error_29 : decode cX6_error 29 = .ok (.if_icmp .ne 24, 3) := by decide +kernel
theorem dX6_error_32 : decode cX6_error 32 = .ok (.goto 19, 3) := by decide +kernel
theorem dX6_error_35 : decode cX6_error 35 = .ok (.aload_n 0, 1) := by decide +kernel
theorem dX6_error_36 : decode cX6_error 36 = .ok (.getfield 19, 3) := by decide +kernel
theorem dX6_error_39 : decode cX6_error 39 = .ok (.iload_n 2, 1) := by decide +kernel
theorem dX6_error_40 : decode cX6_error 40 = .ok (.iaload, 1) := by decide +kernel
theorem dX6_error_41 : decode cX6_error 41 = .ok (.bipush 44, 2) := by decide +kernel
theorem dX6_error_43 : decode cX6_error 43 = .ok (.if_icmp .ne 8, 3) := by decide +kernel
theorem dX6_error_46 : decode cX6_error 46 = .ok (.iload_n 1, 1) := by decide +kernel
theorem dX6_error_47 : decode cX6_error 47 = .ok (.iconst 2, 1) := by decide +kernel
theorem dX6_error_48 : decode cX6_error 48 = .ok (.if_icmp .ge 5, 3) := by decide +kernel
theorem dX6_error_51 : decode cX6_error 51 = .ok (.iload_n 2, 1) := by decide +kernel
theorem dX6_error_52 : decode cX6_error 52 = .ok (.ireturn, 1) := by decide +kernel
theorem dX6_error_53 : decode cX6_error 53 = .ok (.iload_n 3, 1) := by decide +kernel
theorem dX6_error_54 : decode cX6_error 54 = .ok (.ifCond .eq 9, 3) := by decide +kernel
theorem dX6_error_57 : decode cX6_error 57 = .ok (.iload_n 1, 1) := by decide +kernel
theorem dX6_error_58 : decode cX6_error 58 = .ok (.iconst 1, 1) := by decide +kernel
theorem dX6_error_59 : decode cX6_error 59 = .ok (.iadd, 1) := by decide +kernel
theorem dX6_error_60 : decode cX6_error 60 = .ok (.goto 4, 3) := by decide +kernel
theorem dX6_error_63 : decode cX6_error 63 = .ok (.iconst 0, 1) := by decide +kernel
theorem dX6_error_64 : decode cX6_error 64 = .ok (.istore_n 1, 1) := by decide +kernel
theorem dX6_error_65 : decode cX6_error 65 = .ok (.iinc 2 1, 3) := by decide +kernel
theorem dX6_error_68 : decode cX6_error 68 = .ok (.goto (-64), 3) := by decide +kernel
theorem dX6_error_71 : decode cX6_error 71 = .ok (.iload_n 1, 1) := by decide +kernel
theorem dX6_error_72 : decode cX6_error 72 = .ok (.iconst 2, 1) := by decide +kernel
theorem dX6_error_73 : decode cX6_error 73 = .ok (.if_icmp .ge 10, 3) := by decide +kernel
theorem dX6_error_76 : decode cX6_error 76 = .ok (.aload_n 0, 1) := by decide +kernel
theorem dX6_error_77 : decode cX6_error 77 = .ok (.getfield 48, 3) := by decide +kernel
theorem dX6_error_80 : decode cX6_error 80 = .ok (.goto 5, 3) := by decide +kernel
theorem dX6_error_83 : decode cX6_error 83 = .ok (.bipush (-6), 2) := by decide +kernel
theorem dX6_error_85 : decode cX6_error 85 = .ok (.ireturn, 1) := by decide +kernel
set_option maxRecDepth 20000 in
theorem ggX6_syntaxError_X6_error : GoodIn wsX6_syntaxError wsX6_error := goodIn_r _ [5, 6, 7, 8, 9, 4, 10, 11, 12, 13, 14, 15, 16, 17, 18, 19, 20, 21, 22, 23, 24, 25] (by decide +kernel) (by decide +kernel)
set_option maxRecDepth 20000 in
theorem gX6_syntaxError_X6_error : GoodIn wsX6_syntaxError (wsV RX6 55 RX6 yX6_error wsX6_error) := goodIn_app (goodIn_of _ (by decide +kernel)) ggX6_syntaxError_X6_error
theorem dX6_syntaxError_0 : decode cX6_syntaxError 0 = .ok (.aload_n 0, 1) := by decide +kernel
theorem dX6_syntaxError_1 : decode cX6_syntaxError 1 = .ok (.invokevirtual 55, 3) := by decide +kernel
theorem dX6_syntaxError_4 : decode cX6_syntaxError 4 = .ok (.ireturn, 1) := by decide +kernel
theorem dX6_endOf_0 : decode cX6_endOf 0 = .ok (.iload_n 1, 1) := by decide +kernel
theorem dX6_endOf_1 : decode cX6_endOf 1 = .ok (.istore_n 2, 1) := by decide +kernel
theorem dX6_endOf_2 : decode cX6_endOf 2 = .ok (.iload_n 2, 1) := by decide +kernel
theorem dX6_endOf_3 : decode cX6_endOf 3 = .ok (.aload_n 0, 1) := by decide +kernel
theorem dX6_endOf_4 : decode cX6_endOf 4 = .ok (.getfield 48, 3) := by decide +kernel
theorem dX6_endOf_7 : decode cX6_endOf 7 = .ok (.if_icmp .ge 20, 3) := by decide +kernel
theorem dX6_endOf_10 : decode cX6_endOf 10 = .ok (.aload_n 0, 1) := by decide +kernel
theorem dX6_endOf_11 : decode cX6_endOf 11 = .ok (.getfield 19, 3) := by decide +kernel
theorem dX6_endOf_14 : decode cX6_endOf 14 = .ok (.iload_n 2, 1) := by decide +kernel
theorem dX6_endOf_15 : decode cX6_endOf 15 = .ok (.iaload, 1) := by decide +kernel
theorem dX6_endOf_16 : decode cX6_endOf 16 = .ok (.bipush 44, 2) := by decide +kernel
theorem dX6_endOf_18 : decode cX6_endOf 18 = .ok (.if_icmp .eq 9, 3) := by decide +kernel
theorem dX6_endOf_21 : decode cX6_endOf 21 = .ok (.iinc 2 1, 3) := by decide +kernel
theorem dX6_endOf_24 : decode cX6_endOf 24 = .ok (.goto (-22), 3) := by decide +kernel
theorem dX6_endOf_27 : decode cX6_endOf 27 = .ok (.iload_n 2, 1) := by decide +kernel
theorem dX6_endOf_28 : decode cX6_endOf 28 = .ok (.ireturn, 1) := by decide +kernel
set_option maxRecDepth 20000 in
theorem ggX6_compares_X6_letter : GoodIn wsX6_compares wsX6_letter := goodIn_r _ [7, 1, 8, 9, 10, 11, 12, 13, 14, 15, 16, 17, 18, 19] (by decide +kernel) (by decide +kernel)
set_option maxRecDepth 20000 in
theorem gX6_compares_X6_letter : GoodIn wsX6_compares (wsV RX6 59 RX6 yX6_letter wsX6_letter) := goodIn_app (goodIn_of _ (by decide +kernel)) ggX6_compares_X6_letter
theorem dX6_compares_0 : decode cX6_compares 0 = .ok (.iconst 0, 1) := by decide +kernel
theorem dX6_compares_1 : decode cX6_compares 1 = .ok (.istore 4, 2) := by decide +kernel
theorem dX6_compares_3 : decode cX6_compares 3 = .ok (.iload 4, 2) := by decide +kernel
theorem dX6_compares_5 : decode cX6_compares 5 = .ok (.iload_n 3, 1) := by decide +kernel
theorem dX6_compares_6 : decode cX6_compares 6 = .ok (.iload_n 2, 1) := by decide +kernel
theorem dX6_compares_7 : decode cX6_compares 7 = .ok (.isub, 1) := by decide +kernel
theorem dX6_compares_8 : decode cX6_compares 8 = .ok (.if_icmp .ge 52, 3) := by decide +kernel
theorem dX6_compares_11 : decode cX6_compares 11 = .ok (.iload 4, 2) := by decide +kernel
theorem dX6_compares_13 : decode cX6_compares 13 = .ok (.aload_n 0, 1) := by decide +kernel
theorem dX6_compares_14 : decode cX6_compares 14 = .ok (.getfield 7, 3) := by decide +kernel
theorem dX6_compares_17 : decode cX6_compares 17 = .ok (.bipush 49, 2) := by decide +kernel
theorem dX6_compares_19 : decode cX6_compares 19 = .ok (.iload_n 1, 1) := by decide +kernel
theorem dX6_compares_20 : decode cX6_compares 20 = .ok (.iadd, 1) := by decide +kernel
theorem dX6_compares_21 : decode cX6_compares 21 = .ok (.iaload, 1) := by decide +kernel
theorem dX6_compares_22 : decode cX6_compares 22 = .ok (.if_icmp .ne 5, 3) := by decide +kernel
theorem dX6_compares_25 : decode cX6_compares 25 = .ok (.iconst (-1), 1) := by decide +kernel
theorem dX6_compares_26 : decode cX6_compares 26 = .ok (.ireturn, 1) := by decide +kernel
theorem dX6_compares_27 : decode cX6_compares 27 = .ok (.aload_n 0, 1) := by decide +kernel
theorem dX6_compares_28 : decode cX6_compares 28 = .ok (.iload_n 1, 1) := by decide +kernel
theorem dX6_compares_29 : decode cX6_compares 29 = .ok (.iload 4, 2) := by decide +kernel
theorem dX6_compares_31 : decode cX6_compares 31 = .ok (.invokevirtual 59, 3) := by decide +kernel
theorem dX6_compares_34 : decode cX6_compares 34 = .ok (.aload_n 0, 1) := by decide +kernel
theorem dX6_compares_35 : decode cX6_compares 35 = .ok (.getfield 19, 3) := by decide +kernel
theorem dX6_compares_38 : decode cX6_compares 38 = .ok (.iload_n 2, 1) := by decide +kernel
theorem dX6_compares_39 : decode cX6_compares 39 = .ok (.iload 4, 2) := by decide +kernel
theorem dX6_compares_41 : decode cX6_compares 41 = .ok (.iadd, 1) := by decide +kernel
theorem dX6_compares_42 : decode cX6_compares 42 = .ok (.iaload, 1) := by decide +kernel
theorem dX6_compares_43 : decode cX6_compares 43 = .ok (.isub, 1) := by decide +kernel
theorem dX6_compares_44 : decode cX6_compares 44 = .ok (.istore 5, 2) := by decide +kernel
theorem dX6_compares_46 : decode cX6_compares 46 = .ok (.iload 5, 2) := by decide +kernel
theorem dX6_compares_48 : decode cX6_compares 48 = .ok (.ifCond .eq 6, 3) := by decide +kernel
theorem dX6_compares_51 : decode cX6_compares 51 = .ok (.iload 5, 2) := by decide +kernel
theorem dX6_compares_53 : decode cX6_compares 53 = .ok (.ireturn, 1) := by decide +kernel
theorem dX6_compares_54 : decode cX6_compares 54 = .ok (.iinc 4 1, 3) := by decide +kernel
theorem dX6_compares_57 : decode cX6_compares 57 = .ok (.goto (-54), 3) := by decide +kernel
theorem dX6_compares_60 : decode cX6_compares 60 = .ok (.aload_n 0, 1) := by decide +kernel
theorem dX6_compares_61 : decode cX6_compares 61 = .ok (.getfield 7, 3) := by decide +kernel
theorem dX6_compares_64 : decode cX6_compares 64 = .ok (.bipush 49, 2) := by decide +kernel
theorem dX6_compares_66 : decode cX6_compares 66 = .ok (.iload_n 1, 1) := by decide +kernel
theorem dX6_compares_67 : decode cX6_compares 67 = .ok (.iadd, 1) := by decide +kernel
theorem dX6_compares_68 : decode cX6_compares 68 = .ok (.iaload, 1) := by decide +kernel
theorem dX6_compares_69 : decode cX6_compares 69 = .ok (.iload_n 3, 1) := by decide +kernel
theorem dX6_compares_70 : decode cX6_compares 70 = .ok (.iload_n 2, 1) := by decide +kernel
theorem dX6_compares_71 : decode cX6_compares 71 = .ok (.isub, 1) := by decide +kernel
theorem dX6_compares_72 : decode cX6_compares 72 = .ok (.isub, 1) := by decide +kernel
theorem dX6_compares_73 : decode cX6_compares 73 = .ok (.ireturn, 1) := by decide +kernel
set_option maxRecDepth 20000 in
theorem ggX6_placeFor_X6_compares : GoodIn wsX6_placeFor wsX6_compares := goodIn_r _ [6, 1, 7, 8, 9, 10, 5, 11, 12, 13, 14, 15, 16, 17, 18, 19, 20, 21, 22, 23] (by decide +kernel) (by decide +kernel)
set_option maxRecDepth 20000 in
theorem gX6_placeFor_X6_compares : GoodIn wsX6_placeFor (wsV RX6 63 RX6 yX6_compares wsX6_compares) := goodIn_app (goodIn_of _ (by decide +kernel)) ggX6_placeFor_X6_compares
theorem dX6_placeFor_0 : decode cX6_placeFor 0 = .ok (.iconst 0, 1) := by decide +kernel
theorem dX6_placeFor_1 : decode cX6_placeFor 1 = .ok (.istore_n 3, 1) := by decide +kernel
theorem dX6_placeFor_2 : decode cX6_placeFor 2 = .ok (.iload_n 3, 1) := by decide +kernel
theorem dX6_placeFor_3 : decode cX6_placeFor 3 = .ok (.aload_n 0, 1) := by decide +kernel
theorem dX6_placeFor_4 : decode cX6_placeFor 4 = .ok (.getfield 7, 3) := by decide +kernel
theorem dX6_placeFor_7 : decode cX6_placeFor 7 = .ok (.iconst 0, 1) := by decide +kernel
theorem dX6_placeFor_8 : decode cX6_placeFor 8 = .ok (.iaload, 1) := by decide +kernel
theorem dX6_placeFor_9 : decode cX6_placeFor 9 = .ok (.if_icmp .ge 19, 3) := by decide +kernel
theorem dX6_placeFor_12 : decode cX6_placeFor 12 = .ok (.aload_n 0, 1) := by decide +kernel
theorem dX6_placeFor_13 : decode cX6_placeFor 13 = .ok (.iload_n 3, 1) := by decide +kernel
theorem dX6_placeFor_14 : decode cX6_placeFor 14 = .ok (.iload_n 1, 1) := by decide +kernel
theorem dX6_placeFor_15 : decode cX6_placeFor 15 = .ok (.iload_n 2, 1) := by decide +kernel
theorem dX6_placeFor_16 : decode cX6_placeFor 16 = .ok (.invokevirtual 63, 3) := by decide +kernel
theorem dX6_placeFor_19 : decode cX6_placeFor 19 = .ok (.ifCond .ge 9, 3) := by decide +kernel
theorem dX6_placeFor_22 : decode cX6_placeFor 22 = .ok (.iinc 3 1, 3) := by decide +kernel
theorem dX6_placeFor_25 : decode cX6_placeFor 25 = .ok (.goto (-23), 3) := by decide +kernel
theorem dX6_placeFor_28 : decode cX6_placeFor 28 = .ok (.iload_n 3, 1) := by decide +kernel
theorem dX6_placeFor_29 : decode cX6_placeFor 29 = .ok (.ireturn, 1) := by decide +kernel
set_option maxRecDepth 20000 in
theorem ggX6_isIn_X6_placeFor : GoodIn wsX6_isIn wsX6_placeFor := goodIn_r _ [6, 1, 7, 8, 9, 5, 10, 11, 12, 13, 14, 15, 16, 17, 18, 19, 20, 21, 22, 23, 24, 25, 26, 27] (by decide +kernel) (by decide +kernel)
set_option maxRecDepth 20000 in
theorem gX6_isIn_X6_placeFor : GoodIn wsX6_isIn (wsV RX6 67 RX6 yX6_placeFor wsX6_placeFor) := goodIn_app (goodIn_of _ (by decide +kernel)) ggX6_isIn_X6_placeFor
set_option maxRecDepth 20000 in
theorem ggX6_isIn_X6_compares : GoodIn wsX6_isIn wsX6_compares := goodIn_r _ [10, 1, 11, 12, 13, 14, 5, 15, 16, 17, 18, 19, 20, 21, 22, 23, 24, 25, 26, 27] (by decide +kernel) (by decide +kernel)
set_option maxRecDepth 20000 in
theorem gX6_isIn_X6_compares : GoodIn wsX6_isIn (wsV RX6 63 RX6 yX6_compares wsX6_compares) := goodIn_app (goodIn_of _ (by decide +kernel)) ggX6_isIn_X6_compares
theorem dX6_isIn_0 : decode cX6_isIn 0 = .ok (.aload_n 0, 1) := by decide +kernel
theorem dX6_isIn_1 : decode cX6_isIn 1 = .ok (.iload_n 1, 1) := by decide +kernel
theorem dX6_isIn_2 : decode cX6_isIn 2 = .ok (.iload_n 2, 1) := by decide +kernel
theorem dX6_isIn_3 : decode cX6_isIn 3 = .ok (.invokevirtual 67, 3) := by decide +kernel
theorem dX6_isIn_6 : decode cX6_isIn 6 = .ok (.istore_n 3, 1) := by decide +kernel
theorem dX6_isIn_7 : decode cX6_isIn 7 = .ok (.iload_n 3, 1) := by decide +kernel
theorem dX6_isIn_8 : decode cX6_isIn 8 = .ok (.aload_n 0, 1) := by decide +kernel
theorem dX6_isIn_9 : decode cX6_isIn 9 = .ok (.getfield 7, 3) := by decide +kernel
theorem dX6_isIn_12 : decode cX6_isIn 12 = .ok (.iconst 0, 1) := by decide +kernel
theorem dX6_isIn_13 : decode cX6_isIn 13 = .ok (.iaload, 1) := by decide +kernel
theorem dX6_isIn_14 : decode cX6_isIn 14 = .ok (.if_icmp .ge 17, 3) := by decide +kernel
theorem dX6_isIn_17 : decode cX6_isIn 17 = .ok (.aload_n 0, 1) := by decide +kernel
theorem dX6_isIn_18 : decode cX6_isIn 18 = .ok (.iload_n 3, 1) := by decide +kernel
theorem dX6_isIn_19 : decode cX6_isIn 19 = .ok (.iload_n 1, 1) := by decide +kernel
theorem dX6_isIn_20 : decode cX6_isIn 20 = .ok (.iload_n 2, 1) := by decide +kernel
theorem dX6_isIn_21 : decode cX6_isIn 21 = .ok (.invokevirtual 63, 3) := by decide +kernel
theorem dX6_isIn_24 : decode cX6_isIn 24 = .ok (.ifCond .ne 7, 3) := by decide +kernel
theorem dX6_isIn_27 : decode cX6_isIn 27 = .ok (.iconst 1, 1) := by decide +kernel
theorem dX6_isIn_28 : decode cX6_isIn 28 = .ok (.goto 4, 3) := by decide +kernel
theorem dX6_isIn_31 : decode cX6_isIn 31 = .ok (.iconst 0, 1) := by decide +kernel
theorem dX6_isIn_32 : decode cX6_isIn 32 = .ok (.ireturn, 1) := by decide +kernel
theorem dX6_noGame_0 : decode cX6_noGame 0 = .ok (.iconst 2, 1) := by decide +kernel
theorem dX6_noGame_1 : decode cX6_noGame 1 = .ok (.istore_n 1, 1) := by decide +kernel
theorem dX6_noGame_2 : decode cX6_noGame 2 = .ok (.iload_n 1, 1) := by decide +kernel
theorem dX6_noGame_3 : decode cX6_noGame 3 = .ok (.bipush 8, 2) := by decide +kernel
theorem dX6_noGame_5 : decode cX6_noGame 5 = .ok (.if_icmp .ge 16, 3) := by decide +kernel
theorem dX6_noGame_8 : decode cX6_noGame 8 = .ok (.aload_n 0, 1) := by decide +kernel
theorem dX6_noGame_9 : decode cX6_noGame 9 = .ok (.getfield 7, 3) := by decide +kernel
theorem dX6_noGame_12 : decode cX6_noGame 12 = .ok (.iload_n 1, 1) := by decide +kernel
theorem dX6_noGame_13 : decode cX6_noGame 13 = .ok (.iconst 0, 1) := by decide +kernel
theorem dX6_noGame_14 : decode cX6_noGame 14 = .ok (.iastore, 1) := by decide +kernel
theorem dX6_noGame_15 : decode cX6_noGame 15 = .ok (.iinc 1 1, 3) := by decide +kernel
theorem dX6_noGame_18 : decode cX6_noGame 18 = .ok (.goto (-16), 3) := by decide +kernel
theorem dX6_noGame_21 : decode cX6_noGame 21 = .ok (.bipush 15, 2) := by decide +kernel
theorem dX6_noGame_23 : decode cX6_noGame 23 = .ok (.istore_n 1, 1) := by decide +kernel
theorem dX6_noGame_24 : decode cX6_noGame 24 = .ok (.iload_n 1, 1) := by decide +kernel
theorem dX6_noGame_25 : decode cX6_noGame 25 = .ok (.bipush 49, 2) := by decide +kernel
theorem dX6_noGame_27 : decode cX6_noGame 27 = .ok (.if_icmp .ge 16, 3) := by decide +kernel
theorem dX6_noGame_30 : decode cX6_noGame 30 = .ok (.aload_n 0, 1) := by decide +kernel
theorem dX6_noGame_31 : decode cX6_noGame 31 = .ok (.getfield 7, 3) := by decide +kernel
theorem dX6_noGame_34 : decode cX6_noGame 34 = .ok (.iload_n 1, 1) := by decide +kernel
theorem dX6_noGame_35 : decode cX6_noGame 35 = .ok (.iconst 0, 1) := by decide +kernel
theorem dX6_noGame_36 : decode cX6_noGame 36 = .ok (.iastore, 1) := by decide +kernel
theorem dX6_noGame_37 : decode cX6_noGame 37 = .ok (.iinc 1 1, 3) := by decide +kernel
theorem dX6_noGame_40 : decode cX6_noGame 40 = .ok (.goto (-16), 3) := by decide +kernel
theorem dX6_noGame_43 : decode cX6_noGame 43 = .ok (.return_, 1) := by decide +kernel
set_option maxRecDepth 20000 in
theorem ggX6_puts_X6_placeFor : GoodIn wsX6_puts wsX6_placeFor := goodIn_r _ [7, 1, 8, 9, 10, 6, 11, 2, 12, 13, 14, 15, 16, 17, 18, 19, 20, 21, 22, 23, 24, 25, 26, 27] (by decide +kernel) (by decide +kernel)
set_option maxRecDepth 20000 in
theorem gX6_puts_X6_placeFor : GoodIn wsX6_puts (wsV RX6 67 RX6 yX6_placeFor wsX6_placeFor) := goodIn_app (goodIn_of _ (by decide +kernel)) ggX6_puts_X6_placeFor
set_option maxRecDepth 20000 in
theorem ggX6_puts_X6_letter : GoodIn wsX6_puts wsX6_letter := goodIn_r _ [15, 1, 16, 17, 18, 19, 20, 21, 22, 23, 24, 25, 26, 27] (by decide +kernel) (by decide +kernel)
set_option maxRecDepth 20000 in
theorem gX6_puts_X6_letter : GoodIn wsX6_puts (wsV RX6 59 RX6 yX6_letter wsX6_letter) := goodIn_app (goodIn_of _ (by decide +kernel)) ggX6_puts_X6_letter
theorem dX6_puts_0 : decode cX6_puts 0 = .ok (.aload_n 0, 1) := by decide +kernel
theorem dX6_puts_1 : decode cX6_puts 1 = .ok (.iload_n 1, 1) := by decide +kernel
theorem dX6_puts_2 : decode cX6_puts 2 = .ok (.iload_n 2, 1) := by decide +kernel
theorem dX6_puts_3 : decode cX6_puts 3 = .ok (.invokevirtual 67, 3) := by decide +kernel
theorem dX6_puts_6 : decode cX6_puts 6 = .ok (.istore_n 3, 1) := by decide +kernel
theorem dX6_puts_7 : decode cX6_puts 7 = .ok (.aload_n 0, 1) := by decide +kernel
theorem dX6_puts_8 : decode cX6_puts 8 = .ok (.getfield 7, 3) := by decide +kernel
theorem dX6_puts_11 : decode cX6_puts 11 = .ok (.iconst 0, 1) := by decide +kernel
theorem dX6_puts_12 : decode cX6_puts 12 = .ok (.iaload, 1) := by decide +kernel
theorem dX6_puts_13 : decode cX6_puts 13 = .ok (.istore 4, 2) := by decide +kernel
theorem dX6_puts_15 : decode cX6_puts 15 = .ok (.iload 4, 2) := by decide +kernel
theorem dX6_puts_17 : decode cX6_puts 17 = .ok (.iload_n 3, 1) := by decide +kernel
theorem dX6_puts_18 : decode cX6_puts 18 = .ok (.if_icmp .le 73, 3) := by decide +kernel
theorem dX6_puts_21 : decode cX6_puts 21 = .ok (.aload_n 0, 1) := by decide +kernel
theorem dX6_puts_22 : decode cX6_puts 22 = .ok (.getfield 7, 3) := by decide +kernel
theorem dX6_puts_25 : decode cX6_puts 25 = .ok (.bipush 49, 2) := by decide +kernel
theorem dX6_puts_27 : decode cX6_puts 27 = .ok (.iload 4, 2) := by decide +kernel
theorem dX6_puts_29 : decode cX6_puts 29 = .ok (.iadd, 1) := by decide +kernel
theorem dX6_puts_30 : decode cX6_puts 30 = .ok (.aload_n 0, 1) := by decide +kernel
theorem dX6_puts_31 : decode cX6_puts 31 = .ok (.getfield 7, 3) := by decide +kernel
theorem dX6_puts_34 : decode cX6_puts 34 = .ok (.bipush 49, 2) := by decide +kernel
theorem dX6_puts_36 : decode cX6_puts 36 = .ok (.iload 4, 2) := by decide +kernel
theorem dX6_puts_38 : decode cX6_puts 38 = .ok (.iadd, 1) := by decide +kernel
theorem dX6_puts_39 : decode cX6_puts 39 = .ok (.iconst 1, 1) := by decide +kernel
theorem dX6_puts_40 : decode cX6_puts 40 = .ok (.isub, 1) := by decide +kernel
theorem dX6_puts_41 : decode cX6_puts 41 = .ok (.iaload, 1) := by decide +kernel
theorem dX6_puts_42 : decode cX6_puts 42 = .ok (.iastore, 1) := by decide +kernel
theorem dX6_puts_43 : decode cX6_puts 43 = .ok (.iconst 0, 1) := by decide +kernel
theorem dX6_puts_44 : decode cX6_puts 44 = .ok (.istore 5, 2) := by decide +kernel
theorem dX6_puts_46 : decode cX6_puts 46 = .ok (.iload 5, 2) := by decide +kernel
theorem dX6_puts_48 : decode cX6_puts 48 = .ok (.bipush 8, 2) := by decide +kernel
theorem dX6_puts_50 : decode cX6_puts 50 = .ok (.if_icmp .ge 35, 3) := by decide +kernel
theorem dX6_puts_53 : decode cX6_puts 53 = .ok (.aload_n 0, 1) := by decide +kernel
theorem dX6_puts_54 : decode cX6_puts 54 = .ok (.getfield 7, 3) := by decide +kernel
theorem dX6_puts_57 : decode cX6_puts 57 = .ok (.bipush 79, 2) := by decide +kernel
theorem dX6_puts_59 : decode cX6_puts 59 = .ok (.bipush 8, 2) := by decide +kernel
theorem dX6_puts_61 : decode cX6_puts 61 = .ok (.iload 4, 2) := by decide +kernel
theorem dX6_puts_63 : decode cX6_puts 63 = .ok (.imul, 1) := by decide +kernel
theorem dX6_puts_64 : decode cX6_puts 64 = .ok (.iadd, 1) := by decide +kernel
theorem dX6_puts_65 : decode cX6_puts 65 = .ok (.iload 5, 2) := by decide +kernel
theorem dX6_puts_67 : decode cX6_puts 67 = .ok (.iadd, 1) := by decide +kernel
theorem dX6_puts_68 : decode cX6_puts 68 = .ok (.aload_n 0, 1) := by decide +kernel
theorem dX6_puts_69 : decode cX6_puts 69 = .ok (.iload 4, 2) := by decide +kernel
theorem dX6_puts_71 : decode cX6_puts 71 = .ok (.iconst 1, 1) := by decide +kernel
theorem dX6_puts_72 : decode cX6_puts 72 = .ok (.isub, 1) := by decide +kernel
theorem dX6_puts_73 : decode cX6_puts 73 = .ok (.iload 5, 2) := by decide +kernel
theorem dX6_puts_75 : decode cX6_puts 75 = .ok (.invokevirtual 59, 3) := by decide +kernel
theorem dX6_puts_78 : decode cX6_puts 78 = .ok (.iastore, 1) := by decide +kernel
theorem dX6_puts_79 : decode cX6_puts 79 = .ok (.iinc 5 1, 3) := by decide +kernel
theorem dX6_puts_82 : decode cX6_puts 82 = .ok (.goto (-36), 3) := by decide +kernel
theorem dX6_puts_85 : decode cX6_puts 85 = .ok (.iinc 4 (-1), 3) := by decide +kernel
theorem dX6_puts_88 : decode cX6_puts 88 = .ok (.goto (-73), 3) := by decide +kernel
theorem dX6_puts_91 : decode cX6_puts 91 = .ok (.aload_n 0, 1) := by decide +kernel
theorem dX6_puts_92 : decode cX6_puts 92 = .ok (.getfield 7, 3) := by decide +kernel
theorem dX6_puts_95 : decode cX6_puts 95 = .ok (.bipush 49, 2) := by decide +kernel
theorem dX6_puts_97 : decode cX6_puts 97 = .ok (.iload_n 3, 1) := by decide +kernel
theorem dX6_puts_98 : decode cX6_puts 98 = .ok (.iadd, 1) := by decide +kernel
theorem dX6_puts_99 : decode cX6_puts 99 = .ok (.iload_n 2, 1) := by decide +kernel
theorem dX6_puts_100 : decode cX6_puts 100 = .ok (.iload_n 1, 1) := by decide +kernel
theorem dX6_puts_101 : decode cX6_puts 101 = .ok (.isub, 1) := by decide +kernel
theorem dX6_puts_102 : decode cX6_puts 102 = .ok (.iastore, 1) := by decide +kernel
theorem dX6_puts_103 : decode cX6_puts 103 = .ok (.iconst 0, 1) := by decide +kernel
theorem dX6_puts_104 : decode cX6_puts 104 = .ok (.istore 4, 2) := by decide +kernel
theorem dX6_puts_106 : decode cX6_puts 106 = .ok (.iload 4, 2) := by decide +kernel
theorem dX6_puts_108 : decode cX6_puts 108 = .ok (.bipush 8, 2) := by decide +kernel
theorem dX6_puts_110 : decode cX6_puts 110 = .ok (.if_icmp .ge 45, 3) := by decide +kernel
theorem dX6_puts_113 : decode cX6_puts 113 = .ok (.aload_n 0, 1) := by decide +kernel
theorem dX6_puts_114 : decode cX6_puts 114 = .ok (.getfield 7, 3) := by decide +kernel
theorem dX6_puts_117 : decode cX6_puts 117 = .ok (.bipush 79, 2) := by decide +kernel
theorem dX6_puts_119 : decode cX6_puts 119 = .ok (.bipush 8, 2) := by decide +kernel
theorem dX6_puts_121 : decode cX6_puts 121 = .ok (.iload_n 3, 1) := by decide +kernel
theorem dX6_puts_122 : decode cX6_puts 122 = .ok (.imul, 1) := by decide +kernel
theorem dX6_puts_123 : decode cX6_puts 123 = .ok (.iadd, 1) := by decide +kernel
theorem dX6_puts_124 : decode cX6_puts 124 = .ok (.iload 4, 2) := by decide +kernel
theorem dX6_puts_126 : decode cX6_puts 126 = .ok (.iadd, 1) := by decide +kernel
theorem dX6_puts_127 : decode cX6_puts 127 = .ok (.iload_n 1, 1) := by decide +kernel
theorem dX6_puts_128 : decode cX6_puts 128 = .ok (.iload 4, 2) := by decide +kernel
theorem dX6_puts_130 : decode cX6_puts 130 = .ok (.iadd, 1) := by decide +kernel
theorem dX6_puts_131 : decode cX6_puts 131 = .ok (.iload_n 2, 1) := by decide +kernel
theorem dX6_puts_132 : decode cX6_puts 132 = .ok (.if_icmp .ge 15, 3) := by decide +kernel
theorem dX6_puts_135 : decode cX6_puts 135 = .ok (.aload_n 0, 1) := by decide +kernel
theorem dX6_puts_136 : decode cX6_puts 136 = .ok (.getfield 19, 3) := by decide +kernel
theorem dX6_puts_139 : decode cX6_puts 139 = .ok (.iload_n 1, 1) := by decide +kernel
theorem dX6_puts_140 : decode cX6_puts 140 = .ok (.iload 4, 2) := by decide +kernel
theorem dX6_puts_142 : decode cX6_puts 142 = .ok (.iadd, 1) := by decide +kernel
theorem dX6_puts_143 : decode cX6_puts 143 = .ok (.iaload, 1) := by decide +kernel
theorem dX6_puts_144 : decode cX6_puts 144 = .ok (.goto 4, 3) := by decide +kernel
theorem dX6_puts_147 : decode cX6_puts 147 = .ok (.iconst 0, 1) := by decide +kernel
theorem dX6_puts_148 : decode cX6_puts 148 = .ok (.iastore, 1) := by decide +kernel
theorem dX6_puts_149 : decode cX6_puts 149 = .ok (.iinc 4 1, 3) := by decide +kernel
theorem dX6_puts_152 : decode cX6_puts 152 = .ok (.goto (-46), 3) := by decide +kernel
theorem dX6_puts_155 : decode cX6_puts 155 = .ok (.aload_n 0, 1) := by decide +kernel
theorem dX6_puts_156 : decode cX6_puts 156 = .ok (.getfield 7, 3) := by decide +kernel
theorem dX6_puts_159 : decode cX6_puts 159 = .ok (.iconst 0, 1) := by decide +kernel
theorem dX6_puts_160 : decode cX6_puts 160 = .ok (.dup2, 1) := by decide +kernel
theorem dX6_puts_161 : decode cX6_puts 161 = .ok (.iaload, 1) := by decide +kernel
theorem dX6_puts_162 : decode cX6_puts 162 = .ok (.iconst 1, 1) := by decide +kernel
theorem dX6_puts_163 : decode cX6_puts 163 = .ok (.iadd, 1) := by decide +kernel
theorem dX6_puts_164 : decode cX6_puts 164 = .ok (.iastore, 1) := by decide +kernel
theorem dX6_puts_165 : decode cX6_puts 165 = .ok (.return_, 1) := by decide +kernel
set_option maxRecDepth 20000 in
theorem ggX6_addWords_X6_error : GoodIn wsX6_addWords wsX6_error := goodIn_r _ [7, 1, 8, 9, 10, 6, 11, 12, 13, 14, 66, 67, 68, 69, 70, 71, 72, 73, 74, 75, 76, 77] (by decide +kernel) (by decide +kernel)
set_option maxRecDepth 20000 in
theorem gX6_addWords_X6_error : GoodIn wsX6_addWords (wsV RX6 55 RX6 yX6_error wsX6_error) := goodIn_app (goodIn_of _ (by decide +kernel)) ggX6_addWords_X6_error
set_option maxRecDepth 20000 in
theorem ggX6_addWords_X6_runs : GoodIn wsX6_addWords wsX6_runs := goodIn_r _ [18, 2, 66, 67, 68, 69, 70, 71, 72, 73, 74, 75, 76, 77] (by decide +kernel) (by decide +kernel)
set_option maxRecDepth 20000 in
theorem gX6_addWords_X6_runs : GoodIn wsX6_addWords (wsV RX6 70 RX6 yX6_runs wsX6_runs) := goodIn_app (goodIn_of _ (by decide +kernel)) ggX6_addWords_X6_runs
set_option maxRecDepth 20000 in
theorem ggX6_addWords_X6_putAside : GoodIn wsX6_addWords wsX6_putAside := goodIn_r _ [22, 23, 2, 66, 67, 68, 69, 70, 71, 72, 73, 74, 75, 76, 77] (by decide +kernel) (by decide +kernel)
set_option maxRecDepth 20000 in
theorem gX6_addWords_X6_putAside : GoodIn wsX6_addWords (wsV RX6 74 RX6 yX6_putAside wsX6_putAside) := goodIn_app (goodIn_of _ (by decide +kernel)) ggX6_addWords_X6_putAside
set_option maxRecDepth 20000 in
theorem ggX6_addWords_X6_endOf : GoodIn wsX6_addWords wsX6_endOf := goodIn_r _ [27, 1, 8, 66, 67, 68, 69, 70, 71, 72, 73, 74, 75, 76, 77] (by decide +kernel) (by decide +kernel)
set_option maxRecDepth 20000 in
theorem gX6_addWords_X6_endOf : GoodIn wsX6_addWords (wsV RX6 77 RX6 yX6_endOf wsX6_endOf) := goodIn_app (goodIn_of _ (by decide +kernel)) ggX6_addWords_X6_endOf
set_option maxRecDepth 20000 in
theorem ggX6_addWords_X6_isIn : GoodIn wsX6_addWords wsX6_isIn := goodIn_r _ [31, 2, 32, 33, 34, 6, 35, 36, 37, 38, 39, 8, 40, 41, 42, 43, 66, 67, 68, 69, 70, 71, 72, 73, 74, 75, 76, 77] (by decide +kernel) (by decide +kernel)
set_option maxRecDepth 20000 in
theorem gX6_addWords_X6_isIn : GoodIn wsX6_addWords (wsV RX6 81 RX6 yX6_isIn wsX6_isIn) := goodIn_app (goodIn_of _ (by decide +kernel)) ggX6_addWords_X6_isIn
set_option maxRecDepth 20000 in
theorem ggX6_addWords_X6_puts : GoodIn wsX6_addWords wsX6_puts := goodIn_r _ [47, 2, 8, 32, 33, 34, 6, 35, 36, 37, 38, 39, 40, 41, 42, 43, 66, 67, 68, 69, 70, 71, 72, 73, 74, 75, 76, 77] (by decide +kernel) (by decide +kernel)
set_option maxRecDepth 20000 in
theorem gX6_addWords_X6_puts : GoodIn wsX6_addWords (wsV RX6 85 RX6 yX6_puts wsX6_puts) := goodIn_app (goodIn_of _ (by decide +kernel)) ggX6_addWords_X6_puts
set_option maxRecDepth 20000 in
theorem ggX6_addWords_X6_putBack : GoodIn wsX6_addWords wsX6_putBack := goodIn_r _ [51, 2, 23, 66, 67, 68, 69, 70, 71, 72, 73, 74, 75, 76, 77] (by decide +kernel) (by decide +kernel)
set_option maxRecDepth 20000 in
theorem gX6_addWords_X6_putBack : GoodIn wsX6_addWords (wsV RX6 89 RX6 yX6_putBack wsX6_putBack) := goodIn_app (goodIn_of _ (by decide +kernel)) ggX6_addWords_X6_putBack
set_option maxRecDepth 20000 in
theorem ggX6_addWords_X6_savesAside : GoodIn wsX6_addWords wsX6_savesAside := goodIn_r _ [55, 2, 23, 56, 57, 58, 6, 59, 60, 61, 66, 67, 68, 69, 70, 71, 72, 73, 74, 75, 76, 77] (by decide +kernel) (by decide +kernel)
set_option maxRecDepth 20000 in
theorem gX6_addWords_X6_savesAside : GoodIn wsX6_addWords (wsV RX6 92 RX6 yX6_savesAside wsX6_savesAside) := goodIn_app (goodIn_of _ (by decide +kernel)) ggX6_addWords_X6_savesAside
set_option maxRecDepth 20000 in
theorem ggX6_addWords_X6_noGame : GoodIn wsX6_addWords wsX6_noGame := goodIn_r _ [65, 2, 66, 67, 68, 69, 70, 71, 72, 73, 74, 75, 76, 77] (by decide +kernel) (by decide +kernel)
set_option maxRecDepth 20000 in
theorem gX6_addWords_X6_noGame : GoodIn wsX6_addWords (wsV RX6 95 RX6 yX6_noGame wsX6_noGame) := goodIn_app (goodIn_of _ (by decide +kernel)) ggX6_addWords_X6_noGame
theorem dX6_addWords_0 : decode cX6_addWords 0 = .ok (.aload_n 0, 1) := by decide +kernel
theorem dX6_addWords_1 : decode cX6_addWords 1 = .ok (.invokevirtual 55, 3) := by decide +kernel
theorem dX6_addWords_4 : decode cX6_addWords 4 = .ok (.bipush (-6), 2) := by decide +kernel
theorem dX6_addWords_6 : decode cX6_addWords 6 = .ok (.if_icmp .eq 6, 3) := by decide +kernel
theorem dX6_addWords_9 : decode cX6_addWords 9 = .ok (.bipush (-5), 2) := by decide +kernel
theorem dX6_addWords_11 : decode cX6_addWords 11 = .ok (.ireturn, 1) := by decide +kernel
theorem dX6_addWords_12 : decode cX6_addWords 12 = .ok (.aload_n 0, 1) := by decide +kernel
theorem dX6_addWords_13 : decode cX6_addWords 13 = .ok (.invokevirtual 70, 3) := by decide +kernel
theorem dX6_addWords_16 : decode cX6_addWords 16 = .ok (.ifCond .eq 6, 3) := by decide +kernel
theorem dX6_addWords_19 : decode cX6_addWords 19 = .ok (.bipush (-3), 2) := by decide +kernel
theorem dX6_addWords_21 : decode cX6_addWords 21 = .ok (.ireturn, 1) := by decide +kernel
theorem dX6_addWords_22 : decode cX6_addWords 22 = .ok (.aload_n 0, 1) := by decide +kernel
theorem dX6_addWords_23 : decode cX6_addWords 23 = .ok (.invokevirtual 74, 3) := by decide +kernel
theorem dX6_addWords_26 : decode cX6_addWords 26 = .ok (.iconst 0, 1) := by decide +kernel
theorem dX6_addWords_27 : decode cX6_addWords 27 = .ok (.istore_n 1, 1) := by decide +kernel
theorem dX6_addWords_28 : decode cX6_addWords 28 = .ok (.iconst 0, 1) := by decide +kernel
theorem dX6_addWords_29 : decode cX6_addWords 29 = .ok (.istore_n 2, 1) := by decide +kernel
theorem dX6_addWords_30 : decode cX6_addWords 30 = .ok (.iconst 0, 1) := by decide +kernel
theorem dX6_addWords_31 : decode cX6_addWords 31 = .ok (.istore_n 3, 1) := by decide +kernel
theorem dX6_addWords_32 : decode cX6_addWords 32 = .ok (.iload_n 3, 1) := by decide +kernel
theorem dX6_addWords_33 : decode cX6_addWords 33 = .ok (.aload_n 0, 1) := by decide +kernel
theorem dX6_addWords_34 : decode cX6_addWords 34 = .ok (.getfield 48, 3) := by decide +kernel
theorem dX6_addWords_37 : decode cX6_addWords 37 = .ok (.if_icmp .ge 82, 3) := by decide +kernel
theorem dX6_addWords_40 : decode cX6_addWords 40 = .ok (.aload_n 0, 1) := by decide +kernel
theorem dX6_addWords_41 : decode cX6_addWords 41 = .ok (.iload_n 3, 1) := by decide +kernel
theorem dX6_addWords_42 : decode cX6_addWords 42 = .ok (.aload_n 0, 1) := by decide +kernel
theorem dX6_addWords_43 : decode cX6_addWords 43 = .ok (.iload_n 3, 1) := by decide +kernel
theorem dX6_addWords_44 : decode cX6_addWords 44 = .ok (.invokevirtual 77, 3) := by decide +kernel
theorem dX6_addWords_47 : decode cX6_addWords 47 = .ok (.invokevirtual 81, 3) := by decide +kernel
theorem dX6_addWords_50 : decode cX6_addWords 50 = .ok (.ifCond .ne 7, 3) := by decide +kernel
theorem dX6_addWords_53 : decode cX6_addWords 53 = .ok (.iconst 1, 1) := by decide +kernel
theorem dX6_addWords_54 : decode cX6_addWords 54 = .ok (.goto 4, 3) := by decide +kernel
theorem dX6_addWords_57 : decode cX6_addWords 57 = .ok (.iconst 0, 1) := by decide +kernel
theorem dX6_addWords_58 : decode cX6_addWords 58 = .ok (.istore 4, 2) := by decide +kernel
theorem dX6_addWords_60 : decode cX6_addWords 60 = .ok (.iload_n 2, 1) := by decide +kernel
theorem dX6_addWords_61 : decode cX6_addWords 61 = .ok (.ifCond .ne 19, 3) := by decide +kernel
theorem dX6_addWords_64 : decode cX6_addWords 64 = .ok (.iload 4, 2) := by decide +kernel
theorem dX6_addWords_66 : decode cX6_addWords 66 = .ok (.ifCond .eq 18, 3) := by decide +kernel
theorem dX6_addWords_69 : decode cX6_addWords 69 = .ok (.aload_n 0, 1) := by decide +kernel
theorem dX6_addWords_70 : decode cX6_addWords 70 = .ok (.getfield 7, 3) := by decide +kernel
theorem dX6_addWords_73 : decode cX6_addWords 73 = .ok (.iconst 0, 1) := by decide +kernel
theorem dX6_addWords_74 : decode cX6_addWords 74 = .ok (.iaload, 1) := by decide +kernel
theorem dX6_addWords_75 : decode cX6_addWords 75 = .ok (.bipush 30, 2) := by decide +kernel
theorem dX6_addWords_77 : decode cX6_addWords 77 = .ok (.if_icmp .ne 7, 3) := by decide +kernel
theorem dX6_addWords_80 : decode cX6_addWords 80 = .ok (.iconst 1, 1) := by decide +kernel
theorem dX6_addWords_81 : decode cX6_addWords 81 = .ok (.goto 4, 3) := by decide +kernel
theorem dX6_addWords_84 : decode cX6_addWords 84 = .ok (.iconst 0, 1) := by decide +kernel
theorem dX6_addWords_85 : decode cX6_addWords 85 = .ok (.istore_n 2, 1) := by decide +kernel
theorem dX6_addWords_86 : decode cX6_addWords 86 = .ok (.iload 4, 2) := by decide +kernel
theorem dX6_addWords_88 : decode cX6_addWords 88 = .ok (.ifCond .eq 20, 3) := by decide +kernel
theorem dX6_addWords_91 : decode cX6_addWords 91 = .ok (.iload_n 2, 1) := by decide +kernel
theorem dX6_addWords_92 : decode cX6_addWords 92 = .ok (.ifCond .ne 16, 3) := by decide +kernel
theorem dX6_addWords_95 : decode cX6_addWords 95 = .ok (.aload_n 0, 1) := by decide +kernel
theorem dX6_addWords_96 : decode cX6_addWords 96 = .ok (.iload_n 3, 1) := by decide +kernel
theorem dX6_addWords_97 : decode cX6_addWords 97 = .ok (.aload_n 0, 1) := by decide +kernel
theorem dX6_addWords_98 : decode cX6_addWords 98 = .ok (.iload_n 3, 1) := by decide +kernel
theorem dX6_addWords_99 : decode cX6_addWords 99 = .ok (.invokevirtual 77, 3) := by decide +kernel
theorem dX6_addWords_102 : decode cX6_addWords 102 = .ok (.invokevirtual 85, 3) := by decide +kernel
theorem dX6_addWords_105 : decode cX6_addWords 105 = .ok (.iinc 1 1, 3) := by decide +kernel
theorem dX6_addWords_108 : decode cX6_addWords 108 = .ok (.aload_n 0, 1) := by decide +kernel
theorem dX6_addWords_109 : decode cX6_addWords 109 = .ok (.iload_n 3, 1) := by decide +kernel
theorem dX6_addWords_110 : decode cX6_addWords 110 = .ok (.invokevirtual 77, 3) := by decide +kernel
theorem dX6_addWords_113 : decode cX6_addWords 113 = .ok (.iconst 1, 1) := by decide +kernel
theorem dX6_addWords_114 : decode cX6_addWords 114 = .ok (.iadd, 1) := by decide +kernel
theorem dX6_addWords_115 : decode cX6_addWords 115 = .ok (.istore_n 3, 1) := by decide +kernel
theorem dX6_addWords_116 : decode cX6_addWords 116 = .ok (.goto (-84), 3) := by decide +kernel
theorem dX6_addWords_119 : decode cX6_addWords 119 = .ok (.iload_n 2, 1) := by decide +kernel
theorem dX6_addWords_120 : decode cX6_addWords 120 = .ok (.ifCond .eq 10, 3) := by decide +kernel
theorem dX6_addWords_123 : decode cX6_addWords 123 = .ok (.aload_n 0, 1) := by decide +kernel
theorem dX6_addWords_124 : decode cX6_addWords 124 = .ok (.invokevirtual 89, 3) := by decide +kernel
theorem dX6_addWords_127 : decode cX6_addWords 127 = .ok (.bipush (-4), 2) := by decide +kernel
theorem dX6_addWords_129 : decode cX6_addWords 129 = .ok (.ireturn, 1) := by decide +kernel
theorem dX6_addWords_130 : decode cX6_addWords 130 = .ok (.aload_n 0, 1) := by decide +kernel
theorem dX6_addWords_131 : decode cX6_addWords 131 = .ok (.invokevirtual 92, 3) := by decide +kernel
theorem dX6_addWords_134 : decode cX6_addWords 134 = .ok (.aload_n 0, 1) := by decide +kernel
theorem dX6_addWords_135 : decode cX6_addWords 135 = .ok (.invokevirtual 95, 3) := by decide +kernel
theorem dX6_addWords_138 : decode cX6_addWords 138 = .ok (.aload_n 0, 1) := by decide +kernel
theorem dX6_addWords_139 : decode cX6_addWords 139 = .ok (.iconst 0, 1) := by decide +kernel
theorem dX6_addWords_140 : decode cX6_addWords 140 = .ok (.putfield 48, 3) := by decide +kernel
theorem dX6_addWords_143 : decode cX6_addWords 143 = .ok (.iload_n 1, 1) := by decide +kernel
theorem dX6_addWords_144 : decode cX6_addWords 144 = .ok (.ireturn, 1) := by decide +kernel
set_option maxRecDepth 20000 in
theorem ggX6_savesAside_X6_saves : GoodIn wsX6_savesAside wsX6_saves := goodIn_r _ [7, 8, 9, 1, 10, 11, 12, 13, 14, 15, 16, 17, 18, 19, 20, 21] (by decide +kernel) (by decide +kernel)
set_option maxRecDepth 20000 in
theorem gX6_savesAside_X6_saves : GoodIn wsX6_savesAside (wsV RX6 98 RX6 yX6_saves wsX6_saves) := goodIn_app (goodIn_of _ (by decide +kernel)) ggX6_savesAside_X6_saves
theorem dX6_savesAside_0 : decode cX6_savesAside 0 = .ok (.iconst 0, 1) := by decide +kernel
theorem dX6_savesAside_1 : decode cX6_savesAside 1 = .ok (.istore_n 1, 1) := by decide +kernel
theorem dX6_savesAside_2 : decode cX6_savesAside 2 = .ok (.iload_n 1, 1) := by decide +kernel
theorem dX6_savesAside_3 : decode cX6_savesAside 3 = .ok (.sipush 319, 3) := by decide +kernel
theorem dX6_savesAside_6 : decode cX6_savesAside 6 = .ok (.if_icmp .ge 35, 3) := by decide +kernel
theorem dX6_savesAside_9 : decode cX6_savesAside 9 = .ok (.aload_n 0, 1) := by decide +kernel
theorem dX6_savesAside_10 : decode cX6_savesAside 10 = .ok (.getfield 7, 3) := by decide +kernel
theorem dX6_savesAside_13 : decode cX6_savesAside 13 = .ok (.iload_n 1, 1) := by decide +kernel
theorem dX6_savesAside_14 : decode cX6_savesAside 14 = .ok (.iaload, 1) := by decide +kernel
theorem dX6_savesAside_15 : decode cX6_savesAside 15 = .ok (.istore_n 2, 1) := by decide +kernel
theorem dX6_savesAside_16 : decode cX6_savesAside 16 = .ok (.aload_n 0, 1) := by decide +kernel
theorem dX6_savesAside_17 : decode cX6_savesAside 17 = .ok (.getfield 7, 3) := by decide +kernel
theorem dX6_savesAside_20 : decode cX6_savesAside 20 = .ok (.iload_n 1, 1) := by decide +kernel
theorem dX6_savesAside_21 : decode cX6_savesAside 21 = .ok (.aload_n 0, 1) := by decide +kernel
theorem dX6_savesAside_22 : decode cX6_savesAside 22 = .ok (.getfield 13, 3) := by decide +kernel
theorem dX6_savesAside_25 : decode cX6_savesAside 25 = .ok (.iload_n 1, 1) := by decide +kernel
theorem dX6_savesAside_26 : decode cX6_savesAside 26 = .ok (.iaload, 1) := by decide +kernel
theorem dX6_savesAside_27 : decode cX6_savesAside 27 = .ok (.iastore, 1) := by decide +kernel
theorem dX6_savesAside_28 : decode cX6_savesAside 28 = .ok (.aload_n 0, 1) := by decide +kernel
theorem dX6_savesAside_29 : decode cX6_savesAside 29 = .ok (.getfield 13, 3) := by decide +kernel
theorem dX6_savesAside_32 : decode cX6_savesAside 32 = .ok (.iload_n 1, 1) := by decide +kernel
theorem dX6_savesAside_33 : decode cX6_savesAside 33 = .ok (.iload_n 2, 1) := by decide +kernel
theorem dX6_savesAside_34 : decode cX6_savesAside 34 = .ok (.iastore, 1) := by decide +kernel
theorem dX6_savesAside_35 : decode cX6_savesAside 35 = .ok (.iinc 1 1, 3) := by decide +kernel
theorem dX6_savesAside_38 : decode cX6_savesAside 38 = .ok (.goto (-36), 3) := by decide +kernel
theorem dX6_savesAside_41 : decode cX6_savesAside 41 = .ok (.aload_n 0, 1) := by decide +kernel
theorem dX6_savesAside_42 : decode cX6_savesAside 42 = .ok (.invokevirtual 98, 3) := by decide +kernel
theorem dX6_savesAside_45 : decode cX6_savesAside 45 = .ok (.iconst 0, 1) := by decide +kernel
theorem dX6_savesAside_46 : decode cX6_savesAside 46 = .ok (.istore_n 1, 1) := by decide +kernel
theorem dX6_savesAside_47 : decode cX6_savesAside 47 = .ok (.iload_n 1, 1) := by decide +kernel
theorem dX6_savesAside_48 : decode cX6_savesAside 48 = .ok (.sipush 319, 3) := by decide +kernel
theorem dX6_savesAside_51 : decode cX6_savesAside 51 = .ok (.if_icmp .ge 35, 3) := by decide +kernel
theorem dX6_savesAside_54 : decode cX6_savesAside 54 = .ok (.aload_n 0, 1) := by decide +kernel
theorem dX6_savesAside_55 : decode cX6_savesAside 55 = .ok (.getfield 7, 3) := by decide +kernel
theorem dX6_savesAside_58 : decode cX6_savesAside 58 = .ok (.iload_n 1, 1) := by decide +kernel
theorem dX6_savesAside_59 : decode cX6_savesAside 59 = .ok (.iaload, 1) := by decide +kernel
theorem dX6_savesAside_60 : decode cX6_savesAside 60 = .ok (.istore_n 2, 1) := by decide +kernel
theorem dX6_savesAside_61 : decode cX6_savesAside 61 = .ok (.aload_n 0, 1) := by decide +kernel
theorem dX6_savesAside_62 : decode cX6_savesAside 62 = .ok (.getfield 7, 3) := by decide +kernel
theorem dX6_savesAside_65 : decode cX6_savesAside 65 = .ok (.iload_n 1, 1) := by decide +kernel
theorem dX6_savesAside_66 : decode cX6_savesAside 66 = .ok (.aload_n 0, 1) := by decide +kernel
theorem dX6_savesAside_67 : decode cX6_savesAside 67 = .ok (.getfield 13, 3) := by decide +kernel
theorem dX6_savesAside_70 : decode cX6_savesAside 70 = .ok (.iload_n 1, 1) := by decide +kernel
theorem dX6_savesAside_71 : decode cX6_savesAside 71 = .ok (.iaload, 1) := by decide +kernel
theorem dX6_savesAside_72 : decode cX6_savesAside 72 = .ok (.iastore, 1) := by decide +kernel
theorem dX6_savesAside_73 : decode cX6_savesAside 73 = .ok (.aload_n 0, 1) := by decide +kernel
theorem dX6_savesAside_74 : decode cX6_savesAside 74 = .ok (.getfield 13, 3) := by decide +kernel
theorem dX6_savesAside_77 : decode cX6_savesAside 77 = .ok (.iload_n 1, 1) := by decide +kernel
theorem dX6_savesAside_78 : decode cX6_savesAside 78 = .ok (.iload_n 2, 1) := by decide +kernel
theorem dX6_savesAside_79 : decode cX6_savesAside 79 = .ok (.iastore, 1) := by decide +kernel
theorem dX6_savesAside_80 : decode cX6_savesAside 80 = .ok (.iinc 1 1, 3) := by decide +kernel
theorem dX6_savesAside_83 : decode cX6_savesAside 83 = .ok (.goto (-36), 3) := by decide +kernel
theorem dX6_savesAside_86 : decode cX6_savesAside 86 = .ok (.return_, 1) := by decide +kernel
set_option maxRecDepth 20000 in
theorem ggX6_removeWord_X6_in : GoodIn wsX6_removeWord wsX6_in := goodIn_r _ [5] (by decide +kernel) (by decide +kernel)
set_option maxRecDepth 20000 in
theorem gX6_removeWord_X6_in : GoodIn wsX6_removeWord (va_wsS RX6 41 yX6_in wsX6_in) := goodIn_app (goodIn_of _ (by decide +kernel)) ggX6_removeWord_X6_in
set_option maxRecDepth 20000 in
theorem ggX6_removeWord_X6_runs : GoodIn wsX6_removeWord wsX6_runs := goodIn_r _ [9, 1, 24, 25, 26, 27, 28, 29, 30, 31, 32, 33, 34, 35] (by decide +kernel) (by decide +kernel)
set_option maxRecDepth 20000 in
theorem gX6_removeWord_X6_runs : GoodIn wsX6_removeWord (wsV RX6 70 RX6 yX6_runs wsX6_runs) := goodIn_app (goodIn_of _ (by decide +kernel)) ggX6_removeWord_X6_runs
set_option maxRecDepth 20000 in
theorem ggX6_removeWord_X6_saves : GoodIn wsX6_removeWord wsX6_saves := goodIn_r _ [13, 14, 15, 1, 24, 25, 26, 27, 28, 29, 30, 31, 32, 33, 34, 35] (by decide +kernel) (by decide +kernel)
set_option maxRecDepth 20000 in
theorem gX6_removeWord_X6_saves : GoodIn wsX6_removeWord (wsV RX6 98 RX6 yX6_saves wsX6_saves) := goodIn_app (goodIn_of _ (by decide +kernel)) ggX6_removeWord_X6_saves
set_option maxRecDepth 20000 in
theorem ggX6_removeWord_X6_noGame : GoodIn wsX6_removeWord wsX6_noGame := goodIn_r _ [19, 1, 24, 25, 26, 27, 28, 29, 30, 31, 32, 33, 34, 35] (by decide +kernel) (by decide +kernel)
set_option maxRecDepth 20000 in
theorem gX6_removeWord_X6_noGame : GoodIn wsX6_removeWord (wsV RX6 95 RX6 yX6_noGame wsX6_noGame) := goodIn_app (goodIn_of _ (by decide +kernel)) ggX6_removeWord_X6_noGame
set_option maxRecDepth 20000 in
theorem ggX6_removeWord_X6_letter : GoodIn wsX6_removeWord wsX6_letter := goodIn_r _ [23, 1, 24, 25, 26, 27, 28, 29, 30, 31, 32, 33, 34, 35] (by decide +kernel) (by decide +kernel)
set_option maxRecDepth 20000 in
theorem gX6_removeWord_X6_letter : GoodIn wsX6_removeWord (wsV RX6 59 RX6 yX6_letter wsX6_letter) := goodIn_app (goodIn_of _ (by decide +kernel)) ggX6_removeWord_X6_letter
theorem dX6_removeWord_0 : decode cX6_removeWord 0 = .ok (.iload_n 1, 1) := by decide +kernel
theorem dX6_removeWord_1 : decode cX6_removeWord 1 = .ok (.iconst 0, 1) := by decide +kernel
theorem dX6_removeWord_2 : decode cX6_removeWord 2 = .ok (.aload_n 0, 1) := by decide +kernel
theorem dX6_removeWord_3 : decode cX6_removeWord 3 = .ok (.getfield 7, 3) := by decide +kernel
theorem dX6_removeWord_6 : decode cX6_removeWord 6 = .ok (.iconst 0, 1) := by decide +kernel
theorem dX6_removeWord_7 : decode cX6_removeWord 7 = .ok (.iaload, 1) := by decide +kernel
theorem dX6_removeWord_8 : decode cX6_removeWord 8 = .ok (.iconst 1, 1) := by decide +kernel
theorem dX6_removeWord_9 : decode cX6_removeWord 9 = .ok (.isub, 1) := by decide +kernel
theorem dX6_removeWord_10 : decode cX6_removeWord 10 = .ok (.invokestatic 41, 3) := by decide +kernel
theorem dX6_removeWord_13 : decode cX6_removeWord 13 = .ok (.ifCond .ne 5, 3) := by decide +kernel
theorem dX6_removeWord_16 : decode cX6_removeWord 16 = .ok (.iconst (-1), 1) := by decide +kernel
theorem dX6_removeWord_17 : decode cX6_removeWord 17 = .ok (.ireturn, 1) := by decide +kernel
theorem dX6_removeWord_18 : decode cX6_removeWord 18 = .ok (.aload_n 0, 1) := by decide +kernel
theorem dX6_removeWord_19 : decode cX6_removeWord 19 = .ok (.invokevirtual 70, 3) := by decide +kernel
theorem dX6_removeWord_22 : decode cX6_removeWord 22 = .ok (.ifCond .eq 6, 3) := by decide +kernel
theorem dX6_removeWord_25 : decode cX6_removeWord 25 = .ok (.bipush (-3), 2) := by decide +kernel
theorem dX6_removeWord_27 : decode cX6_removeWord 27 = .ok (.ireturn, 1) := by decide +kernel
theorem dX6_removeWord_28 : decode cX6_removeWord 28 = .ok (.aload_n 0, 1) := by decide +kernel
theorem dX6_removeWord_29 : decode cX6_removeWord 29 = .ok (.invokevirtual 98, 3) := by decide +kernel
theorem dX6_removeWord_32 : decode cX6_removeWord 32 = .ok (.aload_n 0, 1) := by decide +kernel
theorem dX6_removeWord_33 : decode cX6_removeWord 33 = .ok (.invokevirtual 95, 3) := by decide +kernel
theorem dX6_removeWord_36 : decode cX6_removeWord 36 = .ok (.aload_n 0, 1) := by decide +kernel
theorem dX6_removeWord_37 : decode cX6_removeWord 37 = .ok (.getfield 7, 3) := by decide +kernel
theorem dX6_removeWord_40 : decode cX6_removeWord 40 = .ok (.iconst 0, 1) := by decide +kernel
theorem dX6_removeWord_41 : decode cX6_removeWord 41 = .ok (.dup2, 1) := by decide +kernel
theorem dX6_removeWord_42 : decode cX6_removeWord 42 = .ok (.iaload, 1) := by decide +kernel
theorem dX6_removeWord_43 : decode cX6_removeWord 43 = .ok (.iconst 1, 1) := by decide +kernel
theorem dX6_removeWord_44 : decode cX6_removeWord 44 = .ok (.isub, 1) := by decide +kernel
theorem dX6_removeWord_45 : decode cX6_removeWord 45 = .ok (.iastore, 1) := by decide +kernel
theorem dX6_removeWord_46 : decode cX6_removeWord 46 = .ok (.iload_n 1, 1) := by decide +kernel
theorem dX6_removeWord_47 : decode cX6_removeWord 47 = .ok (.istore_n 2, 1) := by decide +kernel
theorem dX6_removeWord_48 : decode cX6_removeWord 48 = .ok (.iload_n 2, 1) := by decide +kernel
theorem dX6_removeWord_49 : decode cX6_removeWord 49 = .ok (.aload_n 0, 1) := by decide +kernel
theorem dX6_removeWord_50 : decode cX6_removeWord 50 = .ok (.getfield 7, 3) := by decide +kernel
theorem dX6_removeWord_53 : decode cX6_removeWord 53 = .ok (.iconst 0, 1) := by decide +kernel
theorem dX6_removeWord_54 : decode cX6_removeWord 54 = .ok (.iaload, 1) := by decide +kernel
theorem dX6_removeWord_55 : decode cX6_removeWord 55 = .ok (.if_icmp .ge 65, 3) := by decide +kernel
theorem dX6_removeWord_58 : decode cX6_removeWord 58 = .ok (.aload_n 0, 1) := by decide +kernel
theorem dX6_removeWord_59 : decode cX6_removeWord 59 = .ok (.getfield 7, 3) := by decide +kernel
theorem dX6_removeWord_62 : decode cX6_removeWord 62 = .ok (.bipush 49, 2) := by decide +kernel
theorem dX6_removeWord_64 : decode cX6_removeWord 64 = .ok (.iload_n 2, 1) := by decide +kernel
theorem dX6_removeWord_65 : decode cX6_removeWord 65 = .ok (.iadd, 1) := by decide +kernel
theorem dX6_removeWord_66 : decode cX6_removeWord 66 = .ok (.aload_n 0, 1) := by decide +kernel
theorem dX6_removeWord_67 : decode cX6_removeWord 67 = .ok (.getfield 7, 3) := by decide +kernel
theorem dX6_removeWord_70 : decode cX6_removeWord 70 = .ok (.bipush 49, 2) := by decide +kernel
theorem dX6_removeWord_72 : decode cX6_removeWord 72 = .ok (.iload_n 2, 1) := by decide +kernel
theorem dX6_removeWord_73 : decode cX6_removeWord 73 = .ok (.iadd, 1) := by decide +kernel
theorem dX6_removeWord_74 : decode cX6_removeWord 74 = .ok (.iconst 1, 1) := by decide +kernel
theorem dX6_removeWord_75 : decode cX6_removeWord 75 = .ok (.iadd, 1) := by decide +kernel
theorem dX6_removeWord_76 : decode cX6_removeWord 76 = .ok (.iaload, 1) := by decide +kernel
theorem dX6_removeWord_77 : decode cX6_removeWord 77 = .ok (.iastore, 1) := by decide +kernel
theorem dX6_removeWord_78 : decode cX6_removeWord 78 = .ok (.iconst 0, 1) := by decide +kernel
theorem dX6_removeWord_79 : decode cX6_removeWord 79 = .ok (.istore_n 3, 1) := by decide +kernel
theorem dX6_removeWord_80 : decode cX6_removeWord 80 = .ok (.iload_n 3, 1) := by decide +kernel
theorem dX6_removeWord_81 : decode cX6_removeWord 81 = .ok (.bipush 8, 2) := by decide +kernel
theorem dX6_removeWord_83 : decode cX6_removeWord 83 = .ok (.if_icmp .ge 31, 3) := by decide +kernel
theorem dX6_removeWord_86 : decode cX6_removeWord 86 = .ok (.aload_n 0, 1) := by decide +kernel
theorem dX6_removeWord_87 : decode cX6_removeWord 87 = .ok (.getfield 7, 3) := by decide +kernel
theorem dX6_removeWord_90 : decode cX6_removeWord 90 = .ok (.bipush 79, 2) := by decide +kernel
theorem dX6_removeWord_92 : decode cX6_removeWord 92 = .ok (.bipush 8, 2) := by decide +kernel
theorem dX6_removeWord_94 : decode cX6_removeWord 94 = .ok (.iload_n 2, 1) := by decide +kernel
theorem dX6_removeWord_95 : decode cX6_removeWord 95 = .ok (.imul, 1) := by decide +kernel
theorem dX6_removeWord_96 : decode cX6_removeWord 96 = .ok (.iadd, 1) := by decide +kernel
theorem dX6_removeWord_97 : decode cX6_removeWord 97 = .ok (.iload_n 3, 1) := by decide +kernel
theorem dX6_removeWord_98 : decode cX6_removeWord 98 = .ok (.iadd, 1) := by decide +kernel
theorem dX6_removeWord_99 : decode cX6_removeWord 99 = .ok (.aload_n 0, 1) := by decide +kernel
theorem dX6_removeWord_100 : decode cX6_removeWord 100 = .ok (.iload_n 2, 1) := by decide +kernel
theorem dX6_removeWord_101 : decode cX6_removeWord 101 = .ok (.iconst 1, 1) := by decide +kernel
theorem dX6_removeWord_102 : decode cX6_removeWord 102 = .ok (.iadd, 1) := by decide +kernel
theorem dX6_removeWord_103 : decode cX6_removeWord 103 = .ok (.iload_n 3, 1) := by decide +kernel
theorem dX6_removeWord_104 : decode cX6_removeWord 104 = .ok (.invokevirtual 59, 3) := by decide +kernel
theorem dX6_removeWord_107 : decode cX6_removeWord 107 = .ok (.iastore, 1) := by decide +kernel
theorem dX6_removeWord_108 : decode cX6_removeWord 108 = .ok (.iinc 3 1, 3) := by decide +kernel
theorem dX6_removeWord_111 : decode cX6_removeWord 111 = .ok (.goto (-31), 3) := by decide +kernel
theorem dX6_removeWord_114 : decode cX6_removeWord 114 = .ok (.iinc 2 1, 3) := by decide +kernel
theorem dX6_removeWord_117 : decode cX6_removeWord 117 = .ok (.goto (-69), 3) := by decide +kernel
theorem dX6_removeWord_120 : decode cX6_removeWord 120 = .ok (.aload_n 0, 1) := by decide +kernel
theorem dX6_removeWord_121 : decode cX6_removeWord 121 = .ok (.getfield 7, 3) := by decide +kernel
theorem dX6_removeWord_124 : decode cX6_removeWord 124 = .ok (.iconst 0, 1) := by decide +kernel
theorem dX6_removeWord_125 : decode cX6_removeWord 125 = .ok (.iaload, 1) := by decide +kernel
theorem dX6_removeWord_126 : decode cX6_removeWord 126 = .ok (.ireturn, 1) := by decide +kernel
theorem dX6_words_0 : decode cX6_words 0 = .ok (.aload_n 0, 1) := by decide +kernel
theorem dX6_words_1 : decode cX6_words 1 = .ok (.getfield 7, 3) := by decide +kernel
theorem dX6_words_4 : decode cX6_words 4 = .ok (.iconst 0, 1) := by decide +kernel
theorem dX6_words_5 : decode cX6_words 5 = .ok (.iaload, 1) := by decide +kernel
theorem dX6_words_6 : decode cX6_words 6 = .ok (.ireturn, 1) := by decide +kernel
set_option maxRecDepth 20000 in
theorem ggX6_letterOf_X6_in : GoodIn wsX6_letterOf wsX6_in := goodIn_r _ [5] (by decide +kernel) (by decide +kernel)
set_option maxRecDepth 20000 in
theorem gX6_letterOf_X6_in : GoodIn wsX6_letterOf (va_wsS RX6 41 yX6_in wsX6_in) := goodIn_app (goodIn_of _ (by decide +kernel)) ggX6_letterOf_X6_in
set_option maxRecDepth 20000 in
theorem ggX6_letterOf_X6_letter : GoodIn wsX6_letterOf wsX6_letter := goodIn_r _ [9, 1, 10, 11, 12, 13, 14, 15, 16, 17, 18, 19, 20, 21] (by decide +kernel) (by decide +kernel)
set_option maxRecDepth 20000 in
theorem gX6_letterOf_X6_letter : GoodIn wsX6_letterOf (wsV RX6 59 RX6 yX6_letter wsX6_letter) := goodIn_app (goodIn_of _ (by decide +kernel)) ggX6_letterOf_X6_letter
theorem dX6_letterOf_0 : decode cX6_letterOf 0 = .ok (.iload_n 1, 1) := by decide +kernel
theorem dX6_letterOf_1 : decode cX6_letterOf 1 = .ok (.iconst 0, 1) := by decide +kernel
theorem dX6_letterOf_2 : decode cX6_letterOf 2 = .ok (.aload_n 0, 1) := by decide +kernel
theorem dX6_letterOf_3 : decode cX6_letterOf 3 = .ok (.getfield 7, 3) := by decide +kernel
theorem dX6_letterOf_6 : decode cX6_letterOf 6 = .ok (.iconst 0, 1) := by decide +kernel
theorem dX6_letterOf_7 : decode cX6_letterOf 7 = .ok (.iaload, 1) := by decide +kernel
theorem dX6_letterOf_8 : decode cX6_letterOf 8 = .ok (.iconst 1, 1) := by decide +kernel
theorem dX6_letterOf_9 : decode cX6_letterOf 9 = .ok (.isub, 1) := by decide +kernel
theorem dX6_letterOf_10 : decode cX6_letterOf 10 = .ok (.invokestatic 41, 3) := by decide +kernel
theorem dX6_letterOf_13 : decode cX6_letterOf 13 = .ok (.ifCond .eq 31, 3) := by decide +kernel
theorem dX6_letterOf_16 : decode cX6_letterOf 16 = .ok (.iload_n 2, 1) := by decide +kernel
theorem dX6_letterOf_17 : decode cX6_letterOf 17 = .ok (.iconst 0, 1) := by decide +kernel
theorem dX6_letterOf_18 : decode cX6_letterOf 18 = .ok (.aload_n 0, 1) := by decide +kernel
theorem dX6_letterOf_19 : decode cX6_letterOf 19 = .ok (.getfield 7, 3) := by decide +kernel
theorem dX6_letterOf_22 : decode cX6_letterOf 22 = .ok (.bipush 49, 2) := by decide +kernel
theorem dX6_letterOf_24 : decode cX6_letterOf 24 = .ok (.iload_n 1, 1) := by decide +kernel
theorem dX6_letterOf_25 : decode cX6_letterOf 25 = .ok (.iadd, 1) := by decide +kernel
theorem dX6_letterOf_26 : decode cX6_letterOf 26 = .ok (.iaload, 1) := by decide +kernel
theorem dX6_letterOf_27 : decode cX6_letterOf 27 = .ok (.iconst 1, 1) := by decide +kernel
theorem dX6_letterOf_28 : decode cX6_letterOf 28 = .ok (.isub, 1) := by decide +kernel
theorem dX6_letterOf_29 : decode cX6_letterOf 29 = .ok (.invokestatic 41, 3) := by decide +kernel
theorem dX6_letterOf_32 : decode cX6_letterOf 32 = .ok (.ifCond .eq 12, 3) := by decide +kernel
theorem dX6_letterOf_35 : decode cX6_letterOf 35 = .ok (.aload_n 0, 1) := by decide +kernel
theorem dX6_letterOf_36 : decode cX6_letterOf 36 = .ok (.iload_n 1, 1) := by decide +kernel
theorem dX6_letterOf_37 : decode cX6_letterOf 37 = .ok (.iload_n 2, 1) := by decide +kernel
theorem dX6_letterOf_38 : decode cX6_letterOf 38 = .ok (.invokevirtual 59, 3) := by decide +kernel
theorem dX6_letterOf_41 : decode cX6_letterOf 41 = .ok (.goto 4, 3) := by decide +kernel
theorem dX6_letterOf_44 : decode cX6_letterOf 44 = .ok (.iconst (-1), 1) := by decide +kernel
theorem dX6_letterOf_45 : decode cX6_letterOf 45 = .ok (.ireturn, 1) := by decide +kernel
set_option maxRecDepth 20000 in
theorem ggX6_maskOf_X6_letter : GoodIn wsX6_maskOf wsX6_letter := goodIn_r _ [6, 1, 7, 8, 9, 10, 11, 12, 13, 14, 15, 16, 17, 18] (by decide +kernel) (by decide +kernel)
set_option maxRecDepth 20000 in
theorem gX6_maskOf_X6_letter : GoodIn wsX6_maskOf (wsV RX6 59 RX6 yX6_letter wsX6_letter) := goodIn_app (goodIn_of _ (by decide +kernel)) ggX6_maskOf_X6_letter
theorem dX6_maskOf_0 : decode cX6_maskOf 0 = .ok (.iconst 0, 1) := by decide +kernel
theorem dX6_maskOf_1 : decode cX6_maskOf 1 = .ok (.istore_n 3, 1) := by decide +kernel
theorem dX6_maskOf_2 : decode cX6_maskOf 2 = .ok (.iconst 0, 1) := by decide +kernel
theorem dX6_maskOf_3 : decode cX6_maskOf 3 = .ok (.istore 4, 2) := by decide +kernel
theorem dX6_maskOf_5 : decode cX6_maskOf 5 = .ok (.iload 4, 2) := by decide +kernel
theorem dX6_maskOf_7 : decode cX6_maskOf 7 = .ok (.aload_n 0, 1) := by decide +kernel
theorem dX6_maskOf_8 : decode cX6_maskOf 8 = .ok (.getfield 7, 3) := by decide +kernel
theorem dX6_maskOf_11 : decode cX6_maskOf 11 = .ok (.bipush 49, 2) := by decide +kernel
theorem dX6_maskOf_13 : decode cX6_maskOf 13 = .ok (.iload_n 1, 1) := by decide +kernel
theorem dX6_maskOf_14 : decode cX6_maskOf 14 = .ok (.iadd, 1) := by decide +kernel
theorem dX6_maskOf_15 : decode cX6_maskOf 15 = .ok (.iaload, 1) := by decide +kernel
theorem dX6_maskOf_16 : decode cX6_maskOf 16 = .ok (.if_icmp .ge 31, 3) := by decide +kernel
theorem dX6_maskOf_19 : decode cX6_maskOf 19 = .ok (.iload_n 3, 1) := by decide +kernel
theorem dX6_maskOf_20 : decode cX6_maskOf 20 = .ok (.aload_n 0, 1) := by decide +kernel
theorem dX6_maskOf_21 : decode cX6_maskOf 21 = .ok (.iload_n 1, 1) := by decide +kernel
theorem dX6_maskOf_22 : decode cX6_maskOf 22 = .ok (.iload 4, 2) := by decide +kernel
theorem dX6_maskOf_24 : decode cX6_maskOf 24 = .ok (.invokevirtual 59, 3) := by decide +kernel
theorem dX6_maskOf_27 : decode cX6_maskOf 27 = .ok (.iload_n 2, 1) := by decide +kernel
theorem dX6_maskOf_28 : decode cX6_maskOf 28 = .ok (.if_icmp .ne 10, 3) := by decide +kernel
theorem dX6_maskOf_31 : decode cX6_maskOf 31 = .ok (.iconst 1, 1) := by decide +kernel
theorem dX6_maskOf_32 : decode cX6_maskOf 32 = .ok (.iload 4, 2) := by decide +kernel
theorem dX6_maskOf_34 : decode cX6_maskOf 34 = .ok (.ishl, 1) := by decide +kernel
theorem dX6_maskOf_35 : decode cX6_maskOf 35 = .ok (.goto 4, 3) := by decide +kernel
theorem dX6_maskOf_38 : decode cX6_maskOf 38 = .ok (.iconst 0, 1) := by decide +kernel
theorem dX6_maskOf_39 : decode cX6_maskOf 39 = .ok (.ior, 1) := by decide +kernel
theorem dX6_maskOf_40 : decode cX6_maskOf 40 = .ok (.istore_n 3, 1) := by decide +kernel
theorem dX6_maskOf_41 : decode cX6_maskOf 41 = .ok (.iinc 4 1, 3) := by decide +kernel
theorem dX6_maskOf_44 : decode cX6_maskOf 44 = .ok (.goto (-39), 3) := by decide +kernel
theorem dX6_maskOf_47 : decode cX6_maskOf 47 = .ok (.iload_n 3, 1) := by decide +kernel
theorem dX6_maskOf_48 : decode cX6_maskOf 48 = .ok (.ireturn, 1) := by decide +kernel
set_option maxRecDepth 20000 in
theorem ggX6_lettersOf_X6_letter : GoodIn wsX6_lettersOf wsX6_letter := goodIn_r _ [6, 1, 7, 8, 9, 10, 11, 12, 13, 14, 15, 16, 17, 18] (by decide +kernel) (by decide +kernel)
set_option maxRecDepth 20000 in
theorem gX6_lettersOf_X6_letter : GoodIn wsX6_lettersOf (wsV RX6 59 RX6 yX6_letter wsX6_letter) := goodIn_app (goodIn_of _ (by decide +kernel)) ggX6_lettersOf_X6_letter
theorem dX6_lettersOf_0 : decode cX6_lettersOf 0 = .ok (.iconst 0, 1) := by decide +kernel
theorem dX6_lettersOf_1 : decode cX6_lettersOf 1 = .ok (.istore_n 2, 1) := by decide +kernel
theorem dX6_lettersOf_2 : decode cX6_lettersOf 2 = .ok (.iconst 0, 1) := by decide +kernel
theorem dX6_lettersOf_3 : decode cX6_lettersOf 3 = .ok (.istore_n 3, 1) := by decide +kernel
theorem dX6_lettersOf_4 : decode cX6_lettersOf 4 = .ok (.iload_n 3, 1) := by decide +kernel
theorem dX6_lettersOf_5 : decode cX6_lettersOf 5 = .ok (.aload_n 0, 1) := by decide +kernel
theorem dX6_lettersOf_6 : decode cX6_lettersOf 6 = .ok (.getfield 7, 3) := by decide +kernel
theorem dX6_lettersOf_9 : decode cX6_lettersOf 9 = .ok (.bipush 49, 2) := by decide +kernel
theorem dX6_lettersOf_11 : decode cX6_lettersOf 11 = .ok (.iload_n 1, 1) := by decide +kernel
theorem dX6_lettersOf_12 : decode cX6_lettersOf 12 = .ok (.iadd, 1) := by decide +kernel
theorem dX6_lettersOf_13 : decode cX6_lettersOf 13 = .ok (.iaload, 1) := by decide +kernel
theorem dX6_lettersOf_14 : decode cX6_lettersOf 14 = .ok (.if_icmp .ge 23, 3) := by decide +kernel
theorem dX6_lettersOf_17 : decode cX6_lettersOf 17 = .ok (.iload_n 2, 1) := by decide +kernel
theorem dX6_lettersOf_18 : decode cX6_lettersOf 18 = .ok (.iconst 1, 1) := by decide +kernel
theorem dX6_lettersOf_19 : decode cX6_lettersOf 19 = .ok (.aload_n 0, 1) := by decide +kernel
theorem dX6_lettersOf_20 : decode cX6_lettersOf 20 = .ok (.iload_n 1, 1) := by decide +kernel
theorem dX6_lettersOf_21 : decode cX6_lettersOf 21 = .ok (.iload_n 3, 1) := by decide +kernel
theorem dX6_lettersOf_22 : decode cX6_lettersOf 22 = .ok (.invokevirtual 59, 3) := by decide +kernel
theorem dX6_lettersOf_25 : decode cX6_lettersOf 25 = .ok (.bipush 97, 2) := by decide +kernel
theorem dX6_lettersOf_27 : decode cX6_lettersOf 27 = .ok (.isub, 1) := by decide +kernel
theorem dX6_lettersOf_28 : decode cX6_lettersOf 28 = .ok (.ishl, 1) := by decide +kernel
theorem dX6_lettersOf_29 : decode cX6_lettersOf 29 = .ok (.ior, 1) := by decide +kernel
theorem dX6_lettersOf_30 : decode cX6_lettersOf 30 = .ok (.istore_n 2, 1) := by decide +kernel
theorem dX6_lettersOf_31 : decode cX6_lettersOf 31 = .ok (.iinc 3 1, 3) := by decide +kernel
theorem dX6_lettersOf_34 : decode cX6_lettersOf 34 = .ok (.goto (-30), 3) := by decide +kernel
theorem dX6_lettersOf_37 : decode cX6_lettersOf 37 = .ok (.iload_n 2, 1) := by decide +kernel
theorem dX6_lettersOf_38 : decode cX6_lettersOf 38 = .ok (.ireturn, 1) := by decide +kernel
theorem dX6_familyWith_0 : decode cX6_familyWith 0 = .ok (.iconst 0, 1) := by decide +kernel
theorem dX6_familyWith_1 : decode cX6_familyWith 1 = .ok (.istore_n 2, 1) := by decide +kernel
theorem dX6_familyWith_2 : decode cX6_familyWith 2 = .ok (.iload_n 2, 1) := by decide +kernel
theorem dX6_familyWith_3 : decode cX6_familyWith 3 = .ok (.aload_n 0, 1) := by decide +kernel
theorem dX6_familyWith_4 : decode cX6_familyWith 4 = .ok (.getfield 37, 3) := by decide +kernel
theorem dX6_familyWith_7 : decode cX6_familyWith 7 = .ok (.if_icmp .ge 19, 3) := by decide +kernel
theorem dX6_familyWith_10 : decode cX6_familyWith 10 = .ok (.aload_n 0, 1) := by decide +kernel
theorem dX6_familyWith_11 : decode cX6_familyWith 11 = .ok (.getfield 22, 3) := by decide +kernel
theorem dX6_familyWith_14 : decode cX6_familyWith 14 = .ok (.iload_n 2, 1) := by decide +kernel
theorem dX6_familyWith_15 : decode cX6_familyWith 15 = .ok (.iaload, 1) := by decide +kernel
theorem dX6_familyWith_16 : decode cX6_familyWith 16 = .ok (.iload_n 1, 1) := by decide +kernel
theorem dX6_familyWith_17 : decode cX6_familyWith 17 = .ok (.if_icmp .eq 9, 3) := by decide +kernel
theorem dX6_familyWith_20 : decode cX6_familyWith 20 = .ok (.iinc 2 1, 3) := by decide +kernel
theorem dX6_familyWith_23 : decode cX6_familyWith 23 = .ok (.goto (-21), 3) := by decide +kernel
theorem dX6_familyWith_26 : decode cX6_familyWith 26 = .ok (.iload_n 2, 1) := by decide +kernel
theorem dX6_familyWith_27 : decode cX6_familyWith 27 = .ok (.ireturn, 1) := by decide +kernel
set_option maxRecDepth 20000 in
theorem ggX6_laysFamilies_X6_isCandidate : GoodIn wsX6_laysFamilies wsX6_isCandidate := goodIn_r _ [12, 2, 32, 33, 34, 35, 36, 37, 38, 39, 40, 41, 42, 43] (by decide +kernel) (by decide +kernel)
set_option maxRecDepth 20000 in
theorem gX6_laysFamilies_X6_isCandidate : GoodIn wsX6_laysFamilies (wsV RX6 101 RX6 yX6_isCandidate wsX6_isCandidate) := goodIn_app (goodIn_of _ (by decide +kernel)) ggX6_laysFamilies_X6_isCandidate
set_option maxRecDepth 20000 in
theorem ggX6_laysFamilies_X6_maskOf : GoodIn wsX6_laysFamilies wsX6_maskOf := goodIn_r _ [16, 2, 17, 18, 19, 11, 20, 32, 33, 34, 35, 36, 37, 38, 39, 40, 41, 42, 43] (by decide +kernel) (by decide +kernel)
set_option maxRecDepth 20000 in
theorem gX6_laysFamilies_X6_maskOf : GoodIn wsX6_laysFamilies (wsV RX6 104 RX6 yX6_maskOf wsX6_maskOf) := goodIn_app (goodIn_of _ (by decide +kernel)) ggX6_laysFamilies_X6_maskOf
set_option maxRecDepth 20000 in
theorem ggX6_laysFamilies_X6_familyWith : GoodIn wsX6_laysFamilies wsX6_familyWith := goodIn_r _ [24, 1, 3, 32, 33, 34, 35, 36, 37, 38, 39, 40, 41, 42, 43] (by decide +kernel) (by decide +kernel)
set_option maxRecDepth 20000 in
theorem gX6_laysFamilies_X6_familyWith : GoodIn wsX6_laysFamilies (wsV RX6 107 RX6 yX6_familyWith wsX6_familyWith) := goodIn_app (goodIn_of _ (by decide +kernel)) ggX6_laysFamilies_X6_familyWith
set_option maxRecDepth 20000 in
theorem ggX6_laysFamilies_X6_lettersOf : GoodIn wsX6_laysFamilies wsX6_lettersOf := goodIn_r _ [28, 2, 17, 18, 19, 11, 20, 32, 33, 34, 35, 36, 37, 38, 39, 40, 41, 42, 43] (by decide +kernel) (by decide +kernel)
set_option maxRecDepth 20000 in
theorem gX6_laysFamilies_X6_lettersOf : GoodIn wsX6_laysFamilies (wsV RX6 110 RX6 yX6_lettersOf wsX6_lettersOf) := goodIn_app (goodIn_of _ (by decide +kernel)) ggX6_laysFamilies_X6_lettersOf
set_option maxRecDepth 20000 in
theorem ggX6_laysFamilies_X6_bits : GoodIn wsX6_laysFamilies wsX6_bits := goodIn_r _ [31] (by decide +kernel) (by decide +kernel)
set_option maxRecDepth 20000 in
theorem gX6_laysFamilies_X6_bits : GoodIn wsX6_laysFamilies (va_wsS RX6 113 yX6_bits wsX6_bits) := goodIn_app (goodIn_of _ (by decide +kernel)) ggX6_laysFamilies_X6_bits
theorem dX6_laysFamilies_0 : decode cX6_laysFamilies 0 = .ok (.aload_n 0, 1) := by decide +kernel
theorem dX6_laysFamilies_1 : decode cX6_laysFamilies 1 = .ok (.iconst 0, 1) := by decide +kernel
theorem dX6_laysFamilies_2 : decode cX6_laysFamilies 2 = .ok (.putfield 37, 3) := by decide +kernel
theorem dX6_laysFamilies_5 : decode cX6_laysFamilies 5 = .ok (.iconst 0, 1) := by decide +kernel
theorem dX6_laysFamilies_6 : decode cX6_laysFamilies 6 = .ok (.istore_n 2, 1) := by decide +kernel
theorem dX6_laysFamilies_7 : decode cX6_laysFamilies 7 = .ok (.iload_n 2, 1) := by decide +kernel
theorem dX6_laysFamilies_8 : decode cX6_laysFamilies 8 = .ok (.aload_n 0, 1) := by decide +kernel
theorem dX6_laysFamilies_9 : decode cX6_laysFamilies 9 = .ok (.getfield 7, 3) := by decide +kernel
theorem dX6_laysFamilies_12 : decode cX6_laysFamilies 12 = .ok (.iconst 0, 1) := by decide +kernel
theorem dX6_laysFamilies_13 : decode cX6_laysFamilies 13 = .ok (.iaload, 1) := by decide +kernel
theorem dX6_laysFamilies_14 : decode cX6_laysFamilies 14 = .ok (.if_icmp .ge 79, 3) := by decide +kernel
theorem dX6_laysFamilies_17 : decode cX6_laysFamilies 17 = .ok (.aload_n 0, 1) := by decide +kernel
theorem dX6_laysFamilies_18 : decode cX6_laysFamilies 18 = .ok (.iload_n 2, 1) := by decide +kernel
theorem dX6_laysFamilies_19 : decode cX6_laysFamilies 19 = .ok (.invokevirtual 101, 3) := by decide +kernel
theorem dX6_laysFamilies_22 : decode cX6_laysFamilies 22 = .ok (.ifCond .eq 65, 3) := by decide +kernel
theorem dX6_laysFamilies_25 : decode cX6_laysFamilies 25 = .ok (.aload_n 0, 1) := by decide +kernel
theorem dX6_laysFamilies_26 : decode cX6_laysFamilies 26 = .ok (.iload_n 2, 1) := by decide +kernel
theorem dX6_laysFamilies_27 : decode cX6_laysFamilies 27 = .ok (.iload_n 1, 1) := by decide +kernel
theorem dX6_laysFamilies_28 : decode cX6_laysFamilies 28 = .ok (.invokevirtual 104, 3) := by decide +kernel
theorem dX6_laysFamilies_31 : decode cX6_laysFamilies 31 = .ok (.istore_n 3, 1) := by decide +kernel
theorem dX6_laysFamilies_32 : decode cX6_laysFamilies 32 = .ok (.aload_n 0, 1) := by decide +kernel
theorem dX6_laysFamilies_33 : decode cX6_laysFamilies 33 = .ok (.iload_n 3, 1) := by decide +kernel
theorem dX6_laysFamilies_34 : decode cX6_laysFamilies 34 = .ok (.invokevirtual 107, 3) := by decide +kernel
theorem dX6_laysFamilies_37 : decode cX6_laysFamilies 37 = .ok (.istore 4, 2) := by decide +kernel
theorem dX6_laysFamilies_39 : decode cX6_laysFamilies 39 = .ok (.iload 4, 2) := by decide +kernel
theorem dX6_laysFamilies_41 : decode cX6_laysFamilies 41 = .ok (.aload_n 0, 1) := by decide +kernel
theorem dX6_laysFamilies_42 : decode cX6_laysFamilies 42 = .ok (.getfield 37, 3) := by decide +kernel
theorem dX6_laysFamilies_45 : decode cX6_laysFamilies 45 = .ok (.if_icmp .ne 29, 3) := by decide +kernel
theorem dX6_laysFamilies_48 : decode cX6_laysFamilies 48 = .ok (.aload_n 0, 1) := by decide +kernel
theorem dX6_laysFamilies_49 : decode cX6_laysFamilies 49 = .ok (.getfield 22, 3) := by decide +kernel
theorem dX6_laysFamilies_52 : decode cX6_laysFamilies 52 = .ok (.iload 4, 2) := by decide +kernel
theorem dX6_laysFamilies_54 : decode cX6_laysFamilies 54 = .ok (.iload_n 3, 1) := by decide +kernel
theorem dX6_laysFamilies_55 : decode cX6_laysFamilies 55 = .ok (.iastore, 1) := by decide +kernel
theorem dX6_laysFamilies_56 : decode cX6_laysFamilies 56 = .ok (.aload_n 0, 1) := by decide +kernel
theorem dX6_laysFamilies_57 : decode cX6_laysFamilies 57 = .ok (.getfield 25, 3) := by decide +kernel
theorem dX6_laysFamilies_60 : decode cX6_laysFamilies 60 = .ok (.iload 4, 2) := by decide +kernel
theorem dX6_laysFamilies_62 : decode cX6_laysFamilies 62 = .ok (.iconst 0, 1) := by decide +kernel
theorem dX6_laysFamilies_63 : decode cX6_laysFamilies 63 = .ok (.iastore, 1) := by decide +kernel
theorem dX6_laysFamilies_64 : decode cX6_laysFamilies 64 = .ok (.aload_n 0, 1) := by decide +kernel
theorem dX6_laysFamilies_65 : decode cX6_laysFamilies 65 = .ok (.dup, 1) := by decide +kernel
theorem dX6_laysFamilies_66 : decode cX6_laysFamilies 66 = .ok (.getfield 37, 3) := by decide +kernel
theorem dX6_laysFamilies_69 : decode cX6_laysFamilies 69 = .ok (.iconst 1, 1) := by decide +kernel
theorem dX6_laysFamilies_70 : decode cX6_laysFamilies 70 = .ok (.iadd, 1) := by decide +kernel
theorem dX6_laysFamilies_71 : decode cX6_laysFamilies 71 = .ok (.putfield 37, 3) := by decide +kernel
theorem dX6_laysFamilies_74 : decode cX6_laysFamilies 74 = .ok (.aload_n 0, 1) := by decide +kernel
theorem dX6_laysFamilies_75 : decode cX6_laysFamilies 75 = .ok (.getfield 25, 3) := by decide +kernel
theorem dX6_laysFamilies_78 : decode cX6_laysFamilies 78 = .ok (.iload 4, 2) := by decide +kernel
theorem dX6_laysFamilies_80 : decode cX6_laysFamilies 80 = .ok (.dup2, 1) := by decide +kernel
theorem dX6_laysFamilies_81 : decode cX6_laysFamilies 81 = .ok (.iaload, 1) := by decide +kernel
theorem dX6_laysFamilies_82 : decode cX6_laysFamilies 82 = .ok (.iconst 1, 1) := by decide +kernel
theorem dX6_laysFamilies_83 : decode cX6_laysFamilies 83 = .ok (.iload_n 2, 1) := by decide +kernel
theorem dX6_laysFamilies_84 : decode cX6_laysFamilies 84 = .ok (.ishl, 1) := by decide +kernel
theorem dX6_laysFamilies_85 : decode cX6_laysFamilies 85 = .ok (.ior, 1) := by decide +kernel
theorem dX6_laysFamilies_86 : decode cX6_laysFamilies 86 = .ok (.iastore, 1) := by decide +kernel
theorem dX6_laysFamilies_87 : decode cX6_laysFamilies 87 = .ok (.iinc 2 1, 3) := by decide +kernel
theorem dX6_laysFamilies_90 : decode cX6_laysFamilies 90 = .ok (.goto (-83), 3) := by decide +kernel
theorem dX6_laysFamilies_93 : decode cX6_laysFamilies 93 = .ok (.iconst 0, 1) := by decide +kernel
theorem dX6_laysFamilies_94 : decode cX6_laysFamilies 94 = .ok (.istore_n 2, 1) := by decide +kernel
theorem dX6_laysFamilies_95 : decode cX6_laysFamilies 95 = .ok (.iload_n 2, 1) := by decide +kernel
theorem dX6_laysFamilies_96 : decode cX6_laysFamilies 96 = .ok (.aload_n 0, 1) := by decide +kernel
theorem dX6_laysFamilies_97 : decode cX6_laysFamilies 97 = .ok (.getfield 37, 3) := by decide +kernel
theorem dX6_laysFamilies_100 : decode cX6_laysFamilies 100 = .ok (.if_icmp .ge 117, 3) := by decide +kernel
theorem dX6_laysFamilies_103 : decode cX6_laysFamilies 103 = .ok (.iconst 0, 1) := by decide +kernel
theorem dX6_laysFamilies_104 : decode cX6_laysFamilies 104 = .ok (.istore_n 3, 1) := by decide +kernel
theorem dX6_laysFamilies_105 : decode cX6_laysFamilies 105 = .ok (.iconst 0, 1) := by decide +kernel
theorem dX6_laysFamilies_106 : decode cX6_laysFamilies 106 = .ok (.istore 4, 2) := by decide +kernel
theorem dX6_laysFamilies_108 : decode cX6_laysFamilies 108 = .ok (.iload 4, 2) := by decide +kernel
theorem dX6_laysFamilies_110 : decode cX6_laysFamilies 110 = .ok (.aload_n 0, 1) := by decide +kernel
theorem dX6_laysFamilies_111 : decode cX6_laysFamilies 111 = .ok (.getfield 7, 3) := by decide +kernel
theorem dX6_laysFamilies_114 : decode cX6_laysFamilies 114 = .ok (.iconst 0, 1) := by decide +kernel
theorem dX6_laysFamilies_115 : decode cX6_laysFamilies 115 = .ok (.iaload, 1) := by decide +kernel
theorem dX6_laysFamilies_116 : decode cX6_laysFamilies 116 = .ok (.if_icmp .ge 37, 3) := by decide +kernel
theorem dX6_laysFamilies_119 : decode cX6_laysFamilies 119 = .ok (.iload_n 3, 1) := by decide +kernel
theorem dX6_laysFamilies_120 : decode cX6_laysFamilies 120 = .ok (.aload_n 0, 1) := by decide +kernel
theorem dX6_laysFamilies_121 : decode cX6_laysFamilies 121 = .ok (.getfield 25, 3) := by decide +kernel
theorem dX6_laysFamilies_124 : decode cX6_laysFamilies 124 = .ok (.iload_n 2, 1) := by decide +kernel
theorem dX6_laysFamilies_125 : decode cX6_laysFamilies 125 = .ok (.iaload, 1) := by decide +kernel
theorem dX6_laysFamilies_126 : decode cX6_laysFamilies 126 = .ok (.iload 4, 2) := by decide +kernel
theorem dX6_laysFamilies_128 : decode cX6_laysFamilies 128 = .ok (.ishr, 1) := by decide +kernel
theorem dX6_laysFamilies_129 : decode cX6_laysFamilies 129 = .ok (.iconst 1, 1) := by decide +kernel
theorem dX6_laysFamilies_130 : decode cX6_laysFamilies 130 = .ok (.iand, 1) := by decide +kernel
theorem dX6_laysFamilies_131 : decode cX6_laysFamilies 131 = .ok (.iconst 1, 1) := by decide +kernel
theorem dX6_laysFamilies_132 : decode cX6_laysFamilies 132 = .ok (.if_icmp .ne 12, 3) := by decide +kernel
theorem dX6_laysFamilies_135 : decode cX6_laysFamilies 135 = .ok (.aload_n 0, 1) := by decide +kernel
theorem dX6_laysFamilies_136 : decode cX6_laysFamilies 136 = .ok (.iload 4, 2) := by decide +kernel
theorem dX6_laysFamilies_138 : decode cX6_laysFamilies 138 = .ok (.invokevirtual 110, 3) := by decide +kernel
theorem dX6_laysFamilies_141 : decode cX6_laysFamilies 141 = .ok (.goto 4, 3) := by decide +kernel
theorem dX6_laysFamilies_144 : decode cX6_laysFamilies 144 = .ok (.iconst 0, 1) := by decide +kernel
theorem dX6_laysFamilies_145 : decode cX6_laysFamilies 145 = .ok (.ior, 1) := by decide +kernel
theorem dX6_laysFamilies_146 : decode cX6_laysFamilies 146 = .ok (.istore_n 3, 1) := by decide +kernel
theorem dX6_laysFamilies_147 : decode cX6_laysFamilies 147 = .ok (.iinc 4 1, 3) := by decide +kernel
theorem dX6_laysFamilies_150 : decode cX6_laysFamilies 150 = .ok (.goto (-42), 3) := by decide +kernel
theorem dX6_laysFamilies_153 : decode cX6_laysFamilies 153 = .ok (.aload_n 0, 1) := by decide +kernel
theorem dX6_laysFamilies_154 : decode cX6_laysFamilies 154 = .ok (.getfield 34, 3) := by decide +kernel
theorem dX6_laysFamilies_157 : decode cX6_laysFamilies 157 = .ok (.iload_n 2, 1) := by decide +kernel
theorem dX6_laysFamilies_158 : decode cX6_laysFamilies 158 = .ok (.iload_n 3, 1) := by decide +kernel
theorem dX6_laysFamilies_159 : decode cX6_laysFamilies 159 = .ok (.aload_n 0, 1) := by decide +kernel
theorem dX6_laysFamilies_160 : decode cX6_laysFamilies 160 = .ok (.getfield 7, 3) := by decide +kernel
theorem dX6_laysFamilies_163 : decode cX6_laysFamilies 163 = .ok (.iconst 5, 1) := by decide +kernel
theorem dX6_laysFamilies_164 : decode cX6_laysFamilies 164 = .ok (.iaload, 1) := by decide +kernel
theorem dX6_laysFamilies_165 : decode cX6_laysFamilies 165 = .ok (.iconst (-1), 1) := by decide +kernel
theorem dX6_laysFamilies_166 : decode cX6_laysFamilies 166 = .ok (.ixor, 1) := by decide +kernel
theorem dX6_laysFamilies_167 : decode cX6_laysFamilies 167 = .ok (.iand, 1) := by decide +kernel
theorem dX6_laysFamilies_168 : decode cX6_laysFamilies 168 = .ok (.iconst 1, 1) := by decide +kernel
theorem dX6_laysFamilies_169 : decode cX6_laysFamilies 169 = .ok (.iload_n 1, 1) := by decide +kernel
theorem dX6_laysFamilies_170 : decode cX6_laysFamilies 170 = .ok (.bipush 97, 2) := by decide +kernel
theorem dX6_laysFamilies_172 : decode cX6_laysFamilies 172 = .ok (.isub, 1) := by decide +kernel
theorem dX6_laysFamilies_173 : decode cX6_laysFamilies 173 = .ok (.ishl, 1) := by decide +kernel
theorem dX6_laysFamilies_174 : decode cX6_laysFamilies 174 = .ok (.iconst (-1), 1) := by decide +kernel
theorem dX6_laysFamilies_175 : decode cX6_laysFamilies 175 = .ok (.ixor, 1) := by decide +kernel
theorem dX6_laysFamilies_176 : decode cX6_laysFamilies 176 = .ok (.iand, 1) := by decide +kernel
theorem dX6_laysFamilies_177 : decode cX6_laysFamilies 177 = .ok (.invokestatic 113, 3) := by decide +kernel
theorem dX6_laysFamilies_180 : decode cX6_laysFamilies 180 = .ok (.iastore, 1) := by decide +kernel
theorem dX6_laysFamilies_181 : decode cX6_laysFamilies 181 = .ok (.aload_n 0, 1) := by decide +kernel
theorem dX6_laysFamilies_182 : decode cX6_laysFamilies 182 = .ok (.getfield 28, 3) := by decide +kernel
theorem dX6_laysFamilies_185 : decode cX6_laysFamilies 185 = .ok (.iload_n 2, 1) := by decide +kernel
theorem dX6_laysFamilies_186 : decode cX6_laysFamilies 186 = .ok (.aload_n 0, 1) := by decide +kernel
theorem dX6_laysFamilies_187 : decode cX6_laysFamilies 187 = .ok (.getfield 25, 3) := by decide +kernel
theorem dX6_laysFamilies_190 : decode cX6_laysFamilies 190 = .ok (.iload_n 2, 1) := by decide +kernel
theorem dX6_laysFamilies_191 : decode cX6_laysFamilies 191 = .ok (.iaload, 1) := by decide +kernel
theorem dX6_laysFamilies_192 : decode cX6_laysFamilies 192 = .ok (.invokestatic 113, 3) := by decide +kernel
theorem dX6_laysFamilies_195 : decode cX6_laysFamilies 195 = .ok (.iastore, 1) := by decide +kernel
theorem dX6_laysFamilies_196 : decode cX6_laysFamilies 196 = .ok (.aload_n 0, 1) := by decide +kernel
theorem dX6_laysFamilies_197 : decode cX6_laysFamilies 197 = .ok (.getfield 31, 3) := by decide +kernel
theorem dX6_laysFamilies_200 : decode cX6_laysFamilies 200 = .ok (.iload_n 2, 1) := by decide +kernel
theorem dX6_laysFamilies_201 : decode cX6_laysFamilies 201 = .ok (.aload_n 0, 1) := by decide +kernel
theorem dX6_laysFamilies_202 : decode cX6_laysFamilies 202 = .ok (.getfield 22, 3) := by decide +kernel
theorem dX6_laysFamilies_205 : decode cX6_laysFamilies 205 = .ok (.iload_n 2, 1) := by decide +kernel
theorem dX6_laysFamilies_206 : decode cX6_laysFamilies 206 = .ok (.iaload, 1) := by decide +kernel
theorem dX6_laysFamilies_207 : decode cX6_laysFamilies 207 = .ok (.invokestatic 113, 3) := by decide +kernel
theorem dX6_laysFamilies_210 : decode cX6_laysFamilies 210 = .ok (.iastore, 1) := by decide +kernel
theorem dX6_laysFamilies_211 : decode cX6_laysFamilies 211 = .ok (.iinc 2 1, 3) := by decide +kernel
theorem dX6_laysFamilies_214 : decode cX6_laysFamilies 214 = .ok (.goto (-119), 3) := by decide +kernel
theorem dX6_laysFamilies_217 : decode cX6_laysFamilies 217 = .ok (.return_, 1) := by decide +kernel
theorem dX6_isAhead_0 : decode cX6_isAhead 0 = .ok (.aload_n 0, 1) := by decide +kernel
theorem dX6_isAhead_1 : decode cX6_isAhead 1 = .ok (.getfield 7, 3) := by decide +kernel
theorem dX6_isAhead_4 : decode cX6_isAhead 4 = .ok (.iconst 1, 1) := by decide +kernel
theorem dX6_isAhead_5 : decode cX6_isAhead 5 = .ok (.iaload, 1) := by decide +kernel
theorem dX6_isAhead_6 : decode cX6_isAhead 6 = .ok (.iconst 1, 1) := by decide +kernel
theorem dX6_isAhead_7 : decode cX6_isAhead 7 = .ok (.if_icmp .ne 45, 3) := by decide +kernel
theorem dX6_isAhead_10 : decode cX6_isAhead 10 = .ok (.aload_n 0, 1) := by decide +kernel
theorem dX6_isAhead_11 : decode cX6_isAhead 11 = .ok (.getfield 22, 3) := by decide +kernel
theorem dX6_isAhead_14 : decode cX6_isAhead 14 = .ok (.iload_n 1, 1) := by decide +kernel
theorem dX6_isAhead_15 : decode cX6_isAhead 15 = .ok (.iaload, 1) := by decide +kernel
theorem dX6_isAhead_16 : decode cX6_isAhead 16 = .ok (.ifCond .eq 12, 3) := by decide +kernel
theorem dX6_isAhead_19 : decode cX6_isAhead 19 = .ok (.aload_n 0, 1) := by decide +kernel
theorem dX6_isAhead_20 : decode cX6_isAhead 20 = .ok (.getfield 22, 3) := by decide +kernel
theorem dX6_isAhead_23 : decode cX6_isAhead 23 = .ok (.iload_n 2, 1) := by decide +kernel
theorem dX6_isAhead_24 : decode cX6_isAhead 24 = .ok (.iaload, 1) := by decide +kernel
theorem dX6_isAhead_25 : decode cX6_isAhead 25 = .ok (.ifCond .ne 27, 3) := by decide +kernel
theorem dX6_isAhead_28 : decode cX6_isAhead 28 = .ok (.aload_n 0, 1) := by decide +kernel
theorem dX6_isAhead_29 : decode cX6_isAhead 29 = .ok (.getfield 22, 3) := by decide +kernel
theorem dX6_isAhead_32 : decode cX6_isAhead 32 = .ok (.iload_n 1, 1) := by decide +kernel
theorem dX6_isAhead_33 : decode cX6_isAhead 33 = .ok (.iaload, 1) := by decide +kernel
theorem dX6_isAhead_34 : decode cX6_isAhead 34 = .ok (.ifCond .ne 16, 3) := by decide +kernel
theorem dX6_isAhead_37 : decode cX6_isAhead 37 = .ok (.aload_n 0, 1) := by decide +kernel
theorem dX6_isAhead_38 : decode cX6_isAhead 38 = .ok (.getfield 22, 3) := by decide +kernel
theorem dX6_isAhead_41 : decode cX6_isAhead 41 = .ok (.iload_n 2, 1) := by decide +kernel
theorem dX6_isAhead_42 : decode cX6_isAhead 42 = .ok (.iaload, 1) := by decide +kernel
theorem dX6_isAhead_43 : decode cX6_isAhead 43 = .ok (.ifCond .eq 7, 3) := by decide +kernel
theorem dX6_isAhead_46 : decode cX6_isAhead 46 = .ok (.iconst 1, 1) := by decide +kernel
theorem dX6_isAhead_47 : decode cX6_isAhead 47 = .ok (.goto 4, 3) := by decide +kernel
theorem dX6_isAhead_50 : decode cX6_isAhead 50 = .ok (.iconst 0, 1) := by decide +kernel
theorem dX6_isAhead_51 : decode cX6_isAhead 51 = .ok (.ireturn, 1) := by decide +kernel
theorem dX6_isAhead_52 : decode cX6_isAhead 52 = .ok (.aload_n 0, 1) := by decide +kernel
theorem dX6_isAhead_53 : decode cX6_isAhead 53 = .ok (.getfield 7, 3) := by decide +kernel
theorem dX6_isAhead_56 : decode cX6_isAhead 56 = .ok (.iconst 1, 1) := by decide +kernel
theorem dX6_isAhead_57 : decode cX6_isAhead 57 = .ok (.iaload, 1) := by decide +kernel
theorem dX6_isAhead_58 : decode cX6_isAhead 58 = .ok (.iconst 2, 1) := by decide +kernel
theorem dX6_isAhead_59 : decode cX6_isAhead 59 = .ok (.if_icmp .ne 39, 3) := by decide +kernel
theorem dX6_isAhead_62 : decode cX6_isAhead 62 = .ok (.aload_n 0, 1) := by decide +kernel
theorem dX6_isAhead_63 : decode cX6_isAhead 63 = .ok (.getfield 34, 3) := by decide +kernel
theorem dX6_isAhead_66 : decode cX6_isAhead 66 = .ok (.iload_n 1, 1) := by decide +kernel
theorem dX6_isAhead_67 : decode cX6_isAhead 67 = .ok (.iaload, 1) := by decide +kernel
theorem dX6_isAhead_68 : decode cX6_isAhead 68 = .ok (.aload_n 0, 1) := by decide +kernel
theorem dX6_isAhead_69 : decode cX6_isAhead 69 = .ok (.getfield 34, 3) := by decide +kernel
theorem dX6_isAhead_72 : decode cX6_isAhead 72 = .ok (.iload_n 2, 1) := by decide +kernel
theorem dX6_isAhead_73 : decode cX6_isAhead 73 = .ok (.iaload, 1) := by decide +kernel
theorem dX6_isAhead_74 : decode cX6_isAhead 74 = .ok (.if_icmp .eq 24, 3) := by decide +kernel
theorem dX6_isAhead_77 : decode cX6_isAhead 77 = .ok (.aload_n 0, 1) := by decide +kernel
theorem dX6_isAhead_78 : decode cX6_isAhead 78 = .ok (.getfield 34, 3) := by decide +kernel
theorem dX6_isAhead_81 : decode cX6_isAhead 81 = .ok (.iload_n 1, 1) := by decide +kernel
theorem dX6_isAhead_82 : decode cX6_isAhead 82 = .ok (.iaload, 1) := by decide +kernel
theorem dX6_isAhead_83 : decode cX6_isAhead 83 = .ok (.aload_n 0, 1) := by decide +kernel
theorem dX6_isAhead_84 : decode cX6_isAhead 84 = .ok (.getfield 34, 3) := by decide +kernel
theorem dX6_isAhead_87 : decode cX6_isAhead 87 = .ok (.iload_n 2, 1) := by decide +kernel
theorem dX6_isAhead_88 : decode cX6_isAhead 88 = .ok (.iaload, 1) := by decide +kernel
theorem dX6_isAhead_89 : decode cX6_isAhead 89 = .ok (.if_icmp .le 7, 3) := by decide +kernel
theorem dX6_isAhead_92 : decode cX6_isAhead 92 = .ok (.iconst 1, 1) := by decide +kernel
theorem dX6_isAhead_93 : decode cX6_isAhead 93 = .ok (.goto 4, 3) := by decide +kernel
theorem dX6_isAhead_96 : decode cX6_isAhead 96 = .ok (.iconst 0, 1) := by decide +kernel
theorem dX6_isAhead_97 : decode cX6_isAhead 97 = .ok (.ireturn, 1) := by decide +kernel
theorem dX6_isAhead_98 : decode cX6_isAhead 98 = .ok (.aload_n 0, 1) := by decide +kernel
theorem dX6_isAhead_99 : decode cX6_isAhead 99 = .ok (.getfield 28, 3) := by decide +kernel
theorem dX6_isAhead_102 : decode cX6_isAhead 102 = .ok (.iload_n 1, 1) := by decide +kernel
theorem dX6_isAhead_103 : decode cX6_isAhead 103 = .ok (.iaload, 1) := by decide +kernel
theorem dX6_isAhead_104 : decode cX6_isAhead 104 = .ok (.aload_n 0, 1) := by decide +kernel
theorem dX6_isAhead_105 : decode cX6_isAhead 105 = .ok (.getfield 28, 3) := by decide +kernel
theorem dX6_isAhead_108 : decode cX6_isAhead 108 = .ok (.iload_n 2, 1) := by decide +kernel
theorem dX6_isAhead_109 : decode cX6_isAhead 109 = .ok (.iaload, 1) := by decide +kernel
theorem dX6_isAhead_110 : decode cX6_isAhead 110 = .ok (.if_icmp .eq 24, 3) := by decide +kernel
theorem dX6_isAhead_113 : decode cX6_isAhead 113 = .ok (.aload_n 0, 1) := by decide +kernel
theorem dX6_isAhead_114 : decode cX6_isAhead 114 = .ok (.getfield 28, 3) := by decide +kernel
theorem dX6_isAhead_117 : decode cX6_isAhead 117 = .ok (.iload_n 1, 1) := by decide +kernel
theorem dX6_isAhead_118 : decode cX6_isAhead 118 = .ok (.iaload, 1) := by decide +kernel
theorem dX6_isAhead_119 : decode cX6_isAhead 119 = .ok (.aload_n 0, 1) := by decide +kernel
theorem dX6_isAhead_120 : decode cX6_isAhead 120 = .ok (.getfield 28, 3) := by decide +kernel
theorem dX6_isAhead_123 : decode cX6_isAhead 123 = .ok (.iload_n 2, 1) := by decide +kernel
theorem dX6_isAhead_124 : decode cX6_isAhead 124 = .ok (.iaload, 1) := by decide +kernel
theorem dX6_isAhead_125 : decode cX6_isAhead 125 = .ok (.if_icmp .le 7, 3) := by decide +kernel
theorem dX6_isAhead_128 : decode cX6_isAhead 128 = .ok (.iconst 1, 1) := by decide +kernel
theorem dX6_isAhead_129 : decode cX6_isAhead 129 = .ok (.goto 4, 3) := by decide +kernel
theorem dX6_isAhead_132 : decode cX6_isAhead 132 = .ok (.iconst 0, 1) := by decide +kernel
theorem dX6_isAhead_133 : decode cX6_isAhead 133 = .ok (.ireturn, 1) := by decide +kernel
theorem dX6_isAhead_134 : decode cX6_isAhead 134 = .ok (.aload_n 0, 1) := by decide +kernel
theorem dX6_isAhead_135 : decode cX6_isAhead 135 = .ok (.getfield 31, 3) := by decide +kernel
theorem dX6_isAhead_138 : decode cX6_isAhead 138 = .ok (.iload_n 1, 1) := by decide +kernel
theorem dX6_isAhead_139 : decode cX6_isAhead 139 = .ok (.iaload, 1) := by decide +kernel
theorem dX6_isAhead_140 : decode cX6_isAhead 140 = .ok (.aload_n 0, 1) := by decide +kernel
theorem dX6_isAhead_141 : decode cX6_isAhead 141 = .ok (.getfield 31, 3) := by decide +kernel
theorem dX6_isAhead_144 : decode cX6_isAhead 144 = .ok (.iload_n 2, 1) := by decide +kernel
theorem dX6_isAhead_145 : decode cX6_isAhead 145 = .ok (.iaload, 1) := by decide +kernel
theorem dX6_isAhead_146 : decode cX6_isAhead 146 = .ok (.if_icmp .eq 26, 3) := by decide +kernel
theorem dX6_isAhead_149 : decode cX6_isAhead 149 = .ok (.aload_n 0, 1) := by decide +kernel
theorem dX6_isAhead_150 : decode cX6_isAhead 150 = .ok (.getfield 31, 3) := by decide +kernel
theorem dX6_isAhead_153 : decode cX6_isAhead 153 = .ok (.iload_n 1, 1) := by decide +kernel
theorem dX6_isAhead_154 : decode cX6_isAhead 154 = .ok (.iaload, 1) := by decide +kernel
theorem dX6_isAhead_155 : decode cX6_isAhead 155 = .ok (.aload_n 0, 1) := by decide +kernel
theorem dX6_isAhead_156 : decode cX6_isAhead 156 = .ok (.getfield 31, 3) := by decide +kernel
theorem dX6_isAhead_159 : decode cX6_isAhead 159 = .ok (.iload_n 2, 1) := by decide +kernel
theorem dX6_isAhead_160 : decode cX6_isAhead 160 = .ok (.iaload, 1) := by decide +kernel
theorem dX6_isAhead_161 : decode cX6_isAhead 161 = .ok (.if_icmp .ge 7, 3) := by decide +kernel
theorem dX6_isAhead_164 : decode cX6_isAhead 164 = .ok (.iconst 1, 1) := by decide +kernel
theorem dX6_isAhead_165 : decode cX6_isAhead 165 = .ok (.goto 27, 3) := by decide +kernel
theorem dX6_isAhead_168 : decode cX6_isAhead 168 = .ok (.iconst 0, 1) := by decide +kernel
theorem dX6_isAhead_169 : decode cX6_isAhead 169 = .ok (.goto 23, 3) := by decide +kernel
theorem dX6_isAhead_172 : decode cX6_isAhead 172 = .ok (.aload_n 0, 1) := by decide +kernel
theorem dX6_isAhead_173 : decode cX6_isAhead 173 = .ok (.getfield 22, 3) := by decide +kernel
theorem dX6_isAhead_176 : decode cX6_isAhead 176 = .ok (.iload_n 1, 1) := by decide +kernel
theorem dX6_isAhead_177 : decode cX6_isAhead 177 = .ok (.iaload, 1) := by decide +kernel
theorem dX6_isAhead_178 : decode cX6_isAhead 178 = .ok (.aload_n 0, 1) := by decide +kernel
theorem dX6_isAhead_179 : decode cX6_isAhead 179 = .ok (.getfield 22, 3) := by decide +kernel
theorem dX6_isAhead_182 : decode cX6_isAhead 182 = .ok (.iload_n 2, 1) := by decide +kernel
theorem dX6_isAhead_183 : decode cX6_isAhead 183 = .ok (.iaload, 1) := by decide +kernel
theorem dX6_isAhead_184 : decode cX6_isAhead 184 = .ok (.if_icmp .ge 7, 3) := by decide +kernel
theorem dX6_isAhead_187 : decode cX6_isAhead 187 = .ok (.iconst 1, 1) := by decide +kernel
theorem dX6_isAhead_188 : decode cX6_isAhead 188 = .ok (.goto 4, 3) := by decide +kernel
theorem dX6_isAhead_191 : decode cX6_isAhead 191 = .ok (.iconst 0, 1) := by decide +kernel
theorem dX6_isAhead_192 : decode cX6_isAhead 192 = .ok (.ireturn, 1) := by decide +kernel
set_option maxRecDepth 20000 in
theorem ggX6_ranked_X6_isAhead : GoodIn wsX6_ranked wsX6_isAhead := goodIn_r _ [6, 7, 8, 9, 10, 11, 12, 13, 14, 15, 16, 17, 18, 19, 20, 21, 22, 23] (by decide +kernel) (by decide +kernel)
set_option maxRecDepth 20000 in
theorem gX6_ranked_X6_isAhead : GoodIn wsX6_ranked (wsV RX6 116 RX6 yX6_isAhead wsX6_isAhead) := goodIn_app (goodIn_of _ (by decide +kernel)) ggX6_ranked_X6_isAhead
theorem dX6_ranked_0 : decode cX6_ranked 0 = .ok (.iconst 0, 1) := by decide +kernel
theorem dX6_ranked_1 : decode cX6_ranked 1 = .ok (.istore_n 2, 1) := by decide +kernel
theorem dX6_ranked_2 : decode cX6_ranked 2 = .ok (.iload_n 2, 1) := by decide +kernel
theorem dX6_ranked_3 : decode cX6_ranked 3 = .ok (.aload_n 0, 1) := by decide +kernel
theorem dX6_ranked_4 : decode cX6_ranked 4 = .ok (.getfield 37, 3) := by decide +kernel
theorem dX6_ranked_7 : decode cX6_ranked 7 = .ok (.if_icmp .ge 54, 3) := by decide +kernel
theorem dX6_ranked_10 : decode cX6_ranked 10 = .ok (.iconst 0, 1) := by decide +kernel
theorem dX6_ranked_11 : decode cX6_ranked 11 = .ok (.istore_n 3, 1) := by decide +kernel
theorem dX6_ranked_12 : decode cX6_ranked 12 = .ok (.iconst 0, 1) := by decide +kernel
theorem dX6_ranked_13 : decode cX6_ranked 13 = .ok (.istore 4, 2) := by decide +kernel
theorem dX6_ranked_15 : decode cX6_ranked 15 = .ok (.iload 4, 2) := by decide +kernel
theorem dX6_ranked_17 : decode cX6_ranked 17 = .ok (.aload_n 0, 1) := by decide +kernel
theorem dX6_ranked_18 : decode cX6_ranked 18 = .ok (.getfield 37, 3) := by decide +kernel
theorem dX6_ranked_21 : decode cX6_ranked 21 = .ok (.if_icmp .ge 27, 3) := by decide +kernel
theorem dX6_ranked_24 : decode cX6_ranked 24 = .ok (.iload_n 3, 1) := by decide +kernel
theorem dX6_ranked_25 : decode cX6_ranked 25 = .ok (.aload_n 0, 1) := by decide +kernel
theorem dX6_ranked_26 : decode cX6_ranked 26 = .ok (.iload 4, 2) := by decide +kernel
theorem dX6_ranked_28 : decode cX6_ranked 28 = .ok (.iload_n 2, 1) := by decide +kernel
theorem dX6_ranked_29 : decode cX6_ranked 29 = .ok (.invokevirtual 116, 3) := by decide +kernel
theorem dX6_ranked_32 : decode cX6_ranked 32 = .ok (.ifCond .eq 7, 3) := by decide +kernel
theorem dX6_ranked_35 : decode cX6_ranked 35 = .ok (.iconst 1, 1) := by decide +kernel
theorem dX6_ranked_36 : decode cX6_ranked 36 = .ok (.goto 4, 3) := by decide +kernel
theorem dX6_ranked_39 : decode cX6_ranked 39 = .ok (.iconst 0, 1) := by decide +kernel
theorem dX6_ranked_40 : decode cX6_ranked 40 = .ok (.iadd, 1) := by decide +kernel
theorem dX6_ranked_41 : decode cX6_ranked 41 = .ok (.istore_n 3, 1) := by decide +kernel
theorem dX6_ranked_42 : decode cX6_ranked 42 = .ok (.iinc 4 1, 3) := by decide +kernel
theorem dX6_ranked_45 : decode cX6_ranked 45 = .ok (.goto (-30), 3) := by decide +kernel
theorem dX6_ranked_48 : decode cX6_ranked 48 = .ok (.iload_n 3, 1) := by decide +kernel
theorem dX6_ranked_49 : decode cX6_ranked 49 = .ok (.iload_n 1, 1) := by decide +kernel
theorem dX6_ranked_50 : decode cX6_ranked 50 = .ok (.if_icmp .ne 5, 3) := by decide +kernel
theorem dX6_ranked_53 : decode cX6_ranked 53 = .ok (.iload_n 2, 1) := by decide +kernel
theorem dX6_ranked_54 : decode cX6_ranked 54 = .ok (.ireturn, 1) := by decide +kernel
theorem dX6_ranked_55 : decode cX6_ranked 55 = .ok (.iinc 2 1, 3) := by decide +kernel
theorem dX6_ranked_58 : decode cX6_ranked 58 = .ok (.goto (-56), 3) := by decide +kernel
theorem dX6_ranked_61 : decode cX6_ranked 61 = .ok (.aload_n 0, 1) := by decide +kernel
theorem dX6_ranked_62 : decode cX6_ranked 62 = .ok (.getfield 37, 3) := by decide +kernel
theorem dX6_ranked_65 : decode cX6_ranked 65 = .ok (.ireturn, 1) := by decide +kernel
set_option maxRecDepth 20000 in
theorem ggX6_setPolicy_X6_in : GoodIn wsX6_setPolicy wsX6_in := goodIn_r _ [5] (by decide +kernel) (by decide +kernel)
set_option maxRecDepth 20000 in
theorem gX6_setPolicy_X6_in : GoodIn wsX6_setPolicy (va_wsS RX6 41 yX6_in wsX6_in) := goodIn_app (goodIn_of _ (by decide +kernel)) ggX6_setPolicy_X6_in
set_option maxRecDepth 20000 in
theorem ggX6_setPolicy_X6_saves : GoodIn wsX6_setPolicy wsX6_saves := goodIn_r _ [9, 10, 11, 1, 12, 13, 14, 15, 16, 17, 18, 19, 20, 21, 22, 23] (by decide +kernel) (by decide +kernel)
set_option maxRecDepth 20000 in
theorem gX6_setPolicy_X6_saves : GoodIn wsX6_setPolicy (wsV RX6 98 RX6 yX6_saves wsX6_saves) := goodIn_app (goodIn_of _ (by decide +kernel)) ggX6_setPolicy_X6_saves
theorem dX6_setPolicy_0 : decode cX6_setPolicy 0 = .ok (.iload_n 1, 1) := by decide +kernel
theorem dX6_setPolicy_1 : decode cX6_setPolicy 1 = .ok (.iconst 0, 1) := by decide +kernel
theorem dX6_setPolicy_2 : decode cX6_setPolicy 2 = .ok (.iconst 2, 1) := by decide +kernel
theorem dX6_setPolicy_3 : decode cX6_setPolicy 3 = .ok (.invokestatic 41, 3) := by decide +kernel
theorem dX6_setPolicy_6 : decode cX6_setPolicy 6 = .ok (.ifCond .ne 6, 3) := by decide +kernel
theorem dX6_setPolicy_9 : decode cX6_setPolicy 9 = .ok (.bipush (-2), 2) := by decide +kernel
theorem dX6_setPolicy_11 : decode cX6_setPolicy 11 = .ok (.ireturn, 1) := by decide +kernel
theorem dX6_setPolicy_12 : decode cX6_setPolicy 12 = .ok (.aload_n 0, 1) := by decide +kernel
theorem dX6_setPolicy_13 : decode cX6_setPolicy 13 = .ok (.invokevirtual 98, 3) := by decide +kernel
theorem dX6_setPolicy_16 : decode cX6_setPolicy 16 = .ok (.aload_n 0, 1) := by decide +kernel
theorem dX6_setPolicy_17 : decode cX6_setPolicy 17 = .ok (.getfield 7, 3) := by decide +kernel
theorem dX6_setPolicy_20 : decode cX6_setPolicy 20 = .ok (.iconst 1, 1) := by decide +kernel
theorem dX6_setPolicy_21 : decode cX6_setPolicy 21 = .ok (.iaload, 1) := by decide +kernel
theorem dX6_setPolicy_22 : decode cX6_setPolicy 22 = .ok (.istore_n 2, 1) := by decide +kernel
theorem dX6_setPolicy_23 : decode cX6_setPolicy 23 = .ok (.aload_n 0, 1) := by decide +kernel
theorem dX6_setPolicy_24 : decode cX6_setPolicy 24 = .ok (.getfield 7, 3) := by decide +kernel
theorem dX6_setPolicy_27 : decode cX6_setPolicy 27 = .ok (.iconst 1, 1) := by decide +kernel
theorem dX6_setPolicy_28 : decode cX6_setPolicy 28 = .ok (.iload_n 1, 1) := by decide +kernel
theorem dX6_setPolicy_29 : decode cX6_setPolicy 29 = .ok (.iastore, 1) := by decide +kernel
theorem dX6_setPolicy_30 : decode cX6_setPolicy 30 = .ok (.iload_n 2, 1) := by decide +kernel
theorem dX6_setPolicy_31 : decode cX6_setPolicy 31 = .ok (.ireturn, 1) := by decide +kernel
theorem dX6_ofLength_0 : decode cX6_ofLength 0 = .ok (.iconst 0, 1) := by decide +kernel
theorem dX6_ofLength_1 : decode cX6_ofLength 1 = .ok (.istore_n 2, 1) := by decide +kernel
theorem dX6_ofLength_2 : decode cX6_ofLength 2 = .ok (.iconst 0, 1) := by decide +kernel
theorem dX6_ofLength_3 : decode cX6_ofLength 3 = .ok (.istore_n 3, 1) := by decide +kernel
theorem dX6_ofLength_4 : decode cX6_ofLength 4 = .ok (.iload_n 3, 1) := by decide +kernel
theorem dX6_ofLength_5 : decode cX6_ofLength 5 = .ok (.aload_n 0, 1) := by decide +kernel
theorem dX6_ofLength_6 : decode cX6_ofLength 6 = .ok (.getfield 7, 3) := by decide +kernel
theorem dX6_ofLength_9 : decode cX6_ofLength 9 = .ok (.iconst 0, 1) := by decide +kernel
theorem dX6_ofLength_10 : decode cX6_ofLength 10 = .ok (.iaload, 1) := by decide +kernel
theorem dX6_ofLength_11 : decode cX6_ofLength 11 = .ok (.if_icmp .ge 32, 3) := by decide +kernel
theorem dX6_ofLength_14 : decode cX6_ofLength 14 = .ok (.iload_n 2, 1) := by decide +kernel
theorem dX6_ofLength_15 : decode cX6_ofLength 15 = .ok (.aload_n 0, 1) := by decide +kernel
theorem dX6_ofLength_16 : decode cX6_ofLength 16 = .ok (.getfield 7, 3) := by decide +kernel
theorem dX6_ofLength_19 : decode cX6_ofLength 19 = .ok (.bipush 49, 2) := by decide +kernel
theorem dX6_ofLength_21 : decode cX6_ofLength 21 = .ok (.iload_n 3, 1) := by decide +kernel
theorem dX6_ofLength_22 : decode cX6_ofLength 22 = .ok (.iadd, 1) := by decide +kernel
theorem dX6_ofLength_23 : decode cX6_ofLength 23 = .ok (.iaload, 1) := by decide +kernel
theorem dX6_ofLength_24 : decode cX6_ofLength 24 = .ok (.iload_n 1, 1) := by decide +kernel
theorem dX6_ofLength_25 : decode cX6_ofLength 25 = .ok (.if_icmp .ne 9, 3) := by decide +kernel
theorem dX6_ofLength_28 : decode cX6_ofLength 28 = .ok (.iconst 1, 1) := by decide +kernel
theorem dX6_ofLength_29 : decode cX6_ofLength 29 = .ok (.iload_n 3, 1) := by decide +kernel
theorem dX6_ofLength_30 : decode cX6_ofLength 30 = .ok (.ishl, 1) := by decide +kernel
theorem dX6_ofLength_31 : decode cX6_ofLength 31 = .ok (.goto 4, 3) := by decide +kernel
theorem dX6_ofLength_34 : decode cX6_ofLength 34 = .ok (.iconst 0, 1) := by decide +kernel
theorem dX6_ofLength_35 : decode cX6_ofLength 35 = .ok (.ior, 1) := by decide +kernel
theorem dX6_ofLength_36 : decode cX6_ofLength 36 = .ok (.istore_n 2, 1) := by decide +kernel
theorem dX6_ofLength_37 : decode cX6_ofLength 37 = .ok (.iinc 3 1, 3) := by decide +kernel
theorem dX6_ofLength_40 : decode cX6_ofLength 40 = .ok (.goto (-36), 3) := by decide +kernel
theorem dX6_ofLength_43 : decode cX6_ofLength 43 = .ok (.iload_n 2, 1) := by decide +kernel
theorem dX6_ofLength_44 : decode cX6_ofLength 44 = .ok (.ireturn, 1) := by decide +kernel
set_option maxRecDepth 20000 in
theorem ggX6_start_X6_in : GoodIn wsX6_start wsX6_in := goodIn_r _ [5] (by decide +kernel) (by decide +kernel)
set_option maxRecDepth 20000 in
theorem gX6_start_X6_in : GoodIn wsX6_start (va_wsS RX6 41 yX6_in wsX6_in) := goodIn_app (goodIn_of _ (by decide +kernel)) ggX6_start_X6_in
set_option maxRecDepth 20000 in
theorem ggX6_start_X6_ofLength : GoodIn wsX6_start wsX6_ofLength := goodIn_r _ [9, 1, 23, 24, 25, 26, 27, 28, 29, 30, 31, 32, 33, 34] (by decide +kernel) (by decide +kernel)
set_option maxRecDepth 20000 in
theorem gX6_start_X6_ofLength : GoodIn wsX6_start (wsV RX6 119 RX6 yX6_ofLength wsX6_ofLength) := goodIn_app (goodIn_of _ (by decide +kernel)) ggX6_start_X6_ofLength
set_option maxRecDepth 20000 in
theorem ggX6_start_X6_saves : GoodIn wsX6_start wsX6_saves := goodIn_r _ [13, 14, 15, 1, 23, 24, 25, 26, 27, 28, 29, 30, 31, 32, 33, 34] (by decide +kernel) (by decide +kernel)
set_option maxRecDepth 20000 in
theorem gX6_start_X6_saves : GoodIn wsX6_start (wsV RX6 98 RX6 yX6_saves wsX6_saves) := goodIn_app (goodIn_of _ (by decide +kernel)) ggX6_start_X6_saves
set_option maxRecDepth 20000 in
theorem ggX6_start_X6_noGame : GoodIn wsX6_start wsX6_noGame := goodIn_r _ [19, 1, 23, 24, 25, 26, 27, 28, 29, 30, 31, 32, 33, 34] (by decide +kernel) (by decide +kernel)
set_option maxRecDepth 20000 in
theorem gX6_start_X6_noGame : GoodIn wsX6_start (wsV RX6 95 RX6 yX6_noGame wsX6_noGame) := goodIn_app (goodIn_of _ (by decide +kernel)) ggX6_start_X6_noGame
set_option maxRecDepth 20000 in
theorem ggX6_start_X6_bits : GoodIn wsX6_start wsX6_bits := goodIn_r _ [22] (by decide +kernel) (by decide +kernel)
set_option maxRecDepth 20000 in
theorem gX6_start_X6_bits : GoodIn wsX6_start (va_wsS RX6 113 yX6_bits wsX6_bits) := goodIn_app (goodIn_of _ (by decide +kernel)) ggX6_start_X6_bits
theorem dX6_start_0 : decode cX6_start 0 = .ok (.iload_n 1, 1) := by decide +kernel
theorem dX6_start_1 : decode cX6_start 1 = .ok (.iconst 2, 1) := by decide +kernel
theorem dX6_start_2 : decode cX6_start 2 = .ok (.bipush 8, 2) := by decide +kernel
theorem dX6_start_4 : decode cX6_start 4 = .ok (.invokestatic 41, 3) := by decide +kernel
theorem dX6_start_7 : decode cX6_start 7 = .ok (.ifCond .eq 13, 3) := by decide +kernel
theorem dX6_start_10 : decode cX6_start 10 = .ok (.iload_n 2, 1) := by decide +kernel
theorem dX6_start_11 : decode cX6_start 11 = .ok (.iconst 1, 1) := by decide +kernel
theorem dX6_start_12 : decode cX6_start 12 = .ok (.bipush 20, 2) := by decide +kernel
theorem dX6_start_14 : decode cX6_start 14 = .ok (.invokestatic 41, 3) := by decide +kernel
theorem dX6_start_17 : decode cX6_start 17 = .ok (.ifCond .ne 6, 3) := by decide +kernel
theorem dX6_start_20 : decode cX6_start 20 = .ok (.bipush (-2), 2) := by decide +kernel
theorem dX6_start_22 : decode cX6_start 22 = .ok (.ireturn, 1) := by decide +kernel
theorem dX6_start_23 : decode cX6_start 23 = .ok (.aload_n 0, 1) := by decide +kernel
theorem dX6_start_24 : decode cX6_start 24 = .ok (.iload_n 1, 1) := by decide +kernel
theorem dX6_start_25 : decode cX6_start 25 = .ok (.invokevirtual 119, 3) := by decide +kernel
theorem dX6_start_28 : decode cX6_start 28 = .ok (.ifCond .ne 6, 3) := by decide +kernel
theorem dX6_start_31 : decode cX6_start 31 = .ok (.bipush (-3), 2) := by decide +kernel
theorem dX6_start_33 : decode cX6_start 33 = .ok (.ireturn, 1) := by decide +kernel
theorem dX6_start_34 : decode cX6_start 34 = .ok (.aload_n 0, 1) := by decide +kernel
theorem dX6_start_35 : decode cX6_start 35 = .ok (.invokevirtual 98, 3) := by decide +kernel
theorem dX6_start_38 : decode cX6_start 38 = .ok (.aload_n 0, 1) := by decide +kernel
theorem dX6_start_39 : decode cX6_start 39 = .ok (.invokevirtual 95, 3) := by decide +kernel
theorem dX6_start_42 : decode cX6_start 42 = .ok (.aload_n 0, 1) := by decide +kernel
theorem dX6_start_43 : decode cX6_start 43 = .ok (.getfield 7, 3) := by decide +kernel
theorem dX6_start_46 : decode cX6_start 46 = .ok (.iconst 2, 1) := by decide +kernel
theorem dX6_start_47 : decode cX6_start 47 = .ok (.iconst 1, 1) := by decide +kernel
theorem dX6_start_48 : decode cX6_start 48 = .ok (.iastore, 1) := by decide +kernel
theorem dX6_start_49 : decode cX6_start 49 = .ok (.aload_n 0, 1) := by decide +kernel
theorem dX6_start_50 : decode cX6_start 50 = .ok (.getfield 7, 3) := by decide +kernel
theorem dX6_start_53 : decode cX6_start 53 = .ok (.iconst 3, 1) := by decide +kernel
theorem dX6_start_54 : decode cX6_start 54 = .ok (.iload_n 1, 1) := by decide +kernel
theorem dX6_start_55 : decode cX6_start 55 = .ok (.iastore, 1) := by decide +kernel
theorem dX6_start_56 : decode cX6_start 56 = .ok (.aload_n 0, 1) := by decide +kernel
theorem dX6_start_57 : decode cX6_start 57 = .ok (.getfield 7, 3) := by decide +kernel
theorem dX6_start_60 : decode cX6_start 60 = .ok (.iconst 4, 1) := by decide +kernel
theorem dX6_start_61 : decode cX6_start 61 = .ok (.iload_n 2, 1) := by decide +kernel
theorem dX6_start_62 : decode cX6_start 62 = .ok (.iastore, 1) := by decide +kernel
theorem dX6_start_63 : decode cX6_start 63 = .ok (.aload_n 0, 1) := by decide +kernel
theorem dX6_start_64 : decode cX6_start 64 = .ok (.getfield 7, 3) := by decide +kernel
theorem dX6_start_67 : decode cX6_start 67 = .ok (.bipush 7, 2) := by decide +kernel
theorem dX6_start_69 : decode cX6_start 69 = .ok (.aload_n 0, 1) := by decide +kernel
theorem dX6_start_70 : decode cX6_start 70 = .ok (.iload_n 1, 1) := by decide +kernel
theorem dX6_start_71 : decode cX6_start 71 = .ok (.invokevirtual 119, 3) := by decide +kernel
theorem dX6_start_74 : decode cX6_start 74 = .ok (.iastore, 1) := by decide +kernel
theorem dX6_start_75 : decode cX6_start 75 = .ok (.aload_n 0, 1) := by decide +kernel
theorem dX6_start_76 : decode cX6_start 76 = .ok (.getfield 7, 3) := by decide +kernel
theorem dX6_start_79 : decode cX6_start 79 = .ok (.bipush 8, 2) := by decide +kernel
theorem dX6_start_81 : decode cX6_start 81 = .ok (.dup2, 1) := by decide +kernel
theorem dX6_start_82 : decode cX6_start 82 = .ok (.iaload, 1) := by decide +kernel
theorem dX6_start_83 : decode cX6_start 83 = .ok (.iconst 1, 1) := by decide +kernel
theorem dX6_start_84 : decode cX6_start 84 = .ok (.iadd, 1) := by decide +kernel
theorem dX6_start_85 : decode cX6_start 85 = .ok (.iastore, 1) := by decide +kernel
theorem dX6_start_86 : decode cX6_start 86 = .ok (.aload_n 0, 1) := by decide +kernel
theorem dX6_start_87 : decode cX6_start 87 = .ok (.getfield 7, 3) := by decide +kernel
theorem dX6_start_90 : decode cX6_start 90 = .ok (.bipush 7, 2) := by decide +kernel
theorem dX6_start_92 : decode cX6_start 92 = .ok (.iaload, 1) := by decide +kernel
theorem dX6_start_93 : decode cX6_start 93 = .ok (.invokestatic 113, 3) := by decide +kernel
theorem dX6_start_96 : decode cX6_start 96 = .ok (.ireturn, 1) := by decide +kernel
theorem dX6_ends_0 : decode cX6_ends 0 = .ok (.aload_n 0, 1) := by decide +kernel
theorem dX6_ends_1 : decode cX6_ends 1 = .ok (.getfield 7, 3) := by decide +kernel
theorem dX6_ends_4 : decode cX6_ends 4 = .ok (.iconst 2, 1) := by decide +kernel
theorem dX6_ends_5 : decode cX6_ends 5 = .ok (.iload_n 1, 1) := by decide +kernel
theorem dX6_ends_6 : decode cX6_ends 6 = .ok (.iastore, 1) := by decide +kernel
theorem dX6_ends_7 : decode cX6_ends 7 = .ok (.aload_n 0, 1) := by decide +kernel
theorem dX6_ends_8 : decode cX6_ends 8 = .ok (.getfield 7, 3) := by decide +kernel
theorem dX6_ends_11 : decode cX6_ends 11 = .ok (.bipush 8, 2) := by decide +kernel
theorem dX6_ends_13 : decode cX6_ends 13 = .ok (.iload_n 1, 1) := by decide +kernel
theorem dX6_ends_14 : decode cX6_ends 14 = .ok (.iconst 2, 1) := by decide +kernel
theorem dX6_ends_15 : decode cX6_ends 15 = .ok (.if_icmp .ne 7, 3) := by decide +kernel
theorem dX6_ends_18 : decode cX6_ends 18 = .ok (.iconst 1, 1) := by decide +kernel
theorem dX6_ends_19 : decode cX6_ends 19 = .ok (.goto 4, 3) := by decide +kernel
theorem dX6_ends_22 : decode cX6_ends 22 = .ok (.iconst 2, 1) := by decide +kernel
theorem dX6_ends_23 : decode cX6_ends 23 = .ok (.iadd, 1) := by decide +kernel
theorem dX6_ends_24 : decode cX6_ends 24 = .ok (.dup2, 1) := by decide +kernel
theorem dX6_ends_25 : decode cX6_ends 25 = .ok (.iaload, 1) := by decide +kernel
theorem dX6_ends_26 : decode cX6_ends 26 = .ok (.iconst 1, 1) := by decide +kernel
theorem dX6_ends_27 : decode cX6_ends 27 = .ok (.iadd, 1) := by decide +kernel
theorem dX6_ends_28 : decode cX6_ends 28 = .ok (.iastore, 1) := by decide +kernel
theorem dX6_ends_29 : decode cX6_ends 29 = .ok (.return_, 1) := by decide +kernel
set_option maxRecDepth 20000 in
theorem ggX6_misses_X6_ends : GoodIn wsX6_misses wsX6_ends := goodIn_r _ [6, 1, 7, 8, 9, 10, 11, 12, 13, 14, 15, 16, 17, 18] (by decide +kernel) (by decide +kernel)
set_option maxRecDepth 20000 in
theorem gX6_misses_X6_ends : GoodIn wsX6_misses (wsV RX6 122 RX6 yX6_ends wsX6_ends) := goodIn_app (goodIn_of _ (by decide +kernel)) ggX6_misses_X6_ends
theorem dX6_misses_0 : decode cX6_misses 0 = .ok (.aload_n 0, 1) := by decide +kernel
theorem dX6_misses_1 : decode cX6_misses 1 = .ok (.getfield 7, 3) := by decide +kernel
theorem dX6_misses_4 : decode cX6_misses 4 = .ok (.iconst 4, 1) := by decide +kernel
theorem dX6_misses_5 : decode cX6_misses 5 = .ok (.dup2, 1) := by decide +kernel
theorem dX6_misses_6 : decode cX6_misses 6 = .ok (.iaload, 1) := by decide +kernel
theorem dX6_misses_7 : decode cX6_misses 7 = .ok (.iconst 1, 1) := by decide +kernel
theorem dX6_misses_8 : decode cX6_misses 8 = .ok (.isub, 1) := by decide +kernel
theorem dX6_misses_9 : decode cX6_misses 9 = .ok (.iastore, 1) := by decide +kernel
theorem dX6_misses_10 : decode cX6_misses 10 = .ok (.aload_n 0, 1) := by decide +kernel
theorem dX6_misses_11 : decode cX6_misses 11 = .ok (.getfield 7, 3) := by decide +kernel
theorem dX6_misses_14 : decode cX6_misses 14 = .ok (.bipush 13, 2) := by decide +kernel
theorem dX6_misses_16 : decode cX6_misses 16 = .ok (.dup2, 1) := by decide +kernel
theorem dX6_misses_17 : decode cX6_misses 17 = .ok (.iaload, 1) := by decide +kernel
theorem dX6_misses_18 : decode cX6_misses 18 = .ok (.iconst 1, 1) := by decide +kernel
theorem dX6_misses_19 : decode cX6_misses 19 = .ok (.iadd, 1) := by decide +kernel
theorem dX6_misses_20 : decode cX6_misses 20 = .ok (.iastore, 1) := by decide +kernel
theorem dX6_misses_21 : decode cX6_misses 21 = .ok (.aload_n 0, 1) := by decide +kernel
theorem dX6_misses_22 : decode cX6_misses 22 = .ok (.getfield 7, 3) := by decide +kernel
theorem dX6_misses_25 : decode cX6_misses 25 = .ok (.bipush 14, 2) := by decide +kernel
theorem dX6_misses_27 : decode cX6_misses 27 = .ok (.dup2, 1) := by decide +kernel
theorem dX6_misses_28 : decode cX6_misses 28 = .ok (.iaload, 1) := by decide +kernel
theorem dX6_misses_29 : decode cX6_misses 29 = .ok (.iload_n 1, 1) := by decide +kernel
theorem dX6_misses_30 : decode cX6_misses 30 = .ok (.ifCond .eq 7, 3) := by decide +kernel
theorem dX6_misses_33 : decode cX6_misses 33 = .ok (.iconst 1, 1) := by decide +kernel
theorem dX6_misses_34 : decode cX6_misses 34 = .ok (.goto 4, 3) := by decide +kernel
theorem dX6_misses_37 : decode cX6_misses 37 = .ok (.iconst 0, 1) := by decide +kernel
theorem dX6_misses_38 : decode cX6_misses 38 = .ok (.iadd, 1) := by decide +kernel
theorem dX6_misses_39 : decode cX6_misses 39 = .ok (.iastore, 1) := by decide +kernel
theorem dX6_misses_40 : decode cX6_misses 40 = .ok (.aload_n 0, 1) := by decide +kernel
theorem dX6_misses_41 : decode cX6_misses 41 = .ok (.getfield 7, 3) := by decide +kernel
theorem dX6_misses_44 : decode cX6_misses 44 = .ok (.iconst 4, 1) := by decide +kernel
theorem dX6_misses_45 : decode cX6_misses 45 = .ok (.iaload, 1) := by decide +kernel
theorem dX6_misses_46 : decode cX6_misses 46 = .ok (.ifCond .ne 8, 3) := by decide +kernel
theorem dX6_misses_49 : decode cX6_misses 49 = .ok (.aload_n 0, 1) := by decide +kernel
theorem dX6_misses_50 : decode cX6_misses 50 = .ok (.iconst 3, 1) := by decide +kernel
theorem dX6_misses_51 : decode cX6_misses 51 = .ok (.invokevirtual 122, 3) := by decide +kernel
theorem dX6_misses_54 : decode cX6_misses 54 = .ok (.return_, 1) := by decide +kernel
theorem dX6_isHidden_0 : decode cX6_isHidden 0 = .ok (.iconst 0, 1) := by decide +kernel
theorem dX6_isHidden_1 : decode cX6_isHidden 1 = .ok (.istore_n 1, 1) := by decide +kernel
theorem dX6_isHidden_2 : decode cX6_isHidden 2 = .ok (.iconst 0, 1) := by decide +kernel
theorem dX6_isHidden_3 : decode cX6_isHidden 3 = .ok (.istore_n 2, 1) := by decide +kernel
theorem dX6_isHidden_4 : decode cX6_isHidden 4 = .ok (.iload_n 2, 1) := by decide +kernel
theorem dX6_isHidden_5 : decode cX6_isHidden 5 = .ok (.aload_n 0, 1) := by decide +kernel
theorem dX6_isHidden_6 : decode cX6_isHidden 6 = .ok (.getfield 7, 3) := by decide +kernel
theorem dX6_isHidden_9 : decode cX6_isHidden 9 = .ok (.iconst 3, 1) := by decide +kernel
theorem dX6_isHidden_10 : decode cX6_isHidden 10 = .ok (.iaload, 1) := by decide +kernel
theorem dX6_isHidden_11 : decode cX6_isHidden 11 = .ok (.if_icmp .ge 31, 3) := by decide +kernel
theorem dX6_isHidden_14 : decode cX6_isHidden 14 = .ok (.iload_n 1, 1) := by decide +kernel
theorem dX6_isHidden_15 : decode cX6_isHidden 15 = .ok (.ifCond .ne 15, 3) := by decide +kernel
theorem dX6_isHidden_18 : decode cX6_isHidden 18 = .ok (.aload_n 0, 1) := by decide +kernel
theorem dX6_isHidden_19 : decode cX6_isHidden 19 = .ok (.getfield 7, 3) := by decide +kernel
theorem dX6_isHidden_22 : decode cX6_isHidden 22 = .ok (.bipush 41, 2) := by decide +kernel
theorem dX6_isHidden_24 : decode cX6_isHidden 24 = .ok (.iload_n 2, 1) := by decide +kernel
theorem dX6_isHidden_25 : decode cX6_isHidden 25 = .ok (.iadd, 1) := by decide +kernel
theorem dX6_isHidden_26 : decode cX6_isHidden 26 = .ok (.iaload, 1) := by decide +kernel
theorem dX6_isHidden_27 : decode cX6_isHidden 27 = .ok (.ifCond .ne 7, 3) := by decide +kernel
theorem dX6_isHidden_30 : decode cX6_isHidden 30 = .ok (.iconst 1, 1) := by decide +kernel
theorem dX6_isHidden_31 : decode cX6_isHidden 31 = .ok (.goto 4, 3) := by decide +kernel
theorem dX6_isHidden_34 : decode cX6_isHidden 34 = .ok (.iconst 0, 1) := by decide +kernel
theorem dX6_isHidden_35 : decode cX6_isHidden 35 = .ok (.istore_n 1, 1) := by decide +kernel
theorem dX6_isHidden_36 : decode cX6_isHidden 36 = .ok (.iinc 2 1, 3) := by decide +kernel
theorem dX6_isHidden_39 : decode cX6_isHidden 39 = .ok (.goto (-35), 3) := by decide +kernel
theorem dX6_isHidden_42 : decode cX6_isHidden 42 = .ok (.iload_n 1, 1) := by decide +kernel
theorem dX6_isHidden_43 : decode cX6_isHidden 43 = .ok (.ireturn, 1) := by decide +kernel
set_option maxRecDepth 20000 in
theorem ggX6_guessesOn_X6_laysFamilies : GoodIn wsX6_guessesOn wsX6_laysFamilies := goodIn_r _ [10, 1, 3, 2, 4, 11, 12, 5, 13, 14, 15, 9, 16, 17, 18, 19, 20, 21, 22, 23, 24, 25, 26, 27, 28, 29, 30, 31, 32, 33, 34, 35, 56, 57, 58, 59, 60, 61, 62, 63, 64, 65, 66, 67] (by decide +kernel) (by decide +kernel)
set_option maxRecDepth 20000 in
theorem gX6_guessesOn_X6_laysFamilies : GoodIn wsX6_guessesOn (wsV RX6 126 RX6 yX6_laysFamilies wsX6_laysFamilies) := goodIn_app (goodIn_of _ (by decide +kernel)) ggX6_guessesOn_X6_laysFamilies
set_option maxRecDepth 20000 in
theorem ggX6_guessesOn_X6_ranked : GoodIn wsX6_guessesOn wsX6_ranked := goodIn_r _ [39, 1, 40, 41, 42, 9, 43, 3, 2, 11, 12, 5, 56, 57, 58, 59, 60, 61, 62, 63, 64, 65, 66, 67] (by decide +kernel) (by decide +kernel)
set_option maxRecDepth 20000 in
theorem gX6_guessesOn_X6_ranked : GoodIn wsX6_guessesOn (wsV RX6 129 RX6 yX6_ranked wsX6_ranked) := goodIn_app (goodIn_of _ (by decide +kernel)) ggX6_guessesOn_X6_ranked
set_option maxRecDepth 20000 in
theorem ggX6_guessesOn_X6_misses : GoodIn wsX6_guessesOn wsX6_misses := goodIn_r _ [47, 3, 48, 49, 50, 9, 51, 56, 57, 58, 59, 60, 61, 62, 63, 64, 65, 66, 67] (by decide +kernel) (by decide +kernel)
set_option maxRecDepth 20000 in
theorem gX6_guessesOn_X6_misses : GoodIn wsX6_guessesOn (wsV RX6 132 RX6 yX6_misses wsX6_misses) := goodIn_app (goodIn_of _ (by decide +kernel)) ggX6_guessesOn_X6_misses
set_option maxRecDepth 20000 in
theorem ggX6_guessesOn_X6_isHidden : GoodIn wsX6_guessesOn wsX6_isHidden := goodIn_r _ [55, 3, 56, 57, 58, 59, 60, 61, 62, 63, 64, 65, 66, 67] (by decide +kernel) (by decide +kernel)
set_option maxRecDepth 20000 in
theorem gX6_guessesOn_X6_isHidden : GoodIn wsX6_guessesOn (wsV RX6 136 RX6 yX6_isHidden wsX6_isHidden) := goodIn_app (goodIn_of _ (by decide +kernel)) ggX6_guessesOn_X6_isHidden
set_option maxRecDepth 20000 in
theorem ggX6_guessesOn_X6_ends : GoodIn wsX6_guessesOn wsX6_ends := goodIn_r _ [51, 3, 56, 57, 58, 59, 60, 61, 62, 63, 64, 65, 66, 67] (by decide +kernel) (by decide +kernel)
set_option maxRecDepth 20000 in
theorem gX6_guessesOn_X6_ends : GoodIn wsX6_guessesOn (wsV RX6 122 RX6 yX6_ends wsX6_ends) := goodIn_app (goodIn_of _ (by decide +kernel)) ggX6_guessesOn_X6_ends
theorem dX6_guessesOn_0 : decode cX6_guessesOn 0 = .ok (.aload_n 0, 1) := by decide +kernel
theorem dX6_guessesOn_1 : decode cX6_guessesOn 1 = .ok (.iload_n 1, 1) := by decide +kernel
theorem dX6_guessesOn_2 : decode cX6_guessesOn 2 = .ok (.invokevirtual 126, 3) := by decide +kernel
theorem dX6_guessesOn_5 : decode cX6_guessesOn 5 = .ok (.aload_n 0, 1) := by decide +kernel
theorem dX6_guessesOn_6 : decode cX6_guessesOn 6 = .ok (.iconst 0, 1) := by decide +kernel
theorem dX6_guessesOn_7 : decode cX6_guessesOn 7 = .ok (.invokevirtual 129, 3) := by decide +kernel
theorem dX6_guessesOn_10 : decode cX6_guessesOn 10 = .ok (.istore_n 2, 1) := by decide +kernel
theorem dX6_guessesOn_11 : decode cX6_guessesOn 11 = .ok (.aload_n 0, 1) := by decide +kernel
theorem dX6_guessesOn_12 : decode cX6_guessesOn 12 = .ok (.getfield 37, 3) := by decide +kernel
theorem dX6_guessesOn_15 : decode cX6_guessesOn 15 = .ok (.iconst 1, 1) := by decide +kernel
theorem dX6_guessesOn_16 : decode cX6_guessesOn 16 = .ok (.if_icmp .gt 12, 3) := by decide +kernel
theorem dX6_guessesOn_19 : decode cX6_guessesOn 19 = .ok (.aload_n 0, 1) := by decide +kernel
theorem dX6_guessesOn_20 : decode cX6_guessesOn 20 = .ok (.getfield 22, 3) := by decide +kernel
theorem dX6_guessesOn_23 : decode cX6_guessesOn 23 = .ok (.iconst 0, 1) := by decide +kernel
theorem dX6_guessesOn_24 : decode cX6_guessesOn 24 = .ok (.iaload, 1) := by decide +kernel
theorem dX6_guessesOn_25 : decode cX6_guessesOn 25 = .ok (.ifCond .eq 7, 3) := by decide +kernel
theorem dX6_guessesOn_28 : decode cX6_guessesOn 28 = .ok (.iconst 1, 1) := by decide +kernel
theorem dX6_guessesOn_29 : decode cX6_guessesOn 29 = .ok (.goto 4, 3) := by decide +kernel
theorem dX6_guessesOn_32 : decode cX6_guessesOn 32 = .ok (.iconst 0, 1) := by decide +kernel
theorem dX6_guessesOn_33 : decode cX6_guessesOn 33 = .ok (.istore_n 3, 1) := by decide +kernel
theorem dX6_guessesOn_34 : decode cX6_guessesOn 34 = .ok (.aload_n 0, 1) := by decide +kernel
theorem dX6_guessesOn_35 : decode cX6_guessesOn 35 = .ok (.getfield 7, 3) := by decide +kernel
theorem dX6_guessesOn_38 : decode cX6_guessesOn 38 = .ok (.bipush 7, 2) := by decide +kernel
theorem dX6_guessesOn_40 : decode cX6_guessesOn 40 = .ok (.aload_n 0, 1) := by decide +kernel
theorem dX6_guessesOn_41 : decode cX6_guessesOn 41 = .ok (.getfield 25, 3) := by decide +kernel
theorem dX6_guessesOn_44 : decode cX6_guessesOn 44 = .ok (.iload_n 2, 1) := by decide +kernel
theorem dX6_guessesOn_45 : decode cX6_guessesOn 45 = .ok (.iaload, 1) := by decide +kernel
theorem dX6_guessesOn_46 : decode cX6_guessesOn 46 = .ok (.iastore, 1) := by decide +kernel
theorem dX6_guessesOn_47 : decode cX6_guessesOn 47 = .ok (.aload_n 0, 1) := by decide +kernel
theorem dX6_guessesOn_48 : decode cX6_guessesOn 48 = .ok (.getfield 7, 3) := by decide +kernel
theorem dX6_guessesOn_51 : decode cX6_guessesOn 51 = .ok (.bipush 15, 2) := by decide +kernel
theorem dX6_guessesOn_53 : decode cX6_guessesOn 53 = .ok (.aload_n 0, 1) := by decide +kernel
theorem dX6_guessesOn_54 : decode cX6_guessesOn 54 = .ok (.getfield 7, 3) := by decide +kernel
theorem dX6_guessesOn_57 : decode cX6_guessesOn 57 = .ok (.bipush 6, 2) := by decide +kernel
theorem dX6_guessesOn_59 : decode cX6_guessesOn 59 = .ok (.iaload, 1) := by decide +kernel
theorem dX6_guessesOn_60 : decode cX6_guessesOn 60 = .ok (.iadd, 1) := by decide +kernel
theorem dX6_guessesOn_61 : decode cX6_guessesOn 61 = .ok (.iload_n 1, 1) := by decide +kernel
theorem dX6_guessesOn_62 : decode cX6_guessesOn 62 = .ok (.iastore, 1) := by decide +kernel
theorem dX6_guessesOn_63 : decode cX6_guessesOn 63 = .ok (.aload_n 0, 1) := by decide +kernel
theorem dX6_guessesOn_64 : decode cX6_guessesOn 64 = .ok (.getfield 7, 3) := by decide +kernel
theorem dX6_guessesOn_67 : decode cX6_guessesOn 67 = .ok (.bipush 6, 2) := by decide +kernel
theorem dX6_guessesOn_69 : decode cX6_guessesOn 69 = .ok (.dup2, 1) := by decide +kernel
theorem dX6_guessesOn_70 : decode cX6_guessesOn 70 = .ok (.iaload, 1) := by decide +kernel
theorem dX6_guessesOn_71 : decode cX6_guessesOn 71 = .ok (.iconst 1, 1) := by decide +kernel
theorem dX6_guessesOn_72 : decode cX6_guessesOn 72 = .ok (.iadd, 1) := by decide +kernel
theorem dX6_guessesOn_73 : decode cX6_guessesOn 73 = .ok (.iastore, 1) := by decide +kernel
theorem dX6_guessesOn_74 : decode cX6_guessesOn 74 = .ok (.aload_n 0, 1) := by decide +kernel
theorem dX6_guessesOn_75 : decode cX6_guessesOn 75 = .ok (.getfield 7, 3) := by decide +kernel
theorem dX6_guessesOn_78 : decode cX6_guessesOn 78 = .ok (.iconst 5, 1) := by decide +kernel
theorem dX6_guessesOn_79 : decode cX6_guessesOn 79 = .ok (.dup2, 1) := by decide +kernel
theorem dX6_guessesOn_80 : decode cX6_guessesOn 80 = .ok (.iaload, 1) := by decide +kernel
theorem dX6_guessesOn_81 : decode cX6_guessesOn 81 = .ok (.iconst 1, 1) := by decide +kernel
theorem dX6_guessesOn_82 : decode cX6_guessesOn 82 = .ok (.iload_n 1, 1) := by decide +kernel
theorem dX6_guessesOn_83 : decode cX6_guessesOn 83 = .ok (.bipush 97, 2) := by decide +kernel
theorem dX6_guessesOn_85 : decode cX6_guessesOn 85 = .ok (.isub, 1) := by decide +kernel
theorem dX6_guessesOn_86 : decode cX6_guessesOn 86 = .ok (.ishl, 1) := by decide +kernel
theorem dX6_guessesOn_87 : decode cX6_guessesOn 87 = .ok (.ior, 1) := by decide +kernel
theorem dX6_guessesOn_88 : decode cX6_guessesOn 88 = .ok (.iastore, 1) := by decide +kernel
theorem dX6_guessesOn_89 : decode cX6_guessesOn 89 = .ok (.aload_n 0, 1) := by decide +kernel
theorem dX6_guessesOn_90 : decode cX6_guessesOn 90 = .ok (.getfield 7, 3) := by decide +kernel
theorem dX6_guessesOn_93 : decode cX6_guessesOn 93 = .ok (.bipush 11, 2) := by decide +kernel
theorem dX6_guessesOn_95 : decode cX6_guessesOn 95 = .ok (.dup2, 1) := by decide +kernel
theorem dX6_guessesOn_96 : decode cX6_guessesOn 96 = .ok (.iaload, 1) := by decide +kernel
theorem dX6_guessesOn_97 : decode cX6_guessesOn 97 = .ok (.iconst 1, 1) := by decide +kernel
theorem dX6_guessesOn_98 : decode cX6_guessesOn 98 = .ok (.iadd, 1) := by decide +kernel
theorem dX6_guessesOn_99 : decode cX6_guessesOn 99 = .ok (.iastore, 1) := by decide +kernel
theorem dX6_guessesOn_100 : decode cX6_guessesOn 100 = .ok (.aload_n 0, 1) := by decide +kernel
theorem dX6_guessesOn_101 : decode cX6_guessesOn 101 = .ok (.getfield 22, 3) := by decide +kernel
theorem dX6_guessesOn_104 : decode cX6_guessesOn 104 = .ok (.iload_n 2, 1) := by decide +kernel
theorem dX6_guessesOn_105 : decode cX6_guessesOn 105 = .ok (.iaload, 1) := by decide +kernel
theorem dX6_guessesOn_106 : decode cX6_guessesOn 106 = .ok (.istore 4, 2) := by decide +kernel
theorem dX6_guessesOn_108 : decode cX6_guessesOn 108 = .ok (.iload 4, 2) := by decide +kernel
theorem dX6_guessesOn_110 : decode cX6_guessesOn 110 = .ok (.ifCond .ne 10, 3) := by decide +kernel
theorem dX6_guessesOn_113 : decode cX6_guessesOn 113 = .ok (.aload_n 0, 1) := by decide +kernel
theorem dX6_guessesOn_114 : decode cX6_guessesOn 114 = .ok (.iload_n 3, 1) := by decide +kernel
theorem dX6_guessesOn_115 : decode cX6_guessesOn 115 = .ok (.invokevirtual 132, 3) := by decide +kernel
theorem dX6_guessesOn_118 : decode cX6_guessesOn 118 = .ok (.iconst 0, 1) := by decide +kernel
theorem dX6_guessesOn_119 : decode cX6_guessesOn 119 = .ok (.ireturn, 1) := by decide +kernel
theorem dX6_guessesOn_120 : decode cX6_guessesOn 120 = .ok (.iconst 0, 1) := by decide +kernel
theorem dX6_guessesOn_121 : decode cX6_guessesOn 121 = .ok (.istore 5, 2) := by decide +kernel
theorem dX6_guessesOn_123 : decode cX6_guessesOn 123 = .ok (.iload 5, 2) := by decide +kernel
theorem dX6_guessesOn_125 : decode cX6_guessesOn 125 = .ok (.aload_n 0, 1) := by decide +kernel
theorem dX6_guessesOn_126 : decode cX6_guessesOn 126 = .ok (.getfield 7, 3) := by decide +kernel
theorem dX6_guessesOn_129 : decode cX6_guessesOn 129 = .ok (.iconst 3, 1) := by decide +kernel
theorem dX6_guessesOn_130 : decode cX6_guessesOn 130 = .ok (.iaload, 1) := by decide +kernel
theorem dX6_guessesOn_131 : decode cX6_guessesOn 131 = .ok (.if_icmp .ge 44, 3) := by decide +kernel
theorem dX6_guessesOn_134 : decode cX6_guessesOn 134 = .ok (.aload_n 0, 1) := by decide +kernel
theorem dX6_guessesOn_135 : decode cX6_guessesOn 135 = .ok (.getfield 7, 3) := by decide +kernel
theorem dX6_guessesOn_138 : decode cX6_guessesOn 138 = .ok (.bipush 41, 2) := by decide +kernel
theorem dX6_guessesOn_140 : decode cX6_guessesOn 140 = .ok (.iload 5, 2) := by decide +kernel
theorem dX6_guessesOn_142 : decode cX6_guessesOn 142 = .ok (.iadd, 1) := by decide +kernel
theorem dX6_guessesOn_143 : decode cX6_guessesOn 143 = .ok (.iload 4, 2) := by decide +kernel
theorem dX6_guessesOn_145 : decode cX6_guessesOn 145 = .ok (.iload 5, 2) := by decide +kernel
theorem dX6_guessesOn_147 : decode cX6_guessesOn 147 = .ok (.ishr, 1) := by decide +kernel
theorem dX6_guessesOn_148 : decode cX6_guessesOn 148 = .ok (.iconst 1, 1) := by decide +kernel
theorem dX6_guessesOn_149 : decode cX6_guessesOn 149 = .ok (.iand, 1) := by decide +kernel
theorem dX6_guessesOn_150 : decode cX6_guessesOn 150 = .ok (.iconst 1, 1) := by decide +kernel
theorem dX6_guessesOn_151 : decode cX6_guessesOn 151 = .ok (.if_icmp .ne 7, 3) := by decide +kernel
theorem dX6_guessesOn_154 : decode cX6_guessesOn 154 = .ok (.iload_n 1, 1) := by decide +kernel
theorem dX6_guessesOn_155 : decode cX6_guessesOn 155 = .ok (.goto 13, 3) := by decide +kernel
theorem dX6_guessesOn_158 : decode cX6_guessesOn 158 = .ok (.aload_n 0, 1) := by decide +kernel
theorem dX6_guessesOn_159 : decode cX6_guessesOn 159 = .ok (.getfield 7, 3) := by decide +kernel
theorem dX6_guessesOn_162 : decode cX6_guessesOn 162 = .ok (.bipush 41, 2) := by decide +kernel
theorem dX6_guessesOn_164 : decode cX6_guessesOn 164 = .ok (.iload 5, 2) := by decide +kernel
theorem dX6_guessesOn_166 : decode cX6_guessesOn 166 = .ok (.iadd, 1) := by decide +kernel
theorem dX6_guessesOn_167 : decode cX6_guessesOn 167 = .ok (.iaload, 1) := by decide +kernel
theorem dX6_guessesOn_168 : decode cX6_guessesOn 168 = .ok (.iastore, 1) := by decide +kernel
theorem dX6_guessesOn_169 : decode cX6_guessesOn 169 = .ok (.iinc 5 1, 3) := by decide +kernel
theorem dX6_guessesOn_172 : decode cX6_guessesOn 172 = .ok (.goto (-49), 3) := by decide +kernel
theorem dX6_guessesOn_175 : decode cX6_guessesOn 175 = .ok (.aload_n 0, 1) := by decide +kernel
theorem dX6_guessesOn_176 : decode cX6_guessesOn 176 = .ok (.invokevirtual 136, 3) := by decide +kernel
theorem dX6_guessesOn_179 : decode cX6_guessesOn 179 = .ok (.ifCond .ne 8, 3) := by decide +kernel
theorem dX6_guessesOn_182 : decode cX6_guessesOn 182 = .ok (.aload_n 0, 1) := by decide +kernel
theorem dX6_guessesOn_183 : decode cX6_guessesOn 183 = .ok (.iconst 2, 1) := by decide +kernel
theorem dX6_guessesOn_184 : decode cX6_guessesOn 184 = .ok (.invokevirtual 122, 3) := by decide +kernel
theorem dX6_guessesOn_187 : decode cX6_guessesOn 187 = .ok (.aload_n 0, 1) := by decide +kernel
theorem dX6_guessesOn_188 : decode cX6_guessesOn 188 = .ok (.getfield 31, 3) := by decide +kernel
theorem dX6_guessesOn_191 : decode cX6_guessesOn 191 = .ok (.iload_n 2, 1) := by decide +kernel
theorem dX6_guessesOn_192 : decode cX6_guessesOn 192 = .ok (.iaload, 1) := by decide +kernel
theorem dX6_guessesOn_193 : decode cX6_guessesOn 193 = .ok (.ireturn, 1) := by decide +kernel
set_option maxRecDepth 20000 in
theorem ggX6_guess_X6_isLetter : GoodIn wsX6_guess wsX6_isLetter := goodIn_r _ [4, 5, 6, 3, 7] (by decide +kernel) (by decide +kernel)
set_option maxRecDepth 20000 in
theorem gX6_guess_X6_isLetter : GoodIn wsX6_guess (va_wsS RX6 51 yX6_isLetter wsX6_isLetter) := goodIn_app (goodIn_of _ (by decide +kernel)) ggX6_guess_X6_isLetter
set_option maxRecDepth 20000 in
theorem ggX6_guess_X6_runs : GoodIn wsX6_guess wsX6_runs := goodIn_r _ [11, 12, 80, 81, 82, 83, 84, 85, 86, 87, 88, 89, 90, 91] (by decide +kernel) (by decide +kernel)
set_option maxRecDepth 20000 in
theorem gX6_guess_X6_runs : GoodIn wsX6_guess (wsV RX6 70 RX6 yX6_runs wsX6_runs) := goodIn_app (goodIn_of _ (by decide +kernel)) ggX6_guess_X6_runs
set_option maxRecDepth 20000 in
theorem ggX6_guess_X6_isGuessed : GoodIn wsX6_guess wsX6_isGuessed := goodIn_r _ [16, 12, 80, 81, 82, 83, 84, 85, 86, 87, 88, 89, 90, 91] (by decide +kernel) (by decide +kernel)
set_option maxRecDepth 20000 in
theorem gX6_guess_X6_isGuessed : GoodIn wsX6_guess (wsV RX6 139 RX6 yX6_isGuessed wsX6_isGuessed) := goodIn_app (goodIn_of _ (by decide +kernel)) ggX6_guess_X6_isGuessed
set_option maxRecDepth 20000 in
theorem ggX6_guess_X6_saves : GoodIn wsX6_guess wsX6_saves := goodIn_r _ [20, 21, 22, 12, 80, 81, 82, 83, 84, 85, 86, 87, 88, 89, 90, 91] (by decide +kernel) (by decide +kernel)
set_option maxRecDepth 20000 in
theorem gX6_guess_X6_saves : GoodIn wsX6_guess (wsV RX6 98 RX6 yX6_saves wsX6_saves) := goodIn_app (goodIn_of _ (by decide +kernel)) ggX6_guess_X6_saves
set_option maxRecDepth 20000 in
theorem ggX6_guess_X6_guessesOn : GoodIn wsX6_guess wsX6_guessesOn := goodIn_r _ [26, 27, 28, 12, 29, 30, 31, 32, 33, 3, 34, 35, 36, 37, 38, 39, 40, 41, 42, 43, 44, 45, 46, 47, 48, 49, 50, 51, 52, 53, 54, 55, 56, 57, 58, 59, 60, 61, 62, 63, 64, 65, 66, 67, 68, 69, 70, 71, 72, 73, 74, 75, 76, 77, 78, 79, 80, 81, 82, 83, 84, 85, 86, 87, 88, 89, 90, 91] (by decide +kernel) (by decide +kernel)
set_option maxRecDepth 20000 in
theorem gX6_guess_X6_guessesOn : GoodIn wsX6_guess (wsV RX6 142 RX6 yX6_guessesOn wsX6_guessesOn) := goodIn_app (goodIn_of _ (by decide +kernel)) ggX6_guess_X6_guessesOn
theorem dX6_guess_0 : decode cX6_guess 0 = .ok (.iload_n 1, 1) := by decide +kernel
theorem dX6_guess_1 : decode cX6_guess 1 = .ok (.invokestatic 51, 3) := by decide +kernel
theorem dX6_guess_4 : decode cX6_guess 4 = .ok (.ifCond .ne 6, 3) := by decide +kernel
theorem dX6_guess_7 : decode cX6_guess 7 = .ok (.bipush (-2), 2) := by decide +kernel
theorem dX6_guess_9 : decode cX6_guess 9 = .ok (.ireturn, 1) := by decide +kernel
theorem dX6_guess_10 : decode cX6_guess 10 = .ok (.aload_n 0, 1) := by decide +kernel
theorem dX6_guess_11 : decode cX6_guess 11 = .ok (.invokevirtual 70, 3) := by decide +kernel
theorem dX6_guess_14 : decode cX6_guess 14 = .ok (.ifCond .ne 6, 3) := by decide +kernel
theorem dX6_guess_17 : decode cX6_guess 17 = .ok (.bipush (-3), 2) := by decide +kernel
theorem dX6_guess_19 : decode cX6_guess 19 = .ok (.ireturn, 1) := by decide +kernel
theorem dX6_guess_20 : decode cX6_guess 20 = .ok (.aload_n 0, 1) := by decide +kernel
theorem dX6_guess_21 : decode cX6_guess 21 = .ok (.iload_n 1, 1) := by decide +kernel
theorem dX6_guess_22 : decode cX6_guess 22 = .ok (.invokevirtual 139, 3) := by decide +kernel
theorem dX6_guess_25 : decode cX6_guess 25 = .ok (.ifCond .eq 6, 3) := by decide +kernel
theorem dX6_guess_28 : decode cX6_guess 28 = .ok (.bipush (-6), 2) := by decide +kernel
theorem dX6_guess_30 : decode cX6_guess 30 = .ok (.ireturn, 1) := by decide +kernel
theorem dX6_guess_31 : decode cX6_guess 31 = .ok (.aload_n 0, 1) := by decide +kernel
theorem dX6_guess_32 : decode cX6_guess 32 = .ok (.invokevirtual 98, 3) := by decide +kernel
theorem dX6_guess_35 : decode cX6_guess 35 = .ok (.aload_n 0, 1) := by decide +kernel
theorem dX6_guess_36 : decode cX6_guess 36 = .ok (.iload_n 1, 1) := by decide +kernel
theorem dX6_guess_37 : decode cX6_guess 37 = .ok (.invokevirtual 142, 3) := by decide +kernel
theorem dX6_guess_40 : decode cX6_guess 40 = .ok (.ireturn, 1) := by decide +kernel
set_option maxRecDepth 20000 in
theorem ggX6_guessWord_X6_error : GoodIn wsX6_guessWord wsX6_error := goodIn_r _ [8, 1, 3, 9, 10, 7, 11, 12, 13, 14, 60, 61, 62, 63, 64, 65, 66, 67, 68, 69, 70, 71] (by decide +kernel) (by decide +kernel)
set_option maxRecDepth 20000 in
theorem gX6_guessWord_X6_error : GoodIn wsX6_guessWord (wsV RX6 55 RX6 yX6_error wsX6_error) := goodIn_app (goodIn_of _ (by decide +kernel)) ggX6_guessWord_X6_error
set_option maxRecDepth 20000 in
theorem ggX6_guessWord_X6_endOf : GoodIn wsX6_guessWord wsX6_endOf := goodIn_r _ [18, 1, 3, 60, 61, 62, 63, 64, 65, 66, 67, 68, 69, 70, 71] (by decide +kernel) (by decide +kernel)
set_option maxRecDepth 20000 in
theorem gX6_guessWord_X6_endOf : GoodIn wsX6_guessWord (wsV RX6 77 RX6 yX6_endOf wsX6_endOf) := goodIn_app (goodIn_of _ (by decide +kernel)) ggX6_guessWord_X6_endOf
set_option maxRecDepth 20000 in
theorem ggX6_guessWord_X6_runs : GoodIn wsX6_guessWord wsX6_runs := goodIn_r _ [22, 2, 60, 61, 62, 63, 64, 65, 66, 67, 68, 69, 70, 71] (by decide +kernel) (by decide +kernel)
set_option maxRecDepth 20000 in
theorem gX6_guessWord_X6_runs : GoodIn wsX6_guessWord (wsV RX6 70 RX6 yX6_runs wsX6_runs) := goodIn_app (goodIn_of _ (by decide +kernel)) ggX6_guessWord_X6_runs
set_option maxRecDepth 20000 in
theorem ggX6_guessWord_X6_saves : GoodIn wsX6_guessWord wsX6_saves := goodIn_r _ [26, 27, 28, 2, 60, 61, 62, 63, 64, 65, 66, 67, 68, 69, 70, 71] (by decide +kernel) (by decide +kernel)
set_option maxRecDepth 20000 in
theorem gX6_guessWord_X6_saves : GoodIn wsX6_guessWord (wsV RX6 98 RX6 yX6_saves wsX6_saves) := goodIn_app (goodIn_of _ (by decide +kernel)) ggX6_guessWord_X6_saves
set_option maxRecDepth 20000 in
theorem ggX6_guessWord_X6_placeFor : GoodIn wsX6_guessWord wsX6_placeFor := goodIn_r _ [32, 2, 33, 34, 35, 7, 36, 3, 37, 38, 39, 40, 60, 61, 62, 63, 64, 65, 66, 67, 68, 69, 70, 71] (by decide +kernel) (by decide +kernel)
set_option maxRecDepth 20000 in
theorem gX6_guessWord_X6_placeFor : GoodIn wsX6_guessWord (wsV RX6 67 RX6 yX6_placeFor wsX6_placeFor) := goodIn_app (goodIn_of _ (by decide +kernel)) ggX6_guessWord_X6_placeFor
set_option maxRecDepth 20000 in
theorem ggX6_guessWord_X6_isIn : GoodIn wsX6_guessWord wsX6_isIn := goodIn_r _ [44, 2, 29, 30, 31, 7, 32, 33, 34, 35, 36, 3, 37, 38, 39, 40, 60, 61, 62, 63, 64, 65, 66, 67, 68, 69, 70, 71] (by decide +kernel) (by decide +kernel)
set_option maxRecDepth 20000 in
theorem gX6_guessWord_X6_isIn : GoodIn wsX6_guessWord (wsV RX6 81 RX6 yX6_isIn wsX6_isIn) := goodIn_app (goodIn_of _ (by decide +kernel)) ggX6_guessWord_X6_isIn
set_option maxRecDepth 20000 in
theorem ggX6_guessWord_X6_isCandidate : GoodIn wsX6_guessWord wsX6_isCandidate := goodIn_r _ [48, 2, 60, 61, 62, 63, 64, 65, 66, 67, 68, 69, 70, 71] (by decide +kernel) (by decide +kernel)
set_option maxRecDepth 20000 in
theorem gX6_guessWord_X6_isCandidate : GoodIn wsX6_guessWord (wsV RX6 101 RX6 yX6_isCandidate wsX6_isCandidate) := goodIn_app (goodIn_of _ (by decide +kernel)) ggX6_guessWord_X6_isCandidate
set_option maxRecDepth 20000 in
theorem ggX6_guessWord_X6_bits : GoodIn wsX6_guessWord wsX6_bits := goodIn_r _ [51] (by decide +kernel) (by decide +kernel)
set_option maxRecDepth 20000 in
theorem gX6_guessWord_X6_bits : GoodIn wsX6_guessWord (va_wsS RX6 113 yX6_bits wsX6_bits) := goodIn_app (goodIn_of _ (by decide +kernel)) ggX6_guessWord_X6_bits
set_option maxRecDepth 20000 in
theorem ggX6_guessWord_X6_ends : GoodIn wsX6_guessWord wsX6_ends := goodIn_r _ [55, 2, 60, 61, 62, 63, 64, 65, 66, 67, 68, 69, 70, 71] (by decide +kernel) (by decide +kernel)
set_option maxRecDepth 20000 in
theorem gX6_guessWord_X6_ends : GoodIn wsX6_guessWord (wsV RX6 122 RX6 yX6_ends wsX6_ends) := goodIn_app (goodIn_of _ (by decide +kernel)) ggX6_guessWord_X6_ends
set_option maxRecDepth 20000 in
theorem ggX6_guessWord_X6_misses : GoodIn wsX6_guessWord wsX6_misses := goodIn_r _ [59, 2, 52, 53, 54, 7, 55, 60, 61, 62, 63, 64, 65, 66, 67, 68, 69, 70, 71] (by decide +kernel) (by decide +kernel)
set_option maxRecDepth 20000 in
theorem gX6_guessWord_X6_misses : GoodIn wsX6_guessWord (wsV RX6 132 RX6 yX6_misses wsX6_misses) := goodIn_app (goodIn_of _ (by decide +kernel)) ggX6_guessWord_X6_misses
theorem dX6_guessWord_0 : decode cX6_guessWord 0 = .ok (.aload_n 0, 1) := by decide +kernel
theorem dX6_guessWord_1 : decode cX6_guessWord 1 = .ok (.invokevirtual 55, 3) := by decide +kernel
theorem dX6_guessWord_4 : decode cX6_guessWord 4 = .ok (.bipush (-6), 2) := by decide +kernel
theorem dX6_guessWord_6 : decode cX6_guessWord 6 = .ok (.if_icmp .ne 15, 3) := by decide +kernel
theorem dX6_guessWord_9 : decode cX6_guessWord 9 = .ok (.aload_n 0, 1) := by decide +kernel
theorem dX6_guessWord_10 : decode cX6_guessWord 10 = .ok (.iconst 0, 1) := by decide +kernel
theorem dX6_guessWord_11 : decode cX6_guessWord 11 = .ok (.invokevirtual 77, 3) := by decide +kernel
theorem dX6_guessWord_14 : decode cX6_guessWord 14 = .ok (.aload_n 0, 1) := by decide +kernel
theorem dX6_guessWord_15 : decode cX6_guessWord 15 = .ok (.getfield 48, 3) := by decide +kernel
theorem dX6_guessWord_18 : decode cX6_guessWord 18 = .ok (.if_icmp .eq 6, 3) := by decide +kernel
theorem dX6_guessWord_21 : decode cX6_guessWord 21 = .ok (.bipush (-5), 2) := by decide +kernel
theorem dX6_guessWord_23 : decode cX6_guessWord 23 = .ok (.ireturn, 1) := by decide +kernel
theorem dX6_guessWord_24 : decode cX6_guessWord 24 = .ok (.aload_n 0, 1) := by decide +kernel
theorem dX6_guessWord_25 : decode cX6_guessWord 25 = .ok (.invokevirtual 70, 3) := by decide +kernel
theorem dX6_guessWord_28 : decode cX6_guessWord 28 = .ok (.ifCond .eq 16, 3) := by decide +kernel
theorem dX6_guessWord_31 : decode cX6_guessWord 31 = .ok (.aload_n 0, 1) := by decide +kernel
theorem dX6_guessWord_32 : decode cX6_guessWord 32 = .ok (.getfield 48, 3) := by decide +kernel
theorem dX6_guessWord_35 : decode cX6_guessWord 35 = .ok (.aload_n 0, 1) := by decide +kernel
theorem dX6_guessWord_36 : decode cX6_guessWord 36 = .ok (.getfield 7, 3) := by decide +kernel
theorem dX6_guessWord_39 : decode cX6_guessWord 39 = .ok (.iconst 3, 1) := by decide +kernel
theorem dX6_guessWord_40 : decode cX6_guessWord 40 = .ok (.iaload, 1) := by decide +kernel
theorem dX6_guessWord_41 : decode cX6_guessWord 41 = .ok (.if_icmp .eq 6, 3) := by decide +kernel
theorem dX6_guessWord_44 : decode cX6_guessWord 44 = .ok (.bipush (-3), 2) := by decide +kernel
theorem dX6_guessWord_46 : decode cX6_guessWord 46 = .ok (.ireturn, 1) := by decide +kernel
theorem dX6_guessWord_47 : decode cX6_guessWord 47 = .ok (.aload_n 0, 1) := by decide +kernel
theorem dX6_guessWord_48 : decode cX6_guessWord 48 = .ok (.invokevirtual 98, 3) := by decide +kernel
theorem dX6_guessWord_51 : decode cX6_guessWord 51 = .ok (.aload_n 0, 1) := by decide +kernel
theorem dX6_guessWord_52 : decode cX6_guessWord 52 = .ok (.iconst 0, 1) := by decide +kernel
theorem dX6_guessWord_53 : decode cX6_guessWord 53 = .ok (.aload_n 0, 1) := by decide +kernel
theorem dX6_guessWord_54 : decode cX6_guessWord 54 = .ok (.getfield 48, 3) := by decide +kernel
theorem dX6_guessWord_57 : decode cX6_guessWord 57 = .ok (.invokevirtual 67, 3) := by decide +kernel
theorem dX6_guessWord_60 : decode cX6_guessWord 60 = .ok (.istore_n 1, 1) := by decide +kernel
theorem dX6_guessWord_61 : decode cX6_guessWord 61 = .ok (.aload_n 0, 1) := by decide +kernel
theorem dX6_guessWord_62 : decode cX6_guessWord 62 = .ok (.iconst 0, 1) := by decide +kernel
theorem dX6_guessWord_63 : decode cX6_guessWord 63 = .ok (.aload_n 0, 1) := by decide +kernel
theorem dX6_guessWord_64 : decode cX6_guessWord 64 = .ok (.getfield 48, 3) := by decide +kernel
theorem dX6_guessWord_67 : decode cX6_guessWord 67 = .ok (.invokevirtual 81, 3) := by decide +kernel
theorem dX6_guessWord_70 : decode cX6_guessWord 70 = .ok (.ifCond .eq 15, 3) := by decide +kernel
theorem dX6_guessWord_73 : decode cX6_guessWord 73 = .ok (.aload_n 0, 1) := by decide +kernel
theorem dX6_guessWord_74 : decode cX6_guessWord 74 = .ok (.iload_n 1, 1) := by decide +kernel
theorem dX6_guessWord_75 : decode cX6_guessWord 75 = .ok (.invokevirtual 101, 3) := by decide +kernel
theorem dX6_guessWord_78 : decode cX6_guessWord 78 = .ok (.ifCond .eq 7, 3) := by decide +kernel
theorem dX6_guessWord_81 : decode cX6_guessWord 81 = .ok (.iconst 1, 1) := by decide +kernel
theorem dX6_guessWord_82 : decode cX6_guessWord 82 = .ok (.goto 4, 3) := by decide +kernel
theorem dX6_guessWord_85 : decode cX6_guessWord 85 = .ok (.iconst 0, 1) := by decide +kernel
theorem dX6_guessWord_86 : decode cX6_guessWord 86 = .ok (.istore_n 2, 1) := by decide +kernel
theorem dX6_guessWord_87 : decode cX6_guessWord 87 = .ok (.aload_n 0, 1) := by decide +kernel
theorem dX6_guessWord_88 : decode cX6_guessWord 88 = .ok (.getfield 7, 3) := by decide +kernel
theorem dX6_guessWord_91 : decode cX6_guessWord 91 = .ok (.bipush 12, 2) := by decide +kernel
theorem dX6_guessWord_93 : decode cX6_guessWord 93 = .ok (.dup2, 1) := by decide +kernel
theorem dX6_guessWord_94 : decode cX6_guessWord 94 = .ok (.iaload, 1) := by decide +kernel
theorem dX6_guessWord_95 : decode cX6_guessWord 95 = .ok (.iconst 1, 1) := by decide +kernel
theorem dX6_guessWord_96 : decode cX6_guessWord 96 = .ok (.iadd, 1) := by decide +kernel
theorem dX6_guessWord_97 : decode cX6_guessWord 97 = .ok (.iastore, 1) := by decide +kernel
theorem dX6_guessWord_98 : decode cX6_guessWord 98 = .ok (.iload_n 2, 1) := by decide +kernel
theorem dX6_guessWord_99 : decode cX6_guessWord 99 = .ok (.ifCond .eq 56, 3) := by decide +kernel
theorem dX6_guessWord_102 : decode cX6_guessWord 102 = .ok (.aload_n 0, 1) := by decide +kernel
theorem dX6_guessWord_103 : decode cX6_guessWord 103 = .ok (.getfield 7, 3) := by decide +kernel
theorem dX6_guessWord_106 : decode cX6_guessWord 106 = .ok (.bipush 7, 2) := by decide +kernel
theorem dX6_guessWord_108 : decode cX6_guessWord 108 = .ok (.iaload, 1) := by decide +kernel
theorem dX6_guessWord_109 : decode cX6_guessWord 109 = .ok (.invokestatic 113, 3) := by decide +kernel
theorem dX6_guessWord_112 : decode cX6_guessWord 112 = .ok (.iconst 1, 1) := by decide +kernel
theorem dX6_guessWord_113 : decode cX6_guessWord 113 = .ok (.if_icmp .ne 42, 3) := by decide +kernel
theorem dX6_guessWord_116 : decode cX6_guessWord 116 = .ok (.iconst 0, 1) := by decide +kernel
theorem dX6_guessWord_117 : decode cX6_guessWord 117 = .ok (.istore_n 3, 1) := by decide +kernel
theorem dX6_guessWord_118 : decode cX6_guessWord 118 = .ok (.iload_n 3, 1) := by decide +kernel
theorem dX6_guessWord_119 : decode cX6_guessWord 119 = .ok (.aload_n 0, 1) := by decide +kernel
theorem dX6_guessWord_120 : decode cX6_guessWord 120 = .ok (.getfield 48, 3) := by decide +kernel
theorem dX6_guessWord_123 : decode cX6_guessWord 123 = .ok (.if_icmp .ge 24, 3) := by decide +kernel
theorem dX6_guessWord_126 : decode cX6_guessWord 126 = .ok (.aload_n 0, 1) := by decide +kernel
theorem dX6_guessWord_127 : decode cX6_guessWord 127 = .ok (.getfield 7, 3) := by decide +kernel
theorem dX6_guessWord_130 : decode cX6_guessWord 130 = .ok (.bipush 41, 2) := by decide +kernel
theorem dX6_guessWord_132 : decode cX6_guessWord 132 = .ok (.iload_n 3, 1) := by decide +kernel
theorem dX6_guessWord_133 : decode cX6_guessWord 133 = .ok (.iadd, 1) := by decide +kernel
theorem dX6_guessWord_134 : decode cX6_guessWord 134 = .ok (.aload_n 0, 1) := by decide +kernel
theorem dX6_guessWord_135 : decode cX6_guessWord 135 = .ok (.getfield 19, 3) := by decide +kernel
theorem dX6_guessWord_138 : decode cX6_guessWord 138 = .ok (.iload_n 3, 1) := by decide +kernel
theorem dX6_guessWord_139 : decode cX6_guessWord 139 = .ok (.iaload, 1) := by decide +kernel
theorem dX6_guessWord_140 : decode cX6_guessWord 140 = .ok (.iastore, 1) := by decide +kernel
theorem dX6_guessWord_141 : decode cX6_guessWord 141 = .ok (.iinc 3 1, 3) := by decide +kernel
theorem dX6_guessWord_144 : decode cX6_guessWord 144 = .ok (.goto (-26), 3) := by decide +kernel
theorem dX6_guessWord_147 : decode cX6_guessWord 147 = .ok (.aload_n 0, 1) := by decide +kernel
theorem dX6_guessWord_148 : decode cX6_guessWord 148 = .ok (.iconst 2, 1) := by decide +kernel
theorem dX6_guessWord_149 : decode cX6_guessWord 149 = .ok (.invokevirtual 122, 3) := by decide +kernel
theorem dX6_guessWord_152 : decode cX6_guessWord 152 = .ok (.goto 31, 3) := by decide +kernel
theorem dX6_guessWord_155 : decode cX6_guessWord 155 = .ok (.aload_n 0, 1) := by decide +kernel
theorem dX6_guessWord_156 : decode cX6_guessWord 156 = .ok (.getfield 7, 3) := by decide +kernel
theorem dX6_guessWord_159 : decode cX6_guessWord 159 = .ok (.bipush 7, 2) := by decide +kernel
theorem dX6_guessWord_161 : decode cX6_guessWord 161 = .ok (.dup2, 1) := by decide +kernel
theorem dX6_guessWord_162 : decode cX6_guessWord 162 = .ok (.iaload, 1) := by decide +kernel
theorem dX6_guessWord_163 : decode cX6_guessWord 163 = .ok (.iload_n 2, 1) := by decide +kernel
theorem dX6_guessWord_164 : decode cX6_guessWord 164 = .ok (.ifCond .eq 11, 3) := by decide +kernel
theorem dX6_guessWord_167 : decode cX6_guessWord 167 = .ok (.iconst 1, 1) := by decide +kernel
theorem dX6_guessWord_168 : decode cX6_guessWord 168 = .ok (.iload_n 1, 1) := by decide +kernel
theorem dX6_guessWord_169 : decode cX6_guessWord 169 = .ok (.ishl, 1) := by decide +kernel
theorem dX6_guessWord_170 : decode cX6_guessWord 170 = .ok (.iconst (-1), 1) := by decide +kernel
theorem dX6_guessWord_171 : decode cX6_guessWord 171 = .ok (.ixor, 1) := by decide +kernel
theorem dX6_guessWord_172 : decode cX6_guessWord 172 = .ok (.goto 4, 3) := by decide +kernel
theorem dX6_guessWord_175 : decode cX6_guessWord 175 = .ok (.iconst (-1), 1) := by decide +kernel
theorem dX6_guessWord_176 : decode cX6_guessWord 176 = .ok (.iand, 1) := by decide +kernel
theorem dX6_guessWord_177 : decode cX6_guessWord 177 = .ok (.iastore, 1) := by decide +kernel
theorem dX6_guessWord_178 : decode cX6_guessWord 178 = .ok (.aload_n 0, 1) := by decide +kernel
theorem dX6_guessWord_179 : decode cX6_guessWord 179 = .ok (.iload_n 2, 1) := by decide +kernel
theorem dX6_guessWord_180 : decode cX6_guessWord 180 = .ok (.invokevirtual 132, 3) := by decide +kernel
theorem dX6_guessWord_183 : decode cX6_guessWord 183 = .ok (.aload_n 0, 1) := by decide +kernel
theorem dX6_guessWord_184 : decode cX6_guessWord 184 = .ok (.iconst 0, 1) := by decide +kernel
theorem dX6_guessWord_185 : decode cX6_guessWord 185 = .ok (.putfield 48, 3) := by decide +kernel
theorem dX6_guessWord_188 : decode cX6_guessWord 188 = .ok (.aload_n 0, 1) := by decide +kernel
theorem dX6_guessWord_189 : decode cX6_guessWord 189 = .ok (.getfield 7, 3) := by decide +kernel
theorem dX6_guessWord_192 : decode cX6_guessWord 192 = .ok (.iconst 2, 1) := by decide +kernel
theorem dX6_guessWord_193 : decode cX6_guessWord 193 = .ok (.iaload, 1) := by decide +kernel
theorem dX6_guessWord_194 : decode cX6_guessWord 194 = .ok (.iconst 2, 1) := by decide +kernel
theorem dX6_guessWord_195 : decode cX6_guessWord 195 = .ok (.if_icmp .ne 7, 3) := by decide +kernel
theorem dX6_guessWord_198 : decode cX6_guessWord 198 = .ok (.iconst 1, 1) := by decide +kernel
theorem dX6_guessWord_199 : decode cX6_guessWord 199 = .ok (.goto 4, 3) := by decide +kernel
theorem dX6_guessWord_202 : decode cX6_guessWord 202 = .ok (.iconst 0, 1) := by decide +kernel
theorem dX6_guessWord_203 : decode cX6_guessWord 203 = .ok (.ireturn, 1) := by decide +kernel
set_option maxRecDepth 20000 in
theorem ggX6_giveUp_X6_runs : GoodIn wsX6_giveUp wsX6_runs := goodIn_r _ [6, 1, 20, 21, 22, 23, 24, 25, 26, 27, 28, 29, 30, 31] (by decide +kernel) (by decide +kernel)
set_option maxRecDepth 20000 in
theorem gX6_giveUp_X6_runs : GoodIn wsX6_giveUp (wsV RX6 70 RX6 yX6_runs wsX6_runs) := goodIn_app (goodIn_of _ (by decide +kernel)) ggX6_giveUp_X6_runs
set_option maxRecDepth 20000 in
theorem ggX6_giveUp_X6_saves : GoodIn wsX6_giveUp wsX6_saves := goodIn_r _ [10, 11, 12, 1, 20, 21, 22, 23, 24, 25, 26, 27, 28, 29, 30, 31] (by decide +kernel) (by decide +kernel)
set_option maxRecDepth 20000 in
theorem gX6_giveUp_X6_saves : GoodIn wsX6_giveUp (wsV RX6 98 RX6 yX6_saves wsX6_saves) := goodIn_app (goodIn_of _ (by decide +kernel)) ggX6_giveUp_X6_saves
set_option maxRecDepth 20000 in
theorem ggX6_giveUp_X6_ends : GoodIn wsX6_giveUp wsX6_ends := goodIn_r _ [16, 1, 20, 21, 22, 23, 24, 25, 26, 27, 28, 29, 30, 31] (by decide +kernel) (by decide +kernel)
set_option maxRecDepth 20000 in
theorem gX6_giveUp_X6_ends : GoodIn wsX6_giveUp (wsV RX6 122 RX6 yX6_ends wsX6_ends) := goodIn_app (goodIn_of _ (by decide +kernel)) ggX6_giveUp_X6_ends
set_option maxRecDepth 20000 in
theorem ggX6_giveUp_X6_lowest : GoodIn wsX6_giveUp wsX6_lowest := goodIn_r _ [19] (by decide +kernel) (by decide +kernel)
set_option maxRecDepth 20000 in
theorem gX6_giveUp_X6_lowest : GoodIn wsX6_giveUp (va_wsS RX6 145 yX6_lowest wsX6_lowest) := goodIn_app (goodIn_of _ (by decide +kernel)) ggX6_giveUp_X6_lowest
theorem dX6_giveUp_0 : decode cX6_giveUp 0 = .ok (.aload_n 0, 1) := by decide +kernel
theorem dX6_giveUp_1 : decode cX6_giveUp 1 = .ok (.invokevirtual 70, 3) := by decide +kernel
theorem dX6_giveUp_4 : decode cX6_giveUp 4 = .ok (.ifCond .ne 6, 3) := by decide +kernel
theorem dX6_giveUp_7 : decode cX6_giveUp 7 = .ok (.bipush (-3), 2) := by decide +kernel
theorem dX6_giveUp_9 : decode cX6_giveUp 9 = .ok (.ireturn, 1) := by decide +kernel
theorem dX6_giveUp_10 : decode cX6_giveUp 10 = .ok (.aload_n 0, 1) := by decide +kernel
theorem dX6_giveUp_11 : decode cX6_giveUp 11 = .ok (.invokevirtual 98, 3) := by decide +kernel
theorem dX6_giveUp_14 : decode cX6_giveUp 14 = .ok (.aload_n 0, 1) := by decide +kernel
theorem dX6_giveUp_15 : decode cX6_giveUp 15 = .ok (.iconst 3, 1) := by decide +kernel
theorem dX6_giveUp_16 : decode cX6_giveUp 16 = .ok (.invokevirtual 122, 3) := by decide +kernel
theorem dX6_giveUp_19 : decode cX6_giveUp 19 = .ok (.aload_n 0, 1) := by decide +kernel
theorem dX6_giveUp_20 : decode cX6_giveUp 20 = .ok (.getfield 7, 3) := by decide +kernel
theorem dX6_giveUp_23 : decode cX6_giveUp 23 = .ok (.bipush 7, 2) := by decide +kernel
theorem dX6_giveUp_25 : decode cX6_giveUp 25 = .ok (.iaload, 1) := by decide +kernel
theorem dX6_giveUp_26 : decode cX6_giveUp 26 = .ok (.invokestatic 145, 3) := by decide +kernel
theorem dX6_giveUp_29 : decode cX6_giveUp 29 = .ok (.ireturn, 1) := by decide +kernel
theorem dX6_status_0 : decode cX6_status 0 = .ok (.aload_n 0, 1) := by decide +kernel
theorem dX6_status_1 : decode cX6_status 1 = .ok (.getfield 7, 3) := by decide +kernel
theorem dX6_status_4 : decode cX6_status 4 = .ok (.iconst 2, 1) := by decide +kernel
theorem dX6_status_5 : decode cX6_status 5 = .ok (.iaload, 1) := by decide +kernel
theorem dX6_status_6 : decode cX6_status 6 = .ok (.ireturn, 1) := by decide +kernel
theorem dX6_lives_0 : decode cX6_lives 0 = .ok (.aload_n 0, 1) := by decide +kernel
theorem dX6_lives_1 : decode cX6_lives 1 = .ok (.getfield 7, 3) := by decide +kernel
theorem dX6_lives_4 : decode cX6_lives 4 = .ok (.iconst 4, 1) := by decide +kernel
theorem dX6_lives_5 : decode cX6_lives 5 = .ok (.iaload, 1) := by decide +kernel
theorem dX6_lives_6 : decode cX6_lives 6 = .ok (.ireturn, 1) := by decide +kernel
set_option maxRecDepth 20000 in
theorem ggX6_shown_X6_in : GoodIn wsX6_shown wsX6_in := goodIn_r _ [5] (by decide +kernel) (by decide +kernel)
set_option maxRecDepth 20000 in
theorem gX6_shown_X6_in : GoodIn wsX6_shown (va_wsS RX6 41 yX6_in wsX6_in) := goodIn_app (goodIn_of _ (by decide +kernel)) ggX6_shown_X6_in
theorem dX6_shown_0 : decode cX6_shown 0 = .ok (.iload_n 1, 1) := by decide +kernel
theorem dX6_shown_1 : decode cX6_shown 1 = .ok (.iconst 0, 1) := by decide +kernel
theorem dX6_shown_2 : decode cX6_shown 2 = .ok (.aload_n 0, 1) := by decide +kernel
theorem dX6_shown_3 : decode cX6_shown 3 = .ok (.getfield 7, 3) := by decide +kernel
theorem dX6_shown_6 : decode cX6_shown 6 = .ok (.iconst 3, 1) := by decide +kernel
theorem dX6_shown_7 : decode cX6_shown 7 = .ok (.iaload, 1) := by decide +kernel
theorem dX6_shown_8 : decode cX6_shown 8 = .ok (.iconst 1, 1) := by decide +kernel
theorem dX6_shown_9 : decode cX6_shown 9 = .ok (.isub, 1) := by decide +kernel
theorem dX6_shown_10 : decode cX6_shown 10 = .ok (.invokestatic 41, 3) := by decide +kernel
theorem dX6_shown_13 : decode cX6_shown 13 = .ok (.ifCond .ne 5, 3) := by decide +kernel
theorem dX6_shown_16 : decode cX6_shown 16 = .ok (.iconst (-1), 1) := by decide +kernel
theorem dX6_shown_17 : decode cX6_shown 17 = .ok (.ireturn, 1) := by decide +kernel
theorem dX6_shown_18 : decode cX6_shown 18 = .ok (.aload_n 0, 1) := by decide +kernel
theorem dX6_shown_19 : decode cX6_shown 19 = .ok (.getfield 7, 3) := by decide +kernel
theorem dX6_shown_22 : decode cX6_shown 22 = .ok (.bipush 41, 2) := by decide +kernel
theorem dX6_shown_24 : decode cX6_shown 24 = .ok (.iload_n 1, 1) := by decide +kernel
theorem dX6_shown_25 : decode cX6_shown 25 = .ok (.iadd, 1) := by decide +kernel
theorem dX6_shown_26 : decode cX6_shown 26 = .ok (.iaload, 1) := by decide +kernel
theorem dX6_shown_27 : decode cX6_shown 27 = .ok (.ifCond .ne 8, 3) := by decide +kernel
theorem dX6_shown_30 : decode cX6_shown 30 = .ok (.bipush (-6), 2) := by decide +kernel
theorem dX6_shown_32 : decode cX6_shown 32 = .ok (.goto 12, 3) := by decide +kernel
theorem dX6_shown_35 : decode cX6_shown 35 = .ok (.aload_n 0, 1) := by decide +kernel
theorem dX6_shown_36 : decode cX6_shown 36 = .ok (.getfield 7, 3) := by decide +kernel
theorem dX6_shown_39 : decode cX6_shown 39 = .ok (.bipush 41, 2) := by decide +kernel
theorem dX6_shown_41 : decode cX6_shown 41 = .ok (.iload_n 1, 1) := by decide +kernel
theorem dX6_shown_42 : decode cX6_shown 42 = .ok (.iadd, 1) := by decide +kernel
theorem dX6_shown_43 : decode cX6_shown 43 = .ok (.iaload, 1) := by decide +kernel
theorem dX6_shown_44 : decode cX6_shown 44 = .ok (.ireturn, 1) := by decide +kernel
set_option maxRecDepth 20000 in
theorem ggX6_candidates_X6_bits : GoodIn wsX6_candidates wsX6_bits := goodIn_r _ [5] (by decide +kernel) (by decide +kernel)
set_option maxRecDepth 20000 in
theorem gX6_candidates_X6_bits : GoodIn wsX6_candidates (va_wsS RX6 113 yX6_bits wsX6_bits) := goodIn_app (goodIn_of _ (by decide +kernel)) ggX6_candidates_X6_bits
theorem dX6_candidates_0 : decode cX6_candidates 0 = .ok (.aload_n 0, 1) := by decide +kernel
theorem dX6_candidates_1 : decode cX6_candidates 1 = .ok (.getfield 7, 3) := by decide +kernel
theorem dX6_candidates_4 : decode cX6_candidates 4 = .ok (.bipush 7, 2) := by decide +kernel
theorem dX6_candidates_6 : decode cX6_candidates 6 = .ok (.iaload, 1) := by decide +kernel
theorem dX6_candidates_7 : decode cX6_candidates 7 = .ok (.invokestatic 113, 3) := by decide +kernel
theorem dX6_candidates_10 : decode cX6_candidates 10 = .ok (.ireturn, 1) := by decide +kernel
set_option maxRecDepth 20000 in
theorem ggX6_candidate_X6_isCandidate : GoodIn wsX6_candidate wsX6_isCandidate := goodIn_r _ [6, 1, 7, 8, 9, 10, 11, 12, 13, 14, 15, 16, 17, 18] (by decide +kernel) (by decide +kernel)
set_option maxRecDepth 20000 in
theorem gX6_candidate_X6_isCandidate : GoodIn wsX6_candidate (wsV RX6 101 RX6 yX6_isCandidate wsX6_isCandidate) := goodIn_app (goodIn_of _ (by decide +kernel)) ggX6_candidate_X6_isCandidate
theorem dX6_candidate_0 : decode cX6_candidate 0 = .ok (.iload_n 1, 1) := by decide +kernel
theorem dX6_candidate_1 : decode cX6_candidate 1 = .ok (.istore_n 2, 1) := by decide +kernel
theorem dX6_candidate_2 : decode cX6_candidate 2 = .ok (.iconst 0, 1) := by decide +kernel
theorem dX6_candidate_3 : decode cX6_candidate 3 = .ok (.istore_n 3, 1) := by decide +kernel
theorem dX6_candidate_4 : decode cX6_candidate 4 = .ok (.iload_n 3, 1) := by decide +kernel
theorem dX6_candidate_5 : decode cX6_candidate 5 = .ok (.aload_n 0, 1) := by decide +kernel
theorem dX6_candidate_6 : decode cX6_candidate 6 = .ok (.getfield 7, 3) := by decide +kernel
theorem dX6_candidate_9 : decode cX6_candidate 9 = .ok (.iconst 0, 1) := by decide +kernel
theorem dX6_candidate_10 : decode cX6_candidate 10 = .ok (.iaload, 1) := by decide +kernel
theorem dX6_candidate_11 : decode cX6_candidate 11 = .ok (.if_icmp .ge 30, 3) := by decide +kernel
theorem dX6_candidate_14 : decode cX6_candidate 14 = .ok (.iload_n 1, 1) := by decide +kernel
theorem dX6_candidate_15 : decode cX6_candidate 15 = .ok (.ifCond .lt 26, 3) := by decide +kernel
theorem dX6_candidate_18 : decode cX6_candidate 18 = .ok (.aload_n 0, 1) := by decide +kernel
theorem dX6_candidate_19 : decode cX6_candidate 19 = .ok (.iload_n 3, 1) := by decide +kernel
theorem dX6_candidate_20 : decode cX6_candidate 20 = .ok (.invokevirtual 101, 3) := by decide +kernel
theorem dX6_candidate_23 : decode cX6_candidate 23 = .ok (.ifCond .eq 12, 3) := by decide +kernel
theorem dX6_candidate_26 : decode cX6_candidate 26 = .ok (.iload_n 2, 1) := by decide +kernel
theorem dX6_candidate_27 : decode cX6_candidate 27 = .ok (.ifCond .ne 5, 3) := by decide +kernel
theorem dX6_candidate_30 : decode cX6_candidate 30 = .ok (.iload_n 3, 1) := by decide +kernel
theorem dX6_candidate_31 : decode cX6_candidate 31 = .ok (.ireturn, 1) := by decide +kernel
theorem dX6_candidate_32 : decode cX6_candidate 32 = .ok (.iinc 2 (-1), 3) := by decide +kernel
theorem dX6_candidate_35 : decode cX6_candidate 35 = .ok (.iinc 3 1, 3) := by decide +kernel
theorem dX6_candidate_38 : decode cX6_candidate 38 = .ok (.goto (-34), 3) := by decide +kernel
theorem dX6_candidate_41 : decode cX6_candidate 41 = .ok (.iconst (-1), 1) := by decide +kernel
theorem dX6_candidate_42 : decode cX6_candidate 42 = .ok (.ireturn, 1) := by decide +kernel
theorem dX6_guesses_0 : decode cX6_guesses 0 = .ok (.aload_n 0, 1) := by decide +kernel
theorem dX6_guesses_1 : decode cX6_guesses 1 = .ok (.getfield 7, 3) := by decide +kernel
theorem dX6_guesses_4 : decode cX6_guesses 4 = .ok (.bipush 6, 2) := by decide +kernel
theorem dX6_guesses_6 : decode cX6_guesses 6 = .ok (.iaload, 1) := by decide +kernel
theorem dX6_guesses_7 : decode cX6_guesses 7 = .ok (.ireturn, 1) := by decide +kernel
set_option maxRecDepth 20000 in
theorem ggX6_guessAt_X6_in : GoodIn wsX6_guessAt wsX6_in := goodIn_r _ [5] (by decide +kernel) (by decide +kernel)
set_option maxRecDepth 20000 in
theorem gX6_guessAt_X6_in : GoodIn wsX6_guessAt (va_wsS RX6 41 yX6_in wsX6_in) := goodIn_app (goodIn_of _ (by decide +kernel)) ggX6_guessAt_X6_in
theorem dX6_guessAt_0 : decode cX6_guessAt 0 = .ok (.iload_n 1, 1) := by decide +kernel
theorem dX6_guessAt_1 : decode cX6_guessAt 1 = .ok (.iconst 0, 1) := by decide +kernel
theorem dX6_guessAt_2 : decode cX6_guessAt 2 = .ok (.aload_n 0, 1) := by decide +kernel
theorem dX6_guessAt_3 : decode cX6_guessAt 3 = .ok (.getfield 7, 3) := by decide +kernel
theorem dX6_guessAt_6 : decode cX6_guessAt 6 = .ok (.bipush 6, 2) := by decide +kernel
theorem dX6_guessAt_8 : decode cX6_guessAt 8 = .ok (.iaload, 1) := by decide +kernel
theorem dX6_guessAt_9 : decode cX6_guessAt 9 = .ok (.iconst 1, 1) := by decide +kernel
theorem dX6_guessAt_10 : decode cX6_guessAt 10 = .ok (.isub, 1) := by decide +kernel
theorem dX6_guessAt_11 : decode cX6_guessAt 11 = .ok (.invokestatic 41, 3) := by decide +kernel
theorem dX6_guessAt_14 : decode cX6_guessAt 14 = .ok (.ifCond .eq 15, 3) := by decide +kernel
theorem dX6_guessAt_17 : decode cX6_guessAt 17 = .ok (.aload_n 0, 1) := by decide +kernel
theorem dX6_guessAt_18 : decode cX6_guessAt 18 = .ok (.getfield 7, 3) := by decide +kernel
theorem dX6_guessAt_21 : decode cX6_guessAt 21 = .ok (.bipush 15, 2) := by decide +kernel
theorem dX6_guessAt_23 : decode cX6_guessAt 23 = .ok (.iload_n 1, 1) := by decide +kernel
theorem dX6_guessAt_24 : decode cX6_guessAt 24 = .ok (.iadd, 1) := by decide +kernel
theorem dX6_guessAt_25 : decode cX6_guessAt 25 = .ok (.iaload, 1) := by decide +kernel
theorem dX6_guessAt_26 : decode cX6_guessAt 26 = .ok (.goto 4, 3) := by decide +kernel
theorem dX6_guessAt_29 : decode cX6_guessAt 29 = .ok (.iconst (-1), 1) := by decide +kernel
theorem dX6_guessAt_30 : decode cX6_guessAt 30 = .ok (.ireturn, 1) := by decide +kernel
set_option maxRecDepth 20000 in
theorem ggX6_bar_X6_isLetter : GoodIn wsX6_bar wsX6_isLetter := goodIn_r _ [4, 5, 6, 3, 7] (by decide +kernel) (by decide +kernel)
set_option maxRecDepth 20000 in
theorem gX6_bar_X6_isLetter : GoodIn wsX6_bar (va_wsS RX6 51 yX6_isLetter wsX6_isLetter) := goodIn_app (goodIn_of _ (by decide +kernel)) ggX6_bar_X6_isLetter
set_option maxRecDepth 20000 in
theorem ggX6_bar_X6_runs : GoodIn wsX6_bar wsX6_runs := goodIn_r _ [11, 12, 17, 18, 19, 20, 21, 22, 23, 24, 25, 26, 27, 28] (by decide +kernel) (by decide +kernel)
set_option maxRecDepth 20000 in
theorem gX6_bar_X6_runs : GoodIn wsX6_bar (wsV RX6 70 RX6 yX6_runs wsX6_runs) := goodIn_app (goodIn_of _ (by decide +kernel)) ggX6_bar_X6_runs
set_option maxRecDepth 20000 in
theorem ggX6_bar_X6_isGuessed : GoodIn wsX6_bar wsX6_isGuessed := goodIn_r _ [16, 12, 17, 18, 19, 20, 21, 22, 23, 24, 25, 26, 27, 28] (by decide +kernel) (by decide +kernel)
set_option maxRecDepth 20000 in
theorem gX6_bar_X6_isGuessed : GoodIn wsX6_bar (wsV RX6 139 RX6 yX6_isGuessed wsX6_isGuessed) := goodIn_app (goodIn_of _ (by decide +kernel)) ggX6_bar_X6_isGuessed
theorem dX6_bar_0 : decode cX6_bar 0 = .ok (.iload_n 1, 1) := by decide +kernel
theorem dX6_bar_1 : decode cX6_bar 1 = .ok (.invokestatic 51, 3) := by decide +kernel
theorem dX6_bar_4 : decode cX6_bar 4 = .ok (.ifCond .ne 8, 3) := by decide +kernel
theorem dX6_bar_7 : decode cX6_bar 7 = .ok (.bipush (-2), 2) := by decide +kernel
theorem dX6_bar_9 : decode cX6_bar 9 = .ok (.goto 24, 3) := by decide +kernel
theorem dX6_bar_12 : decode cX6_bar 12 = .ok (.aload_n 0, 1) := by decide +kernel
theorem dX6_bar_13 : decode cX6_bar 13 = .ok (.invokevirtual 70, 3) := by decide +kernel
theorem dX6_bar_16 : decode cX6_bar 16 = .ok (.ifCond .eq 11, 3) := by decide +kernel
theorem dX6_bar_19 : decode cX6_bar 19 = .ok (.aload_n 0, 1) := by decide +kernel
theorem dX6_bar_20 : decode cX6_bar 20 = .ok (.iload_n 1, 1) := by decide +kernel
theorem dX6_bar_21 : decode cX6_bar 21 = .ok (.invokevirtual 139, 3) := by decide +kernel
theorem dX6_bar_24 : decode cX6_bar 24 = .ok (.ifCond .eq 8, 3) := by decide +kernel
theorem dX6_bar_27 : decode cX6_bar 27 = .ok (.bipush (-3), 2) := by decide +kernel
theorem dX6_bar_29 : decode cX6_bar 29 = .ok (.goto 4, 3) := by decide +kernel
theorem dX6_bar_32 : decode cX6_bar 32 = .ok (.iconst 0, 1) := by decide +kernel
theorem dX6_bar_33 : decode cX6_bar 33 = .ok (.ireturn, 1) := by decide +kernel
set_option maxRecDepth 20000 in
theorem ggX6_families_X6_bar : GoodIn wsX6_families wsX6_bar := goodIn_r _ [6, 7, 8, 5, 9, 10, 11, 12, 13, 14, 15, 16, 17, 18, 19, 20, 21, 54, 55, 56, 57, 58, 59, 60, 61, 62, 63, 64, 65] (by decide +kernel) (by decide +kernel)
set_option maxRecDepth 20000 in
theorem gX6_families_X6_bar : GoodIn wsX6_families (wsV RX6 148 RX6 yX6_bar wsX6_bar) := goodIn_app (goodIn_of _ (by decide +kernel)) ggX6_families_X6_bar
set_option maxRecDepth 20000 in
theorem ggX6_families_X6_laysFamilies : GoodIn wsX6_families wsX6_laysFamilies := goodIn_r _ [25, 1, 17, 26, 27, 28, 29, 30, 31, 32, 33, 5, 34, 35, 36, 37, 38, 39, 40, 41, 42, 43, 44, 45, 46, 47, 48, 49, 50, 51, 52, 53, 54, 55, 56, 57, 58, 59, 60, 61, 62, 63, 64, 65] (by decide +kernel) (by decide +kernel)
set_option maxRecDepth 20000 in
theorem gX6_families_X6_laysFamilies : GoodIn wsX6_families (wsV RX6 126 RX6 yX6_laysFamilies wsX6_laysFamilies) := goodIn_app (goodIn_of _ (by decide +kernel)) ggX6_families_X6_laysFamilies
theorem dX6_families_0 : decode cX6_families 0 = .ok (.aload_n 0, 1) := by decide +kernel
theorem dX6_families_1 : decode cX6_families 1 = .ok (.iload_n 1, 1) := by decide +kernel
theorem dX6_families_2 : decode cX6_families 2 = .ok (.invokevirtual 148, 3) := by decide +kernel
theorem dX6_families_5 : decode cX6_families 5 = .ok (.ifCond .eq 9, 3) := by decide +kernel
theorem dX6_families_8 : decode cX6_families 8 = .ok (.aload_n 0, 1) := by decide +kernel
theorem dX6_families_9 : decode cX6_families 9 = .ok (.iload_n 1, 1) := by decide +kernel
theorem dX6_families_10 : decode cX6_families 10 = .ok (.invokevirtual 148, 3) := by decide +kernel
theorem dX6_families_13 : decode cX6_families 13 = .ok (.ireturn, 1) := by decide +kernel
theorem dX6_families_14 : decode cX6_families 14 = .ok (.aload_n 0, 1) := by decide +kernel
theorem dX6_families_15 : decode cX6_families 15 = .ok (.iload_n 1, 1) := by decide +kernel
theorem dX6_families_16 : decode cX6_families 16 = .ok (.invokevirtual 126, 3) := by decide +kernel
theorem dX6_families_19 : decode cX6_families 19 = .ok (.aload_n 0, 1) := by decide +kernel
theorem dX6_families_20 : decode cX6_families 20 = .ok (.getfield 37, 3) := by decide +kernel
theorem dX6_families_23 : decode cX6_families 23 = .ok (.ireturn, 1) := by decide +kernel
set_option maxRecDepth 20000 in
theorem ggX6_family_X6_bar : GoodIn wsX6_family wsX6_bar := goodIn_r _ [10, 11, 12, 9, 13, 14, 15, 16, 17, 18, 19, 20, 21, 22, 23, 24, 25, 65, 66, 67, 68, 69, 70, 71, 72, 73, 74, 75, 76] (by decide +kernel) (by decide +kernel)
set_option maxRecDepth 20000 in
theorem gX6_family_X6_bar : GoodIn wsX6_family (wsV RX6 148 RX6 yX6_bar wsX6_bar) := goodIn_app (goodIn_of _ (by decide +kernel)) ggX6_family_X6_bar
set_option maxRecDepth 20000 in
theorem ggX6_family_X6_laysFamilies : GoodIn wsX6_family wsX6_laysFamilies := goodIn_r _ [29, 1, 21, 3, 4, 5, 2, 30, 31, 32, 33, 9, 34, 35, 36, 37, 38, 39, 40, 41, 42, 43, 44, 45, 46, 47, 48, 49, 50, 51, 52, 53, 65, 66, 67, 68, 69, 70, 71, 72, 73, 74, 75, 76] (by decide +kernel) (by decide +kernel)
set_option maxRecDepth 20000 in
theorem gX6_family_X6_laysFamilies : GoodIn wsX6_family (wsV RX6 126 RX6 yX6_laysFamilies wsX6_laysFamilies) := goodIn_app (goodIn_of _ (by decide +kernel)) ggX6_family_X6_laysFamilies
set_option maxRecDepth 20000 in
theorem ggX6_family_X6_in : GoodIn wsX6_family wsX6_in := goodIn_r _ [16] (by decide +kernel) (by decide +kernel)
set_option maxRecDepth 20000 in
theorem gX6_family_X6_in : GoodIn wsX6_family (va_wsS RX6 41 yX6_in wsX6_in) := goodIn_app (goodIn_of _ (by decide +kernel)) ggX6_family_X6_in
set_option maxRecDepth 20000 in
theorem ggX6_family_X6_ranked : GoodIn wsX6_family wsX6_ranked := goodIn_r _ [57, 1, 58, 59, 60, 9, 61, 21, 3, 5, 2, 30, 65, 66, 67, 68, 69, 70, 71, 72, 73, 74, 75, 76] (by decide +kernel) (by decide +kernel)
set_option maxRecDepth 20000 in
theorem gX6_family_X6_ranked : GoodIn wsX6_family (wsV RX6 129 RX6 yX6_ranked wsX6_ranked) := goodIn_app (goodIn_of _ (by decide +kernel)) ggX6_family_X6_ranked
set_option maxRecDepth 20000 in
theorem ggX6_family_X6_lowest : GoodIn wsX6_family wsX6_lowest := goodIn_r _ [64] (by decide +kernel) (by decide +kernel)
set_option maxRecDepth 20000 in
theorem gX6_family_X6_lowest : GoodIn wsX6_family (va_wsS RX6 145 yX6_lowest wsX6_lowest) := goodIn_app (goodIn_of _ (by decide +kernel)) ggX6_family_X6_lowest
theorem dX6_family_0 : decode cX6_family 0 = .ok (.aload_n 0, 1) := by decide +kernel
theorem dX6_family_1 : decode cX6_family 1 = .ok (.iload_n 1, 1) := by decide +kernel
theorem dX6_family_2 : decode cX6_family 2 = .ok (.invokevirtual 148, 3) := by decide +kernel
theorem dX6_family_5 : decode cX6_family 5 = .ok (.ifCond .eq 9, 3) := by decide +kernel
theorem dX6_family_8 : decode cX6_family 8 = .ok (.aload_n 0, 1) := by decide +kernel
theorem dX6_family_9 : decode cX6_family 9 = .ok (.iload_n 1, 1) := by decide +kernel
theorem dX6_family_10 : decode cX6_family 10 = .ok (.invokevirtual 148, 3) := by decide +kernel
theorem dX6_family_13 : decode cX6_family 13 = .ok (.ireturn, 1) := by decide +kernel
theorem dX6_family_14 : decode cX6_family 14 = .ok (.aload_n 0, 1) := by decide +kernel
theorem dX6_family_15 : decode cX6_family 15 = .ok (.iload_n 1, 1) := by decide +kernel
theorem dX6_family_16 : decode cX6_family 16 = .ok (.invokevirtual 126, 3) := by decide +kernel
theorem dX6_family_19 : decode cX6_family 19 = .ok (.iload_n 2, 1) := by decide +kernel
theorem dX6_family_20 : decode cX6_family 20 = .ok (.iconst 0, 1) := by decide +kernel
theorem dX6_family_21 : decode cX6_family 21 = .ok (.aload_n 0, 1) := by decide +kernel
theorem dX6_family_22 : decode cX6_family 22 = .ok (.getfield 37, 3) := by decide +kernel
theorem dX6_family_25 : decode cX6_family 25 = .ok (.iconst 1, 1) := by decide +kernel
theorem dX6_family_26 : decode cX6_family 26 = .ok (.isub, 1) := by decide +kernel
theorem dX6_family_27 : decode cX6_family 27 = .ok (.invokestatic 41, 3) := by decide +kernel
theorem dX6_family_30 : decode cX6_family 30 = .ok (.ifCond .ne 5, 3) := by decide +kernel
theorem dX6_family_33 : decode cX6_family 33 = .ok (.iconst (-1), 1) := by decide +kernel
theorem dX6_family_34 : decode cX6_family 34 = .ok (.ireturn, 1) := by decide +kernel
theorem dX6_family_35 : decode cX6_family 35 = .ok (.aload_n 0, 1) := by decide +kernel
theorem dX6_family_36 : decode cX6_family 36 = .ok (.iload_n 2, 1) := by decide +kernel
theorem dX6_family_37 : decode cX6_family 37 = .ok (.invokevirtual 129, 3) := by decide +kernel
theorem dX6_family_40 : decode cX6_family 40 = .ok (.istore 4, 2) := by decide +kernel
theorem dX6_family_42 : decode cX6_family 42 = .ok (.iload_n 3, 1) := by decide +kernel
theorem dX6_family_43 : decode cX6_family 43 = .ok (.tableswitch 64 0 3 #[29, 37, 45, 56], 29) := by decide +kernel
theorem dX6_family_72 : decode cX6_family 72 = .ok (.aload_n 0, 1) := by decide +kernel
theorem dX6_family_73 : decode cX6_family 73 = .ok (.getfield 28, 3) := by decide +kernel
theorem dX6_family_76 : decode cX6_family 76 = .ok (.iload 4, 2) := by decide +kernel
theorem dX6_family_78 : decode cX6_family 78 = .ok (.iaload, 1) := by decide +kernel
theorem dX6_family_79 : decode cX6_family 79 = .ok (.ireturn, 1) := by decide +kernel
theorem dX6_family_80 : decode cX6_family 80 = .ok (.aload_n 0, 1) := by decide +kernel
theorem dX6_family_81 : decode cX6_family 81 = .ok (.getfield 22, 3) := by decide +kernel
theorem dX6_family_84 : decode cX6_family 84 = .ok (.iload 4, 2) := by decide +kernel
theorem dX6_family_86 : decode cX6_family 86 = .ok (.iaload, 1) := by decide +kernel
theorem dX6_family_87 : decode cX6_family 87 = .ok (.ireturn, 1) := by decide +kernel
theorem dX6_family_88 : decode cX6_family 88 = .ok (.aload_n 0, 1) := by decide +kernel
theorem dX6_family_89 : decode cX6_family 89 = .ok (.getfield 25, 3) := by decide +kernel
theorem dX6_family_92 : decode cX6_family 92 = .ok (.iload 4, 2) := by decide +kernel
theorem dX6_family_94 : decode cX6_family 94 = .ok (.iaload, 1) := by decide +kernel
theorem dX6_family_95 : decode cX6_family 95 = .ok (.invokestatic 145, 3) := by decide +kernel
theorem dX6_family_98 : decode cX6_family 98 = .ok (.ireturn, 1) := by decide +kernel
theorem dX6_family_99 : decode cX6_family 99 = .ok (.aload_n 0, 1) := by decide +kernel
theorem dX6_family_100 : decode cX6_family 100 = .ok (.getfield 34, 3) := by decide +kernel
theorem dX6_family_103 : decode cX6_family 103 = .ok (.iload 4, 2) := by decide +kernel
theorem dX6_family_105 : decode cX6_family 105 = .ok (.iaload, 1) := by decide +kernel
theorem dX6_family_106 : decode cX6_family 106 = .ok (.ireturn, 1) := by decide +kernel
theorem dX6_family_107 : decode cX6_family 107 = .ok (.bipush (-2), 2) := by decide +kernel
theorem dX6_family_109 : decode cX6_family 109 = .ok (.ireturn, 1) := by decide +kernel
set_option maxRecDepth 20000 in
theorem ggX6_spread_X6_bar : GoodIn wsX6_spread wsX6_bar := goodIn_r _ [8, 9, 10, 7, 11, 12, 13, 14, 15, 16, 17, 18, 3, 19, 20, 21, 22, 54, 55, 56, 57, 58, 59, 60, 61, 62, 63, 64, 65] (by decide +kernel) (by decide +kernel)
set_option maxRecDepth 20000 in
theorem gX6_spread_X6_bar : GoodIn wsX6_spread (wsV RX6 148 RX6 yX6_bar wsX6_bar) := goodIn_app (goodIn_of _ (by decide +kernel)) ggX6_spread_X6_bar
set_option maxRecDepth 20000 in
theorem ggX6_spread_X6_laysFamilies : GoodIn wsX6_spread wsX6_laysFamilies := goodIn_r _ [26, 1, 3, 27, 28, 29, 2, 30, 31, 32, 33, 7, 34, 35, 36, 37, 38, 39, 40, 41, 42, 43, 44, 45, 46, 47, 48, 49, 50, 51, 52, 53, 54, 55, 56, 57, 58, 59, 60, 61, 62, 63, 64, 65] (by decide +kernel) (by decide +kernel)
set_option maxRecDepth 20000 in
theorem gX6_spread_X6_laysFamilies : GoodIn wsX6_spread (wsV RX6 126 RX6 yX6_laysFamilies wsX6_laysFamilies) := goodIn_app (goodIn_of _ (by decide +kernel)) ggX6_spread_X6_laysFamilies
set_option maxRecDepth 20000 in
theorem ggX6_spread_X6_bits : GoodIn wsX6_spread wsX6_bits := goodIn_r _ [53] (by decide +kernel) (by decide +kernel)
set_option maxRecDepth 20000 in
theorem gX6_spread_X6_bits : GoodIn wsX6_spread (va_wsS RX6 113 yX6_bits wsX6_bits) := goodIn_app (goodIn_of _ (by decide +kernel)) ggX6_spread_X6_bits
theorem dX6_spread_0 : decode cX6_spread 0 = .ok (.aload_n 0, 1) := by decide +kernel
theorem dX6_spread_1 : decode cX6_spread 1 = .ok (.iload_n 1, 1) := by decide +kernel
theorem dX6_spread_2 : decode cX6_spread 2 = .ok (.invokevirtual 148, 3) := by decide +kernel
theorem dX6_spread_5 : decode cX6_spread 5 = .ok (.ifCond .eq 9, 3) := by decide +kernel
theorem dX6_spread_8 : decode cX6_spread 8 = .ok (.aload_n 0, 1) := by decide +kernel
theorem dX6_spread_9 : decode cX6_spread 9 = .ok (.iload_n 1, 1) := by decide +kernel
theorem dX6_spread_10 : decode cX6_spread 10 = .ok (.invokevirtual 148, 3) := by decide +kernel
theorem dX6_spread_13 : decode cX6_spread 13 = .ok (.ireturn, 1) := by decide +kernel
theorem dX6_spread_14 : decode cX6_spread 14 = .ok (.aload_n 0, 1) := by decide +kernel
theorem dX6_spread_15 : decode cX6_spread 15 = .ok (.iload_n 1, 1) := by decide +kernel
theorem dX6_spread_16 : decode cX6_spread 16 = .ok (.invokevirtual 126, 3) := by decide +kernel
theorem dX6_spread_19 : decode cX6_spread 19 = .ok (.iconst 0, 1) := by decide +kernel
theorem dX6_spread_20 : decode cX6_spread 20 = .ok (.istore_n 2, 1) := by decide +kernel
theorem dX6_spread_21 : decode cX6_spread 21 = .ok (.iconst 0, 1) := by decide +kernel
theorem dX6_spread_22 : decode cX6_spread 22 = .ok (.istore_n 3, 1) := by decide +kernel
theorem dX6_spread_23 : decode cX6_spread 23 = .ok (.iload_n 3, 1) := by decide +kernel
theorem dX6_spread_24 : decode cX6_spread 24 = .ok (.aload_n 0, 1) := by decide +kernel
theorem dX6_spread_25 : decode cX6_spread 25 = .ok (.getfield 37, 3) := by decide +kernel
theorem dX6_spread_28 : decode cX6_spread 28 = .ok (.if_icmp .ge 25, 3) := by decide +kernel
theorem dX6_spread_31 : decode cX6_spread 31 = .ok (.iload_n 2, 1) := by decide +kernel
theorem dX6_spread_32 : decode cX6_spread 32 = .ok (.aload_n 0, 1) := by decide +kernel
theorem dX6_spread_33 : decode cX6_spread 33 = .ok (.getfield 28, 3) := by decide +kernel
theorem dX6_spread_36 : decode cX6_spread 36 = .ok (.iload_n 3, 1) := by decide +kernel
theorem dX6_spread_37 : decode cX6_spread 37 = .ok (.iaload, 1) := by decide +kernel
theorem dX6_spread_38 : decode cX6_spread 38 = .ok (.aload_n 0, 1) := by decide +kernel
theorem dX6_spread_39 : decode cX6_spread 39 = .ok (.getfield 28, 3) := by decide +kernel
theorem dX6_spread_42 : decode cX6_spread 42 = .ok (.iload_n 3, 1) := by decide +kernel
theorem dX6_spread_43 : decode cX6_spread 43 = .ok (.iaload, 1) := by decide +kernel
theorem dX6_spread_44 : decode cX6_spread 44 = .ok (.imul, 1) := by decide +kernel
theorem dX6_spread_45 : decode cX6_spread 45 = .ok (.iadd, 1) := by decide +kernel
theorem dX6_spread_46 : decode cX6_spread 46 = .ok (.istore_n 2, 1) := by decide +kernel
theorem dX6_spread_47 : decode cX6_spread 47 = .ok (.iinc 3 1, 3) := by decide +kernel
theorem dX6_spread_50 : decode cX6_spread 50 = .ok (.goto (-27), 3) := by decide +kernel
theorem dX6_spread_53 : decode cX6_spread 53 = .ok (.sipush 1000, 3) := by decide +kernel
theorem dX6_spread_56 : decode cX6_spread 56 = .ok (.iload_n 2, 1) := by decide +kernel
theorem dX6_spread_57 : decode cX6_spread 57 = .ok (.imul, 1) := by decide +kernel
theorem dX6_spread_58 : decode cX6_spread 58 = .ok (.aload_n 0, 1) := by decide +kernel
theorem dX6_spread_59 : decode cX6_spread 59 = .ok (.getfield 7, 3) := by decide +kernel
theorem dX6_spread_62 : decode cX6_spread 62 = .ok (.bipush 7, 2) := by decide +kernel
theorem dX6_spread_64 : decode cX6_spread 64 = .ok (.iaload, 1) := by decide +kernel
theorem dX6_spread_65 : decode cX6_spread 65 = .ok (.invokestatic 113, 3) := by decide +kernel
theorem dX6_spread_68 : decode cX6_spread 68 = .ok (.idiv, 1) := by decide +kernel
theorem dX6_spread_69 : decode cX6_spread 69 = .ok (.ireturn, 1) := by decide +kernel
set_option maxRecDepth 20000 in
theorem ggX6_having_X6_isLetter : GoodIn wsX6_having wsX6_isLetter := goodIn_r _ [5, 6, 7, 4, 8] (by decide +kernel) (by decide +kernel)
set_option maxRecDepth 20000 in
theorem gX6_having_X6_isLetter : GoodIn wsX6_having (va_wsS RX6 51 yX6_isLetter wsX6_isLetter) := goodIn_app (goodIn_of _ (by decide +kernel)) ggX6_having_X6_isLetter
set_option maxRecDepth 20000 in
theorem ggX6_having_X6_isCandidate : GoodIn wsX6_having wsX6_isCandidate := goodIn_r _ [12, 1, 21, 22, 23, 24, 25, 26, 27, 28, 29, 30, 31, 32] (by decide +kernel) (by decide +kernel)
set_option maxRecDepth 20000 in
theorem gX6_having_X6_isCandidate : GoodIn wsX6_having (wsV RX6 101 RX6 yX6_isCandidate wsX6_isCandidate) := goodIn_app (goodIn_of _ (by decide +kernel)) ggX6_having_X6_isCandidate
set_option maxRecDepth 20000 in
theorem ggX6_having_X6_maskOf : GoodIn wsX6_having wsX6_maskOf := goodIn_r _ [16, 1, 17, 18, 19, 4, 20, 21, 22, 23, 24, 25, 26, 27, 28, 29, 30, 31, 32] (by decide +kernel) (by decide +kernel)
set_option maxRecDepth 20000 in
theorem gX6_having_X6_maskOf : GoodIn wsX6_having (wsV RX6 104 RX6 yX6_maskOf wsX6_maskOf) := goodIn_app (goodIn_of _ (by decide +kernel)) ggX6_having_X6_maskOf
theorem dX6_having_0 : decode cX6_having 0 = .ok (.iload_n 1, 1) := by decide +kernel
theorem dX6_having_1 : decode cX6_having 1 = .ok (.invokestatic 51, 3) := by decide +kernel
theorem dX6_having_4 : decode cX6_having 4 = .ok (.ifCond .ne 6, 3) := by decide +kernel
theorem dX6_having_7 : decode cX6_having 7 = .ok (.bipush (-2), 2) := by decide +kernel
theorem dX6_having_9 : decode cX6_having 9 = .ok (.ireturn, 1) := by decide +kernel
theorem dX6_having_10 : decode cX6_having 10 = .ok (.aload_n 0, 1) := by decide +kernel
theorem dX6_having_11 : decode cX6_having 11 = .ok (.getfield 7, 3) := by decide +kernel
theorem dX6_having_14 : decode cX6_having 14 = .ok (.iconst 2, 1) := by decide +kernel
theorem dX6_having_15 : decode cX6_having 15 = .ok (.iaload, 1) := by decide +kernel
theorem dX6_having_16 : decode cX6_having 16 = .ok (.ifCond .ne 6, 3) := by decide +kernel
theorem dX6_having_19 : decode cX6_having 19 = .ok (.bipush (-3), 2) := by decide +kernel
theorem dX6_having_21 : decode cX6_having 21 = .ok (.ireturn, 1) := by decide +kernel
theorem dX6_having_22 : decode cX6_having 22 = .ok (.iconst 0, 1) := by decide +kernel
theorem dX6_having_23 : decode cX6_having 23 = .ok (.istore_n 2, 1) := by decide +kernel
theorem dX6_having_24 : decode cX6_having 24 = .ok (.iconst 0, 1) := by decide +kernel
theorem dX6_having_25 : decode cX6_having 25 = .ok (.istore_n 3, 1) := by decide +kernel
theorem dX6_having_26 : decode cX6_having 26 = .ok (.iload_n 3, 1) := by decide +kernel
theorem dX6_having_27 : decode cX6_having 27 = .ok (.aload_n 0, 1) := by decide +kernel
theorem dX6_having_28 : decode cX6_having 28 = .ok (.getfield 7, 3) := by decide +kernel
theorem dX6_having_31 : decode cX6_having 31 = .ok (.iconst 0, 1) := by decide +kernel
theorem dX6_having_32 : decode cX6_having 32 = .ok (.iaload, 1) := by decide +kernel
theorem dX6_having_33 : decode cX6_having 33 = .ok (.if_icmp .ge 34, 3) := by decide +kernel
theorem dX6_having_36 : decode cX6_having 36 = .ok (.iload_n 2, 1) := by decide +kernel
theorem dX6_having_37 : decode cX6_having 37 = .ok (.aload_n 0, 1) := by decide +kernel
theorem dX6_having_38 : decode cX6_having 38 = .ok (.iload_n 3, 1) := by decide +kernel
theorem dX6_having_39 : decode cX6_having 39 = .ok (.invokevirtual 101, 3) := by decide +kernel
theorem dX6_having_42 : decode cX6_having 42 = .ok (.ifCond .eq 16, 3) := by decide +kernel
theorem dX6_having_45 : decode cX6_having 45 = .ok (.aload_n 0, 1) := by decide +kernel
theorem dX6_having_46 : decode cX6_having 46 = .ok (.iload_n 3, 1) := by decide +kernel
theorem dX6_having_47 : decode cX6_having 47 = .ok (.iload_n 1, 1) := by decide +kernel
theorem dX6_having_48 : decode cX6_having 48 = .ok (.invokevirtual 104, 3) := by decide +kernel
theorem dX6_having_51 : decode cX6_having 51 = .ok (.ifCond .eq 7, 3) := by decide +kernel
theorem dX6_having_54 : decode cX6_having 54 = .ok (.iconst 1, 1) := by decide +kernel
theorem dX6_having_55 : decode cX6_having 55 = .ok (.goto 4, 3) := by decide +kernel
theorem dX6_having_58 : decode cX6_having 58 = .ok (.iconst 0, 1) := by decide +kernel
theorem dX6_having_59 : decode cX6_having 59 = .ok (.iadd, 1) := by decide +kernel
theorem dX6_having_60 : decode cX6_having 60 = .ok (.istore_n 2, 1) := by decide +kernel
theorem dX6_having_61 : decode cX6_having 61 = .ok (.iinc 3 1, 3) := by decide +kernel
theorem dX6_having_64 : decode cX6_having 64 = .ok (.goto (-38), 3) := by decide +kernel
theorem dX6_having_67 : decode cX6_having 67 = .ok (.iload_n 2, 1) := by decide +kernel
theorem dX6_having_68 : decode cX6_having 68 = .ok (.ireturn, 1) := by decide +kernel
set_option maxRecDepth 20000 in
theorem ggX6_sure_X6_isCandidate : GoodIn wsX6_sure wsX6_isCandidate := goodIn_r _ [7, 1, 16, 17, 18, 19, 20, 21, 22, 23, 24, 25, 26, 27] (by decide +kernel) (by decide +kernel)
set_option maxRecDepth 20000 in
theorem gX6_sure_X6_isCandidate : GoodIn wsX6_sure (wsV RX6 101 RX6 yX6_isCandidate wsX6_isCandidate) := goodIn_app (goodIn_of _ (by decide +kernel)) ggX6_sure_X6_isCandidate
set_option maxRecDepth 20000 in
theorem ggX6_sure_X6_lettersOf : GoodIn wsX6_sure wsX6_lettersOf := goodIn_r _ [11, 1, 12, 13, 14, 6, 15, 16, 17, 18, 19, 20, 21, 22, 23, 24, 25, 26, 27] (by decide +kernel) (by decide +kernel)
set_option maxRecDepth 20000 in
theorem gX6_sure_X6_lettersOf : GoodIn wsX6_sure (wsV RX6 110 RX6 yX6_lettersOf wsX6_lettersOf) := goodIn_app (goodIn_of _ (by decide +kernel)) ggX6_sure_X6_lettersOf
theorem dX6_sure_0 : decode cX6_sure 0 = .ok (.aload_n 0, 1) := by decide +kernel
theorem dX6_sure_1 : decode cX6_sure 1 = .ok (.getfield 7, 3) := by decide +kernel
theorem dX6_sure_4 : decode cX6_sure 4 = .ok (.iconst 5, 1) := by decide +kernel
theorem dX6_sure_5 : decode cX6_sure 5 = .ok (.iaload, 1) := by decide +kernel
theorem dX6_sure_6 : decode cX6_sure 6 = .ok (.iconst (-1), 1) := by decide +kernel
theorem dX6_sure_7 : decode cX6_sure 7 = .ok (.ixor, 1) := by decide +kernel
theorem dX6_sure_8 : decode cX6_sure 8 = .ok (.ldc 151, 2) := by decide +kernel
theorem dX6_sure_10 : decode cX6_sure 10 = .ok (.iand, 1) := by decide +kernel
theorem dX6_sure_11 : decode cX6_sure 11 = .ok (.istore_n 1, 1) := by decide +kernel
theorem dX6_sure_12 : decode cX6_sure 12 = .ok (.iconst 0, 1) := by decide +kernel
theorem dX6_sure_13 : decode cX6_sure 13 = .ok (.istore_n 2, 1) := by decide +kernel
theorem dX6_sure_14 : decode cX6_sure 14 = .ok (.iload_n 2, 1) := by decide +kernel
theorem dX6_sure_15 : decode cX6_sure 15 = .ok (.aload_n 0, 1) := by decide +kernel
theorem dX6_sure_16 : decode cX6_sure 16 = .ok (.getfield 7, 3) := by decide +kernel
theorem dX6_sure_19 : decode cX6_sure 19 = .ok (.iconst 0, 1) := by decide +kernel
theorem dX6_sure_20 : decode cX6_sure 20 = .ok (.iaload, 1) := by decide +kernel
theorem dX6_sure_21 : decode cX6_sure 21 = .ok (.if_icmp .ge 29, 3) := by decide +kernel
theorem dX6_sure_24 : decode cX6_sure 24 = .ok (.iload_n 1, 1) := by decide +kernel
theorem dX6_sure_25 : decode cX6_sure 25 = .ok (.aload_n 0, 1) := by decide +kernel
theorem dX6_sure_26 : decode cX6_sure 26 = .ok (.iload_n 2, 1) := by decide +kernel
theorem dX6_sure_27 : decode cX6_sure 27 = .ok (.invokevirtual 101, 3) := by decide +kernel
theorem dX6_sure_30 : decode cX6_sure 30 = .ok (.ifCond .eq 11, 3) := by decide +kernel
theorem dX6_sure_33 : decode cX6_sure 33 = .ok (.aload_n 0, 1) := by decide +kernel
theorem dX6_sure_34 : decode cX6_sure 34 = .ok (.iload_n 2, 1) := by decide +kernel
theorem dX6_sure_35 : decode cX6_sure 35 = .ok (.invokevirtual 110, 3) := by decide +kernel
theorem dX6_sure_38 : decode cX6_sure 38 = .ok (.goto 4, 3) := by decide +kernel
theorem dX6_sure_41 : decode cX6_sure 41 = .ok (.iconst (-1), 1) := by decide +kernel
theorem dX6_sure_42 : decode cX6_sure 42 = .ok (.iand, 1) := by decide +kernel
theorem dX6_sure_43 : decode cX6_sure 43 = .ok (.istore_n 1, 1) := by decide +kernel
theorem dX6_sure_44 : decode cX6_sure 44 = .ok (.iinc 2 1, 3) := by decide +kernel
theorem dX6_sure_47 : decode cX6_sure 47 = .ok (.goto (-33), 3) := by decide +kernel
theorem dX6_sure_50 : decode cX6_sure 50 = .ok (.iload_n 1, 1) := by decide +kernel
theorem dX6_sure_51 : decode cX6_sure 51 = .ok (.ireturn, 1) := by decide +kernel
set_option maxRecDepth 20000 in
theorem ggX6_sureLetters_X6_runs : GoodIn wsX6_sureLetters wsX6_runs := goodIn_r _ [5, 6, 24, 25, 26, 27, 28, 29, 30, 31, 32, 33, 34, 35] (by decide +kernel) (by decide +kernel)
set_option maxRecDepth 20000 in
theorem gX6_sureLetters_X6_runs : GoodIn wsX6_sureLetters (wsV RX6 70 RX6 yX6_runs wsX6_runs) := goodIn_app (goodIn_of _ (by decide +kernel)) ggX6_sureLetters_X6_runs
set_option maxRecDepth 20000 in
theorem ggX6_sureLetters_X6_sure : GoodIn wsX6_sureLetters wsX6_sure := goodIn_r _ [10, 6, 11, 12, 13, 14, 4, 15, 16, 17, 18, 19, 20, 21, 22, 23, 24, 25, 26, 27, 28, 29, 30, 31, 32, 33, 34, 35] (by decide +kernel) (by decide +kernel)
set_option maxRecDepth 20000 in
theorem gX6_sureLetters_X6_sure : GoodIn wsX6_sureLetters (wsV RX6 152 RX6 yX6_sure wsX6_sure) := goodIn_app (goodIn_of _ (by decide +kernel)) ggX6_sureLetters_X6_sure
theorem dX6_sureLetters_0 : decode cX6_sureLetters 0 = .ok (.aload_n 0, 1) := by decide +kernel
theorem dX6_sureLetters_1 : decode cX6_sureLetters 1 = .ok (.invokevirtual 70, 3) := by decide +kernel
theorem dX6_sureLetters_4 : decode cX6_sureLetters 4 = .ok (.ifCond .eq 10, 3) := by decide +kernel
theorem dX6_sureLetters_7 : decode cX6_sureLetters 7 = .ok (.aload_n 0, 1) := by decide +kernel
theorem dX6_sureLetters_8 : decode cX6_sureLetters 8 = .ok (.invokevirtual 152, 3) := by decide +kernel
theorem dX6_sureLetters_11 : decode cX6_sureLetters 11 = .ok (.goto 5, 3) := by decide +kernel
theorem dX6_sureLetters_14 : decode cX6_sureLetters 14 = .ok (.bipush (-3), 2) := by decide +kernel
theorem dX6_sureLetters_16 : decode cX6_sureLetters 16 = .ok (.ireturn, 1) := by decide +kernel
set_option maxRecDepth 20000 in
theorem ggX6_best_X6_isGuessed : GoodIn wsX6_best wsX6_isGuessed := goodIn_r _ [7, 8, 48, 49, 50, 51, 52, 53, 54, 55, 56, 57, 58, 59] (by decide +kernel) (by decide +kernel)
set_option maxRecDepth 20000 in
theorem gX6_best_X6_isGuessed : GoodIn wsX6_best (wsV RX6 139 RX6 yX6_isGuessed wsX6_isGuessed) := goodIn_app (goodIn_of _ (by decide +kernel)) ggX6_best_X6_isGuessed
set_option maxRecDepth 20000 in
theorem ggX6_best_X6_laysFamilies : GoodIn wsX6_best wsX6_laysFamilies := goodIn_r _ [12, 13, 8, 14, 15, 16, 1, 2, 17, 18, 19, 6, 20, 21, 22, 23, 24, 25, 26, 27, 28, 29, 30, 31, 32, 33, 34, 35, 36, 37, 38, 39, 48, 49, 50, 51, 52, 53, 54, 55, 56, 57, 58, 59] (by decide +kernel) (by decide +kernel)
set_option maxRecDepth 20000 in
theorem gX6_best_X6_laysFamilies : GoodIn wsX6_best (wsV RX6 126 RX6 yX6_laysFamilies wsX6_laysFamilies) := goodIn_app (goodIn_of _ (by decide +kernel)) ggX6_best_X6_laysFamilies
set_option maxRecDepth 20000 in
theorem ggX6_best_X6_ranked : GoodIn wsX6_best wsX6_ranked := goodIn_r _ [43, 13, 44, 45, 46, 6, 47, 8, 14, 16, 1, 2, 48, 49, 50, 51, 52, 53, 54, 55, 56, 57, 58, 59] (by decide +kernel) (by decide +kernel)
set_option maxRecDepth 20000 in
theorem gX6_best_X6_ranked : GoodIn wsX6_best (wsV RX6 129 RX6 yX6_ranked wsX6_ranked) := goodIn_app (goodIn_of _ (by decide +kernel)) ggX6_best_X6_ranked
theorem dX6_best_0 : decode cX6_best 0 = .ok (.bipush (-6), 2) := by decide +kernel
theorem dX6_best_2 : decode cX6_best 2 = .ok (.istore_n 1, 1) := by decide +kernel
theorem dX6_best_3 : decode cX6_best 3 = .ok (.iconst 0, 1) := by decide +kernel
theorem dX6_best_4 : decode cX6_best 4 = .ok (.istore_n 2, 1) := by decide +kernel
theorem dX6_best_5 : decode cX6_best 5 = .ok (.iconst 0, 1) := by decide +kernel
theorem dX6_best_6 : decode cX6_best 6 = .ok (.istore_n 3, 1) := by decide +kernel
theorem dX6_best_7 : decode cX6_best 7 = .ok (.bipush 97, 2) := by decide +kernel
theorem dX6_best_9 : decode cX6_best 9 = .ok (.istore 4, 2) := by decide +kernel
theorem dX6_best_11 : decode cX6_best 11 = .ok (.iload 4, 2) := by decide +kernel
theorem dX6_best_13 : decode cX6_best 13 = .ok (.bipush 122, 2) := by decide +kernel
theorem dX6_best_15 : decode cX6_best 15 = .ok (.if_icmp .gt 89, 3) := by decide +kernel
theorem dX6_best_18 : decode cX6_best 18 = .ok (.aload_n 0, 1) := by decide +kernel
theorem dX6_best_19 : decode cX6_best 19 = .ok (.iload 4, 2) := by decide +kernel
theorem dX6_best_21 : decode cX6_best 21 = .ok (.invokevirtual 139, 3) := by decide +kernel
theorem dX6_best_24 : decode cX6_best 24 = .ok (.ifCond .ne 74, 3) := by decide +kernel
theorem dX6_best_27 : decode cX6_best 27 = .ok (.aload_n 0, 1) := by decide +kernel
theorem dX6_best_28 : decode cX6_best 28 = .ok (.iload 4, 2) := by decide +kernel
theorem dX6_best_30 : decode cX6_best 30 = .ok (.invokevirtual 126, 3) := by decide +kernel
theorem dX6_best_33 : decode cX6_best 33 = .ok (.aload_n 0, 1) := by decide +kernel
theorem dX6_best_34 : decode cX6_best 34 = .ok (.iconst 0, 1) := by decide +kernel
theorem dX6_best_35 : decode cX6_best 35 = .ok (.invokevirtual 129, 3) := by decide +kernel
theorem dX6_best_38 : decode cX6_best 38 = .ok (.istore 5, 2) := by decide +kernel
theorem dX6_best_40 : decode cX6_best 40 = .ok (.iload_n 1, 1) := by decide +kernel
theorem dX6_best_41 : decode cX6_best 41 = .ok (.bipush (-6), 2) := by decide +kernel
theorem dX6_best_43 : decode cX6_best 43 = .ok (.if_icmp .eq 36, 3) := by decide +kernel
theorem dX6_best_46 : decode cX6_best 46 = .ok (.aload_n 0, 1) := by decide +kernel
theorem dX6_best_47 : decode cX6_best 47 = .ok (.getfield 28, 3) := by decide +kernel
theorem dX6_best_50 : decode cX6_best 50 = .ok (.iload 5, 2) := by decide +kernel
theorem dX6_best_52 : decode cX6_best 52 = .ok (.iaload, 1) := by decide +kernel
theorem dX6_best_53 : decode cX6_best 53 = .ok (.iload_n 2, 1) := by decide +kernel
theorem dX6_best_54 : decode cX6_best 54 = .ok (.if_icmp .lt 25, 3) := by decide +kernel
theorem dX6_best_57 : decode cX6_best 57 = .ok (.aload_n 0, 1) := by decide +kernel
theorem dX6_best_58 : decode cX6_best 58 = .ok (.getfield 28, 3) := by decide +kernel
theorem dX6_best_61 : decode cX6_best 61 = .ok (.iload 5, 2) := by decide +kernel
theorem dX6_best_63 : decode cX6_best 63 = .ok (.iaload, 1) := by decide +kernel
theorem dX6_best_64 : decode cX6_best 64 = .ok (.iload_n 2, 1) := by decide +kernel
theorem dX6_best_65 : decode cX6_best 65 = .ok (.if_icmp .ne 33, 3) := by decide +kernel
theorem dX6_best_68 : decode cX6_best 68 = .ok (.aload_n 0, 1) := by decide +kernel
theorem dX6_best_69 : decode cX6_best 69 = .ok (.getfield 31, 3) := by decide +kernel
theorem dX6_best_72 : decode cX6_best 72 = .ok (.iload 5, 2) := by decide +kernel
theorem dX6_best_74 : decode cX6_best 74 = .ok (.iaload, 1) := by decide +kernel
theorem dX6_best_75 : decode cX6_best 75 = .ok (.iload_n 3, 1) := by decide +kernel
theorem dX6_best_76 : decode cX6_best 76 = .ok (.if_icmp .le 22, 3) := by decide +kernel
theorem dX6_best_79 : decode cX6_best 79 = .ok (.iload 4, 2) := by decide +kernel
theorem dX6_best_81 : decode cX6_best 81 = .ok (.istore_n 1, 1) := by decide +kernel
theorem dX6_best_82 : decode cX6_best 82 = .ok (.aload_n 0, 1) := by decide +kernel
theorem dX6_best_83 : decode cX6_best 83 = .ok (.getfield 28, 3) := by decide +kernel
theorem dX6_best_86 : decode cX6_best 86 = .ok (.iload 5, 2) := by decide +kernel
theorem dX6_best_88 : decode cX6_best 88 = .ok (.iaload, 1) := by decide +kernel
theorem dX6_best_89 : decode cX6_best 89 = .ok (.istore_n 2, 1) := by decide +kernel
theorem dX6_best_90 : decode cX6_best 90 = .ok (.aload_n 0, 1) := by decide +kernel
theorem dX6_best_91 : decode cX6_best 91 = .ok (.getfield 31, 3) := by decide +kernel
theorem dX6_best_94 : decode cX6_best 94 = .ok (.iload 5, 2) := by decide +kernel
theorem dX6_best_96 : decode cX6_best 96 = .ok (.iaload, 1) := by decide +kernel
theorem dX6_best_97 : decode cX6_best 97 = .ok (.istore_n 3, 1) := by decide +kernel
theorem dX6_best_98 : decode cX6_best 98 = .ok (.iinc 4 1, 3) := by decide +kernel
theorem dX6_best_101 : decode cX6_best 101 = .ok (.goto (-90), 3) := by decide +kernel
theorem dX6_best_104 : decode cX6_best 104 = .ok (.iload_n 1, 1) := by decide +kernel
theorem dX6_best_105 : decode cX6_best 105 = .ok (.ireturn, 1) := by decide +kernel
set_option maxRecDepth 20000 in
theorem ggX6_bestGuess_X6_runs : GoodIn wsX6_bestGuess wsX6_runs := goodIn_r _ [5, 6, 56, 57, 58, 59, 60, 61, 62, 63, 64, 65, 66, 67] (by decide +kernel) (by decide +kernel)
set_option maxRecDepth 20000 in
theorem gX6_bestGuess_X6_runs : GoodIn wsX6_bestGuess (wsV RX6 70 RX6 yX6_runs wsX6_runs) := goodIn_app (goodIn_of _ (by decide +kernel)) ggX6_bestGuess_X6_runs
set_option maxRecDepth 20000 in
theorem ggX6_bestGuess_X6_best : GoodIn wsX6_bestGuess wsX6_best := goodIn_r _ [10, 11, 12, 13, 14, 15, 4, 16, 6, 17, 18, 19, 20, 21, 22, 23, 24, 25, 26, 27, 28, 29, 30, 31, 32, 33, 34, 35, 36, 37, 38, 39, 40, 41, 42, 43, 44, 45, 46, 47, 48, 49, 50, 51, 52, 53, 54, 55, 56, 57, 58, 59, 60, 61, 62, 63, 64, 65, 66, 67] (by decide +kernel) (by decide +kernel)
set_option maxRecDepth 20000 in
theorem gX6_bestGuess_X6_best : GoodIn wsX6_bestGuess (wsV RX6 155 RX6 yX6_best wsX6_best) := goodIn_app (goodIn_of _ (by decide +kernel)) ggX6_bestGuess_X6_best
theorem dX6_bestGuess_0 : decode cX6_bestGuess 0 = .ok (.aload_n 0, 1) := by decide +kernel
theorem dX6_bestGuess_1 : decode cX6_bestGuess 1 = .ok (.invokevirtual 70, 3) := by decide +kernel
theorem dX6_bestGuess_4 : decode cX6_bestGuess 4 = .ok (.ifCond .eq 10, 3) := by decide +kernel
theorem dX6_bestGuess_7 : decode cX6_bestGuess 7 = .ok (.aload_n 0, 1) := by decide +kernel
theorem dX6_bestGuess_8 : decode cX6_bestGuess 8 = .ok (.invokevirtual 155, 3) := by decide +kernel
theorem dX6_bestGuess_11 : decode cX6_bestGuess 11 = .ok (.goto 5, 3) := by decide +kernel
theorem dX6_bestGuess_14 : decode cX6_bestGuess 14 = .ok (.bipush (-3), 2) := by decide +kernel
theorem dX6_bestGuess_16 : decode cX6_bestGuess 16 = .ok (.ireturn, 1) := by decide +kernel
set_option maxRecDepth 20000 in
theorem ggX6_missesAhead_X6_runs : GoodIn wsX6_missesAhead wsX6_runs := goodIn_r _ [7, 1, 81, 82, 83, 84, 85, 86, 87, 88, 89, 90, 91, 92] (by decide +kernel) (by decide +kernel)
set_option maxRecDepth 20000 in
theorem gX6_missesAhead_X6_runs : GoodIn wsX6_missesAhead (wsV RX6 70 RX6 yX6_runs wsX6_runs) := goodIn_app (goodIn_of _ (by decide +kernel)) ggX6_missesAhead_X6_runs
set_option maxRecDepth 20000 in
theorem ggX6_missesAhead_X6_putAside : GoodIn wsX6_missesAhead wsX6_putAside := goodIn_r _ [11, 2, 1, 81, 82, 83, 84, 85, 86, 87, 88, 89, 90, 91, 92] (by decide +kernel) (by decide +kernel)
set_option maxRecDepth 20000 in
theorem gX6_missesAhead_X6_putAside : GoodIn wsX6_missesAhead (wsV RX6 74 RX6 yX6_putAside wsX6_putAside) := goodIn_app (goodIn_of _ (by decide +kernel)) ggX6_missesAhead_X6_putAside
set_option maxRecDepth 20000 in
theorem ggX6_missesAhead_X6_best : GoodIn wsX6_missesAhead wsX6_best := goodIn_r _ [15, 16, 17, 18, 19, 20, 6, 21, 1, 22, 23, 24, 25, 26, 27, 28, 29, 30, 31, 32, 33, 34, 35, 36, 37, 38, 39, 40, 41, 42, 43, 44, 45, 46, 47, 48, 49, 50, 51, 52, 53, 54, 55, 56, 57, 58, 59, 60, 81, 82, 83, 84, 85, 86, 87, 88, 89, 90, 91, 92] (by decide +kernel) (by decide +kernel)
set_option maxRecDepth 20000 in
theorem gX6_missesAhead_X6_best : GoodIn wsX6_missesAhead (wsV RX6 155 RX6 yX6_best wsX6_best) := goodIn_app (goodIn_of _ (by decide +kernel)) ggX6_missesAhead_X6_best
set_option maxRecDepth 20000 in
theorem ggX6_missesAhead_X6_guessesOn : GoodIn wsX6_missesAhead wsX6_guessesOn := goodIn_r _ [64, 26, 27, 1, 28, 17, 22, 23, 24, 6, 25, 29, 16, 30, 31, 32, 33, 34, 35, 36, 37, 38, 39, 40, 41, 42, 43, 44, 45, 46, 47, 48, 49, 50, 51, 52, 53, 54, 55, 56, 57, 58, 59, 60, 65, 66, 67, 68, 69, 70, 71, 72, 73, 74, 75, 76, 81, 82, 83, 84, 85, 86, 87, 88, 89, 90, 91, 92] (by decide +kernel) (by decide +kernel)
set_option maxRecDepth 20000 in
theorem gX6_missesAhead_X6_guessesOn : GoodIn wsX6_missesAhead (wsV RX6 142 RX6 yX6_guessesOn wsX6_guessesOn) := goodIn_app (goodIn_of _ (by decide +kernel)) ggX6_missesAhead_X6_guessesOn
set_option maxRecDepth 20000 in
theorem ggX6_missesAhead_X6_putBack : GoodIn wsX6_missesAhead wsX6_putBack := goodIn_r _ [80, 1, 2, 81, 82, 83, 84, 85, 86, 87, 88, 89, 90, 91, 92] (by decide +kernel) (by decide +kernel)
set_option maxRecDepth 20000 in
theorem gX6_missesAhead_X6_putBack : GoodIn wsX6_missesAhead (wsV RX6 89 RX6 yX6_putBack wsX6_putBack) := goodIn_app (goodIn_of _ (by decide +kernel)) ggX6_missesAhead_X6_putBack
theorem dX6_missesAhead_0 : decode cX6_missesAhead 0 = .ok (.aload_n 0, 1) := by decide +kernel
theorem dX6_missesAhead_1 : decode cX6_missesAhead 1 = .ok (.invokevirtual 70, 3) := by decide +kernel
theorem dX6_missesAhead_4 : decode cX6_missesAhead 4 = .ok (.ifCond .ne 6, 3) := by decide +kernel
theorem dX6_missesAhead_7 : decode cX6_missesAhead 7 = .ok (.bipush (-3), 2) := by decide +kernel
theorem dX6_missesAhead_9 : decode cX6_missesAhead 9 = .ok (.ireturn, 1) := by decide +kernel
theorem dX6_missesAhead_10 : decode cX6_missesAhead 10 = .ok (.aload_n 0, 1) := by decide +kernel
theorem dX6_missesAhead_11 : decode cX6_missesAhead 11 = .ok (.invokevirtual 74, 3) := by decide +kernel
theorem dX6_missesAhead_14 : decode cX6_missesAhead 14 = .ok (.aload_n 0, 1) := by decide +kernel
theorem dX6_missesAhead_15 : decode cX6_missesAhead 15 = .ok (.invokevirtual 155, 3) := by decide +kernel
theorem dX6_missesAhead_18 : decode cX6_missesAhead 18 = .ok (.istore_n 1, 1) := by decide +kernel
theorem dX6_missesAhead_19 : decode cX6_missesAhead 19 = .ok (.aload_n 0, 1) := by decide +kernel
theorem dX6_missesAhead_20 : decode cX6_missesAhead 20 = .ok (.invokevirtual 70, 3) := by decide +kernel
theorem dX6_missesAhead_23 : decode cX6_missesAhead 23 = .ok (.ifCond .eq 23, 3) := by decide +kernel
theorem dX6_missesAhead_26 : decode cX6_missesAhead 26 = .ok (.iload_n 1, 1) := by decide +kernel
theorem dX6_missesAhead_27 : decode cX6_missesAhead 27 = .ok (.bipush (-6), 2) := by decide +kernel
theorem dX6_missesAhead_29 : decode cX6_missesAhead 29 = .ok (.if_icmp .eq 17, 3) := by decide +kernel
theorem dX6_missesAhead_32 : decode cX6_missesAhead 32 = .ok (.aload_n 0, 1) := by decide +kernel
theorem dX6_missesAhead_33 : decode cX6_missesAhead 33 = .ok (.iload_n 1, 1) := by decide +kernel
theorem dX6_missesAhead_34 : decode cX6_missesAhead 34 = .ok (.invokevirtual 142, 3) := by decide +kernel
theorem dX6_missesAhead_37 : decode cX6_missesAhead 37 = .ok (.istore_n 2, 1) := by decide +kernel
theorem dX6_missesAhead_38 : decode cX6_missesAhead 38 = .ok (.aload_n 0, 1) := by decide +kernel
theorem dX6_missesAhead_39 : decode cX6_missesAhead 39 = .ok (.invokevirtual 155, 3) := by decide +kernel
theorem dX6_missesAhead_42 : decode cX6_missesAhead 42 = .ok (.istore_n 1, 1) := by decide +kernel
theorem dX6_missesAhead_43 : decode cX6_missesAhead 43 = .ok (.goto (-24), 3) := by decide +kernel
theorem dX6_missesAhead_46 : decode cX6_missesAhead 46 = .ok (.aload_n 0, 1) := by decide +kernel
theorem dX6_missesAhead_47 : decode cX6_missesAhead 47 = .ok (.getfield 7, 3) := by decide +kernel
theorem dX6_missesAhead_50 : decode cX6_missesAhead 50 = .ok (.bipush 13, 2) := by decide +kernel
theorem dX6_missesAhead_52 : decode cX6_missesAhead 52 = .ok (.iaload, 1) := by decide +kernel
theorem dX6_missesAhead_53 : decode cX6_missesAhead 53 = .ok (.aload_n 0, 1) := by decide +kernel
theorem dX6_missesAhead_54 : decode cX6_missesAhead 54 = .ok (.getfield 13, 3) := by decide +kernel
theorem dX6_missesAhead_57 : decode cX6_missesAhead 57 = .ok (.bipush 13, 2) := by decide +kernel
theorem dX6_missesAhead_59 : decode cX6_missesAhead 59 = .ok (.iaload, 1) := by decide +kernel
theorem dX6_missesAhead_60 : decode cX6_missesAhead 60 = .ok (.isub, 1) := by decide +kernel
theorem dX6_missesAhead_61 : decode cX6_missesAhead 61 = .ok (.istore_n 2, 1) := by decide +kernel
theorem dX6_missesAhead_62 : decode cX6_missesAhead 62 = .ok (.aload_n 0, 1) := by decide +kernel
theorem dX6_missesAhead_63 : decode cX6_missesAhead 63 = .ok (.invokevirtual 89, 3) := by decide +kernel
theorem dX6_missesAhead_66 : decode cX6_missesAhead 66 = .ok (.iload_n 2, 1) := by decide +kernel
theorem dX6_missesAhead_67 : decode cX6_missesAhead 67 = .ok (.ireturn, 1) := by decide +kernel
set_option maxRecDepth 20000 in
theorem ggX6_total_X6_in : GoodIn wsX6_total wsX6_in := goodIn_r _ [5] (by decide +kernel) (by decide +kernel)
set_option maxRecDepth 20000 in
theorem gX6_total_X6_in : GoodIn wsX6_total (va_wsS RX6 41 yX6_in wsX6_in) := goodIn_app (goodIn_of _ (by decide +kernel)) ggX6_total_X6_in
theorem dX6_total_0 : decode cX6_total 0 = .ok (.iload_n 1, 1) := by decide +kernel
theorem dX6_total_1 : decode cX6_total 1 = .ok (.iconst 0, 1) := by decide +kernel
theorem dX6_total_2 : decode cX6_total 2 = .ok (.bipush 6, 2) := by decide +kernel
theorem dX6_total_4 : decode cX6_total 4 = .ok (.invokestatic 41, 3) := by decide +kernel
theorem dX6_total_7 : decode cX6_total 7 = .ok (.ifCond .eq 15, 3) := by decide +kernel
theorem dX6_total_10 : decode cX6_total 10 = .ok (.aload_n 0, 1) := by decide +kernel
theorem dX6_total_11 : decode cX6_total 11 = .ok (.getfield 7, 3) := by decide +kernel
theorem dX6_total_14 : decode cX6_total 14 = .ok (.bipush 8, 2) := by decide +kernel
theorem dX6_total_16 : decode cX6_total 16 = .ok (.iload_n 1, 1) := by decide +kernel
theorem dX6_total_17 : decode cX6_total 17 = .ok (.iadd, 1) := by decide +kernel
theorem dX6_total_18 : decode cX6_total 18 = .ok (.iaload, 1) := by decide +kernel
theorem dX6_total_19 : decode cX6_total 19 = .ok (.goto 5, 3) := by decide +kernel
theorem dX6_total_22 : decode cX6_total 22 = .ok (.bipush (-2), 2) := by decide +kernel
theorem dX6_total_24 : decode cX6_total 24 = .ok (.ireturn, 1) := by decide +kernel
theorem dX6_undo_0 : decode cX6_undo 0 = .ok (.aload_n 0, 1) := by decide +kernel
theorem dX6_undo_1 : decode cX6_undo 1 = .ok (.getfield 45, 3) := by decide +kernel
theorem dX6_undo_4 : decode cX6_undo 4 = .ok (.ifCond .ne 6, 3) := by decide +kernel
theorem dX6_undo_7 : decode cX6_undo 7 = .ok (.bipush (-3), 2) := by decide +kernel
theorem dX6_undo_9 : decode cX6_undo 9 = .ok (.ireturn, 1) := by decide +kernel
theorem dX6_undo_10 : decode cX6_undo 10 = .ok (.aload_n 0, 1) := by decide +kernel
theorem dX6_undo_11 : decode cX6_undo 11 = .ok (.dup, 1) := by decide +kernel
theorem dX6_undo_12 : decode cX6_undo 12 = .ok (.getfield 45, 3) := by decide +kernel
theorem dX6_undo_15 : decode cX6_undo 15 = .ok (.iconst 1, 1) := by decide +kernel
theorem dX6_undo_16 : decode cX6_undo 16 = .ok (.isub, 1) := by decide +kernel
theorem dX6_undo_17 : decode cX6_undo 17 = .ok (.putfield 45, 3) := by decide +kernel
theorem dX6_undo_20 : decode cX6_undo 20 = .ok (.iconst 0, 1) := by decide +kernel
theorem dX6_undo_21 : decode cX6_undo 21 = .ok (.istore_n 1, 1) := by decide +kernel
theorem dX6_undo_22 : decode cX6_undo 22 = .ok (.iload_n 1, 1) := by decide +kernel
theorem dX6_undo_23 : decode cX6_undo 23 = .ok (.sipush 319, 3) := by decide +kernel
theorem dX6_undo_26 : decode cX6_undo 26 = .ok (.if_icmp .ge 30, 3) := by decide +kernel
theorem dX6_undo_29 : decode cX6_undo 29 = .ok (.aload_n 0, 1) := by decide +kernel
theorem dX6_undo_30 : decode cX6_undo 30 = .ok (.getfield 7, 3) := by decide +kernel
theorem dX6_undo_33 : decode cX6_undo 33 = .ok (.iload_n 1, 1) := by decide +kernel
theorem dX6_undo_34 : decode cX6_undo 34 = .ok (.aload_n 0, 1) := by decide +kernel
theorem dX6_undo_35 : decode cX6_undo 35 = .ok (.getfield 16, 3) := by decide +kernel
theorem dX6_undo_38 : decode cX6_undo 38 = .ok (.sipush 319, 3) := by decide +kernel
theorem dX6_undo_41 : decode cX6_undo 41 = .ok (.aload_n 0, 1) := by decide +kernel
theorem dX6_undo_42 : decode cX6_undo 42 = .ok (.getfield 45, 3) := by decide +kernel
theorem dX6_undo_45 : decode cX6_undo 45 = .ok (.imul, 1) := by decide +kernel
theorem dX6_undo_46 : decode cX6_undo 46 = .ok (.iload_n 1, 1) := by decide +kernel
theorem dX6_undo_47 : decode cX6_undo 47 = .ok (.iadd, 1) := by decide +kernel
theorem dX6_undo_48 : decode cX6_undo 48 = .ok (.iaload, 1) := by decide +kernel
theorem dX6_undo_49 : decode cX6_undo 49 = .ok (.iastore, 1) := by decide +kernel
theorem dX6_undo_50 : decode cX6_undo 50 = .ok (.iinc 1 1, 3) := by decide +kernel
theorem dX6_undo_53 : decode cX6_undo 53 = .ok (.goto (-31), 3) := by decide +kernel
theorem dX6_undo_56 : decode cX6_undo 56 = .ok (.aload_n 0, 1) := by decide +kernel
theorem dX6_undo_57 : decode cX6_undo 57 = .ok (.getfield 45, 3) := by decide +kernel
theorem dX6_undo_60 : decode cX6_undo 60 = .ok (.ireturn, 1) := by decide +kernel
set_option maxRecDepth 20000 in
theorem ggX6_digest_X6_letter : GoodIn wsX6_digest wsX6_letter := goodIn_r _ [8, 2, 74, 75, 76, 77, 78, 79, 80, 81, 82, 83, 84, 85] (by decide +kernel) (by decide +kernel)
set_option maxRecDepth 20000 in
theorem gX6_digest_X6_letter : GoodIn wsX6_digest (wsV RX6 59 RX6 yX6_letter wsX6_letter) := goodIn_app (goodIn_of _ (by decide +kernel)) ggX6_digest_X6_letter
set_option maxRecDepth 20000 in
theorem ggX6_digest_X6_shown : GoodIn wsX6_digest wsX6_shown := goodIn_r _ [12, 2, 13, 14, 7, 15, 74, 75, 76, 77, 78, 79, 80, 81, 82, 83, 84, 85] (by decide +kernel) (by decide +kernel)
set_option maxRecDepth 20000 in
theorem gX6_digest_X6_shown : GoodIn wsX6_digest (wsV RX6 162 RX6 yX6_shown wsX6_shown) := goodIn_app (goodIn_of _ (by decide +kernel)) ggX6_digest_X6_shown
set_option maxRecDepth 20000 in
theorem ggX6_digest_X6_candidates : GoodIn wsX6_digest wsX6_candidates := goodIn_r _ [19, 2, 20, 21, 7, 22, 74, 75, 76, 77, 78, 79, 80, 81, 82, 83, 84, 85] (by decide +kernel) (by decide +kernel)
set_option maxRecDepth 20000 in
theorem gX6_digest_X6_candidates : GoodIn wsX6_digest (wsV RX6 165 RX6 yX6_candidates wsX6_candidates) := goodIn_app (goodIn_of _ (by decide +kernel)) ggX6_digest_X6_candidates
set_option maxRecDepth 20000 in
theorem ggX6_digest_X6_isCandidate : GoodIn wsX6_digest wsX6_isCandidate := goodIn_r _ [26, 2, 74, 75, 76, 77, 78, 79, 80, 81, 82, 83, 84, 85] (by decide +kernel) (by decide +kernel)
set_option maxRecDepth 20000 in
theorem gX6_digest_X6_isCandidate : GoodIn wsX6_digest (wsV RX6 101 RX6 yX6_isCandidate wsX6_isCandidate) := goodIn_app (goodIn_of _ (by decide +kernel)) ggX6_digest_X6_isCandidate
set_option maxRecDepth 20000 in
theorem ggX6_digest_X6_runs : GoodIn wsX6_digest wsX6_runs := goodIn_r _ [30, 2, 74, 75, 76, 77, 78, 79, 80, 81, 82, 83, 84, 85] (by decide +kernel) (by decide +kernel)
set_option maxRecDepth 20000 in
theorem gX6_digest_X6_runs : GoodIn wsX6_digest (wsV RX6 70 RX6 yX6_runs wsX6_runs) := goodIn_app (goodIn_of _ (by decide +kernel)) ggX6_digest_X6_runs
set_option maxRecDepth 20000 in
theorem ggX6_digest_X6_sure : GoodIn wsX6_digest wsX6_sure := goodIn_r _ [34, 2, 35, 23, 24, 25, 7, 26, 36, 37, 38, 39, 4, 5, 6, 8, 74, 75, 76, 77, 78, 79, 80, 81, 82, 83, 84, 85] (by decide +kernel) (by decide +kernel)
set_option maxRecDepth 20000 in
theorem gX6_digest_X6_sure : GoodIn wsX6_digest (wsV RX6 152 RX6 yX6_sure wsX6_sure) := goodIn_app (goodIn_of _ (by decide +kernel)) ggX6_digest_X6_sure
set_option maxRecDepth 20000 in
theorem ggX6_digest_X6_best : GoodIn wsX6_digest wsX6_best := goodIn_r _ [43, 44, 45, 46, 47, 48, 7, 49, 2, 50, 51, 52, 53, 54, 55, 56, 57, 23, 24, 25, 26, 58, 59, 60, 61, 4, 5, 6, 8, 62, 63, 64, 65, 36, 37, 38, 39, 20, 21, 22, 66, 67, 68, 69, 70, 71, 72, 73, 74, 75, 76, 77, 78, 79, 80, 81, 82, 83, 84, 85] (by decide +kernel) (by decide +kernel)
set_option maxRecDepth 20000 in
theorem gX6_digest_X6_best : GoodIn wsX6_digest (wsV RX6 155 RX6 yX6_best wsX6_best) := goodIn_app (goodIn_of _ (by decide +kernel)) ggX6_digest_X6_best
theorem dX6_digest_0 : decode cX6_digest 0 = .ok (.ldc2_w 158, 3) := by decide +kernel
theorem dX6_digest_3 : decode cX6_digest 3 = .ok (.aload_n 0, 1) := by decide +kernel
theorem dX6_digest_4 : decode cX6_digest 4 = .ok (.getfield 7, 3) := by decide +kernel
theorem dX6_digest_7 : decode cX6_digest 7 = .ok (.iconst 0, 1) := by decide +kernel
theorem dX6_digest_8 : decode cX6_digest 8 = .ok (.iaload, 1) := by decide +kernel
theorem dX6_digest_9 : decode cX6_digest 9 = .ok (.i2l, 1) := by decide +kernel
theorem dX6_digest_10 : decode cX6_digest 10 = .ok (.ladd, 1) := by decide +kernel
theorem dX6_digest_11 : decode cX6_digest 11 = .ok (.lstore_n 1, 1) := by decide +kernel
theorem dX6_digest_12 : decode cX6_digest 12 = .ok (.iconst 0, 1) := by decide +kernel
theorem dX6_digest_13 : decode cX6_digest 13 = .ok (.istore_n 3, 1) := by decide +kernel
theorem dX6_digest_14 : decode cX6_digest 14 = .ok (.iload_n 3, 1) := by decide +kernel
theorem dX6_digest_15 : decode cX6_digest 15 = .ok (.aload_n 0, 1) := by decide +kernel
theorem dX6_digest_16 : decode cX6_digest 16 = .ok (.getfield 7, 3) := by decide +kernel
theorem dX6_digest_19 : decode cX6_digest 19 = .ok (.iconst 0, 1) := by decide +kernel
theorem dX6_digest_20 : decode cX6_digest 20 = .ok (.iaload, 1) := by decide +kernel
theorem dX6_digest_21 : decode cX6_digest 21 = .ok (.if_icmp .ge 64, 3) := by decide +kernel
theorem dX6_digest_24 : decode cX6_digest 24 = .ok (.ldc2_w 160, 3) := by decide +kernel
theorem dX6_digest_27 : decode cX6_digest 27 = .ok (.lload_n 1, 1) := by decide +kernel
theorem dX6_digest_28 : decode cX6_digest 28 = .ok (.lmul, 1) := by decide +kernel
theorem dX6_digest_29 : decode cX6_digest 29 = .ok (.aload_n 0, 1) := by decide +kernel
theorem dX6_digest_30 : decode cX6_digest 30 = .ok (.getfield 7, 3) := by decide +kernel
theorem dX6_digest_33 : decode cX6_digest 33 = .ok (.bipush 49, 2) := by decide +kernel
theorem dX6_digest_35 : decode cX6_digest 35 = .ok (.iload_n 3, 1) := by decide +kernel
theorem dX6_digest_36 : decode cX6_digest 36 = .ok (.iadd, 1) := by decide +kernel
theorem dX6_digest_37 : decode cX6_digest 37 = .ok (.iaload, 1) := by decide +kernel
theorem dX6_digest_38 : decode cX6_digest 38 = .ok (.i2l, 1) := by decide +kernel
theorem dX6_digest_39 : decode cX6_digest 39 = .ok (.ladd, 1) := by decide +kernel
theorem dX6_digest_40 : decode cX6_digest 40 = .ok (.lstore_n 1, 1) := by decide +kernel
theorem dX6_digest_41 : decode cX6_digest 41 = .ok (.iconst 0, 1) := by decide +kernel
theorem dX6_digest_42 : decode cX6_digest 42 = .ok (.istore 4, 2) := by decide +kernel
theorem dX6_digest_44 : decode cX6_digest 44 = .ok (.iload 4, 2) := by decide +kernel
theorem dX6_digest_46 : decode cX6_digest 46 = .ok (.aload_n 0, 1) := by decide +kernel
theorem dX6_digest_47 : decode cX6_digest 47 = .ok (.getfield 7, 3) := by decide +kernel
theorem dX6_digest_50 : decode cX6_digest 50 = .ok (.bipush 49, 2) := by decide +kernel
theorem dX6_digest_52 : decode cX6_digest 52 = .ok (.iload_n 3, 1) := by decide +kernel
theorem dX6_digest_53 : decode cX6_digest 53 = .ok (.iadd, 1) := by decide +kernel
theorem dX6_digest_54 : decode cX6_digest 54 = .ok (.iaload, 1) := by decide +kernel
theorem dX6_digest_55 : decode cX6_digest 55 = .ok (.if_icmp .ge 24, 3) := by decide +kernel
theorem dX6_digest_58 : decode cX6_digest 58 = .ok (.ldc2_w 160, 3) := by decide +kernel
theorem dX6_digest_61 : decode cX6_digest 61 = .ok (.lload_n 1, 1) := by decide +kernel
theorem dX6_digest_62 : decode cX6_digest 62 = .ok (.lmul, 1) := by decide +kernel
theorem dX6_digest_63 : decode cX6_digest 63 = .ok (.aload_n 0, 1) := by decide +kernel
theorem dX6_digest_64 : decode cX6_digest 64 = .ok (.iload_n 3, 1) := by decide +kernel
theorem dX6_digest_65 : decode cX6_digest 65 = .ok (.iload 4, 2) := by decide +kernel
theorem dX6_digest_67 : decode cX6_digest 67 = .ok (.invokevirtual 59, 3) := by decide +kernel
theorem dX6_digest_70 : decode cX6_digest 70 = .ok (.i2l, 1) := by decide +kernel
theorem dX6_digest_71 : decode cX6_digest 71 = .ok (.ladd, 1) := by decide +kernel
theorem dX6_digest_72 : decode cX6_digest 72 = .ok (.lstore_n 1, 1) := by decide +kernel
theorem dX6_digest_73 : decode cX6_digest 73 = .ok (.iinc 4 1, 3) := by decide +kernel
theorem dX6_digest_76 : decode cX6_digest 76 = .ok (.goto (-32), 3) := by decide +kernel
theorem dX6_digest_79 : decode cX6_digest 79 = .ok (.iinc 3 1, 3) := by decide +kernel
theorem dX6_digest_82 : decode cX6_digest 82 = .ok (.goto (-68), 3) := by decide +kernel
theorem dX6_digest_85 : decode cX6_digest 85 = .ok (.ldc2_w 160, 3) := by decide +kernel
theorem dX6_digest_88 : decode cX6_digest 88 = .ok (.lload_n 1, 1) := by decide +kernel
theorem dX6_digest_89 : decode cX6_digest 89 = .ok (.lmul, 1) := by decide +kernel
theorem dX6_digest_90 : decode cX6_digest 90 = .ok (.aload_n 0, 1) := by decide +kernel
theorem dX6_digest_91 : decode cX6_digest 91 = .ok (.getfield 7, 3) := by decide +kernel
theorem dX6_digest_94 : decode cX6_digest 94 = .ok (.iconst 2, 1) := by decide +kernel
theorem dX6_digest_95 : decode cX6_digest 95 = .ok (.iaload, 1) := by decide +kernel
theorem dX6_digest_96 : decode cX6_digest 96 = .ok (.i2l, 1) := by decide +kernel
theorem dX6_digest_97 : decode cX6_digest 97 = .ok (.ladd, 1) := by decide +kernel
theorem dX6_digest_98 : decode cX6_digest 98 = .ok (.lstore_n 1, 1) := by decide +kernel
theorem dX6_digest_99 : decode cX6_digest 99 = .ok (.ldc2_w 160, 3) := by decide +kernel
theorem dX6_digest_102 : decode cX6_digest 102 = .ok (.lload_n 1, 1) := by decide +kernel
theorem dX6_digest_103 : decode cX6_digest 103 = .ok (.lmul, 1) := by decide +kernel
theorem dX6_digest_104 : decode cX6_digest 104 = .ok (.aload_n 0, 1) := by decide +kernel
theorem dX6_digest_105 : decode cX6_digest 105 = .ok (.getfield 7, 3) := by decide +kernel
theorem dX6_digest_108 : decode cX6_digest 108 = .ok (.iconst 4, 1) := by decide +kernel
theorem dX6_digest_109 : decode cX6_digest 109 = .ok (.iaload, 1) := by decide +kernel
theorem dX6_digest_110 : decode cX6_digest 110 = .ok (.i2l, 1) := by decide +kernel
theorem dX6_digest_111 : decode cX6_digest 111 = .ok (.ladd, 1) := by decide +kernel
theorem dX6_digest_112 : decode cX6_digest 112 = .ok (.lstore_n 1, 1) := by decide +kernel
theorem dX6_digest_113 : decode cX6_digest 113 = .ok (.iconst 0, 1) := by decide +kernel
theorem dX6_digest_114 : decode cX6_digest 114 = .ok (.istore_n 3, 1) := by decide +kernel
theorem dX6_digest_115 : decode cX6_digest 115 = .ok (.iload_n 3, 1) := by decide +kernel
theorem dX6_digest_116 : decode cX6_digest 116 = .ok (.aload_n 0, 1) := by decide +kernel
theorem dX6_digest_117 : decode cX6_digest 117 = .ok (.getfield 7, 3) := by decide +kernel
theorem dX6_digest_120 : decode cX6_digest 120 = .ok (.iconst 3, 1) := by decide +kernel
theorem dX6_digest_121 : decode cX6_digest 121 = .ok (.iaload, 1) := by decide +kernel
theorem dX6_digest_122 : decode cX6_digest 122 = .ok (.if_icmp .ge 22, 3) := by decide +kernel
theorem dX6_digest_125 : decode cX6_digest 125 = .ok (.ldc2_w 160, 3) := by decide +kernel
theorem dX6_digest_128 : decode cX6_digest 128 = .ok (.lload_n 1, 1) := by decide +kernel
theorem dX6_digest_129 : decode cX6_digest 129 = .ok (.lmul, 1) := by decide +kernel
theorem dX6_digest_130 : decode cX6_digest 130 = .ok (.aload_n 0, 1) := by decide +kernel
theorem dX6_digest_131 : decode cX6_digest 131 = .ok (.iload_n 3, 1) := by decide +kernel
theorem dX6_digest_132 : decode cX6_digest 132 = .ok (.invokevirtual 162, 3) := by decide +kernel
theorem dX6_digest_135 : decode cX6_digest 135 = .ok (.i2l, 1) := by decide +kernel
theorem dX6_digest_136 : decode cX6_digest 136 = .ok (.ladd, 1) := by decide +kernel
theorem dX6_digest_137 : decode cX6_digest 137 = .ok (.lstore_n 1, 1) := by decide +kernel
theorem dX6_digest_138 : decode cX6_digest 138 = .ok (.iinc 3 1, 3) := by decide +kernel
theorem dX6_digest_141 : decode cX6_digest 141 = .ok (.goto (-26), 3) := by decide +kernel
theorem dX6_digest_144 : decode cX6_digest 144 = .ok (.ldc2_w 160, 3) := by decide +kernel
theorem dX6_digest_147 : decode cX6_digest 147 = .ok (.lload_n 1, 1) := by decide +kernel
theorem dX6_digest_148 : decode cX6_digest 148 = .ok (.lmul, 1) := by decide +kernel
theorem dX6_digest_149 : decode cX6_digest 149 = .ok (.aload_n 0, 1) := by decide +kernel
theorem dX6_digest_150 : decode cX6_digest 150 = .ok (.invokevirtual 165, 3) := by decide +kernel
theorem dX6_digest_153 : decode cX6_digest 153 = .ok (.i2l, 1) := by decide +kernel
theorem dX6_digest_154 : decode cX6_digest 154 = .ok (.ladd, 1) := by decide +kernel
theorem dX6_digest_155 : decode cX6_digest 155 = .ok (.lstore_n 1, 1) := by decide +kernel
theorem dX6_digest_156 : decode cX6_digest 156 = .ok (.iconst 0, 1) := by decide +kernel
theorem dX6_digest_157 : decode cX6_digest 157 = .ok (.istore_n 3, 1) := by decide +kernel
theorem dX6_digest_158 : decode cX6_digest 158 = .ok (.iload_n 3, 1) := by decide +kernel
theorem dX6_digest_159 : decode cX6_digest 159 = .ok (.aload_n 0, 1) := by decide +kernel
theorem dX6_digest_160 : decode cX6_digest 160 = .ok (.getfield 7, 3) := by decide +kernel
theorem dX6_digest_163 : decode cX6_digest 163 = .ok (.iconst 0, 1) := by decide +kernel
theorem dX6_digest_164 : decode cX6_digest 164 = .ok (.iaload, 1) := by decide +kernel
theorem dX6_digest_165 : decode cX6_digest 165 = .ok (.if_icmp .ge 30, 3) := by decide +kernel
theorem dX6_digest_168 : decode cX6_digest 168 = .ok (.aload_n 0, 1) := by decide +kernel
theorem dX6_digest_169 : decode cX6_digest 169 = .ok (.iload_n 3, 1) := by decide +kernel
theorem dX6_digest_170 : decode cX6_digest 170 = .ok (.invokevirtual 101, 3) := by decide +kernel
theorem dX6_digest_173 : decode cX6_digest 173 = .ok (.ifCond .eq 14, 3) := by decide +kernel
theorem dX6_digest_176 : decode cX6_digest 176 = .ok (.ldc2_w 160, 3) := by decide +kernel
theorem dX6_digest_179 : decode cX6_digest 179 = .ok (.lload_n 1, 1) := by decide +kernel
theorem dX6_digest_180 : decode cX6_digest 180 = .ok (.lmul, 1) := by decide +kernel
theorem dX6_digest_181 : decode cX6_digest 181 = .ok (.iload_n 3, 1) := by decide +kernel
theorem dX6_digest_182 : decode cX6_digest 182 = .ok (.i2l, 1) := by decide +kernel
theorem dX6_digest_183 : decode cX6_digest 183 = .ok (.ladd, 1) := by decide +kernel
theorem dX6_digest_184 : decode cX6_digest 184 = .ok (.goto 4, 3) := by decide +kernel
theorem dX6_digest_187 : decode cX6_digest 187 = .ok (.lload_n 1, 1) := by decide +kernel
theorem dX6_digest_188 : decode cX6_digest 188 = .ok (.lstore_n 1, 1) := by decide +kernel
theorem dX6_digest_189 : decode cX6_digest 189 = .ok (.iinc 3 1, 3) := by decide +kernel
theorem dX6_digest_192 : decode cX6_digest 192 = .ok (.goto (-34), 3) := by decide +kernel
theorem dX6_digest_195 : decode cX6_digest 195 = .ok (.ldc2_w 160, 3) := by decide +kernel
theorem dX6_digest_198 : decode cX6_digest 198 = .ok (.lload_n 1, 1) := by decide +kernel
theorem dX6_digest_199 : decode cX6_digest 199 = .ok (.lmul, 1) := by decide +kernel
theorem dX6_digest_200 : decode cX6_digest 200 = .ok (.aload_n 0, 1) := by decide +kernel
theorem dX6_digest_201 : decode cX6_digest 201 = .ok (.getfield 7, 3) := by decide +kernel
theorem dX6_digest_204 : decode cX6_digest 204 = .ok (.bipush 6, 2) := by decide +kernel
theorem dX6_digest_206 : decode cX6_digest 206 = .ok (.iaload, 1) := by decide +kernel
theorem dX6_digest_207 : decode cX6_digest 207 = .ok (.i2l, 1) := by decide +kernel
theorem dX6_digest_208 : decode cX6_digest 208 = .ok (.ladd, 1) := by decide +kernel
theorem dX6_digest_209 : decode cX6_digest 209 = .ok (.lstore_n 1, 1) := by decide +kernel
theorem dX6_digest_210 : decode cX6_digest 210 = .ok (.iconst 0, 1) := by decide +kernel
theorem dX6_digest_211 : decode cX6_digest 211 = .ok (.istore_n 3, 1) := by decide +kernel
theorem dX6_digest_212 : decode cX6_digest 212 = .ok (.iload_n 3, 1) := by decide +kernel
theorem dX6_digest_213 : decode cX6_digest 213 = .ok (.aload_n 0, 1) := by decide +kernel
theorem dX6_digest_214 : decode cX6_digest 214 = .ok (.getfield 7, 3) := by decide +kernel
theorem dX6_digest_217 : decode cX6_digest 217 = .ok (.bipush 6, 2) := by decide +kernel
theorem dX6_digest_219 : decode cX6_digest 219 = .ok (.iaload, 1) := by decide +kernel
theorem dX6_digest_220 : decode cX6_digest 220 = .ok (.if_icmp .ge 26, 3) := by decide +kernel
theorem dX6_digest_223 : decode cX6_digest 223 = .ok (.ldc2_w 160, 3) := by decide +kernel
theorem dX6_digest_226 : decode cX6_digest 226 = .ok (.lload_n 1, 1) := by decide +kernel
theorem dX6_digest_227 : decode cX6_digest 227 = .ok (.lmul, 1) := by decide +kernel
theorem dX6_digest_228 : decode cX6_digest 228 = .ok (.aload_n 0, 1) := by decide +kernel
theorem dX6_digest_229 : decode cX6_digest 229 = .ok (.getfield 7, 3) := by decide +kernel
theorem dX6_digest_232 : decode cX6_digest 232 = .ok (.bipush 15, 2) := by decide +kernel
theorem dX6_digest_234 : decode cX6_digest 234 = .ok (.iload_n 3, 1) := by decide +kernel
theorem dX6_digest_235 : decode cX6_digest 235 = .ok (.iadd, 1) := by decide +kernel
theorem dX6_digest_236 : decode cX6_digest 236 = .ok (.iaload, 1) := by decide +kernel
theorem dX6_digest_237 : decode cX6_digest 237 = .ok (.i2l, 1) := by decide +kernel
theorem dX6_digest_238 : decode cX6_digest 238 = .ok (.ladd, 1) := by decide +kernel
theorem dX6_digest_239 : decode cX6_digest 239 = .ok (.lstore_n 1, 1) := by decide +kernel
theorem dX6_digest_240 : decode cX6_digest 240 = .ok (.iinc 3 1, 3) := by decide +kernel
theorem dX6_digest_243 : decode cX6_digest 243 = .ok (.goto (-31), 3) := by decide +kernel
theorem dX6_digest_246 : decode cX6_digest 246 = .ok (.aload_n 0, 1) := by decide +kernel
theorem dX6_digest_247 : decode cX6_digest 247 = .ok (.invokevirtual 70, 3) := by decide +kernel
theorem dX6_digest_250 : decode cX6_digest 250 = .ok (.ifCond .eq 27, 3) := by decide +kernel
theorem dX6_digest_253 : decode cX6_digest 253 = .ok (.ldc2_w 160, 3) := by decide +kernel
theorem dX6_digest_256 : decode cX6_digest 256 = .ok (.lload_n 1, 1) := by decide +kernel
theorem dX6_digest_257 : decode cX6_digest 257 = .ok (.lmul, 1) := by decide +kernel
theorem dX6_digest_258 : decode cX6_digest 258 = .ok (.aload_n 0, 1) := by decide +kernel
theorem dX6_digest_259 : decode cX6_digest 259 = .ok (.invokevirtual 152, 3) := by decide +kernel
theorem dX6_digest_262 : decode cX6_digest 262 = .ok (.i2l, 1) := by decide +kernel
theorem dX6_digest_263 : decode cX6_digest 263 = .ok (.ladd, 1) := by decide +kernel
theorem dX6_digest_264 : decode cX6_digest 264 = .ok (.lstore_n 1, 1) := by decide +kernel
theorem dX6_digest_265 : decode cX6_digest 265 = .ok (.ldc2_w 160, 3) := by decide +kernel
theorem dX6_digest_268 : decode cX6_digest 268 = .ok (.lload_n 1, 1) := by decide +kernel
theorem dX6_digest_269 : decode cX6_digest 269 = .ok (.lmul, 1) := by decide +kernel
theorem dX6_digest_270 : decode cX6_digest 270 = .ok (.aload_n 0, 1) := by decide +kernel
theorem dX6_digest_271 : decode cX6_digest 271 = .ok (.invokevirtual 155, 3) := by decide +kernel
theorem dX6_digest_274 : decode cX6_digest 274 = .ok (.i2l, 1) := by decide +kernel
theorem dX6_digest_275 : decode cX6_digest 275 = .ok (.ladd, 1) := by decide +kernel
theorem dX6_digest_276 : decode cX6_digest 276 = .ok (.lstore_n 1, 1) := by decide +kernel
theorem dX6_digest_277 : decode cX6_digest 277 = .ok (.iconst 0, 1) := by decide +kernel
theorem dX6_digest_278 : decode cX6_digest 278 = .ok (.istore_n 3, 1) := by decide +kernel
theorem dX6_digest_279 : decode cX6_digest 279 = .ok (.iload_n 3, 1) := by decide +kernel
theorem dX6_digest_280 : decode cX6_digest 280 = .ok (.bipush 6, 2) := by decide +kernel
theorem dX6_digest_282 : decode cX6_digest 282 = .ok (.if_icmp .gt 26, 3) := by decide +kernel
theorem dX6_digest_285 : decode cX6_digest 285 = .ok (.ldc2_w 160, 3) := by decide +kernel
theorem dX6_digest_288 : decode cX6_digest 288 = .ok (.lload_n 1, 1) := by decide +kernel
theorem dX6_digest_289 : decode cX6_digest 289 = .ok (.lmul, 1) := by decide +kernel
theorem dX6_digest_290 : decode cX6_digest 290 = .ok (.aload_n 0, 1) := by decide +kernel
theorem dX6_digest_291 : decode cX6_digest 291 = .ok (.getfield 7, 3) := by decide +kernel
theorem dX6_digest_294 : decode cX6_digest 294 = .ok (.bipush 8, 2) := by decide +kernel
theorem dX6_digest_296 : decode cX6_digest 296 = .ok (.iload_n 3, 1) := by decide +kernel
theorem dX6_digest_297 : decode cX6_digest 297 = .ok (.iadd, 1) := by decide +kernel
theorem dX6_digest_298 : decode cX6_digest 298 = .ok (.iaload, 1) := by decide +kernel
theorem dX6_digest_299 : decode cX6_digest 299 = .ok (.i2l, 1) := by decide +kernel
theorem dX6_digest_300 : decode cX6_digest 300 = .ok (.ladd, 1) := by decide +kernel
theorem dX6_digest_301 : decode cX6_digest 301 = .ok (.lstore_n 1, 1) := by decide +kernel
theorem dX6_digest_302 : decode cX6_digest 302 = .ok (.iinc 3 1, 3) := by decide +kernel
theorem dX6_digest_305 : decode cX6_digest 305 = .ok (.goto (-26), 3) := by decide +kernel
theorem dX6_digest_308 : decode cX6_digest 308 = .ok (.lload_n 1, 1) := by decide +kernel
theorem dX6_digest_309 : decode cX6_digest 309 = .ok (.lreturn, 1) := by decide +kernel
theorem dJ6_bitCount_0f7a4_0 : decode cJ6_bitCount_0f7a4 0 = .ok (.iload_n 0, 1) := by decide +kernel
theorem dJ6_bitCount_0f7a4_1 : decode cJ6_bitCount_0f7a4 1 = .ok (.iload_n 0, 1) := by decide +kernel
theorem dJ6_bitCount_0f7a4_2 : decode cJ6_bitCount_0f7a4 2 = .ok (.iconst 1, 1) := by decide +kernel
theorem dJ6_bitCount_0f7a4_3 : decode cJ6_bitCount_0f7a4 3 = .ok (.iushr, 1) := by decide +kernel
theorem dJ6_bitCount_0f7a4_4 : decode cJ6_bitCount_0f7a4 4 = .ok (.ldc_w 265, 3) := by decide +kernel
theorem dJ6_bitCount_0f7a4_7 : decode cJ6_bitCount_0f7a4 7 = .ok (.iand, 1) := by decide +kernel
theorem dJ6_bitCount_0f7a4_8 : decode cJ6_bitCount_0f7a4 8 = .ok (.isub, 1) := by decide +kernel
theorem dJ6_bitCount_0f7a4_9 : decode cJ6_bitCount_0f7a4 9 = .ok (.istore_n 0, 1) := by decide +kernel
theorem dJ6_bitCount_0f7a4_10 : decode cJ6_bitCount_0f7a4 10 = .ok (.iload_n 0, 1) := by decide +kernel
theorem dJ6_bitCount_0f7a4_11 : decode cJ6_bitCount_0f7a4 11 = .ok (.ldc_w 266, 3) := by decide +kernel
theorem dJ6_bitCount_0f7a4_14 : decode cJ6_bitCount_0f7a4 14 = .ok (.iand, 1) := by decide +kernel
theorem dJ6_bitCount_0f7a4_15 : decode cJ6_bitCount_0f7a4 15 = .ok (.iload_n 0, 1) := by decide +kernel
theorem dJ6_bitCount_0f7a4_16 : decode cJ6_bitCount_0f7a4 16 = .ok (.iconst 2, 1) := by decide +kernel
theorem dJ6_bitCount_0f7a4_17 : decode cJ6_bitCount_0f7a4 17 = .ok (.iushr, 1) := by decide +kernel
theorem dJ6_bitCount_0f7a4_18 : decode cJ6_bitCount_0f7a4 18 = .ok (.ldc_w 266, 3) := by decide +kernel
theorem dJ6_bitCount_0f7a4_21 : decode cJ6_bitCount_0f7a4 21 = .ok (.iand, 1) := by decide +kernel
theorem dJ6_bitCount_0f7a4_22 : decode cJ6_bitCount_0f7a4 22 = .ok (.iadd, 1) := by decide +kernel
theorem dJ6_bitCount_0f7a4_23 : decode cJ6_bitCount_0f7a4 23 = .ok (.istore_n 0, 1) := by decide +kernel
theorem dJ6_bitCount_0f7a4_24 : decode cJ6_bitCount_0f7a4 24 = .ok (.iload_n 0, 1) := by decide +kernel
theorem dJ6_bitCount_0f7a4_25 : decode cJ6_bitCount_0f7a4 25 = .ok (.iload_n 0, 1) := by decide +kernel
theorem dJ6_bitCount_0f7a4_26 : decode cJ6_bitCount_0f7a4 26 = .ok (.iconst 4, 1) := by decide +kernel
theorem dJ6_bitCount_0f7a4_27 : decode cJ6_bitCount_0f7a4 27 = .ok (.iushr, 1) := by decide +kernel
theorem dJ6_bitCount_0f7a4_28 : decode cJ6_bitCount_0f7a4 28 = .ok (.iadd, 1) := by decide +kernel
theorem dJ6_bitCount_0f7a4_29 : decode cJ6_bitCount_0f7a4 29 = .ok (.ldc_w 267, 3) := by decide +kernel
theorem dJ6_bitCount_0f7a4_32 : decode cJ6_bitCount_0f7a4 32 = .ok (.iand, 1) := by decide +kernel
theorem dJ6_bitCount_0f7a4_33 : decode cJ6_bitCount_0f7a4 33 = .ok (.istore_n 0, 1) := by decide +kernel
theorem dJ6_bitCount_0f7a4_34 : decode cJ6_bitCount_0f7a4 34 = .ok (.iload_n 0, 1) := by decide +kernel
theorem dJ6_bitCount_0f7a4_35 : decode cJ6_bitCount_0f7a4 35 = .ok (.iload_n 0, 1) := by decide +kernel
theorem dJ6_bitCount_0f7a4_36 : decode cJ6_bitCount_0f7a4 36 = .ok (.bipush 8, 2) := by decide +kernel
theorem dJ6_bitCount_0f7a4_38 : decode cJ6_bitCount_0f7a4 38 = .ok (.iushr, 1) := by decide +kernel
theorem dJ6_bitCount_0f7a4_39 : decode cJ6_bitCount_0f7a4 39 = .ok (.iadd, 1) := by decide +kernel
theorem dJ6_bitCount_0f7a4_40 : decode cJ6_bitCount_0f7a4 40 = .ok (.istore_n 0, 1) := by decide +kernel
theorem dJ6_bitCount_0f7a4_41 : decode cJ6_bitCount_0f7a4 41 = .ok (.iload_n 0, 1) := by decide +kernel
theorem dJ6_bitCount_0f7a4_42 : decode cJ6_bitCount_0f7a4 42 = .ok (.iload_n 0, 1) := by decide +kernel
theorem dJ6_bitCount_0f7a4_43 : decode cJ6_bitCount_0f7a4 43 = .ok (.bipush 16, 2) := by decide +kernel
theorem dJ6_bitCount_0f7a4_45 : decode cJ6_bitCount_0f7a4 45 = .ok (.iushr, 1) := by decide +kernel
theorem dJ6_bitCount_0f7a4_46 : decode cJ6_bitCount_0f7a4 46 = .ok (.iadd, 1) := by decide +kernel
theorem dJ6_bitCount_0f7a4_47 : decode cJ6_bitCount_0f7a4 47 = .ok (.istore_n 0, 1) := by decide +kernel
theorem dJ6_bitCount_0f7a4_48 : decode cJ6_bitCount_0f7a4 48 = .ok (.iload_n 0, 1) := by decide +kernel
theorem dJ6_bitCount_0f7a4_49 : decode cJ6_bitCount_0f7a4 49 = .ok (.bipush 63, 2) := by decide +kernel
theorem dJ6_bitCount_0f7a4_51 : decode cJ6_bitCount_0f7a4 51 = .ok (.iand, 1) := by decide +kernel
theorem dJ6_bitCount_0f7a4_52 : decode cJ6_bitCount_0f7a4 52 = .ok (.ireturn, 1) := by decide +kernel
theorem dJ9_min_7cf53_0 : decode cJ9_min_7cf53 0 = .ok (.iload_n 0, 1) := by decide +kernel
theorem dJ9_min_7cf53_1 : decode cJ9_min_7cf53 1 = .ok (.iload_n 1, 1) := by decide +kernel
theorem dJ9_min_7cf53_2 : decode cJ9_min_7cf53 2 = .ok (.if_icmp .gt 7, 3) := by decide +kernel
theorem dJ9_min_7cf53_5 : decode cJ9_min_7cf53 5 = .ok (.iload_n 0, 1) := by decide +kernel
theorem dJ9_min_7cf53_6 : decode cJ9_min_7cf53 6 = .ok (.goto 4, 3) := by decide +kernel
theorem dJ9_min_7cf53_9 : decode cJ9_min_7cf53 9 = .ok (.iload_n 1, 1) := by decide +kernel
theorem dJ9_min_7cf53_10 : decode cJ9_min_7cf53 10 = .ok (.ireturn, 1) := by decide +kernel
set_option maxRecDepth 20000 in
theorem ggL_law_X5_init : GoodIn wsL_law wsX5_init := goodIn_r _ [8, 9, 10, 11, 12, 13, 14, 15, 16, 17, 18, 19, 20, 21, 22, 23, 24, 25, 26, 27, 28, 29, 30, 31, 32, 33, 34, 35, 36, 37, 38, 39, 40, 41, 42, 43, 44, 45, 46, 47, 48, 49, 50, 51, 52, 53, 744, 745, 746, 727, 728, 729, 730, 731, 747, 748, 749, 750, 751, 752, 753, 754, 755, 756, 757, 758, 759, 760, 761, 762, 763, 764, 765, 766] (by decide +kernel) (by decide +kernel)
set_option maxRecDepth 20000 in
theorem gL_law_X5_init : GoodIn wsL_law (wsX5_init) := ggL_law_X5_init
set_option maxRecDepth 20000 in
theorem ggL_law_X6_init : GoodIn wsL_law wsX6_init := goodIn_r _ [56, 57, 10, 11, 40, 58, 59, 60, 61, 62, 63, 64, 65, 66, 67, 732, 733, 734, 735, 736, 737, 738, 739, 740, 741, 742, 743] (by decide +kernel) (by decide +kernel)
set_option maxRecDepth 20000 in
theorem gL_law_X6_init : GoodIn wsL_law (wsX6_init) := ggL_law_X6_init
set_option maxRecDepth 20000 in
theorem ggL_law_X5_type : GoodIn wsL_law wsX5_type := goodIn_r _ [71, 15, 72, 73, 74, 14, 75, 76, 33, 727, 728, 729, 730, 731, 744, 745, 746] (by decide +kernel) (by decide +kernel)
set_option maxRecDepth 20000 in
theorem gL_law_X5_type : GoodIn wsL_law (wsV RL 13 RX5 yX5_type wsX5_type) := goodIn_app (goodIn_of _ (by decide +kernel)) ggL_law_X5_type
set_option maxRecDepth 20000 in
theorem ggL_law_X6_type : GoodIn wsL_law wsX6_type := goodIn_r _ [80, 81, 61, 82, 83, 5, 84, 732, 733, 734, 735, 736, 737, 738, 739, 740, 741, 742, 743] (by decide +kernel) (by decide +kernel)
set_option maxRecDepth 20000 in
theorem gL_law_X6_type : GoodIn wsL_law (wsV RL 17 RX6 yX6_type wsX6_type) := goodIn_app (goodIn_of _ (by decide +kernel)) ggL_law_X6_type
set_option maxRecDepth 20000 in
theorem ggL_law_X5_clearText : GoodIn wsL_law wsX5_clearText := goodIn_r _ [88, 15, 89, 90, 91, 14, 92, 76, 727, 728, 729, 730, 731, 744, 745, 746] (by decide +kernel) (by decide +kernel)
set_option maxRecDepth 20000 in
theorem gL_law_X5_clearText : GoodIn wsL_law (wsV RL 18 RX5 yX5_clearText wsX5_clearText) := goodIn_app (goodIn_of _ (by decide +kernel)) ggL_law_X5_clearText
set_option maxRecDepth 20000 in
theorem ggL_law_X6_clearText : GoodIn wsL_law wsX6_clearText := goodIn_r _ [96, 81, 732, 733, 734, 735, 736, 737, 738, 739, 740, 741, 742, 743] (by decide +kernel) (by decide +kernel)
set_option maxRecDepth 20000 in
theorem gL_law_X6_clearText : GoodIn wsL_law (wsV RL 22 RX6 yX6_clearText wsX6_clearText) := goodIn_app (goodIn_of _ (by decide +kernel)) ggL_law_X6_clearText
set_option maxRecDepth 20000 in
theorem ggL_law_X5_syntaxError : GoodIn wsL_law wsX5_syntaxError := goodIn_r _ [100, 15, 101, 102, 103, 14, 104, 76, 105, 106, 107, 108, 33, 109, 2, 110, 727, 728, 729, 730, 731, 744, 745, 746] (by decide +kernel) (by decide +kernel)
set_option maxRecDepth 20000 in
theorem gL_law_X5_syntaxError : GoodIn wsL_law (wsV RL 23 RX5 yX5_syntaxError wsX5_syntaxError) := goodIn_app (goodIn_of _ (by decide +kernel)) ggL_law_X5_syntaxError
set_option maxRecDepth 20000 in
theorem ggL_law_X6_syntaxError : GoodIn wsL_law wsX6_syntaxError := goodIn_r _ [114, 115, 116, 117, 5, 118, 81, 61, 119, 120, 121, 82, 83, 84, 732, 733, 734, 735, 736, 737, 738, 739, 740, 741, 742, 743] (by decide +kernel) (by decide +kernel)
set_option maxRecDepth 20000 in
theorem gL_law_X6_syntaxError : GoodIn wsL_law (wsV RL 26 RX6 yX6_syntaxError wsX6_syntaxError) := goodIn_app (goodIn_of _ (by decide +kernel)) ggL_law_X6_syntaxError
set_option maxRecDepth 20000 in
theorem ggL_law_X5_addWords : GoodIn wsL_law wsX5_addWords := goodIn_r _ [125, 15, 19, 24, 23, 101, 102, 103, 14, 104, 76, 105, 106, 107, 108, 33, 109, 2, 110, 126, 127, 128, 18, 129, 130, 131, 132, 133, 134, 39, 135, 136, 137, 138, 41, 42, 139, 140, 141, 142, 143, 144, 145, 146, 147, 148, 149, 150, 151, 152, 153, 154, 155, 156, 157, 158, 35, 159, 160, 161, 162, 163, 164, 165, 166, 167, 168, 169, 170, 171, 172, 173, 174, 175, 176, 177, 178, 179, 180, 181, 182, 183, 184, 185, 186, 187, 188, 189, 190, 191, 192, 22, 193, 194, 47, 46, 17, 195, 196, 197, 198, 199, 36, 37, 38, 10, 11, 34, 40, 200, 201, 202, 203, 204, 89, 90, 91, 92, 727, 728, 729, 730, 731, 747, 748, 749, 750, 751, 752, 753, 754, 755, 756, 757, 758, 744, 745, 746, 759, 760, 761] (by decide +kernel) (by decide +kernel)
set_option maxRecDepth 20000 in
theorem gL_law_X5_addWords : GoodIn wsL_law (wsV RL 27 RX5 yX5_addWords wsX5_addWords) := goodIn_app (goodIn_of _ (by decide +kernel)) ggL_law_X5_addWords
set_option maxRecDepth 20000 in
theorem ggL_law_X6_addWords : GoodIn wsL_law wsX6_addWords := goodIn_r _ [208, 81, 58, 115, 116, 117, 5, 118, 61, 119, 120, 121, 82, 83, 84, 209, 210, 211, 212, 213, 214, 215, 216, 59, 217, 218, 219, 220, 221, 222, 223, 224, 225, 226, 227, 228, 229, 230, 231, 232, 233, 234, 235, 236, 237, 238, 239, 240, 241, 242, 243, 244, 245, 246, 247, 248, 249, 250, 251, 252, 253, 60, 254, 255, 256, 257, 732, 733, 734, 735, 736, 737, 738, 739, 740, 741, 742, 743] (by decide +kernel) (by decide +kernel)
set_option maxRecDepth 20000 in
theorem gL_law_X6_addWords : GoodIn wsL_law (wsV RL 30 RX6 yX6_addWords wsX6_addWords) := goodIn_app (goodIn_of _ (by decide +kernel)) ggL_law_X6_addWords
set_option maxRecDepth 20000 in
theorem ggL_law_X5_removeWord : GoodIn wsL_law wsX5_removeWord := goodIn_r _ [261, 19, 23, 262, 183, 184, 18, 185, 139, 126, 127, 128, 129, 130, 190, 191, 192, 22, 193, 194, 47, 46, 17, 195, 196, 197, 198, 199, 36, 37, 38, 10, 11, 34, 39, 40, 41, 42, 200, 132, 133, 134, 135, 136, 137, 138, 140, 141, 142, 143, 144, 145, 146, 263, 264, 265, 266, 182, 201, 202, 203, 204, 727, 728, 729, 730, 731, 747, 748, 749, 750, 751, 752, 753, 754, 755, 756, 757, 758, 759, 760, 761] (by decide +kernel) (by decide +kernel)
set_option maxRecDepth 20000 in
theorem gL_law_X5_removeWord : GoodIn wsL_law (wsV RL 31 RX5 yX5_removeWord wsX5_removeWord) := goodIn_app (goodIn_of _ (by decide +kernel)) ggL_law_X5_removeWord
set_option maxRecDepth 20000 in
theorem ggL_law_X6_removeWord : GoodIn wsL_law wsX6_removeWord := goodIn_r _ [270, 58, 82, 83, 5, 84, 209, 210, 211, 212, 249, 250, 251, 252, 253, 60, 254, 255, 256, 257, 233, 234, 235, 236, 732, 733, 734, 735, 736, 737, 738, 739, 740, 741, 742, 743] (by decide +kernel) (by decide +kernel)
set_option maxRecDepth 20000 in
theorem gL_law_X6_removeWord : GoodIn wsL_law (wsV RL 34 RX6 yX6_removeWord wsX6_removeWord) := goodIn_app (goodIn_of _ (by decide +kernel)) ggL_law_X6_removeWord
set_option maxRecDepth 20000 in
theorem ggL_law_X5_words : GoodIn wsL_law wsX5_words := goodIn_r _ [274, 19, 727, 728, 729, 730, 731, 747, 748, 749, 750, 751, 752, 753, 754, 755, 756, 757, 758] (by decide +kernel) (by decide +kernel)
set_option maxRecDepth 20000 in
theorem gL_law_X5_words : GoodIn wsL_law (wsV RL 35 RX5 yX5_words wsX5_words) := goodIn_app (goodIn_of _ (by decide +kernel)) ggL_law_X5_words
set_option maxRecDepth 20000 in
theorem ggL_law_X6_words : GoodIn wsL_law wsX6_words := goodIn_r _ [278, 58, 732, 733, 734, 735, 736, 737, 738, 739, 740, 741, 742, 743] (by decide +kernel) (by decide +kernel)
set_option maxRecDepth 20000 in
theorem gL_law_X6_words : GoodIn wsL_law (wsV RL 38 RX6 yX6_words wsX6_words) := goodIn_app (goodIn_of _ (by decide +kernel)) ggL_law_X6_words
set_option maxRecDepth 20000 in
theorem ggL_law_X5_letterOf : GoodIn wsL_law wsX5_letterOf := goodIn_r _ [282, 19, 283, 179, 180, 18, 181, 39, 182, 183, 184, 185, 139, 284, 285, 161, 286, 163, 164, 165, 727, 728, 729, 730, 731, 747, 748, 749, 750, 751, 752, 753, 754, 755, 756, 757, 758] (by decide +kernel) (by decide +kernel)
set_option maxRecDepth 20000 in
theorem gL_law_X5_letterOf : GoodIn wsL_law (wsV RL 39 RX5 yX5_letterOf wsX5_letterOf) := goodIn_app (goodIn_of _ (by decide +kernel)) ggL_law_X5_letterOf
set_option maxRecDepth 20000 in
theorem ggL_law_X6_letterOf : GoodIn wsL_law wsX6_letterOf := goodIn_r _ [290, 58, 82, 83, 5, 84, 233, 234, 235, 236, 732, 733, 734, 735, 736, 737, 738, 739, 740, 741, 742, 743] (by decide +kernel) (by decide +kernel)
set_option maxRecDepth 20000 in
theorem gL_law_X6_letterOf : GoodIn wsL_law (wsV RL 43 RX6 yX6_letterOf wsX6_letterOf) := goodIn_app (goodIn_of _ (by decide +kernel)) ggL_law_X6_letterOf
set_option maxRecDepth 20000 in
theorem ggL_law_X5_setPolicy : GoodIn wsL_law wsX5_setPolicy := goodIn_r _ [294, 19, 23, 190, 191, 192, 22, 193, 194, 47, 46, 17, 18, 195, 196, 197, 198, 199, 36, 37, 38, 10, 11, 34, 39, 40, 41, 42, 200, 132, 133, 134, 135, 136, 137, 138, 139, 140, 130, 141, 142, 143, 144, 145, 146, 727, 728, 729, 730, 731, 747, 748, 749, 750, 751, 752, 753, 754, 755, 756, 757, 758, 759, 760, 761] (by decide +kernel) (by decide +kernel)
set_option maxRecDepth 20000 in
theorem gL_law_X5_setPolicy : GoodIn wsL_law (wsV RL 44 RX5 yX5_setPolicy wsX5_setPolicy) := goodIn_app (goodIn_of _ (by decide +kernel)) ggL_law_X5_setPolicy
set_option maxRecDepth 20000 in
theorem ggL_law_X6_setPolicy : GoodIn wsL_law wsX6_setPolicy := goodIn_r _ [298, 58, 82, 83, 5, 84, 249, 250, 251, 252, 253, 60, 732, 733, 734, 735, 736, 737, 738, 739, 740, 741, 742, 743] (by decide +kernel) (by decide +kernel)
set_option maxRecDepth 20000 in
theorem gL_law_X6_setPolicy : GoodIn wsL_law (wsV RL 47 RX6 yX6_setPolicy wsX6_setPolicy) := goodIn_app (goodIn_of _ (by decide +kernel)) ggL_law_X6_setPolicy
set_option maxRecDepth 20000 in
theorem ggL_law_X5_start : GoodIn wsL_law wsX5_start := goodIn_r _ [302, 19, 23, 303, 304, 305, 18, 306, 139, 178, 179, 180, 181, 39, 182, 183, 184, 185, 307, 308, 161, 309, 310, 285, 286, 163, 164, 165, 190, 191, 192, 22, 193, 194, 47, 46, 17, 195, 196, 197, 198, 199, 36, 37, 38, 10, 11, 34, 40, 41, 42, 200, 132, 133, 134, 135, 136, 137, 138, 140, 130, 141, 142, 143, 144, 145, 146, 311, 312, 313, 314, 315, 202, 203, 204, 316, 317, 318, 319, 320, 321, 322, 323, 324, 325, 326, 727, 728, 729, 730, 731, 747, 748, 749, 750, 751, 752, 753, 754, 755, 756, 757, 758, 759, 760, 761] (by decide +kernel) (by decide +kernel)
set_option maxRecDepth 20000 in
theorem gL_law_X5_start : GoodIn wsL_law (wsV RL 48 RX5 yX5_start wsX5_start) := goodIn_app (goodIn_of _ (by decide +kernel)) ggL_law_X5_start
set_option maxRecDepth 20000 in
theorem ggL_law_X6_start : GoodIn wsL_law wsX6_start := goodIn_r _ [330, 58, 82, 83, 5, 84, 331, 332, 333, 334, 249, 250, 251, 252, 253, 60, 254, 255, 256, 257, 335, 336, 337, 732, 733, 734, 735, 736, 737, 738, 739, 740, 741, 742, 743] (by decide +kernel) (by decide +kernel)
set_option maxRecDepth 20000 in
theorem gL_law_X6_start : GoodIn wsL_law (wsV RL 51 RX6 yX6_start wsX6_start) := goodIn_app (goodIn_of _ (by decide +kernel)) ggL_law_X6_start
set_option maxRecDepth 20000 in
theorem ggL_law_X5_guess : GoodIn wsL_law wsX5_guess := goodIn_r _ [341, 19, 23, 342, 109, 2, 110, 126, 127, 128, 18, 129, 130, 343, 344, 345, 346, 144, 347, 348, 190, 191, 192, 22, 193, 194, 47, 46, 17, 195, 196, 197, 198, 199, 36, 37, 38, 10, 11, 34, 39, 40, 41, 42, 200, 132, 133, 134, 135, 136, 137, 138, 139, 140, 141, 142, 143, 145, 146, 349, 350, 351, 352, 28, 353, 354, 355, 27, 356, 357, 358, 359, 360, 361, 362, 182, 183, 184, 185, 363, 179, 180, 181, 364, 365, 161, 366, 310, 285, 286, 163, 164, 165, 367, 368, 369, 370, 371, 372, 373, 51, 52, 53, 374, 375, 376, 377, 378, 379, 380, 381, 382, 383, 384, 385, 386, 387, 388, 389, 390, 391, 392, 393, 394, 395, 396, 397, 398, 321, 322, 323, 324, 325, 326, 399, 400, 401, 402, 403, 404, 405, 406, 407, 408, 409, 410, 411, 412, 413, 414, 415, 416, 316, 317, 318, 319, 417, 418, 419, 420, 421, 422, 423, 424, 425, 160, 162, 307, 308, 309, 426, 427, 428, 429, 320, 727, 728, 729, 730, 731, 747, 748, 749, 750, 751, 752, 753, 754, 755, 756, 757, 758, 759, 760, 761, 762, 763, 764, 765, 766] (by decide +kernel) (by decide +kernel)
set_option maxRecDepth 20000 in
theorem gL_law_X5_guess : GoodIn wsL_law (wsV RL 52 RX5 yX5_guess wsX5_guess) := goodIn_app (goodIn_of _ (by decide +kernel)) ggL_law_X5_guess
set_option maxRecDepth 20000 in
theorem ggL_law_X6_guess : GoodIn wsL_law wsX6_guess := goodIn_r _ [433, 119, 120, 5, 121, 82, 83, 84, 209, 210, 211, 212, 58, 434, 435, 436, 437, 249, 250, 251, 252, 253, 60, 438, 439, 440, 441, 67, 62, 63, 65, 442, 443, 444, 445, 66, 64, 446, 447, 448, 449, 450, 451, 452, 453, 233, 234, 235, 236, 454, 455, 456, 457, 458, 459, 460, 461, 335, 336, 337, 462, 463, 464, 465, 466, 467, 468, 469, 470, 471, 472, 473, 474, 475, 476, 477, 478, 479, 480, 481, 732, 733, 734, 735, 736, 737, 738, 739, 740, 741, 742, 743] (by decide +kernel) (by decide +kernel)
set_option maxRecDepth 20000 in
theorem gL_law_X6_guess : GoodIn wsL_law (wsV RL 55 RX6 yX6_guess wsX6_guess) := goodIn_app (goodIn_of _ (by decide +kernel)) ggL_law_X6_guess
set_option maxRecDepth 20000 in
theorem ggL_law_X5_guessWord : GoodIn wsL_law wsX5_guessWord := goodIn_r _ [485, 15, 19, 23, 101, 102, 103, 14, 104, 76, 105, 106, 107, 108, 33, 109, 2, 110, 151, 152, 153, 154, 155, 156, 157, 158, 35, 159, 160, 161, 162, 163, 164, 165, 166, 167, 168, 169, 126, 127, 128, 18, 129, 130, 486, 308, 309, 310, 285, 286, 190, 191, 192, 22, 193, 194, 47, 46, 17, 195, 196, 197, 198, 199, 36, 37, 38, 10, 11, 34, 39, 40, 41, 42, 200, 132, 133, 134, 135, 136, 137, 138, 139, 140, 141, 142, 143, 144, 145, 146, 487, 488, 489, 490, 316, 317, 318, 319, 174, 175, 176, 177, 178, 179, 180, 181, 182, 183, 184, 185, 491, 360, 361, 362, 426, 427, 428, 429, 417, 418, 419, 420, 421, 422, 423, 424, 89, 90, 91, 92, 727, 728, 729, 730, 731, 747, 748, 749, 750, 751, 752, 753, 754, 755, 756, 757, 758, 744, 745, 746, 759, 760, 761] (by decide +kernel) (by decide +kernel)
set_option maxRecDepth 20000 in
theorem gL_law_X5_guessWord : GoodIn wsL_law (wsV RL 56 RX5 yX5_guessWord wsX5_guessWord) := goodIn_app (goodIn_of _ (by decide +kernel)) ggL_law_X5_guessWord
set_option maxRecDepth 20000 in
theorem ggL_law_X6_guessWord : GoodIn wsL_law wsX6_guessWord := goodIn_r _ [495, 81, 58, 61, 115, 116, 117, 5, 118, 119, 120, 121, 82, 83, 84, 217, 218, 219, 220, 209, 210, 211, 212, 249, 250, 251, 252, 253, 60, 225, 226, 227, 228, 229, 230, 231, 232, 233, 234, 235, 236, 221, 222, 223, 224, 446, 447, 448, 449, 335, 336, 337, 474, 475, 476, 477, 470, 471, 472, 473, 732, 733, 734, 735, 736, 737, 738, 739, 740, 741, 742, 743] (by decide +kernel) (by decide +kernel)
set_option maxRecDepth 20000 in
theorem gL_law_X6_guessWord : GoodIn wsL_law (wsV RL 59 RX6 yX6_guessWord wsX6_guessWord) := goodIn_app (goodIn_of _ (by decide +kernel)) ggL_law_X6_guessWord
set_option maxRecDepth 20000 in
theorem ggL_law_X5_giveUp : GoodIn wsL_law wsX5_giveUp := goodIn_r _ [499, 19, 23, 126, 127, 128, 18, 129, 130, 190, 191, 192, 22, 193, 194, 47, 46, 17, 195, 196, 197, 198, 199, 36, 37, 38, 10, 11, 34, 39, 40, 41, 42, 200, 132, 133, 134, 135, 136, 137, 138, 139, 140, 141, 142, 143, 144, 145, 146, 500, 422, 423, 424, 316, 317, 318, 319, 501, 502, 2, 503, 727, 728, 729, 730, 731, 747, 748, 749, 750, 751, 752, 753, 754, 755, 756, 757, 758, 759, 760, 761] (by decide +kernel) (by decide +kernel)
set_option maxRecDepth 20000 in
theorem gL_law_X5_giveUp : GoodIn wsL_law (wsV RL 60 RX5 yX5_giveUp wsX5_giveUp) := goodIn_app (goodIn_of _ (by decide +kernel)) ggL_law_X5_giveUp
set_option maxRecDepth 20000 in
theorem ggL_law_X6_giveUp : GoodIn wsL_law wsX6_giveUp := goodIn_r _ [507, 58, 209, 210, 211, 5, 212, 249, 250, 251, 252, 253, 60, 474, 475, 476, 477, 508, 509, 510, 732, 733, 734, 735, 736, 737, 738, 739, 740, 741, 742, 743] (by decide +kernel) (by decide +kernel)
set_option maxRecDepth 20000 in
theorem gL_law_X6_giveUp : GoodIn wsL_law (wsV RL 63 RX6 yX6_giveUp wsX6_giveUp) := goodIn_app (goodIn_of _ (by decide +kernel)) ggL_law_X6_giveUp
set_option maxRecDepth 20000 in
theorem ggL_law_X5_status : GoodIn wsL_law wsX5_status := goodIn_r _ [514, 19, 727, 728, 729, 730, 731, 747, 748, 749, 750, 751, 752, 753, 754, 755, 756, 757, 758] (by decide +kernel) (by decide +kernel)
set_option maxRecDepth 20000 in
theorem gL_law_X5_status : GoodIn wsL_law (wsV RL 64 RX5 yX5_status wsX5_status) := goodIn_app (goodIn_of _ (by decide +kernel)) ggL_law_X5_status
set_option maxRecDepth 20000 in
theorem ggL_law_X6_status : GoodIn wsL_law wsX6_status := goodIn_r _ [518, 58, 732, 733, 734, 735, 736, 737, 738, 739, 740, 741, 742, 743] (by decide +kernel) (by decide +kernel)
set_option maxRecDepth 20000 in
theorem gL_law_X6_status : GoodIn wsL_law (wsV RL 67 RX6 yX6_status wsX6_status) := goodIn_app (goodIn_of _ (by decide +kernel)) ggL_law_X6_status
set_option maxRecDepth 20000 in
theorem ggL_law_X5_lives : GoodIn wsL_law wsX5_lives := goodIn_r _ [522, 19, 727, 728, 729, 730, 731, 747, 748, 749, 750, 751, 752, 753, 754, 755, 756, 757, 758] (by decide +kernel) (by decide +kernel)
set_option maxRecDepth 20000 in
theorem gL_law_X5_lives : GoodIn wsL_law (wsV RL 68 RX5 yX5_lives wsX5_lives) := goodIn_app (goodIn_of _ (by decide +kernel)) ggL_law_X5_lives
set_option maxRecDepth 20000 in
theorem ggL_law_X6_lives : GoodIn wsL_law wsX6_lives := goodIn_r _ [526, 58, 732, 733, 734, 735, 736, 737, 738, 739, 740, 741, 742, 743] (by decide +kernel) (by decide +kernel)
set_option maxRecDepth 20000 in
theorem gL_law_X6_lives : GoodIn wsL_law (wsV RL 71 RX6 yX6_lives wsX6_lives) := goodIn_app (goodIn_of _ (by decide +kernel)) ggL_law_X6_lives
set_option maxRecDepth 20000 in
theorem ggL_law_X5_shown : GoodIn wsL_law wsX5_shown := goodIn_r _ [530, 19, 284, 285, 161, 286, 163, 164, 165, 727, 728, 729, 730, 731, 747, 748, 749, 750, 751, 752, 753, 754, 755, 756, 757, 758] (by decide +kernel) (by decide +kernel)
set_option maxRecDepth 20000 in
theorem gL_law_X5_shown : GoodIn wsL_law (wsV RL 72 RX5 yX5_shown wsX5_shown) := goodIn_app (goodIn_of _ (by decide +kernel)) ggL_law_X5_shown
set_option maxRecDepth 20000 in
theorem ggL_law_X6_shown : GoodIn wsL_law wsX6_shown := goodIn_r _ [534, 58, 82, 83, 5, 84, 732, 733, 734, 735, 736, 737, 738, 739, 740, 741, 742, 743] (by decide +kernel) (by decide +kernel)
set_option maxRecDepth 20000 in
theorem gL_law_X6_shown : GoodIn wsL_law (wsV RL 75 RX6 yX6_shown wsX6_shown) := goodIn_app (goodIn_of _ (by decide +kernel)) ggL_law_X6_shown
set_option maxRecDepth 20000 in
theorem ggL_law_X5_candidates : GoodIn wsL_law wsX5_candidates := goodIn_r _ [538, 19, 320, 321, 322, 323, 324, 325, 326, 727, 728, 729, 730, 731, 747, 748, 749, 750, 751, 752, 753, 754, 755, 756, 757, 758] (by decide +kernel) (by decide +kernel)
set_option maxRecDepth 20000 in
theorem gL_law_X5_candidates : GoodIn wsL_law (wsV RL 76 RX5 yX5_candidates wsX5_candidates) := goodIn_app (goodIn_of _ (by decide +kernel)) ggL_law_X5_candidates
set_option maxRecDepth 20000 in
theorem ggL_law_X6_candidates : GoodIn wsL_law wsX6_candidates := goodIn_r _ [542, 58, 335, 336, 5, 337, 732, 733, 734, 735, 736, 737, 738, 739, 740, 741, 742, 743] (by decide +kernel) (by decide +kernel)
set_option maxRecDepth 20000 in
theorem gL_law_X6_candidates : GoodIn wsL_law (wsV RL 79 RX6 yX6_candidates wsX6_candidates) := goodIn_app (goodIn_of _ (by decide +kernel)) ggL_law_X6_candidates
set_option maxRecDepth 20000 in
theorem ggL_law_X5_candidate : GoodIn wsL_law wsX5_candidate := goodIn_r _ [546, 19, 501, 502, 2, 503, 727, 728, 729, 730, 731, 747, 748, 749, 750, 751, 752, 753, 754, 755, 756, 757, 758] (by decide +kernel) (by decide +kernel)
set_option maxRecDepth 20000 in
theorem gL_law_X5_candidate : GoodIn wsL_law (wsV RL 80 RX5 yX5_candidate wsX5_candidate) := goodIn_app (goodIn_of _ (by decide +kernel)) ggL_law_X5_candidate
set_option maxRecDepth 20000 in
theorem ggL_law_X6_candidate : GoodIn wsL_law wsX6_candidate := goodIn_r _ [550, 58, 446, 447, 448, 5, 449, 732, 733, 734, 735, 736, 737, 738, 739, 740, 741, 742, 743] (by decide +kernel) (by decide +kernel)
set_option maxRecDepth 20000 in
theorem gL_law_X6_candidate : GoodIn wsL_law (wsV RL 83 RX6 yX6_candidate wsX6_candidate) := goodIn_app (goodIn_of _ (by decide +kernel)) ggL_law_X6_candidate
set_option maxRecDepth 20000 in
theorem ggL_law_X5_guesses : GoodIn wsL_law wsX5_guesses := goodIn_r _ [554, 19, 727, 728, 729, 730, 731, 747, 748, 749, 750, 751, 752, 753, 754, 755, 756, 757, 758] (by decide +kernel) (by decide +kernel)
set_option maxRecDepth 20000 in
theorem gL_law_X5_guesses : GoodIn wsL_law (wsV RL 84 RX5 yX5_guesses wsX5_guesses) := goodIn_app (goodIn_of _ (by decide +kernel)) ggL_law_X5_guesses
set_option maxRecDepth 20000 in
theorem ggL_law_X6_guesses : GoodIn wsL_law wsX6_guesses := goodIn_r _ [558, 58, 732, 733, 734, 735, 736, 737, 738, 739, 740, 741, 742, 743] (by decide +kernel) (by decide +kernel)
set_option maxRecDepth 20000 in
theorem gL_law_X6_guesses : GoodIn wsL_law (wsV RL 87 RX6 yX6_guesses wsX6_guesses) := goodIn_app (goodIn_of _ (by decide +kernel)) ggL_law_X6_guesses
set_option maxRecDepth 20000 in
theorem ggL_law_X5_guessAt : GoodIn wsL_law wsX5_guessAt := goodIn_r _ [562, 19, 563, 564, 565, 18, 566, 145, 41, 727, 728, 729, 730, 731, 747, 748, 749, 750, 751, 752, 753, 754, 755, 756, 757, 758] (by decide +kernel) (by decide +kernel)
set_option maxRecDepth 20000 in
theorem gL_law_X5_guessAt : GoodIn wsL_law (wsV RL 88 RX5 yX5_guessAt wsX5_guessAt) := goodIn_app (goodIn_of _ (by decide +kernel)) ggL_law_X5_guessAt
set_option maxRecDepth 20000 in
theorem ggL_law_X6_guessAt : GoodIn wsL_law wsX6_guessAt := goodIn_r _ [570, 58, 82, 83, 5, 84, 732, 733, 734, 735, 736, 737, 738, 739, 740, 741, 742, 743] (by decide +kernel) (by decide +kernel)
set_option maxRecDepth 20000 in
theorem gL_law_X6_guessAt : GoodIn wsL_law (wsV RL 91 RX6 yX6_guessAt wsX6_guessAt) := goodIn_app (goodIn_of _ (by decide +kernel)) ggL_law_X6_guessAt
set_option maxRecDepth 20000 in
theorem ggL_law_X5_families : GoodIn wsL_law wsX5_families := goodIn_r _ [574, 28, 19, 575, 576, 577, 2, 578, 342, 109, 110, 126, 127, 128, 18, 129, 130, 343, 344, 345, 346, 144, 347, 348, 353, 354, 355, 27, 356, 357, 358, 359, 360, 361, 362, 143, 182, 183, 184, 185, 139, 363, 179, 180, 181, 39, 364, 365, 161, 366, 310, 285, 286, 163, 164, 165, 367, 368, 369, 370, 371, 372, 373, 51, 52, 53, 374, 375, 376, 377, 378, 379, 380, 381, 727, 728, 729, 730, 731, 762, 763, 764, 765, 766, 747, 748, 749, 750, 751, 752, 753, 754, 755, 756, 757, 758] (by decide +kernel) (by decide +kernel)
set_option maxRecDepth 20000 in
theorem gL_law_X5_families : GoodIn wsL_law (wsV RL 92 RX5 yX5_families wsX5_families) := goodIn_app (goodIn_of _ (by decide +kernel)) ggL_law_X5_families
set_option maxRecDepth 20000 in
theorem ggL_law_X6_families : GoodIn wsL_law wsX6_families := goodIn_r _ [582, 67, 583, 584, 585, 5, 586, 119, 120, 121, 82, 83, 84, 209, 210, 211, 212, 58, 434, 435, 436, 437, 442, 443, 444, 445, 62, 63, 66, 64, 65, 446, 447, 448, 449, 450, 451, 452, 453, 233, 234, 235, 236, 454, 455, 456, 457, 458, 459, 460, 461, 335, 336, 337, 732, 733, 734, 735, 736, 737, 738, 739, 740, 741, 742, 743] (by decide +kernel) (by decide +kernel)
set_option maxRecDepth 20000 in
theorem gL_law_X6_families : GoodIn wsL_law (wsV RL 95 RX6 yX6_families wsX6_families) := goodIn_app (goodIn_of _ (by decide +kernel)) ggL_law_X6_families
set_option maxRecDepth 20000 in
theorem ggL_law_X5_family : GoodIn wsL_law wsX5_family := goodIn_r _ [590, 28, 19, 575, 576, 577, 2, 578, 342, 109, 110, 126, 127, 128, 18, 129, 130, 343, 344, 345, 346, 144, 347, 348, 353, 354, 355, 27, 356, 357, 358, 359, 360, 361, 362, 143, 182, 183, 184, 185, 139, 363, 179, 180, 181, 39, 364, 365, 161, 366, 310, 285, 286, 163, 164, 165, 367, 368, 369, 370, 371, 372, 373, 51, 52, 53, 374, 375, 376, 377, 378, 379, 380, 381, 382, 383, 384, 385, 386, 387, 388, 389, 390, 391, 392, 393, 394, 395, 396, 397, 398, 321, 322, 323, 324, 325, 326, 399, 400, 401, 402, 403, 404, 405, 406, 591, 592, 407, 408, 501, 502, 503, 593, 727, 728, 729, 730, 731, 747, 748, 749, 750, 751, 752, 753, 754, 755, 756, 757, 758, 762, 763, 764, 765, 766] (by decide +kernel) (by decide +kernel)
set_option maxRecDepth 20000 in
theorem gL_law_X5_family : GoodIn wsL_law (wsV RL 96 RX5 yX5_family wsX5_family) := goodIn_app (goodIn_of _ (by decide +kernel)) ggL_law_X5_family
set_option maxRecDepth 20000 in
theorem ggL_law_X6_family : GoodIn wsL_law wsX6_family := goodIn_r _ [597, 67, 64, 62, 63, 66, 583, 584, 585, 5, 586, 119, 120, 121, 82, 83, 84, 209, 210, 211, 212, 58, 434, 435, 436, 437, 442, 443, 444, 445, 65, 446, 447, 448, 449, 450, 451, 452, 453, 233, 234, 235, 236, 454, 455, 456, 457, 458, 459, 460, 461, 335, 336, 337, 462, 463, 464, 465, 466, 467, 468, 469, 508, 509, 510, 732, 733, 734, 735, 736, 737, 738, 739, 740, 741, 742, 743] (by decide +kernel) (by decide +kernel)
set_option maxRecDepth 20000 in
theorem gL_law_X6_family : GoodIn wsL_law (wsV RL 100 RX6 yX6_family wsX6_family) := goodIn_app (goodIn_of _ (by decide +kernel)) ggL_law_X6_family
set_option maxRecDepth 20000 in
theorem ggL_law_X5_spread : GoodIn wsL_law wsX5_spread := goodIn_r _ [601, 28, 19, 575, 576, 577, 2, 578, 342, 109, 110, 126, 127, 128, 18, 129, 130, 343, 344, 345, 346, 144, 347, 348, 353, 354, 355, 27, 356, 357, 358, 359, 360, 361, 362, 143, 182, 183, 184, 185, 139, 363, 179, 180, 181, 39, 364, 365, 161, 366, 310, 285, 286, 163, 164, 165, 367, 368, 369, 370, 371, 372, 373, 51, 52, 53, 374, 375, 376, 377, 378, 379, 380, 381, 602, 536, 537, 538, 320, 321, 322, 323, 324, 325, 326, 603, 604, 605, 606, 399, 400, 401, 402, 403, 404, 405, 406, 398, 727, 728, 729, 730, 731, 747, 748, 749, 750, 751, 752, 753, 754, 755, 756, 757, 758, 762, 763, 764, 765, 766] (by decide +kernel) (by decide +kernel)
set_option maxRecDepth 20000 in
theorem gL_law_X5_spread : GoodIn wsL_law (wsV RL 101 RX5 yX5_spread wsX5_spread) := goodIn_app (goodIn_of _ (by decide +kernel)) ggL_law_X5_spread
set_option maxRecDepth 20000 in
theorem ggL_law_X6_spread : GoodIn wsL_law wsX6_spread := goodIn_r _ [610, 67, 64, 58, 583, 584, 585, 5, 586, 119, 120, 121, 82, 83, 84, 209, 210, 211, 212, 434, 435, 436, 437, 442, 443, 444, 445, 62, 63, 66, 65, 446, 447, 448, 449, 450, 451, 452, 453, 233, 234, 235, 236, 454, 455, 456, 457, 458, 459, 460, 461, 335, 336, 337, 732, 733, 734, 735, 736, 737, 738, 739, 740, 741, 742, 743] (by decide +kernel) (by decide +kernel)
set_option maxRecDepth 20000 in
theorem gL_law_X6_spread : GoodIn wsL_law (wsV RL 104 RX6 yX6_spread wsX6_spread) := goodIn_app (goodIn_of _ (by decide +kernel)) ggL_law_X6_spread
set_option maxRecDepth 20000 in
theorem ggL_law_X5_having : GoodIn wsL_law wsX5_having := goodIn_r _ [614, 19, 342, 109, 2, 110, 615, 616, 617, 18, 618, 139, 491, 360, 361, 362, 143, 182, 183, 184, 185, 178, 179, 180, 181, 39, 619, 365, 161, 366, 310, 285, 286, 163, 164, 165, 727, 728, 729, 730, 731, 747, 748, 749, 750, 751, 752, 753, 754, 755, 756, 757, 758] (by decide +kernel) (by decide +kernel)
set_option maxRecDepth 20000 in
theorem gL_law_X5_having : GoodIn wsL_law (wsV RL 105 RX5 yX5_having wsX5_having) := goodIn_app (goodIn_of _ (by decide +kernel)) ggL_law_X5_having
set_option maxRecDepth 20000 in
theorem ggL_law_X6_having : GoodIn wsL_law wsX6_having := goodIn_r _ [623, 58, 119, 120, 5, 121, 82, 83, 84, 446, 447, 448, 449, 450, 451, 452, 453, 233, 234, 235, 236, 732, 733, 734, 735, 736, 737, 738, 739, 740, 741, 742, 743] (by decide +kernel) (by decide +kernel)
set_option maxRecDepth 20000 in
theorem gL_law_X6_having : GoodIn wsL_law (wsV RL 108 RX6 yX6_having wsX6_having) := goodIn_app (goodIn_of _ (by decide +kernel)) ggL_law_X6_having
set_option maxRecDepth 20000 in
theorem ggL_law_X5_sureLetters : GoodIn wsL_law wsX5_sureLetters := goodIn_r _ [627, 19, 126, 127, 128, 18, 129, 130, 628, 629, 630, 631, 632, 139, 491, 360, 361, 362, 143, 182, 183, 184, 185, 178, 179, 180, 181, 39, 633, 368, 161, 369, 310, 285, 286, 163, 164, 165, 347, 2, 348, 342, 109, 110, 727, 728, 729, 730, 731, 747, 748, 749, 750, 751, 752, 753, 754, 755, 756, 757, 758] (by decide +kernel) (by decide +kernel)
set_option maxRecDepth 20000 in
theorem gL_law_X5_sureLetters : GoodIn wsL_law (wsV RL 109 RX5 yX5_sureLetters wsX5_sureLetters) := goodIn_app (goodIn_of _ (by decide +kernel)) ggL_law_X5_sureLetters
set_option maxRecDepth 20000 in
theorem ggL_law_X6_sureLetters : GoodIn wsL_law wsX6_sureLetters := goodIn_r _ [637, 209, 210, 211, 5, 212, 58, 638, 639, 640, 641, 642, 446, 447, 448, 449, 458, 459, 460, 461, 233, 234, 235, 236, 732, 733, 734, 735, 736, 737, 738, 739, 740, 741, 742, 743] (by decide +kernel) (by decide +kernel)
set_option maxRecDepth 20000 in
theorem gL_law_X6_sureLetters : GoodIn wsL_law (wsV RL 112 RX6 yX6_sureLetters wsX6_sureLetters) := goodIn_app (goodIn_of _ (by decide +kernel)) ggL_law_X6_sureLetters
set_option maxRecDepth 20000 in
theorem ggL_law_X5_bestGuess : GoodIn wsL_law wsX5_bestGuess := goodIn_r _ [646, 19, 126, 127, 128, 18, 129, 130, 647, 648, 649, 2, 650, 28, 343, 344, 345, 346, 144, 347, 348, 342, 109, 110, 353, 354, 355, 27, 356, 357, 358, 359, 360, 361, 362, 143, 182, 183, 184, 185, 139, 363, 179, 180, 181, 39, 364, 365, 161, 366, 310, 285, 286, 163, 164, 165, 367, 368, 369, 370, 371, 372, 373, 51, 52, 53, 374, 375, 376, 377, 378, 379, 380, 381, 382, 383, 384, 385, 386, 387, 388, 389, 390, 391, 392, 393, 394, 395, 396, 397, 398, 321, 322, 323, 324, 325, 326, 399, 400, 401, 402, 403, 404, 405, 406, 592, 407, 320, 727, 728, 729, 730, 731, 747, 748, 749, 750, 751, 752, 753, 754, 755, 756, 757, 758, 762, 763, 764, 765, 766] (by decide +kernel) (by decide +kernel)
set_option maxRecDepth 20000 in
theorem gL_law_X5_bestGuess : GoodIn wsL_law (wsV RL 113 RX5 yX5_bestGuess wsX5_bestGuess) := goodIn_app (goodIn_of _ (by decide +kernel)) ggL_law_X5_bestGuess
set_option maxRecDepth 20000 in
theorem ggL_law_X6_bestGuess : GoodIn wsL_law wsX6_bestGuess := goodIn_r _ [654, 209, 210, 211, 5, 212, 58, 655, 656, 657, 658, 64, 65, 434, 435, 436, 437, 442, 443, 444, 445, 67, 62, 63, 66, 446, 447, 448, 449, 450, 451, 452, 453, 233, 234, 235, 236, 454, 455, 456, 457, 458, 459, 460, 461, 335, 336, 337, 462, 463, 464, 465, 466, 467, 468, 469, 732, 733, 734, 735, 736, 737, 738, 739, 740, 741, 742, 743] (by decide +kernel) (by decide +kernel)
set_option maxRecDepth 20000 in
theorem gL_law_X6_bestGuess : GoodIn wsL_law (wsV RL 116 RX6 yX6_bestGuess wsX6_bestGuess) := goodIn_app (goodIn_of _ (by decide +kernel)) ggL_law_X6_bestGuess
set_option maxRecDepth 20000 in
theorem ggL_law_X5_missesAhead : GoodIn wsL_law wsX5_missesAhead := goodIn_r _ [662, 19, 24, 126, 127, 128, 18, 129, 130, 131, 132, 133, 134, 39, 135, 136, 137, 138, 41, 42, 139, 140, 141, 142, 143, 144, 145, 146, 647, 648, 649, 2, 650, 28, 343, 344, 345, 346, 347, 348, 342, 109, 110, 353, 354, 355, 27, 356, 357, 358, 359, 360, 361, 362, 182, 183, 184, 185, 363, 179, 180, 181, 364, 365, 161, 366, 310, 285, 286, 163, 164, 165, 367, 368, 369, 370, 371, 372, 373, 51, 52, 53, 374, 375, 376, 377, 378, 379, 380, 381, 382, 383, 384, 385, 386, 387, 388, 389, 390, 391, 392, 393, 394, 395, 396, 397, 398, 321, 322, 323, 324, 325, 326, 399, 400, 401, 402, 403, 404, 405, 406, 592, 407, 320, 349, 350, 351, 352, 408, 409, 410, 411, 412, 413, 414, 415, 416, 316, 317, 318, 319, 417, 418, 419, 420, 421, 422, 423, 424, 425, 160, 162, 307, 308, 309, 426, 427, 428, 429, 663, 664, 665, 666, 727, 728, 729, 730, 731, 747, 748, 749, 750, 751, 752, 753, 754, 755, 756, 757, 758, 762, 763, 764, 765, 766] (by decide +kernel) (by decide +kernel)
set_option maxRecDepth 20000 in
theorem gL_law_X5_missesAhead : GoodIn wsL_law (wsV RL 117 RX5 yX5_missesAhead wsX5_missesAhead) := goodIn_app (goodIn_of _ (by decide +kernel)) ggL_law_X5_missesAhead
set_option maxRecDepth 20000 in
theorem ggL_law_X6_missesAhead : GoodIn wsL_law wsX6_missesAhead := goodIn_r _ [670, 58, 59, 209, 210, 211, 5, 212, 213, 214, 215, 216, 655, 656, 657, 658, 64, 65, 434, 435, 436, 437, 442, 443, 444, 445, 67, 62, 63, 66, 446, 447, 448, 449, 450, 451, 452, 453, 233, 234, 235, 236, 454, 455, 456, 457, 458, 459, 460, 461, 335, 336, 337, 462, 463, 464, 465, 466, 467, 468, 469, 438, 439, 440, 441, 470, 471, 472, 473, 474, 475, 476, 477, 478, 479, 480, 481, 241, 242, 243, 244, 732, 733, 734, 735, 736, 737, 738, 739, 740, 741, 742, 743] (by decide +kernel) (by decide +kernel)
set_option maxRecDepth 20000 in
theorem gL_law_X6_missesAhead : GoodIn wsL_law (wsV RL 120 RX6 yX6_missesAhead wsX6_missesAhead) := goodIn_app (goodIn_of _ (by decide +kernel)) ggL_law_X6_missesAhead
set_option maxRecDepth 20000 in
theorem ggL_law_X5_total : GoodIn wsL_law wsX5_total := goodIn_r _ [674, 19, 663, 664, 665, 18, 666, 42, 727, 728, 729, 730, 731, 747, 748, 749, 750, 751, 752, 753, 754, 755, 756, 757, 758] (by decide +kernel) (by decide +kernel)
set_option maxRecDepth 20000 in
theorem gL_law_X5_total : GoodIn wsL_law (wsV RL 121 RX5 yX5_total wsX5_total) := goodIn_app (goodIn_of _ (by decide +kernel)) ggL_law_X5_total
set_option maxRecDepth 20000 in
theorem ggL_law_X6_total : GoodIn wsL_law wsX6_total := goodIn_r _ [678, 58, 82, 83, 5, 84, 732, 733, 734, 735, 736, 737, 738, 739, 740, 741, 742, 743] (by decide +kernel) (by decide +kernel)
set_option maxRecDepth 20000 in
theorem gL_law_X6_total : GoodIn wsL_law (wsV RL 124 RX6 yX6_total wsX6_total) := goodIn_app (goodIn_of _ (by decide +kernel)) ggL_law_X6_total
set_option maxRecDepth 20000 in
theorem ggL_law_X5_undo : GoodIn wsL_law wsX5_undo := goodIn_r _ [682, 23, 19, 683, 684, 685, 22, 686, 194, 195, 47, 200, 132, 133, 18, 134, 39, 135, 136, 137, 138, 41, 42, 139, 140, 130, 141, 142, 143, 144, 145, 146, 727, 728, 729, 730, 731, 759, 760, 761, 747, 748, 749, 750, 751, 752, 753, 754, 755, 756, 757, 758] (by decide +kernel) (by decide +kernel)
set_option maxRecDepth 20000 in
theorem gL_law_X5_undo : GoodIn wsL_law (wsV RL 125 RX5 yX5_undo wsX5_undo) := goodIn_app (goodIn_of _ (by decide +kernel)) ggL_law_X5_undo
set_option maxRecDepth 20000 in
theorem ggL_law_X6_undo : GoodIn wsL_law wsX6_undo := goodIn_r _ [690, 253, 58, 60, 732, 733, 734, 735, 736, 737, 738, 739, 740, 741, 742, 743] (by decide +kernel) (by decide +kernel)
set_option maxRecDepth 20000 in
theorem gL_law_X6_undo : GoodIn wsL_law (wsV RL 128 RX6 yX6_undo wsX6_undo) := goodIn_app (goodIn_of _ (by decide +kernel)) ggL_law_X6_undo
set_option maxRecDepth 20000 in
theorem ggL_law_X5_digest : GoodIn wsL_law wsX5_digest := goodIn_r _ [694, 695, 696, 697, 698, 2, 699, 19, 700, 272, 273, 274, 701, 702, 703, 704, 283, 179, 180, 18, 181, 39, 182, 183, 184, 185, 139, 486, 308, 161, 309, 310, 285, 286, 163, 164, 165, 705, 280, 281, 282, 284, 706, 707, 708, 709, 710, 512, 513, 514, 711, 520, 521, 522, 712, 528, 529, 530, 602, 536, 537, 538, 320, 321, 322, 323, 324, 325, 326, 713, 544, 545, 546, 501, 502, 503, 714, 552, 553, 554, 715, 560, 561, 562, 563, 564, 565, 566, 145, 41, 126, 127, 128, 129, 130, 716, 625, 626, 627, 628, 629, 630, 631, 632, 491, 360, 361, 362, 143, 178, 633, 368, 369, 347, 348, 342, 109, 110, 717, 644, 645, 646, 647, 648, 649, 650, 28, 343, 344, 345, 346, 144, 353, 354, 355, 27, 356, 357, 358, 359, 363, 364, 365, 366, 367, 370, 371, 372, 373, 51, 52, 53, 374, 375, 376, 377, 378, 379, 380, 381, 382, 383, 384, 385, 386, 387, 388, 389, 390, 391, 392, 393, 394, 395, 396, 397, 398, 399, 400, 401, 402, 403, 404, 405, 406, 592, 407, 718, 672, 673, 674, 663, 664, 665, 666, 42, 727, 728, 729, 730, 731, 747, 748, 749, 750, 751, 752, 753, 754, 755, 756, 757, 758, 762, 763, 764, 765, 766] (by decide +kernel) (by decide +kernel)
set_option maxRecDepth 20000 in
theorem gL_law_X5_digest : GoodIn wsL_law (wsV RL 129 RX5 yX5_digest wsX5_digest) := goodIn_app (goodIn_of _ (by decide +kernel)) ggL_law_X5_digest
set_option maxRecDepth 20000 in
theorem ggL_law_X6_digest : GoodIn wsL_law wsX6_digest := goodIn_r _ [722, 723, 58, 724, 233, 234, 235, 5, 236, 725, 532, 533, 534, 82, 83, 84, 726, 540, 541, 542, 335, 336, 337, 446, 447, 448, 449, 209, 210, 211, 212, 638, 639, 640, 641, 642, 458, 459, 460, 461, 655, 656, 657, 658, 64, 65, 434, 435, 436, 437, 442, 443, 444, 445, 67, 62, 63, 66, 450, 451, 452, 453, 454, 455, 456, 457, 462, 463, 464, 465, 466, 467, 468, 469, 732, 733, 734, 735, 736, 737, 738, 739, 740, 741, 742, 743] (by decide +kernel) (by decide +kernel)
set_option maxRecDepth 20000 in
theorem gL_law_X6_digest : GoodIn wsL_law (wsV RL 133 RX6 yX6_digest wsX6_digest) := goodIn_app (goodIn_of _ (by decide +kernel)) ggL_law_X6_digest
theorem dL_law_0 : decode cL_law 0 = .ok (.new 7, 3) := by decide +kernel
theorem dL_law_3 : decode cL_law 3 = .ok (.dup, 1) := by decide +kernel
theorem dL_law_4 : decode cL_law 4 = .ok (.invokespecial 9, 3) := by decide +kernel
theorem dL_law_7 : decode cL_law 7 = .ok (.astore_n 1, 1) := by decide +kernel
theorem dL_law_8 : decode cL_law 8 = .ok (.new 10, 3) := by decide +kernel
theorem dL_law_11 : decode cL_law 11 = .ok (.dup, 1) := by decide +kernel
theorem dL_law_12 : decode cL_law 12 = .ok (.invokespecial 12, 3) := by decide +kernel
theorem dL_law_15 : decode cL_law 15 = .ok (.astore_n 2, 1) := by decide +kernel
theorem dL_law_16 : decode cL_law 16 = .ok (.iconst 0, 1) := by decide +kernel
theorem dL_law_17 : decode cL_law 17 = .ok (.istore_n 3, 1) := by decide +kernel
theorem dL_law_18 : decode cL_law 18 = .ok (.iload_n 3, 1) := by decide +kernel
theorem dL_law_19 : decode cL_law 19 = .ok (.aload_n 0, 1) := by decide +kernel
theorem dL_law_20 : decode cL_law 20 = .ok (.arraylength, 1) := by decide +kernel
theorem dL_law_21 : decode cL_law 21 = .ok (.iconst 4, 1) := by decide +kernel
theorem dL_law_22 : decode cL_law 22 = .ok (.isub, 1) := by decide +kernel
theorem dL_law_23 : decode cL_law 23 = .ok (.if_icmp .gt 705, 3) := by decide +kernel
theorem dL_law_26 : decode cL_law 26 = .ok (.aload_n 0, 1) := by decide +kernel
theorem dL_law_27 : decode cL_law 27 = .ok (.iload_n 3, 1) := by decide +kernel
theorem dL_law_28 : decode cL_law 28 = .ok (.iaload, 1) := by decide +kernel
theorem dL_law_29 : decode cL_law 29 = .ok (.bipush 31, 2) := by decide +kernel
theorem dL_law_31 : decode cL_law 31 = .ok (.iand, 1) := by decide +kernel
theorem dL_law_32 : decode cL_law 32 = .ok (.tableswitch 690 0 28 #[132, 155, 168, 181, 194, 217, 230, 263, 286, 319, 342, 355, 368, 381, 394, 417, 430, 453, 466, 489, 512, 555, 578, 601, 614, 627, 640, 663, 676], 132) := by decide +kernel
theorem dL_law_164 : decode cL_law 164 = .ok (.aload_n 1, 1) := by decide +kernel
theorem dL_law_165 : decode cL_law 165 = .ok (.aload_n 0, 1) := by decide +kernel
theorem dL_law_166 : decode cL_law 166 = .ok (.iload_n 3, 1) := by decide +kernel
theorem dL_law_167 : decode cL_law 167 = .ok (.iconst 1, 1) := by decide +kernel
theorem dL_law_168 : decode cL_law 168 = .ok (.iadd, 1) := by decide +kernel
theorem dL_law_169 : decode cL_law 169 = .ok (.iaload, 1) := by decide +kernel
theorem dL_law_170 : decode cL_law 170 = .ok (.invokevirtual 13, 3) := by decide +kernel
theorem dL_law_173 : decode cL_law 173 = .ok (.aload_n 2, 1) := by decide +kernel
theorem dL_law_174 : decode cL_law 174 = .ok (.aload_n 0, 1) := by decide +kernel
theorem dL_law_175 : decode cL_law 175 = .ok (.iload_n 3, 1) := by decide +kernel
theorem dL_law_176 : decode cL_law 176 = .ok (.iconst 1, 1) := by decide +kernel
theorem dL_law_177 : decode cL_law 177 = .ok (.iadd, 1) := by decide +kernel
theorem dL_law_178 : decode cL_law 178 = .ok (.iaload, 1) := by decide +kernel
theorem dL_law_179 : decode cL_law 179 = .ok (.invokevirtual 17, 3) := by decide +kernel
theorem dL_law_182 : decode cL_law 182 = .ok (.if_icmp .eq 540, 3) := by decide +kernel
theorem dL_law_185 : decode cL_law 185 = .ok (.iconst 0, 1) := by decide +kernel
theorem dL_law_186 : decode cL_law 186 = .ok (.ireturn, 1) := by decide +kernel
theorem dL_law_187 : decode cL_law 187 = .ok (.aload_n 1, 1) := by decide +kernel
theorem dL_law_188 : decode cL_law 188 = .ok (.invokevirtual 18, 3) := by decide +kernel
theorem dL_law_191 : decode cL_law 191 = .ok (.aload_n 2, 1) := by decide +kernel
theorem dL_law_192 : decode cL_law 192 = .ok (.invokevirtual 22, 3) := by decide +kernel
theorem dL_law_195 : decode cL_law 195 = .ok (.if_icmp .eq 527, 3) := by decide +kernel
theorem dL_law_198 : decode cL_law 198 = .ok (.iconst 0, 1) := by decide +kernel
theorem dL_law_199 : decode cL_law 199 = .ok (.ireturn, 1) := by decide +kernel
theorem dL_law_200 : decode cL_law 200 = .ok (.aload_n 1, 1) := by decide +kernel
theorem dL_law_201 : decode cL_law 201 = .ok (.invokevirtual 23, 3) := by decide +kernel
theorem dL_law_204 : decode cL_law 204 = .ok (.aload_n 2, 1) := by decide +kernel
theorem dL_law_205 : decode cL_law 205 = .ok (.invokevirtual 26, 3) := by decide +kernel
theorem dL_law_208 : decode cL_law 208 = .ok (.if_icmp .eq 514, 3) := by decide +kernel
theorem dL_law_211 : decode cL_law 211 = .ok (.iconst 0, 1) := by decide +kernel
theorem dL_law_212 : decode cL_law 212 = .ok (.ireturn, 1) := by decide +kernel
theorem dL_law_213 : decode cL_law 213 = .ok (.aload_n 1, 1) := by decide +kernel
theorem dL_law_214 : decode cL_law 214 = .ok (.invokevirtual 27, 3) := by decide +kernel
theorem dL_law_217 : decode cL_law 217 = .ok (.aload_n 2, 1) := by decide +kernel
theorem dL_law_218 : decode cL_law 218 = .ok (.invokevirtual 30, 3) := by decide +kernel
theorem dL_law_221 : decode cL_law 221 = .ok (.if_icmp .eq 501, 3) := by decide +kernel
theorem dL_law_224 : decode cL_law 224 = .ok (.iconst 0, 1) := by decide +kernel
theorem dL_law_225 : decode cL_law 225 = .ok (.ireturn, 1) := by decide +kernel
theorem dL_law_226 : decode cL_law 226 = .ok (.aload_n 1, 1) := by decide +kernel
theorem dL_law_227 : decode cL_law 227 = .ok (.aload_n 0, 1) := by decide +kernel
theorem dL_law_228 : decode cL_law 228 = .ok (.iload_n 3, 1) := by decide +kernel
theorem dL_law_229 : decode cL_law 229 = .ok (.iconst 1, 1) := by decide +kernel
theorem dL_law_230 : decode cL_law 230 = .ok (.iadd, 1) := by decide +kernel
theorem dL_law_231 : decode cL_law 231 = .ok (.iaload, 1) := by decide +kernel
theorem dL_law_232 : decode cL_law 232 = .ok (.invokevirtual 31, 3) := by decide +kernel
theorem dL_law_235 : decode cL_law 235 = .ok (.aload_n 2, 1) := by decide +kernel
theorem dL_law_236 : decode cL_law 236 = .ok (.aload_n 0, 1) := by decide +kernel
theorem dL_law_237 : decode cL_law 237 = .ok (.iload_n 3, 1) := by decide +kernel
theorem dL_law_238 : decode cL_law 238 = .ok (.iconst 1, 1) := by decide +kernel
theorem dL_law_239 : decode cL_law 239 = .ok (.iadd, 1) := by decide +kernel
theorem dL_law_240 : decode cL_law 240 = .ok (.iaload, 1) := by decide +kernel
theorem dL_law_241 : decode cL_law 241 = .ok (.invokevirtual 34, 3) := by decide +kernel
theorem dL_law_244 : decode cL_law 244 = .ok (.if_icmp .eq 478, 3) := by decide +kernel
theorem dL_law_247 : decode cL_law 247 = .ok (.iconst 0, 1) := by decide +kernel
theorem dL_law_248 : decode cL_law 248 = .ok (.ireturn, 1) := by decide +kernel
theorem dL_law_249 : decode cL_law 249 = .ok (.aload_n 1, 1) := by decide +kernel
theorem dL_law_250 : decode cL_law 250 = .ok (.invokevirtual 35, 3) := by decide +kernel
theorem dL_law_253 : decode cL_law 253 = .ok (.aload_n 2, 1) := by decide +kernel
theorem dL_law_254 : decode cL_law 254 = .ok (.invokevirtual 38, 3) := by decide +kernel
theorem dL_law_257 : decode cL_law 257 = .ok (.if_icmp .eq 465, 3) := by decide +kernel
theorem dL_law_260 : decode cL_law 260 = .ok (.iconst 0, 1) := by decide +kernel
theorem dL_law_261 : decode cL_law 261 = .ok (.ireturn, 1) := by decide +kernel
theorem dL_law_262 : decode cL_law 262 = .ok (.aload_n 1, 1) := by decide +kernel
theorem dL_law_263 : decode cL_law 263 = .ok (.aload_n 0, 1) := by decide +kernel
theorem dL_law_264 : decode cL_law 264 = .ok (.iload_n 3, 1) := by decide +kernel
theorem dL_law_265 : decode cL_law 265 = .ok (.iconst 1, 1) := by decide +kernel
theorem dL_law_266 : decode cL_law 266 = .ok (.iadd, 1) := by decide +kernel
theorem dL_law_267 : decode cL_law 267 = .ok (.iaload, 1) := by decide +kernel
theorem dL_law_268 : decode cL_law 268 = .ok (.aload_n 0, 1) := by decide +kernel
theorem dL_law_269 : decode cL_law 269 = .ok (.iload_n 3, 1) := by decide +kernel
theorem dL_law_270 : decode cL_law 270 = .ok (.iconst 2, 1) := by decide +kernel
theorem dL_law_271 : decode cL_law 271 = .ok (.iadd, 1) := by decide +kernel
theorem dL_law_272 : decode cL_law 272 = .ok (.iaload, 1) := by decide +kernel
theorem dL_law_273 : decode cL_law 273 = .ok (.invokevirtual 39, 3) := by decide +kernel
theorem dL_law_276 : decode cL_law 276 = .ok (.aload_n 2, 1) := by decide +kernel
theorem dL_law_277 : decode cL_law 277 = .ok (.aload_n 0, 1) := by decide +kernel
theorem dL_law_278 : decode cL_law 278 = .ok (.iload_n 3, 1) := by decide +kernel
theorem dL_law_279 : decode cL_law 279 = .ok (.iconst 1, 1) := by decide +kernel
theorem dL_law_280 : decode cL_law 280 = .ok (.iadd, 1) := by decide +kernel
theorem dL_law_281 : decode cL_law 281 = .ok (.iaload, 1) := by decide +kernel
theorem dL_law_282 : decode cL_law 282 = .ok (.aload_n 0, 1) := by decide +kernel
theorem dL_law_283 : decode cL_law 283 = .ok (.iload_n 3, 1) := by decide +kernel
theorem dL_law_284 : decode cL_law 284 = .ok (.iconst 2, 1) := by decide +kernel
theorem dL_law_285 : decode cL_law 285 = .ok (.iadd, 1) := by decide +kernel
theorem dL_law_286 : decode cL_law 286 = .ok (.iaload, 1) := by decide +kernel
theorem dL_law_287 : decode cL_law 287 = .ok (.invokevirtual 43, 3) := by decide +kernel
theorem dL_law_290 : decode cL_law 290 = .ok (.if_icmp .eq 432, 3) := by decide +kernel
theorem dL_law_293 : decode cL_law 293 = .ok (.iconst 0, 1) := by decide +kernel
theorem dL_law_294 : decode cL_law 294 = .ok (.ireturn, 1) := by decide +kernel
theorem dL_law_295 : decode cL_law 295 = .ok (.aload_n 1, 1) := by decide +kernel
theorem dL_law_296 : decode cL_law 296 = .ok (.aload_n 0, 1) := by decide +kernel
theorem dL_law_297 : decode cL_law 297 = .ok (.iload_n 3, 1) := by decide +kernel
theorem dL_law_298 : decode cL_law 298 = .ok (.iconst 1, 1) := by decide +kernel
theorem dL_law_299 : decode cL_law 299 = .ok (.iadd, 1) := by decide +kernel
theorem dL_law_300 : decode cL_law 300 = .ok (.iaload, 1) := by decide +kernel
theorem dL_law_301 : decode cL_law 301 = .ok (.invokevirtual 44, 3) := by decide +kernel
theorem dL_law_304 : decode cL_law 304 = .ok (.aload_n 2, 1) := by decide +kernel
theorem dL_law_305 : decode cL_law 305 = .ok (.aload_n 0, 1) := by decide +kernel
theorem dL_law_306 : decode cL_law 306 = .ok (.iload_n 3, 1) := by decide +kernel
theorem dL_law_307 : decode cL_law 307 = .ok (.iconst 1, 1) := by decide +kernel
theorem dL_law_308 : decode cL_law 308 = .ok (.iadd, 1) := by decide +kernel
theorem dL_law_309 : decode cL_law 309 = .ok (.iaload, 1) := by decide +kernel
theorem dL_law_310 : decode cL_law 310 = .ok (.invokevirtual 47, 3) := by decide +kernel
theorem dL_law_313 : decode cL_law 313 = .ok (.if_icmp .eq 409, 3) := by decide +kernel
theorem dL_law_316 : decode cL_law 316 = .ok (.iconst 0, 1) := by decide +kernel
theorem dL_law_317 : decode cL_law 317 = .ok (.ireturn, 1) := by decide +kernel
theorem dL_law_318 : decode cL_law 318 = .ok (.aload_n 1, 1) := by decide +kernel
theorem dL_law_319 : decode cL_law 319 = .ok (.aload_n 0, 1) := by decide +kernel
theorem dL_law_320 : decode cL_law 320 = .ok (.iload_n 3, 1) := by decide +kernel
theorem dL_law_321 : decode cL_law 321 = .ok (.iconst 1, 1) := by decide +kernel
theorem dL_law_322 : decode cL_law 322 = .ok (.iadd, 1) := by decide +kernel
theorem dL_law_323 : decode cL_law 323 = .ok (.iaload, 1) := by decide +kernel
theorem dL_law_324 : decode cL_law 324 = .ok (.aload_n 0, 1) := by decide +kernel
theorem dL_law_325 : decode cL_law 325 = .ok (.iload_n 3, 1) := by decide +kernel
theorem dL_law_326 : decode cL_law 326 = .ok (.iconst 2, 1) := by decide +kernel
theorem dL_law_327 : decode cL_law 327 = .ok (.iadd, 1) := by decide +kernel
theorem dL_law_328 : decode cL_law 328 = .ok (.iaload, 1) := by decide +kernel
theorem dL_law_329 : decode cL_law 329 = .ok (.invokevirtual 48, 3) := by decide +kernel
theorem dL_law_332 : decode cL_law 332 = .ok (.aload_n 2, 1) := by decide +kernel
theorem dL_law_333 : decode cL_law 333 = .ok (.aload_n 0, 1) := by decide +kernel
theorem dL_law_334 : decode cL_law 334 = .ok (.iload_n 3, 1) := by decide +kernel
theorem dL_law_335 : decode cL_law 335 = .ok (.iconst 1, 1) := by decide +kernel
theorem dL_law_336 : decode cL_law 336 = .ok (.iadd, 1) := by decide +kernel
theorem dL_law_337 : decode cL_law 337 = .ok (.iaload, 1) := by decide +kernel
theorem dL_law_338 : decode cL_law 338 = .ok (.aload_n 0, 1) := by decide +kernel
theorem dL_law_339 : decode cL_law 339 = .ok (.iload_n 3, 1) := by decide +kernel
theorem dL_law_340 : decode cL_law 340 = .ok (.iconst 2, 1) := by decide +kernel
theorem dL_law_341 : decode cL_law 341 = .ok (.iadd, 1) := by decide +kernel
theorem dL_law_342 : decode cL_law 342 = .ok (.iaload, 1) := by decide +kernel
theorem dL_law_343 : decode cL_law 343 = .ok (.invokevirtual 51, 3) := by decide +kernel
theorem dL_law_346 : decode cL_law 346 = .ok (.if_icmp .eq 376, 3) := by decide +kernel
theorem dL_law_349 : decode cL_law 349 = .ok (.iconst 0, 1) := by decide +kernel
theorem dL_law_350 : decode cL_law 350 = .ok (.ireturn, 1) := by decide +kernel
theorem dL_law_351 : decode cL_law 351 = .ok (.aload_n 1, 1) := by decide +kernel
theorem dL_law_352 : decode cL_law 352 = .ok (.aload_n 0, 1) := by decide +kernel
theorem dL_law_353 : decode cL_law 353 = .ok (.iload_n 3, 1) := by decide +kernel
theorem dL_law_354 : decode cL_law 354 = .ok (.iconst 1, 1) := by decide +kernel
theorem dL_law_355 : decode cL_law 355 = .ok (.iadd, 1) := by decide +kernel
theorem dL_law_356 : decode cL_law 356 = .ok (.iaload, 1) := by decide +kernel
theorem dL_law_357 : decode cL_law 357 = .ok (.invokevirtual 52, 3) := by decide +kernel
theorem dL_law_360 : decode cL_law 360 = .ok (.aload_n 2, 1) := by decide +kernel
theorem dL_law_361 : decode cL_law 361 = .ok (.aload_n 0, 1) := by decide +kernel
theorem dL_law_362 : decode cL_law 362 = .ok (.iload_n 3, 1) := by decide +kernel
theorem dL_law_363 : decode cL_law 363 = .ok (.iconst 1, 1) := by decide +kernel
theorem dL_law_364 : decode cL_law 364 = .ok (.iadd, 1) := by decide +kernel
theorem dL_law_365 : decode cL_law 365 = .ok (.iaload, 1) := by decide +kernel
theorem dL_law_366 : decode cL_law 366 = .ok (.invokevirtual 55, 3) := by decide +kernel
theorem dL_law_369 : decode cL_law 369 = .ok (.if_icmp .eq 353, 3) := by decide +kernel
theorem dL_law_372 : decode cL_law 372 = .ok (.iconst 0, 1) := by decide +kernel
theorem dL_law_373 : decode cL_law 373 = .ok (.ireturn, 1) := by decide +kernel
theorem dL_law_374 : decode cL_law 374 = .ok (.aload_n 1, 1) := by decide +kernel
theorem dL_law_375 : decode cL_law 375 = .ok (.invokevirtual 56, 3) := by decide +kernel
theorem dL_law_378 : decode cL_law 378 = .ok (.aload_n 2, 1) := by decide +kernel
theorem dL_law_379 : decode cL_law 379 = .ok (.invokevirtual 59, 3) := by decide +kernel
theorem dL_law_382 : decode cL_law 382 = .ok (.if_icmp .eq 340, 3) := by decide +kernel
theorem dL_law_385 : decode cL_law 385 = .ok (.iconst 0, 1) := by decide +kernel
theorem dL_law_386 : decode cL_law 386 = .ok (.ireturn, 1) := by decide +kernel
theorem dL_law_387 : decode cL_law 387 = .ok (.aload_n 1, 1) := by decide +kernel
theorem dL_law_388 : decode cL_law 388 = .ok (.invokevirtual 60, 3) := by decide +kernel
theorem dL_law_391 : decode cL_law 391 = .ok (.aload_n 2, 1) := by decide +kernel
theorem dL_law_392 : decode cL_law 392 = .ok (.invokevirtual 63, 3) := by decide +kernel
theorem dL_law_395 : decode cL_law 395 = .ok (.if_icmp .eq 327, 3) := by decide +kernel
theorem dL_law_398 : decode cL_law 398 = .ok (.iconst 0, 1) := by decide +kernel
theorem dL_law_399 : decode cL_law 399 = .ok (.ireturn, 1) := by decide +kernel
theorem dL_law_400 : decode cL_law 400 = .ok (.aload_n 1, 1) := by decide +kernel
theorem dL_law_401 : decode cL_law 401 = .ok (.invokevirtual 64, 3) := by decide +kernel
theorem dL_law_404 : decode cL_law 404 = .ok (.aload_n 2, 1) := by decide +kernel
theorem dL_law_405 : decode cL_law 405 = .ok (.invokevirtual 67, 3) := by decide +kernel
theorem dL_law_408 : decode cL_law 408 = .ok (.if_icmp .eq 314, 3) := by decide +kernel
theorem dL_law_411 : decode cL_law 411 = .ok (.iconst 0, 1) := by decide +kernel
theorem dL_law_412 : decode cL_law 412 = .ok (.ireturn, 1) := by decide +kernel
theorem dL_law_413 : decode cL_law 413 = .ok (.aload_n 1, 1) := by decide +kernel
theorem dL_law_414 : decode cL_law 414 = .ok (.invokevirtual 68, 3) := by decide +kernel
theorem dL_law_417 : decode cL_law 417 = .ok (.aload_n 2, 1) := by decide +kernel
theorem dL_law_418 : decode cL_law 418 = .ok (.invokevirtual 71, 3) := by decide +kernel
theorem dL_law_421 : decode cL_law 421 = .ok (.if_icmp .eq 301, 3) := by decide +kernel
theorem dL_law_424 : decode cL_law 424 = .ok (.iconst 0, 1) := by decide +kernel
theorem dL_law_425 : decode cL_law 425 = .ok (.ireturn, 1) := by decide +kernel
theorem dL_law_426 : decode cL_law 426 = .ok (.aload_n 1, 1) := by decide +kernel
theorem dL_law_427 : decode cL_law 427 = .ok (.aload_n 0, 1) := by decide +kernel
theorem dL_law_428 : decode cL_law 428 = .ok (.iload_n 3, 1) := by decide +kernel
theorem dL_law_429 : decode cL_law 429 = .ok (.iconst 1, 1) := by decide +kernel
theorem dL_law_430 : decode cL_law 430 = .ok (.iadd, 1) := by decide +kernel
theorem dL_law_431 : decode cL_law 431 = .ok (.iaload, 1) := by decide +kernel
theorem dL_law_432 : decode cL_law 432 = .ok (.invokevirtual 72, 3) := by decide +kernel
theorem dL_law_435 : decode cL_law 435 = .ok (.aload_n 2, 1) := by decide +kernel
theorem dL_law_436 : decode cL_law 436 = .ok (.aload_n 0, 1) := by decide +kernel
theorem dL_law_437 : decode cL_law 437 = .ok (.iload_n 3, 1) := by decide +kernel
theorem dL_law_438 : decode cL_law 438 = .ok (.iconst 1, 1) := by decide +kernel
theorem dL_law_439 : decode cL_law 439 = .ok (.iadd, 1) := by decide +kernel
theorem dL_law_440 : decode cL_law 440 = .ok (.iaload, 1) := by decide +kernel
theorem dL_law_441 : decode cL_law 441 = .ok (.invokevirtual 75, 3) := by decide +kernel
theorem dL_law_444 : decode cL_law 444 = .ok (.if_icmp .eq 278, 3) := by decide +kernel
theorem dL_law_447 : decode cL_law 447 = .ok (.iconst 0, 1) := by decide +kernel
theorem dL_law_448 : decode cL_law 448 = .ok (.ireturn, 1) := by decide +kernel
theorem dL_law_449 : decode cL_law 449 = .ok (.aload_n 1, 1) := by decide +kernel
theorem dL_law_450 : decode cL_law 450 = .ok (.invokevirtual 76, 3) := by decide +kernel
theorem dL_law_453 : decode cL_law 453 = .ok (.aload_n 2, 1) := by decide +kernel
theorem dL_law_454 : decode cL_law 454 = .ok (.invokevirtual 79, 3) := by decide +kernel
theorem dL_law_457 : decode cL_law 457 = .ok (.if_icmp .eq 265, 3) := by decide +kernel
theorem dL_law_460 : decode cL_law 460 = .ok (.iconst 0, 1) := by decide +kernel
theorem dL_law_461 : decode cL_law 461 = .ok (.ireturn, 1) := by decide +kernel
theorem dL_law_462 : decode cL_law 462 = .ok (.aload_n 1, 1) := by decide +kernel
theorem dL_law_463 : decode cL_law 463 = .ok (.aload_n 0, 1) := by decide +kernel
theorem dL_law_464 : decode cL_law 464 = .ok (.iload_n 3, 1) := by decide +kernel
theorem dL_law_465 : decode cL_law 465 = .ok (.iconst 1, 1) := by decide +kernel
theorem dL_law_466 : decode cL_law 466 = .ok (.iadd, 1) := by decide +kernel
theorem dL_law_467 : decode cL_law 467 = .ok (.iaload, 1) := by decide +kernel
theorem dL_law_468 : decode cL_law 468 = .ok (.invokevirtual 80, 3) := by decide +kernel
theorem dL_law_471 : decode cL_law 471 = .ok (.aload_n 2, 1) := by decide +kernel
theorem dL_law_472 : decode cL_law 472 = .ok (.aload_n 0, 1) := by decide +kernel
theorem dL_law_473 : decode cL_law 473 = .ok (.iload_n 3, 1) := by decide +kernel
theorem dL_law_474 : decode cL_law 474 = .ok (.iconst 1, 1) := by decide +kernel
theorem dL_law_475 : decode cL_law 475 = .ok (.iadd, 1) := by decide +kernel
theorem dL_law_476 : decode cL_law 476 = .ok (.iaload, 1) := by decide +kernel
theorem dL_law_477 : decode cL_law 477 = .ok (.invokevirtual 83, 3) := by decide +kernel
theorem dL_law_480 : decode cL_law 480 = .ok (.if_icmp .eq 242, 3) := by decide +kernel
theorem dL_law_483 : decode cL_law 483 = .ok (.iconst 0, 1) := by decide +kernel
theorem dL_law_484 : decode cL_law 484 = .ok (.ireturn, 1) := by decide +kernel
theorem dL_law_485 : decode cL_law 485 = .ok (.aload_n 1, 1) := by decide +kernel
theorem dL_law_486 : decode cL_law 486 = .ok (.invokevirtual 84, 3) := by decide +kernel
theorem dL_law_489 : decode cL_law 489 = .ok (.aload_n 2, 1) := by decide +kernel
theorem dL_law_490 : decode cL_law 490 = .ok (.invokevirtual 87, 3) := by decide +kernel
theorem dL_law_493 : decode cL_law 493 = .ok (.if_icmp .eq 229, 3) := by decide +kernel
theorem dL_law_496 : decode cL_law 496 = .ok (.iconst 0, 1) := by decide +kernel
theorem dL_law_497 : decode cL_law 497 = .ok (.ireturn, 1) := by decide +kernel
theorem dL_law_498 : decode cL_law 498 = .ok (.aload_n 1, 1) := by decide +kernel
theorem dL_law_499 : decode cL_law 499 = .ok (.aload_n 0, 1) := by decide +kernel
theorem dL_law_500 : decode cL_law 500 = .ok (.iload_n 3, 1) := by decide +kernel
theorem dL_law_501 : decode cL_law 501 = .ok (.iconst 1, 1) := by decide +kernel
theorem dL_law_502 : decode cL_law 502 = .ok (.iadd, 1) := by decide +kernel
theorem dL_law_503 : decode cL_law 503 = .ok (.iaload, 1) := by decide +kernel
theorem dL_law_504 : decode cL_law 504 = .ok (.invokevirtual 88, 3) := by decide +kernel
theorem dL_law_507 : decode cL_law 507 = .ok (.aload_n 2, 1) := by decide +kernel
theorem dL_law_508 : decode cL_law 508 = .ok (.aload_n 0, 1) := by decide +kernel
theorem dL_law_509 : decode cL_law 509 = .ok (.iload_n 3, 1) := by decide +kernel
theorem dL_law_510 : decode cL_law 510 = .ok (.iconst 1, 1) := by decide +kernel
theorem dL_law_511 : decode cL_law 511 = .ok (.iadd, 1) := by decide +kernel
theorem dL_law_512 : decode cL_law 512 = .ok (.iaload, 1) := by decide +kernel
theorem dL_law_513 : decode cL_law 513 = .ok (.invokevirtual 91, 3) := by decide +kernel
theorem dL_law_516 : decode cL_law 516 = .ok (.if_icmp .eq 206, 3) := by decide +kernel
theorem dL_law_519 : decode cL_law 519 = .ok (.iconst 0, 1) := by decide +kernel
theorem dL_law_520 : decode cL_law 520 = .ok (.ireturn, 1) := by decide +kernel
theorem dL_law_521 : decode cL_law 521 = .ok (.aload_n 1, 1) := by decide +kernel
theorem dL_law_522 : decode cL_law 522 = .ok (.aload_n 0, 1) := by decide +kernel
theorem dL_law_523 : decode cL_law 523 = .ok (.iload_n 3, 1) := by decide +kernel
theorem dL_law_524 : decode cL_law 524 = .ok (.iconst 1, 1) := by decide +kernel
theorem dL_law_525 : decode cL_law 525 = .ok (.iadd, 1) := by decide +kernel
theorem dL_law_526 : decode cL_law 526 = .ok (.iaload, 1) := by decide +kernel
theorem dL_law_527 : decode cL_law 527 = .ok (.invokevirtual 92, 3) := by decide +kernel
theorem dL_law_530 : decode cL_law 530 = .ok (.aload_n 2, 1) := by decide +kernel
theorem dL_law_531 : decode cL_law 531 = .ok (.aload_n 0, 1) := by decide +kernel
theorem dL_law_532 : decode cL_law 532 = .ok (.iload_n 3, 1) := by decide +kernel
theorem dL_law_533 : decode cL_law 533 = .ok (.iconst 1, 1) := by decide +kernel
theorem dL_law_534 : decode cL_law 534 = .ok (.iadd, 1) := by decide +kernel
theorem dL_law_535 : decode cL_law 535 = .ok (.iaload, 1) := by decide +kernel
theorem dL_law_536 : decode cL_law 536 = .ok (.invokevirtual 95, 3) := by decide +kernel
theorem dL_law_539 : decode cL_law 539 = .ok (.if_icmp .eq 183, 3) := by decide +kernel
theorem dL_law_542 : decode cL_law 542 = .ok (.iconst 0, 1) := by decide +kernel
theorem dL_law_543 : decode cL_law 543 = .ok (.ireturn, 1) := by decide +kernel
theorem dL_law_544 : decode cL_law 544 = .ok (.aload_n 1, 1) := by decide +kernel
theorem dL_law_545 : decode cL_law 545 = .ok (.aload_n 0, 1) := by decide +kernel
theorem dL_law_546 : decode cL_law 546 = .ok (.iload_n 3, 1) := by decide +kernel
theorem dL_law_547 : decode cL_law 547 = .ok (.iconst 1, 1) := by decide +kernel
theorem dL_law_548 : decode cL_law 548 = .ok (.iadd, 1) := by decide +kernel
theorem dL_law_549 : decode cL_law 549 = .ok (.iaload, 1) := by decide +kernel
theorem dL_law_550 : decode cL_law 550 = .ok (.aload_n 0, 1) := by decide +kernel
theorem dL_law_551 : decode cL_law 551 = .ok (.iload_n 3, 1) := by decide +kernel
theorem dL_law_552 : decode cL_law 552 = .ok (.iconst 2, 1) := by decide +kernel
theorem dL_law_553 : decode cL_law 553 = .ok (.iadd, 1) := by decide +kernel
theorem dL_law_554 : decode cL_law 554 = .ok (.iaload, 1) := by decide +kernel
theorem dL_law_555 : decode cL_law 555 = .ok (.aload_n 0, 1) := by decide +kernel
theorem dL_law_556 : decode cL_law 556 = .ok (.iload_n 3, 1) := by decide +kernel
theorem dL_law_557 : decode cL_law 557 = .ok (.iconst 3, 1) := by decide +kernel
theorem dL_law_558 : decode cL_law 558 = .ok (.iadd, 1) := by decide +kernel
theorem dL_law_559 : decode cL_law 559 = .ok (.iaload, 1) := by decide +kernel
theorem dL_law_560 : decode cL_law 560 = .ok (.invokevirtual 96, 3) := by decide +kernel
theorem dL_law_563 : decode cL_law 563 = .ok (.aload_n 2, 1) := by decide +kernel
theorem dL_law_564 : decode cL_law 564 = .ok (.aload_n 0, 1) := by decide +kernel
theorem dL_law_565 : decode cL_law 565 = .ok (.iload_n 3, 1) := by decide +kernel
theorem dL_law_566 : decode cL_law 566 = .ok (.iconst 1, 1) := by decide +kernel
theorem dL_law_567 : decode cL_law 567 = .ok (.iadd, 1) := by decide +kernel
theorem dL_law_568 : decode cL_law 568 = .ok (.iaload, 1) := by decide +kernel
theorem dL_law_569 : decode cL_law 569 = .ok (.aload_n 0, 1) := by decide +kernel
theorem dL_law_570 : decode cL_law 570 = .ok (.iload_n 3, 1) := by decide +kernel
theorem dL_law_571 : decode cL_law 571 = .ok (.iconst 2, 1) := by decide +kernel
theorem dL_law_572 : decode cL_law 572 = .ok (.iadd, 1) := by decide +kernel
theorem dL_law_573 : decode cL_law 573 = .ok (.iaload, 1) := by decide +kernel
theorem dL_law_574 : decode cL_law 574 = .ok (.aload_n 0, 1) := by decide +kernel
theorem dL_law_575 : decode cL_law 575 = .ok (.iload_n 3, 1) := by decide +kernel
theorem dL_law_576 : decode cL_law 576 = .ok (.iconst 3, 1) := by decide +kernel
theorem dL_law_577 : decode cL_law 577 = .ok (.iadd, 1) := by decide +kernel
theorem dL_law_578 : decode cL_law 578 = .ok (.iaload, 1) := by decide +kernel
theorem dL_law_579 : decode cL_law 579 = .ok (.invokevirtual 100, 3) := by decide +kernel
theorem dL_law_582 : decode cL_law 582 = .ok (.if_icmp .eq 140, 3) := by decide +kernel
theorem dL_law_585 : decode cL_law 585 = .ok (.iconst 0, 1) := by decide +kernel
theorem dL_law_586 : decode cL_law 586 = .ok (.ireturn, 1) := by decide +kernel
theorem dL_law_587 : decode cL_law 587 = .ok (.aload_n 1, 1) := by decide +kernel
theorem dL_law_588 : decode cL_law 588 = .ok (.aload_n 0, 1) := by decide +kernel
theorem dL_law_589 : decode cL_law 589 = .ok (.iload_n 3, 1) := by decide +kernel
theorem dL_law_590 : decode cL_law 590 = .ok (.iconst 1, 1) := by decide +kernel
theorem dL_law_591 : decode cL_law 591 = .ok (.iadd, 1) := by decide +kernel
theorem dL_law_592 : decode cL_law 592 = .ok (.iaload, 1) := by decide +kernel
theorem dL_law_593 : decode cL_law 593 = .ok (.invokevirtual 101, 3) := by decide +kernel
theorem dL_law_596 : decode cL_law 596 = .ok (.aload_n 2, 1) := by decide +kernel
theorem dL_law_597 : decode cL_law 597 = .ok (.aload_n 0, 1) := by decide +kernel
theorem dL_law_598 : decode cL_law 598 = .ok (.iload_n 3, 1) := by decide +kernel
theorem dL_law_599 : decode cL_law 599 = .ok (.iconst 1, 1) := by decide +kernel
theorem dL_law_600 : decode cL_law 600 = .ok (.iadd, 1) := by decide +kernel
theorem dL_law_601 : decode cL_law 601 = .ok (.iaload, 1) := by decide +kernel
theorem dL_law_602 : decode cL_law 602 = .ok (.invokevirtual 104, 3) := by decide +kernel
theorem dL_law_605 : decode cL_law 605 = .ok (.if_icmp .eq 117, 3) := by decide +kernel
theorem dL_law_608 : decode cL_law 608 = .ok (.iconst 0, 1) := by decide +kernel
theorem dL_law_609 : decode cL_law 609 = .ok (.ireturn, 1) := by decide +kernel
theorem dL_law_610 : decode cL_law 610 = .ok (.aload_n 1, 1) := by decide +kernel
theorem dL_law_611 : decode cL_law 611 = .ok (.aload_n 0, 1) := by decide +kernel
theorem dL_law_612 : decode cL_law 612 = .ok (.iload_n 3, 1) := by decide +kernel
theorem dL_law_613 : decode cL_law 613 = .ok (.iconst 1, 1) := by decide +kernel
theorem dL_law_614 : decode cL_law 614 = .ok (.iadd, 1) := by decide +kernel
theorem dL_law_615 : decode cL_law 615 = .ok (.iaload, 1) := by decide +kernel
theorem dL_law_616 : decode cL_law 616 = .ok (.invokevirtual 105, 3) := by decide +kernel
theorem dL_law_619 : decode cL_law 619 = .ok (.aload_n 2, 1) := by decide +kernel
theorem dL_law_620 : decode cL_law 620 = .ok (.aload_n 0, 1) := by decide +kernel
theorem dL_law_621 : decode cL_law 621 = .ok (.iload_n 3, 1) := by decide +kernel
theorem dL_law_622 : decode cL_law 622 = .ok (.iconst 1, 1) := by decide +kernel
theorem dL_law_623 : decode cL_law 623 = .ok (.iadd, 1) := by decide +kernel
theorem dL_law_624 : decode cL_law 624 = .ok (.iaload, 1) := by decide +kernel
theorem dL_law_625 : decode cL_law 625 = .ok (.invokevirtual 108, 3) := by decide +kernel
theorem dL_law_628 : decode cL_law 628 = .ok (.if_icmp .eq 94, 3) := by decide +kernel
theorem dL_law_631 : decode cL_law 631 = .ok (.iconst 0, 1) := by decide +kernel
theorem dL_law_632 : decode cL_law 632 = .ok (.ireturn, 1) := by decide +kernel
theorem dL_law_633 : decode cL_law 633 = .ok (.aload_n 1, 1) := by decide +kernel
theorem dL_law_634 : decode cL_law 634 = .ok (.invokevirtual 109, 3) := by decide +kernel
theorem dL_law_637 : decode cL_law 637 = .ok (.aload_n 2, 1) := by decide +kernel
theorem dL_law_638 : decode cL_law 638 = .ok (.invokevirtual 112, 3) := by decide +kernel
theorem dL_law_641 : decode cL_law 641 = .ok (.if_icmp .eq 81, 3) := by decide +kernel
theorem dL_law_644 : decode cL_law 644 = .ok (.iconst 0, 1) := by decide +kernel
theorem dL_law_645 : decode cL_law 645 = .ok (.ireturn, 1) := by decide +kernel
theorem dL_law_646 : decode cL_law 646 = .ok (.aload_n 1, 1) := by decide +kernel
theorem dL_law_647 : decode cL_law 647 = .ok (.invokevirtual 113, 3) := by decide +kernel
theorem dL_law_650 : decode cL_law 650 = .ok (.aload_n 2, 1) := by decide +kernel
theorem dL_law_651 : decode cL_law 651 = .ok (.invokevirtual 116, 3) := by decide +kernel
theorem dL_law_654 : decode cL_law 654 = .ok (.if_icmp .eq 68, 3) := by decide +kernel
theorem dL_law_657 : decode cL_law 657 = .ok (.iconst 0, 1) := by decide +kernel
theorem dL_law_658 : decode cL_law 658 = .ok (.ireturn, 1) := by decide +kernel
theorem dL_law_659 : decode cL_law 659 = .ok (.aload_n 1, 1) := by decide +kernel
theorem dL_law_660 : decode cL_law 660 = .ok (.invokevirtual 117, 3) := by decide +kernel
theorem dL_law_663 : decode cL_law 663 = .ok (.aload_n 2, 1) := by decide +kernel
theorem dL_law_664 : decode cL_law 664 = .ok (.invokevirtual 120, 3) := by decide +kernel
theorem dL_law_667 : decode cL_law 667 = .ok (.if_icmp .eq 55, 3) := by decide +kernel
theorem dL_law_670 : decode cL_law 670 = .ok (.iconst 0, 1) := by decide +kernel
theorem dL_law_671 : decode cL_law 671 = .ok (.ireturn, 1) := by decide +kernel
theorem dL_law_672 : decode cL_law 672 = .ok (.aload_n 1, 1) := by decide +kernel
theorem dL_law_673 : decode cL_law 673 = .ok (.aload_n 0, 1) := by decide +kernel
theorem dL_law_674 : decode cL_law 674 = .ok (.iload_n 3, 1) := by decide +kernel
theorem dL_law_675 : decode cL_law 675 = .ok (.iconst 1, 1) := by decide +kernel
theorem dL_law_676 : decode cL_law 676 = .ok (.iadd, 1) := by decide +kernel
theorem dL_law_677 : decode cL_law 677 = .ok (.iaload, 1) := by decide +kernel
theorem dL_law_678 : decode cL_law 678 = .ok (.invokevirtual 121, 3) := by decide +kernel
theorem dL_law_681 : decode cL_law 681 = .ok (.aload_n 2, 1) := by decide +kernel
theorem dL_law_682 : decode cL_law 682 = .ok (.aload_n 0, 1) := by decide +kernel
theorem dL_law_683 : decode cL_law 683 = .ok (.iload_n 3, 1) := by decide +kernel
theorem dL_law_684 : decode cL_law 684 = .ok (.iconst 1, 1) := by decide +kernel
theorem dL_law_685 : decode cL_law 685 = .ok (.iadd, 1) := by decide +kernel
theorem dL_law_686 : decode cL_law 686 = .ok (.iaload, 1) := by decide +kernel
theorem dL_law_687 : decode cL_law 687 = .ok (.invokevirtual 124, 3) := by decide +kernel
theorem dL_law_690 : decode cL_law 690 = .ok (.if_icmp .eq 32, 3) := by decide +kernel
theorem dL_law_693 : decode cL_law 693 = .ok (.iconst 0, 1) := by decide +kernel
theorem dL_law_694 : decode cL_law 694 = .ok (.ireturn, 1) := by decide +kernel
theorem dL_law_695 : decode cL_law 695 = .ok (.aload_n 1, 1) := by decide +kernel
theorem dL_law_696 : decode cL_law 696 = .ok (.invokevirtual 125, 3) := by decide +kernel
theorem dL_law_699 : decode cL_law 699 = .ok (.aload_n 2, 1) := by decide +kernel
theorem dL_law_700 : decode cL_law 700 = .ok (.invokevirtual 128, 3) := by decide +kernel
theorem dL_law_703 : decode cL_law 703 = .ok (.if_icmp .eq 19, 3) := by decide +kernel
theorem dL_law_706 : decode cL_law 706 = .ok (.iconst 0, 1) := by decide +kernel
theorem dL_law_707 : decode cL_law 707 = .ok (.ireturn, 1) := by decide +kernel
theorem dL_law_708 : decode cL_law 708 = .ok (.aload_n 1, 1) := by decide +kernel
theorem dL_law_709 : decode cL_law 709 = .ok (.invokevirtual 129, 3) := by decide +kernel
theorem dL_law_712 : decode cL_law 712 = .ok (.aload_n 2, 1) := by decide +kernel
theorem dL_law_713 : decode cL_law 713 = .ok (.invokevirtual 133, 3) := by decide +kernel
theorem dL_law_716 : decode cL_law 716 = .ok (.lcmp, 1) := by decide +kernel
theorem dL_law_717 : decode cL_law 717 = .ok (.ifCond .eq 5, 3) := by decide +kernel
theorem dL_law_720 : decode cL_law 720 = .ok (.iconst 0, 1) := by decide +kernel
theorem dL_law_721 : decode cL_law 721 = .ok (.ireturn, 1) := by decide +kernel
theorem dL_law_722 : decode cL_law 722 = .ok (.iinc 3 4, 3) := by decide +kernel
theorem dL_law_725 : decode cL_law 725 = .ok (.goto (-707), 3) := by decide +kernel
theorem dL_law_728 : decode cL_law 728 = .ok (.iconst 1, 1) := by decide +kernel
theorem dL_law_729 : decode cL_law 729 = .ok (.ireturn, 1) := by decide +kernel
abbrev vwCl : List vw_C := [(RX0, TX0, 5), (RX1, TX1, 3), (RX2, TX2, 12), (RX3, TX3, 3), (RX5, TX5, 5), (RX6, TX6, 12)]
/-! END -/
end
section
theorem zz_probe : True := trivial
end
