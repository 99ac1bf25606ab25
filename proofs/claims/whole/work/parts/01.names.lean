-- ===== PART A: goes FIRST, ahead of the names: the tables' words, and 'selects' of the private methods out of them =====
/-- a private method of a class that the tables say can be made, by its rows of tables_1 -/
def lw_okq (q : MethodName × Nat) : Prop := (q.1.cls ≠ "java/lang/invoke/MethodHandle" ∧ q.1.cls ≠ "java/lang/invoke/VarHandle") ∧ Cond.instantiable q.1.cls q.2 ∈ tables_1 ∧ Cond.privateMethod q.1 ∈ tables_1 ∧ Cond.instanceMethod q.1 ∈ tables_1
theorem lw_p0 : lw_okq (⟨"HillDrums$Text", "clear", "()V"⟩, 16) := ⟨⟨by decide +kernel, by decide +kernel⟩, List.mem_of_getElem? (i := 48) (by decide +kernel), List.mem_of_getElem? (i := 366) (by decide +kernel), List.mem_of_getElem? (i := 367) (by decide +kernel)⟩
theorem lw_p1 : lw_okq (⟨"HillDrums$Law", "setUsual", "()V"⟩, 4) := ⟨⟨by decide +kernel, by decide +kernel⟩, List.mem_of_getElem? (i := 54) (by decide +kernel), List.mem_of_getElem? (i := 370) (by decide +kernel), List.mem_of_getElem? (i := 371) (by decide +kernel)⟩
theorem lw_p2 : lw_okq (⟨"HillDrums$Law", "add", "(I)I"⟩, 4) := ⟨⟨by decide +kernel, by decide +kernel⟩, List.mem_of_getElem? (i := 54) (by decide +kernel), List.mem_of_getElem? (i := 374) (by decide +kernel), List.mem_of_getElem? (i := 375) (by decide +kernel)⟩
theorem lw_p3 : lw_okq (⟨"HillDrums$World", "begin", "(LHillDrums$Text;)V"⟩, 12) := ⟨⟨by decide +kernel, by decide +kernel⟩, List.mem_of_getElem? (i := 228) (by decide +kernel), List.mem_of_getElem? (i := 381) (by decide +kernel), List.mem_of_getElem? (i := 382) (by decide +kernel)⟩
theorem lw_p4 : lw_okq (⟨"HillDrums$World", "beginAt", "(II)V"⟩, 12) := ⟨⟨by decide +kernel, by decide +kernel⟩, List.mem_of_getElem? (i := 228) (by decide +kernel), List.mem_of_getElem? (i := 385) (by decide +kernel), List.mem_of_getElem? (i := 386) (by decide +kernel)⟩
theorem lw_p5 : lw_okq (⟨"HillDrums$Tape", "add", "(I)V"⟩, 2) := ⟨⟨by decide +kernel, by decide +kernel⟩, List.mem_of_getElem? (i := 32) (by decide +kernel), List.mem_of_getElem? (i := 436) (by decide +kernel), List.mem_of_getElem? (i := 437) (by decide +kernel)⟩
theorem lw_p6 : lw_okq (⟨"HillDrums$Reader", "parse", "(LHillDrums$Tape;LHillDrums$Text;)V"⟩, 9) := ⟨⟨by decide +kernel, by decide +kernel⟩, List.mem_of_getElem? (i := 173) (by decide +kernel), List.mem_of_getElem? (i := 448) (by decide +kernel), List.mem_of_getElem? (i := 449) (by decide +kernel)⟩
theorem lw_p7 : lw_okq (⟨"HillDrums$Tokens", "split", "(LHillDrums$Tape;)V"⟩, 3) := ⟨⟨by decide +kernel, by decide +kernel⟩, List.mem_of_getElem? (i := 179) (by decide +kernel), List.mem_of_getElem? (i := 453) (by decide +kernel), List.mem_of_getElem? (i := 454) (by decide +kernel)⟩
theorem lw_p8 : lw_okq (⟨"HillDrums$Tape", "byteAt", "(I)I"⟩, 2) := ⟨⟨by decide +kernel, by decide +kernel⟩, List.mem_of_getElem? (i := 32) (by decide +kernel), List.mem_of_getElem? (i := 460) (by decide +kernel), List.mem_of_getElem? (i := 461) (by decide +kernel)⟩
theorem lw_p9 : lw_okq (⟨"HillDrums$Tokens", "keep", "(LHillDrums$Tape;II)I"⟩, 3) := ⟨⟨by decide +kernel, by decide +kernel⟩, List.mem_of_getElem? (i := 179) (by decide +kernel), List.mem_of_getElem? (i := 467) (by decide +kernel), List.mem_of_getElem? (i := 468) (by decide +kernel)⟩
theorem lw_p10 : lw_okq (⟨"HillDrums$Tokens", "keepLetters", "(LHillDrums$Tape;II)I"⟩, 3) := ⟨⟨by decide +kernel, by decide +kernel⟩, List.mem_of_getElem? (i := 179) (by decide +kernel), List.mem_of_getElem? (i := 474) (by decide +kernel), List.mem_of_getElem? (i := 475) (by decide +kernel)⟩
theorem lw_p11 : lw_okq (⟨"HillDrums$Tokens", "keepDigits", "(LHillDrums$Tape;II)I"⟩, 3) := ⟨⟨by decide +kernel, by decide +kernel⟩, List.mem_of_getElem? (i := 179) (by decide +kernel), List.mem_of_getElem? (i := 526) (by decide +kernel), List.mem_of_getElem? (i := 527) (by decide +kernel)⟩
theorem lw_p12 : lw_okq (⟨"HillDrums$Reader", "kind", "()I"⟩, 9) := ⟨⟨by decide +kernel, by decide +kernel⟩, List.mem_of_getElem? (i := 173) (by decide +kernel), List.mem_of_getElem? (i := 598) (by decide +kernel), List.mem_of_getElem? (i := 599) (by decide +kernel)⟩
theorem lw_p13 : lw_okq (⟨"HillDrums$Reader", "parseTell", "()V"⟩, 9) := ⟨⟨by decide +kernel, by decide +kernel⟩, List.mem_of_getElem? (i := 173) (by decide +kernel), List.mem_of_getElem? (i := 602) (by decide +kernel), List.mem_of_getElem? (i := 603) (by decide +kernel)⟩
theorem lw_p14 : lw_okq (⟨"HillDrums$Reader", "parseHill", "()V"⟩, 9) := ⟨⟨by decide +kernel, by decide +kernel⟩, List.mem_of_getElem? (i := 173) (by decide +kernel), List.mem_of_getElem? (i := 606) (by decide +kernel), List.mem_of_getElem? (i := 607) (by decide +kernel)⟩
theorem lw_p15 : lw_okq (⟨"HillDrums$Reader", "fail", "(I)V"⟩, 9) := ⟨⟨by decide +kernel, by decide +kernel⟩, List.mem_of_getElem? (i := 173) (by decide +kernel), List.mem_of_getElem? (i := 610) (by decide +kernel), List.mem_of_getElem? (i := 611) (by decide +kernel)⟩
def lw_privs_1 : List (MethodName × Nat) := [(⟨"HillDrums$Text", "clear", "()V"⟩, 16), (⟨"HillDrums$Law", "setUsual", "()V"⟩, 4), (⟨"HillDrums$Law", "add", "(I)I"⟩, 4), (⟨"HillDrums$World", "begin", "(LHillDrums$Text;)V"⟩, 12), (⟨"HillDrums$World", "beginAt", "(II)V"⟩, 12), (⟨"HillDrums$Tape", "add", "(I)V"⟩, 2), (⟨"HillDrums$Reader", "parse", "(LHillDrums$Tape;LHillDrums$Text;)V"⟩, 9), (⟨"HillDrums$Tokens", "split", "(LHillDrums$Tape;)V"⟩, 3), (⟨"HillDrums$Tape", "byteAt", "(I)I"⟩, 2), (⟨"HillDrums$Tokens", "keep", "(LHillDrums$Tape;II)I"⟩, 3), (⟨"HillDrums$Tokens", "keepLetters", "(LHillDrums$Tape;II)I"⟩, 3), (⟨"HillDrums$Tokens", "keepDigits", "(LHillDrums$Tape;II)I"⟩, 3), (⟨"HillDrums$Reader", "kind", "()I"⟩, 9), (⟨"HillDrums$Reader", "parseTell", "()V"⟩, 9), (⟨"HillDrums$Reader", "parseHill", "()V"⟩, 9), (⟨"HillDrums$Reader", "fail", "(I)V"⟩, 9)]
theorem lw_r1 : ∀ q ∈ lw_privs_1, lw_okq q := List.forall_mem_cons.mpr ⟨lw_p0, List.forall_mem_cons.mpr ⟨lw_p1, List.forall_mem_cons.mpr ⟨lw_p2, List.forall_mem_cons.mpr ⟨lw_p3, List.forall_mem_cons.mpr ⟨lw_p4, List.forall_mem_cons.mpr ⟨lw_p5, List.forall_mem_cons.mpr ⟨lw_p6, List.forall_mem_cons.mpr ⟨lw_p7, List.forall_mem_cons.mpr ⟨lw_p8, List.forall_mem_cons.mpr ⟨lw_p9, List.forall_mem_cons.mpr ⟨lw_p10, List.forall_mem_cons.mpr ⟨lw_p11, List.forall_mem_cons.mpr ⟨lw_p12, List.forall_mem_cons.mpr ⟨lw_p13, List.forall_mem_cons.mpr ⟨lw_p14, List.forall_mem_cons.mpr ⟨lw_p15, fun _ h => absurd h List.not_mem_nil⟩⟩⟩⟩⟩⟩⟩⟩⟩⟩⟩⟩⟩⟩⟩⟩
theorem lw_p16 : lw_okq (⟨"HillDrums$Reader", "take", "(I)J"⟩, 9) := ⟨⟨by decide +kernel, by decide +kernel⟩, List.mem_of_getElem? (i := 173) (by decide +kernel), List.mem_of_getElem? (i := 614) (by decide +kernel), List.mem_of_getElem? (i := 615) (by decide +kernel)⟩
theorem lw_p17 : lw_okq (⟨"HillDrums$Reader", "takeNewName", "()J"⟩, 9) := ⟨⟨by decide +kernel, by decide +kernel⟩, List.mem_of_getElem? (i := 173) (by decide +kernel), List.mem_of_getElem? (i := 618) (by decide +kernel), List.mem_of_getElem? (i := 619) (by decide +kernel)⟩
theorem lw_p18 : lw_okq (⟨"HillDrums$Reader", "mean", "(II)V"⟩, 9) := ⟨⟨by decide +kernel, by decide +kernel⟩, List.mem_of_getElem? (i := 173) (by decide +kernel), List.mem_of_getElem? (i := 625) (by decide +kernel), List.mem_of_getElem? (i := 626) (by decide +kernel)⟩
theorem lw_p19 : lw_okq (⟨"HillDrums$Reader", "takeNumber", "(II)I"⟩, 9) := ⟨⟨by decide +kernel, by decide +kernel⟩, List.mem_of_getElem? (i := 173) (by decide +kernel), List.mem_of_getElem? (i := 629) (by decide +kernel), List.mem_of_getElem? (i := 630) (by decide +kernel)⟩
theorem lw_p20 : lw_okq (⟨"HillDrums$Reader", "parseNews", "()V"⟩, 9) := ⟨⟨by decide +kernel, by decide +kernel⟩, List.mem_of_getElem? (i := 173) (by decide +kernel), List.mem_of_getElem? (i := 633) (by decide +kernel), List.mem_of_getElem? (i := 634) (by decide +kernel)⟩
theorem lw_p21 : lw_okq (⟨"HillDrums$Reader", "takeOneOf", "([JI)I"⟩, 9) := ⟨⟨by decide +kernel, by decide +kernel⟩, List.mem_of_getElem? (i := 173) (by decide +kernel), List.mem_of_getElem? (i := 637) (by decide +kernel), List.mem_of_getElem? (i := 638) (by decide +kernel)⟩
theorem lw_p22 : lw_okq (⟨"HillDrums$Reader", "parseLaw", "()V"⟩, 9) := ⟨⟨by decide +kernel, by decide +kernel⟩, List.mem_of_getElem? (i := 173) (by decide +kernel), List.mem_of_getElem? (i := 642) (by decide +kernel), List.mem_of_getElem? (i := 643) (by decide +kernel)⟩
theorem lw_p23 : lw_okq (⟨"HillDrums$Reader", "parseSum", "(I)V"⟩, 9) := ⟨⟨by decide +kernel, by decide +kernel⟩, List.mem_of_getElem? (i := 173) (by decide +kernel), List.mem_of_getElem? (i := 646) (by decide +kernel), List.mem_of_getElem? (i := 647) (by decide +kernel)⟩
theorem lw_p24 : lw_okq (⟨"HillDrums$Reader", "parseProduct", "(I)V"⟩, 9) := ⟨⟨by decide +kernel, by decide +kernel⟩, List.mem_of_getElem? (i := 173) (by decide +kernel), List.mem_of_getElem? (i := 650) (by decide +kernel), List.mem_of_getElem? (i := 651) (by decide +kernel)⟩
theorem lw_p25 : lw_okq (⟨"HillDrums$Reader", "parseUnit", "(I)V"⟩, 9) := ⟨⟨by decide +kernel, by decide +kernel⟩, List.mem_of_getElem? (i := 173) (by decide +kernel), List.mem_of_getElem? (i := 654) (by decide +kernel), List.mem_of_getElem? (i := 655) (by decide +kernel)⟩
theorem lw_p26 : lw_okq (⟨"HillDrums$Law", "aimHere", "(I)V"⟩, 4) := ⟨⟨by decide +kernel, by decide +kernel⟩, List.mem_of_getElem? (i := 54) (by decide +kernel), List.mem_of_getElem? (i := 659) (by decide +kernel), List.mem_of_getElem? (i := 660) (by decide +kernel)⟩
theorem lw_p27 : lw_okq (⟨"HillDrums$Reader", "parseRow", "(ILHillDrums$Row;)V"⟩, 9) := ⟨⟨by decide +kernel, by decide +kernel⟩, List.mem_of_getElem? (i := 173) (by decide +kernel), List.mem_of_getElem? (i := 663) (by decide +kernel), List.mem_of_getElem? (i := 664) (by decide +kernel)⟩
theorem lw_p28 : lw_okq (⟨"HillDrums$Reader", "parseOrder", "()V"⟩, 9) := ⟨⟨by decide +kernel, by decide +kernel⟩, List.mem_of_getElem? (i := 173) (by decide +kernel), List.mem_of_getElem? (i := 667) (by decide +kernel), List.mem_of_getElem? (i := 668) (by decide +kernel)⟩
theorem lw_p29 : lw_okq (⟨"HillDrums$Reader", "parseSleeper", "()V"⟩, 9) := ⟨⟨by decide +kernel, by decide +kernel⟩, List.mem_of_getElem? (i := 173) (by decide +kernel), List.mem_of_getElem? (i := 671) (by decide +kernel), List.mem_of_getElem? (i := 672) (by decide +kernel)⟩
theorem lw_p30 : lw_okq (⟨"HillDrums", "takeSpareText", "()V"⟩, 13) := ⟨⟨by decide +kernel, by decide +kernel⟩, List.mem_of_getElem? (i := 24) (by decide +kernel), List.mem_of_getElem? (i := 675) (by decide +kernel), List.mem_of_getElem? (i := 676) (by decide +kernel)⟩
theorem lw_p31 : lw_okq (⟨"HillDrums", "isHill", "(I)Z"⟩, 13) := ⟨⟨by decide +kernel, by decide +kernel⟩, List.mem_of_getElem? (i := 24) (by decide +kernel), List.mem_of_getElem? (i := 687) (by decide +kernel), List.mem_of_getElem? (i := 688) (by decide +kernel)⟩
def lw_privs_2 : List (MethodName × Nat) := [(⟨"HillDrums$Reader", "take", "(I)J"⟩, 9), (⟨"HillDrums$Reader", "takeNewName", "()J"⟩, 9), (⟨"HillDrums$Reader", "mean", "(II)V"⟩, 9), (⟨"HillDrums$Reader", "takeNumber", "(II)I"⟩, 9), (⟨"HillDrums$Reader", "parseNews", "()V"⟩, 9), (⟨"HillDrums$Reader", "takeOneOf", "([JI)I"⟩, 9), (⟨"HillDrums$Reader", "parseLaw", "()V"⟩, 9), (⟨"HillDrums$Reader", "parseSum", "(I)V"⟩, 9), (⟨"HillDrums$Reader", "parseProduct", "(I)V"⟩, 9), (⟨"HillDrums$Reader", "parseUnit", "(I)V"⟩, 9), (⟨"HillDrums$Law", "aimHere", "(I)V"⟩, 4), (⟨"HillDrums$Reader", "parseRow", "(ILHillDrums$Row;)V"⟩, 9), (⟨"HillDrums$Reader", "parseOrder", "()V"⟩, 9), (⟨"HillDrums$Reader", "parseSleeper", "()V"⟩, 9), (⟨"HillDrums", "takeSpareText", "()V"⟩, 13), (⟨"HillDrums", "isHill", "(I)Z"⟩, 13)]
theorem lw_r2 : ∀ q ∈ lw_privs_2, lw_okq q := List.forall_mem_cons.mpr ⟨lw_p16, List.forall_mem_cons.mpr ⟨lw_p17, List.forall_mem_cons.mpr ⟨lw_p18, List.forall_mem_cons.mpr ⟨lw_p19, List.forall_mem_cons.mpr ⟨lw_p20, List.forall_mem_cons.mpr ⟨lw_p21, List.forall_mem_cons.mpr ⟨lw_p22, List.forall_mem_cons.mpr ⟨lw_p23, List.forall_mem_cons.mpr ⟨lw_p24, List.forall_mem_cons.mpr ⟨lw_p25, List.forall_mem_cons.mpr ⟨lw_p26, List.forall_mem_cons.mpr ⟨lw_p27, List.forall_mem_cons.mpr ⟨lw_p28, List.forall_mem_cons.mpr ⟨lw_p29, List.forall_mem_cons.mpr ⟨lw_p30, List.forall_mem_cons.mpr ⟨lw_p31, fun _ h => absurd h List.not_mem_nil⟩⟩⟩⟩⟩⟩⟩⟩⟩⟩⟩⟩⟩⟩⟩⟩
theorem lw_p32 : lw_okq (⟨"HillDrums$Text", "lawTells", "(III)Z"⟩, 16) := ⟨⟨by decide +kernel, by decide +kernel⟩, List.mem_of_getElem? (i := 48) (by decide +kernel), List.mem_of_getElem? (i := 691) (by decide +kernel), List.mem_of_getElem? (i := 692) (by decide +kernel)⟩
theorem lw_p33 : lw_okq (⟨"HillDrums$Row", "on", "(I)I"⟩, 2) := ⟨⟨by decide +kernel, by decide +kernel⟩, List.mem_of_getElem? (i := 75) (by decide +kernel), List.mem_of_getElem? (i := 698) (by decide +kernel), List.mem_of_getElem? (i := 699) (by decide +kernel)⟩
theorem lw_p34 : lw_okq (⟨"HillDrums$Law", "value", "([I)I"⟩, 4) := ⟨⟨by decide +kernel, by decide +kernel⟩, List.mem_of_getElem? (i := 54) (by decide +kernel), List.mem_of_getElem? (i := 702) (by decide +kernel), List.mem_of_getElem? (i := 703) (by decide +kernel)⟩
theorem lw_p35 : lw_okq (⟨"HillDrums$Law", "push", "(I)V"⟩, 4) := ⟨⟨by decide +kernel, by decide +kernel⟩, List.mem_of_getElem? (i := 54) (by decide +kernel), List.mem_of_getElem? (i := 706) (by decide +kernel), List.mem_of_getElem? (i := 707) (by decide +kernel)⟩
theorem lw_p36 : lw_okq (⟨"HillDrums$Law", "pop", "()I"⟩, 4) := ⟨⟨by decide +kernel, by decide +kernel⟩, List.mem_of_getElem? (i := 54) (by decide +kernel), List.mem_of_getElem? (i := 710) (by decide +kernel), List.mem_of_getElem? (i := 711) (by decide +kernel)⟩
theorem lw_p37 : lw_okq (⟨"HillDrums", "isNews", "(I)Z"⟩, 13) := ⟨⟨by decide +kernel, by decide +kernel⟩, List.mem_of_getElem? (i := 24) (by decide +kernel), List.mem_of_getElem? (i := 721) (by decide +kernel), List.mem_of_getElem? (i := 722) (by decide +kernel)⟩
theorem lw_p38 : lw_okq (⟨"HillDrums$World", "knows", "(II)Z"⟩, 12) := ⟨⟨by decide +kernel, by decide +kernel⟩, List.mem_of_getElem? (i := 228) (by decide +kernel), List.mem_of_getElem? (i := 725) (by decide +kernel), List.mem_of_getElem? (i := 726) (by decide +kernel)⟩
theorem lw_p39 : lw_okq (⟨"HillDrums$World", "clashing", "()I"⟩, 12) := ⟨⟨by decide +kernel, by decide +kernel⟩, List.mem_of_getElem? (i := 228) (by decide +kernel), List.mem_of_getElem? (i := 730) (by decide +kernel), List.mem_of_getElem? (i := 731) (by decide +kernel)⟩
theorem lw_p40 : lw_okq (⟨"HillDrums$World", "isAble", "(II)Z"⟩, 12) := ⟨⟨by decide +kernel, by decide +kernel⟩, List.mem_of_getElem? (i := 228) (by decide +kernel), List.mem_of_getElem? (i := 742) (by decide +kernel), List.mem_of_getElem? (i := 743) (by decide +kernel)⟩
theorem lw_p41 : lw_okq (⟨"HillDrums$World", "isAnswer", "(IIIZ)Z"⟩, 12) := ⟨⟨by decide +kernel, by decide +kernel⟩, List.mem_of_getElem? (i := 228) (by decide +kernel), List.mem_of_getElem? (i := 747) (by decide +kernel), List.mem_of_getElem? (i := 748) (by decide +kernel)⟩
theorem lw_p42 : lw_okq (⟨"HillDrums$Text", "heardOn", "(I)J"⟩, 16) := ⟨⟨by decide +kernel, by decide +kernel⟩, List.mem_of_getElem? (i := 48) (by decide +kernel), List.mem_of_getElem? (i := 752) (by decide +kernel), List.mem_of_getElem? (i := 753) (by decide +kernel)⟩
theorem lw_p43 : lw_okq (⟨"HillDrums$Past", "push", "(LHillDrums$World;)V"⟩, 3) := ⟨⟨by decide +kernel, by decide +kernel⟩, List.mem_of_getElem? (i := 283) (by decide +kernel), List.mem_of_getElem? (i := 760) (by decide +kernel), List.mem_of_getElem? (i := 761) (by decide +kernel)⟩
theorem lw_p44 : lw_okq (⟨"HillDrums$World", "copy", "(LHillDrums$World;)V"⟩, 12) := ⟨⟨by decide +kernel, by decide +kernel⟩, List.mem_of_getElem? (i := 228) (by decide +kernel), List.mem_of_getElem? (i := 764) (by decide +kernel), List.mem_of_getElem? (i := 765) (by decide +kernel)⟩
theorem lw_p45 : lw_okq (⟨"HillDrums$World", "drumByDay", "(IIZI)V"⟩, 12) := ⟨⟨by decide +kernel, by decide +kernel⟩, List.mem_of_getElem? (i := 228) (by decide +kernel), List.mem_of_getElem? (i := 772) (by decide +kernel), List.mem_of_getElem? (i := 773) (by decide +kernel)⟩
theorem lw_p46 : lw_okq (⟨"HillDrums$World", "sound", "(IIZI)V"⟩, 12) := ⟨⟨by decide +kernel, by decide +kernel⟩, List.mem_of_getElem? (i := 228) (by decide +kernel), List.mem_of_getElem? (i := 776) (by decide +kernel), List.mem_of_getElem? (i := 777) (by decide +kernel)⟩
theorem lw_p47 : lw_okq (⟨"HillDrums$World", "noteOrigin", "(II)V"⟩, 12) := ⟨⟨by decide +kernel, by decide +kernel⟩, List.mem_of_getElem? (i := 228) (by decide +kernel), List.mem_of_getElem? (i := 780) (by decide +kernel), List.mem_of_getElem? (i := 781) (by decide +kernel)⟩
def lw_privs_3 : List (MethodName × Nat) := [(⟨"HillDrums$Text", "lawTells", "(III)Z"⟩, 16), (⟨"HillDrums$Row", "on", "(I)I"⟩, 2), (⟨"HillDrums$Law", "value", "([I)I"⟩, 4), (⟨"HillDrums$Law", "push", "(I)V"⟩, 4), (⟨"HillDrums$Law", "pop", "()I"⟩, 4), (⟨"HillDrums", "isNews", "(I)Z"⟩, 13), (⟨"HillDrums$World", "knows", "(II)Z"⟩, 12), (⟨"HillDrums$World", "clashing", "()I"⟩, 12), (⟨"HillDrums$World", "isAble", "(II)Z"⟩, 12), (⟨"HillDrums$World", "isAnswer", "(IIIZ)Z"⟩, 12), (⟨"HillDrums$Text", "heardOn", "(I)J"⟩, 16), (⟨"HillDrums$Past", "push", "(LHillDrums$World;)V"⟩, 3), (⟨"HillDrums$World", "copy", "(LHillDrums$World;)V"⟩, 12), (⟨"HillDrums$World", "drumByDay", "(IIZI)V"⟩, 12), (⟨"HillDrums$World", "sound", "(IIZI)V"⟩, 12), (⟨"HillDrums$World", "noteOrigin", "(II)V"⟩, 12)]
theorem lw_r3 : ∀ q ∈ lw_privs_3, lw_okq q := List.forall_mem_cons.mpr ⟨lw_p32, List.forall_mem_cons.mpr ⟨lw_p33, List.forall_mem_cons.mpr ⟨lw_p34, List.forall_mem_cons.mpr ⟨lw_p35, List.forall_mem_cons.mpr ⟨lw_p36, List.forall_mem_cons.mpr ⟨lw_p37, List.forall_mem_cons.mpr ⟨lw_p38, List.forall_mem_cons.mpr ⟨lw_p39, List.forall_mem_cons.mpr ⟨lw_p40, List.forall_mem_cons.mpr ⟨lw_p41, List.forall_mem_cons.mpr ⟨lw_p42, List.forall_mem_cons.mpr ⟨lw_p43, List.forall_mem_cons.mpr ⟨lw_p44, List.forall_mem_cons.mpr ⟨lw_p45, List.forall_mem_cons.mpr ⟨lw_p46, List.forall_mem_cons.mpr ⟨lw_p47, fun _ h => absurd h List.not_mem_nil⟩⟩⟩⟩⟩⟩⟩⟩⟩⟩⟩⟩⟩⟩⟩⟩
theorem lw_p48 : lw_okq (⟨"HillDrums$World", "passNight", "(LHillDrums$Text;I)V"⟩, 12) := ⟨⟨by decide +kernel, by decide +kernel⟩, List.mem_of_getElem? (i := 228) (by decide +kernel), List.mem_of_getElem? (i := 799) (by decide +kernel), List.mem_of_getElem? (i := 800) (by decide +kernel)⟩
theorem lw_p49 : lw_okq (⟨"HillDrums$World", "passDay", "(LHillDrums$Text;II)V"⟩, 12) := ⟨⟨by decide +kernel, by decide +kernel⟩, List.mem_of_getElem? (i := 228) (by decide +kernel), List.mem_of_getElem? (i := 809) (by decide +kernel), List.mem_of_getElem? (i := 810) (by decide +kernel)⟩
theorem lw_p50 : lw_okq (⟨"HillDrums$Past", "pop", "(LHillDrums$World;)Z"⟩, 3) := ⟨⟨by decide +kernel, by decide +kernel⟩, List.mem_of_getElem? (i := 283) (by decide +kernel), List.mem_of_getElem? (i := 821) (by decide +kernel), List.mem_of_getElem? (i := 822) (by decide +kernel)⟩
theorem lw_p51 : lw_okq (⟨"HillDrums", "daysTill", "(III)I"⟩, 13) := ⟨⟨by decide +kernel, by decide +kernel⟩, List.mem_of_getElem? (i := 24) (by decide +kernel), List.mem_of_getElem? (i := 836) (by decide +kernel), List.mem_of_getElem? (i := 837) (by decide +kernel)⟩
theorem lw_p52 : lw_okq (⟨"HillDrums$Text", "allHills", "()I"⟩, 16) := ⟨⟨by decide +kernel, by decide +kernel⟩, List.mem_of_getElem? (i := 48) (by decide +kernel), List.mem_of_getElem? (i := 853) (by decide +kernel), List.mem_of_getElem? (i := 854) (by decide +kernel)⟩
theorem lw_p53 : lw_okq (⟨"HillDrums$Plans", "fewestDays", "(LHillDrums$Text;LHillDrums$World;II)I"⟩, 4) := ⟨⟨by decide +kernel, by decide +kernel⟩, List.mem_of_getElem? (i := 323) (by decide +kernel), List.mem_of_getElem? (i := 868) (by decide +kernel), List.mem_of_getElem? (i := 869) (by decide +kernel)⟩
theorem lw_p54 : lw_okq (⟨"HillDrums$Plans", "setDay", "(LHillDrums$Text;I)V"⟩, 4) := ⟨⟨by decide +kernel, by decide +kernel⟩, List.mem_of_getElem? (i := 323) (by decide +kernel), List.mem_of_getElem? (i := 877) (by decide +kernel), List.mem_of_getElem? (i := 878) (by decide +kernel)⟩
theorem lw_p55 : lw_okq (⟨"HillDrums$Plans", "reachedNext", "(JI)J"⟩, 4) := ⟨⟨by decide +kernel, by decide +kernel⟩, List.mem_of_getElem? (i := 323) (by decide +kernel), List.mem_of_getElem? (i := 883) (by decide +kernel), List.mem_of_getElem? (i := 884) (by decide +kernel)⟩
theorem lw_p56 : lw_okq (⟨"HillDrums$Plans", "canSay", "(II)Z"⟩, 4) := ⟨⟨by decide +kernel, by decide +kernel⟩, List.mem_of_getElem? (i := 323) (by decide +kernel), List.mem_of_getElem? (i := 887) (by decide +kernel), List.mem_of_getElem? (i := 888) (by decide +kernel)⟩
theorem lw_p57 : lw_okq (⟨"HillDrums$Plans", "fewestDrums", "(LHillDrums$Text;LHillDrums$World;I)I"⟩, 4) := ⟨⟨by decide +kernel, by decide +kernel⟩, List.mem_of_getElem? (i := 323) (by decide +kernel), List.mem_of_getElem? (i := 899) (by decide +kernel), List.mem_of_getElem? (i := 900) (by decide +kernel)⟩
theorem lw_p58 : lw_okq (⟨"HillDrums$Plans", "spreadFewest", "(I)V"⟩, 4) := ⟨⟨by decide +kernel, by decide +kernel⟩, List.mem_of_getElem? (i := 323) (by decide +kernel), List.mem_of_getElem? (i := 906) (by decide +kernel), List.mem_of_getElem? (i := 907) (by decide +kernel)⟩
theorem lw_p59 : lw_okq (⟨"HillDrums$Loop", "seek", "(LHillDrums$Text;LHillDrums$World;III)V"⟩, 4) := ⟨⟨by decide +kernel, by decide +kernel⟩, List.mem_of_getElem? (i := 343) (by decide +kernel), List.mem_of_getElem? (i := 916) (by decide +kernel), List.mem_of_getElem? (i := 917) (by decide +kernel)⟩
theorem lw_p60 : lw_okq (⟨"HillDrums$Loop", "seekSecond", "(LHillDrums$Text;IIJ)V"⟩, 4) := ⟨⟨by decide +kernel, by decide +kernel⟩, List.mem_of_getElem? (i := 343) (by decide +kernel), List.mem_of_getElem? (i := 932) (by decide +kernel), List.mem_of_getElem? (i := 933) (by decide +kernel)⟩
theorem lw_p61 : lw_okq (⟨"HillDrums$Told", "add", "(III)I"⟩, 4) := ⟨⟨by decide +kernel, by decide +kernel⟩, List.mem_of_getElem? (i := 303) (by decide +kernel), List.mem_of_getElem? (i := 949) (by decide +kernel), List.mem_of_getElem? (i := 950) (by decide +kernel)⟩
theorem lw_p62 : lw_okq (⟨"HillDrums$Told", "daysNeeded", "(II)I"⟩, 4) := ⟨⟨by decide +kernel, by decide +kernel⟩, List.mem_of_getElem? (i := 303) (by decide +kernel), List.mem_of_getElem? (i := 961) (by decide +kernel), List.mem_of_getElem? (i := 962) (by decide +kernel)⟩
theorem lw_p63 : lw_okq (⟨"HillDrums$Told", "isSo", "(LHillDrums$World;II)Z"⟩, 4) := ⟨⟨by decide +kernel, by decide +kernel⟩, List.mem_of_getElem? (i := 303) (by decide +kernel), List.mem_of_getElem? (i := 967) (by decide +kernel), List.mem_of_getElem? (i := 968) (by decide +kernel)⟩
def lw_privs_4 : List (MethodName × Nat) := [(⟨"HillDrums$World", "passNight", "(LHillDrums$Text;I)V"⟩, 12), (⟨"HillDrums$World", "passDay", "(LHillDrums$Text;II)V"⟩, 12), (⟨"HillDrums$Past", "pop", "(LHillDrums$World;)Z"⟩, 3), (⟨"HillDrums", "daysTill", "(III)I"⟩, 13), (⟨"HillDrums$Text", "allHills", "()I"⟩, 16), (⟨"HillDrums$Plans", "fewestDays", "(LHillDrums$Text;LHillDrums$World;II)I"⟩, 4), (⟨"HillDrums$Plans", "setDay", "(LHillDrums$Text;I)V"⟩, 4), (⟨"HillDrums$Plans", "reachedNext", "(JI)J"⟩, 4), (⟨"HillDrums$Plans", "canSay", "(II)Z"⟩, 4), (⟨"HillDrums$Plans", "fewestDrums", "(LHillDrums$Text;LHillDrums$World;I)I"⟩, 4), (⟨"HillDrums$Plans", "spreadFewest", "(I)V"⟩, 4), (⟨"HillDrums$Loop", "seek", "(LHillDrums$Text;LHillDrums$World;III)V"⟩, 4), (⟨"HillDrums$Loop", "seekSecond", "(LHillDrums$Text;IIJ)V"⟩, 4), (⟨"HillDrums$Told", "add", "(III)I"⟩, 4), (⟨"HillDrums$Told", "daysNeeded", "(II)I"⟩, 4), (⟨"HillDrums$Told", "isSo", "(LHillDrums$World;II)Z"⟩, 4)]
theorem lw_r4 : ∀ q ∈ lw_privs_4, lw_okq q := List.forall_mem_cons.mpr ⟨lw_p48, List.forall_mem_cons.mpr ⟨lw_p49, List.forall_mem_cons.mpr ⟨lw_p50, List.forall_mem_cons.mpr ⟨lw_p51, List.forall_mem_cons.mpr ⟨lw_p52, List.forall_mem_cons.mpr ⟨lw_p53, List.forall_mem_cons.mpr ⟨lw_p54, List.forall_mem_cons.mpr ⟨lw_p55, List.forall_mem_cons.mpr ⟨lw_p56, List.forall_mem_cons.mpr ⟨lw_p57, List.forall_mem_cons.mpr ⟨lw_p58, List.forall_mem_cons.mpr ⟨lw_p59, List.forall_mem_cons.mpr ⟨lw_p60, List.forall_mem_cons.mpr ⟨lw_p61, List.forall_mem_cons.mpr ⟨lw_p62, List.forall_mem_cons.mpr ⟨lw_p63, fun _ h => absurd h List.not_mem_nil⟩⟩⟩⟩⟩⟩⟩⟩⟩⟩⟩⟩⟩⟩⟩⟩
theorem lw_p64 : lw_okq (⟨"HillDrumsModel", "begins", "()V"⟩, 69) := ⟨⟨by decide +kernel, by decide +kernel⟩, List.mem_of_getElem? (i := 985) (by decide +kernel), List.mem_of_getElem? (i := 998) (by decide +kernel), List.mem_of_getElem? (i := 999) (by decide +kernel)⟩
theorem lw_p65 : lw_okq (⟨"HillDrumsModel", "knowsFromBegin", "(II)V"⟩, 69) := ⟨⟨by decide +kernel, by decide +kernel⟩, List.mem_of_getElem? (i := 985) (by decide +kernel), List.mem_of_getElem? (i := 1002) (by decide +kernel), List.mem_of_getElem? (i := 1003) (by decide +kernel)⟩
theorem lw_p66 : lw_okq (⟨"HillDrumsModel", "keepsRow", "()V"⟩, 69) := ⟨⟨by decide +kernel, by decide +kernel⟩, List.mem_of_getElem? (i := 985) (by decide +kernel), List.mem_of_getElem? (i := 1006) (by decide +kernel), List.mem_of_getElem? (i := 1007) (by decide +kernel)⟩
theorem lw_p67 : lw_okq (⟨"HillDrumsModel", "put", "(I)V"⟩, 69) := ⟨⟨by decide +kernel, by decide +kernel⟩, List.mem_of_getElem? (i := 985) (by decide +kernel), List.mem_of_getElem? (i := 1221) (by decide +kernel), List.mem_of_getElem? (i := 1222) (by decide +kernel)⟩
theorem lw_p68 : lw_okq (⟨"HillDrumsModel", "cut", "()V"⟩, 69) := ⟨⟨by decide +kernel, by decide +kernel⟩, List.mem_of_getElem? (i := 985) (by decide +kernel), List.mem_of_getElem? (i := 1233) (by decide +kernel), List.mem_of_getElem? (i := 1234) (by decide +kernel)⟩
theorem lw_p69 : lw_okq (⟨"HillDrumsModel", "byteAt", "(I)I"⟩, 69) := ⟨⟨by decide +kernel, by decide +kernel⟩, List.mem_of_getElem? (i := 985) (by decide +kernel), List.mem_of_getElem? (i := 1237) (by decide +kernel), List.mem_of_getElem? (i := 1238) (by decide +kernel)⟩
theorem lw_p70 : lw_okq (⟨"HillDrumsModel", "token", "(IIIJ)V"⟩, 69) := ⟨⟨by decide +kernel, by decide +kernel⟩, List.mem_of_getElem? (i := 985) (by decide +kernel), List.mem_of_getElem? (i := 1241) (by decide +kernel), List.mem_of_getElem? (i := 1242) (by decide +kernel)⟩
theorem lw_p71 : lw_okq (⟨"HillDrumsModel", "sign", "(III)I"⟩, 69) := ⟨⟨by decide +kernel, by decide +kernel⟩, List.mem_of_getElem? (i := 985) (by decide +kernel), List.mem_of_getElem? (i := 1251) (by decide +kernel), List.mem_of_getElem? (i := 1252) (by decide +kernel)⟩
theorem lw_p72 : lw_okq (⟨"HillDrumsModel", "is", "(I)Z"⟩, 69) := ⟨⟨by decide +kernel, by decide +kernel⟩, List.mem_of_getElem? (i := 985) (by decide +kernel), List.mem_of_getElem? (i := 1255) (by decide +kernel), List.mem_of_getElem? (i := 1256) (by decide +kernel)⟩
theorem lw_p73 : lw_okq (⟨"HillDrumsModel", "tell", "()V"⟩, 69) := ⟨⟨by decide +kernel, by decide +kernel⟩, List.mem_of_getElem? (i := 985) (by decide +kernel), List.mem_of_getElem? (i := 1259) (by decide +kernel), List.mem_of_getElem? (i := 1260) (by decide +kernel)⟩
theorem lw_p74 : lw_okq (⟨"HillDrumsModel", "roomFor", "(II)V"⟩, 69) := ⟨⟨by decide +kernel, by decide +kernel⟩, List.mem_of_getElem? (i := 985) (by decide +kernel), List.mem_of_getElem? (i := 1263) (by decide +kernel), List.mem_of_getElem? (i := 1264) (by decide +kernel)⟩
theorem lw_p75 : lw_okq (⟨"HillDrumsModel", "fail", "(I)V"⟩, 69) := ⟨⟨by decide +kernel, by decide +kernel⟩, List.mem_of_getElem? (i := 985) (by decide +kernel), List.mem_of_getElem? (i := 1267) (by decide +kernel), List.mem_of_getElem? (i := 1268) (by decide +kernel)⟩
theorem lw_p76 : lw_okq (⟨"HillDrumsModel", "goesOn", "()V"⟩, 69) := ⟨⟨by decide +kernel, by decide +kernel⟩, List.mem_of_getElem? (i := 985) (by decide +kernel), List.mem_of_getElem? (i := 1271) (by decide +kernel), List.mem_of_getElem? (i := 1272) (by decide +kernel)⟩
theorem lw_p77 : lw_okq (⟨"HillDrumsModel", "tellHill", "()V"⟩, 69) := ⟨⟨by decide +kernel, by decide +kernel⟩, List.mem_of_getElem? (i := 985) (by decide +kernel), List.mem_of_getElem? (i := 1275) (by decide +kernel), List.mem_of_getElem? (i := 1276) (by decide +kernel)⟩
theorem lw_p78 : lw_okq (⟨"HillDrumsModel", "named", "()I"⟩, 69) := ⟨⟨by decide +kernel, by decide +kernel⟩, List.mem_of_getElem? (i := 985) (by decide +kernel), List.mem_of_getElem? (i := 1279) (by decide +kernel), List.mem_of_getElem? (i := 1280) (by decide +kernel)⟩
theorem lw_p79 : lw_okq (⟨"HillDrumsModel", "must", "(I)V"⟩, 69) := ⟨⟨by decide +kernel, by decide +kernel⟩, List.mem_of_getElem? (i := 985) (by decide +kernel), List.mem_of_getElem? (i := 1283) (by decide +kernel), List.mem_of_getElem? (i := 1284) (by decide +kernel)⟩
def lw_privs_5 : List (MethodName × Nat) := [(⟨"HillDrumsModel", "begins", "()V"⟩, 69), (⟨"HillDrumsModel", "knowsFromBegin", "(II)V"⟩, 69), (⟨"HillDrumsModel", "keepsRow", "()V"⟩, 69), (⟨"HillDrumsModel", "put", "(I)V"⟩, 69), (⟨"HillDrumsModel", "cut", "()V"⟩, 69), (⟨"HillDrumsModel", "byteAt", "(I)I"⟩, 69), (⟨"HillDrumsModel", "token", "(IIIJ)V"⟩, 69), (⟨"HillDrumsModel", "sign", "(III)I"⟩, 69), (⟨"HillDrumsModel", "is", "(I)Z"⟩, 69), (⟨"HillDrumsModel", "tell", "()V"⟩, 69), (⟨"HillDrumsModel", "roomFor", "(II)V"⟩, 69), (⟨"HillDrumsModel", "fail", "(I)V"⟩, 69), (⟨"HillDrumsModel", "goesOn", "()V"⟩, 69), (⟨"HillDrumsModel", "tellHill", "()V"⟩, 69), (⟨"HillDrumsModel", "named", "()I"⟩, 69), (⟨"HillDrumsModel", "must", "(I)V"⟩, 69)]
theorem lw_r5 : ∀ q ∈ lw_privs_5, lw_okq q := List.forall_mem_cons.mpr ⟨lw_p64, List.forall_mem_cons.mpr ⟨lw_p65, List.forall_mem_cons.mpr ⟨lw_p66, List.forall_mem_cons.mpr ⟨lw_p67, List.forall_mem_cons.mpr ⟨lw_p68, List.forall_mem_cons.mpr ⟨lw_p69, List.forall_mem_cons.mpr ⟨lw_p70, List.forall_mem_cons.mpr ⟨lw_p71, List.forall_mem_cons.mpr ⟨lw_p72, List.forall_mem_cons.mpr ⟨lw_p73, List.forall_mem_cons.mpr ⟨lw_p74, List.forall_mem_cons.mpr ⟨lw_p75, List.forall_mem_cons.mpr ⟨lw_p76, List.forall_mem_cons.mpr ⟨lw_p77, List.forall_mem_cons.mpr ⟨lw_p78, List.forall_mem_cons.mpr ⟨lw_p79, fun _ h => absurd h List.not_mem_nil⟩⟩⟩⟩⟩⟩⟩⟩⟩⟩⟩⟩⟩⟩⟩⟩
theorem lw_p80 : lw_okq (⟨"HillDrumsModel", "wrong", "(II)V"⟩, 69) := ⟨⟨by decide +kernel, by decide +kernel⟩, List.mem_of_getElem? (i := 985) (by decide +kernel), List.mem_of_getElem? (i := 1287) (by decide +kernel), List.mem_of_getElem? (i := 1288) (by decide +kernel)⟩
theorem lw_p81 : lw_okq (⟨"HillDrumsModel", "bounded", "(II)I"⟩, 69) := ⟨⟨by decide +kernel, by decide +kernel⟩, List.mem_of_getElem? (i := 985) (by decide +kernel), List.mem_of_getElem? (i := 1291) (by decide +kernel), List.mem_of_getElem? (i := 1292) (by decide +kernel)⟩
theorem lw_p82 : lw_okq (⟨"HillDrumsModel", "notes", "(III)V"⟩, 69) := ⟨⟨by decide +kernel, by decide +kernel⟩, List.mem_of_getElem? (i := 985) (by decide +kernel), List.mem_of_getElem? (i := 1295) (by decide +kernel), List.mem_of_getElem? (i := 1296) (by decide +kernel)⟩
theorem lw_p83 : lw_okq (⟨"HillDrumsModel", "tellNews", "()V"⟩, 69) := ⟨⟨by decide +kernel, by decide +kernel⟩, List.mem_of_getElem? (i := 985) (by decide +kernel), List.mem_of_getElem? (i := 1299) (by decide +kernel), List.mem_of_getElem? (i := 1300) (by decide +kernel)⟩
theorem lw_p84 : lw_okq (⟨"HillDrumsModel", "known", "(I)I"⟩, 69) := ⟨⟨by decide +kernel, by decide +kernel⟩, List.mem_of_getElem? (i := 985) (by decide +kernel), List.mem_of_getElem? (i := 1303) (by decide +kernel), List.mem_of_getElem? (i := 1304) (by decide +kernel)⟩
theorem lw_p85 : lw_okq (⟨"HillDrumsModel", "tellLaw", "()V"⟩, 69) := ⟨⟨by decide +kernel, by decide +kernel⟩, List.mem_of_getElem? (i := 985) (by decide +kernel), List.mem_of_getElem? (i := 1307) (by decide +kernel), List.mem_of_getElem? (i := 1308) (by decide +kernel)⟩
theorem lw_p86 : lw_okq (⟨"HillDrumsModel", "expression", "()V"⟩, 69) := ⟨⟨by decide +kernel, by decide +kernel⟩, List.mem_of_getElem? (i := 985) (by decide +kernel), List.mem_of_getElem? (i := 1311) (by decide +kernel), List.mem_of_getElem? (i := 1312) (by decide +kernel)⟩
theorem lw_p87 : lw_okq (⟨"HillDrumsModel", "unit", "()V"⟩, 69) := ⟨⟨by decide +kernel, by decide +kernel⟩, List.mem_of_getElem? (i := 985) (by decide +kernel), List.mem_of_getElem? (i := 1315) (by decide +kernel), List.mem_of_getElem? (i := 1316) (by decide +kernel)⟩
theorem lw_p88 : lw_okq (⟨"HillDrumsModel", "emit", "(II)V"⟩, 69) := ⟨⟨by decide +kernel, by decide +kernel⟩, List.mem_of_getElem? (i := 985) (by decide +kernel), List.mem_of_getElem? (i := 1319) (by decide +kernel), List.mem_of_getElem? (i := 1320) (by decide +kernel)⟩
theorem lw_p89 : lw_okq (⟨"HillDrumsModel", "comesOut", "(Z)V"⟩, 69) := ⟨⟨by decide +kernel, by decide +kernel⟩, List.mem_of_getElem? (i := 985) (by decide +kernel), List.mem_of_getElem? (i := 1323) (by decide +kernel), List.mem_of_getElem? (i := 1324) (by decide +kernel)⟩
theorem lw_p90 : lw_okq (⟨"HillDrumsModel", "term", "()V"⟩, 69) := ⟨⟨by decide +kernel, by decide +kernel⟩, List.mem_of_getElem? (i := 985) (by decide +kernel), List.mem_of_getElem? (i := 1327) (by decide +kernel), List.mem_of_getElem? (i := 1328) (by decide +kernel)⟩
theorem lw_p91 : lw_okq (⟨"HillDrumsModel", "tellWeather", "(I)V"⟩, 69) := ⟨⟨by decide +kernel, by decide +kernel⟩, List.mem_of_getElem? (i := 985) (by decide +kernel), List.mem_of_getElem? (i := 1331) (by decide +kernel), List.mem_of_getElem? (i := 1332) (by decide +kernel)⟩
theorem lw_p92 : lw_okq (⟨"HillDrumsModel", "tellSleeper", "()V"⟩, 69) := ⟨⟨by decide +kernel, by decide +kernel⟩, List.mem_of_getElem? (i := 985) (by decide +kernel), List.mem_of_getElem? (i := 1335) (by decide +kernel), List.mem_of_getElem? (i := 1336) (by decide +kernel)⟩
theorem lw_p93 : lw_okq (⟨"HillDrumsModel", "isHill", "(I)Z"⟩, 69) := ⟨⟨by decide +kernel, by decide +kernel⟩, List.mem_of_getElem? (i := 985) (by decide +kernel), List.mem_of_getElem? (i := 1347) (by decide +kernel), List.mem_of_getElem? (i := 1348) (by decide +kernel)⟩
theorem lw_p94 : lw_okq (⟨"HillDrumsModel", "isHeardBy", "(III)Z"⟩, 69) := ⟨⟨by decide +kernel, by decide +kernel⟩, List.mem_of_getElem? (i := 985) (by decide +kernel), List.mem_of_getElem? (i := 1354) (by decide +kernel), List.mem_of_getElem? (i := 1355) (by decide +kernel)⟩
theorem lw_p95 : lw_okq (⟨"HillDrumsModel", "tellsOf", "(III)I"⟩, 69) := ⟨⟨by decide +kernel, by decide +kernel⟩, List.mem_of_getElem? (i := 985) (by decide +kernel), List.mem_of_getElem? (i := 1358) (by decide +kernel), List.mem_of_getElem? (i := 1359) (by decide +kernel)⟩
def lw_privs_6 : List (MethodName × Nat) := [(⟨"HillDrumsModel", "wrong", "(II)V"⟩, 69), (⟨"HillDrumsModel", "bounded", "(II)I"⟩, 69), (⟨"HillDrumsModel", "notes", "(III)V"⟩, 69), (⟨"HillDrumsModel", "tellNews", "()V"⟩, 69), (⟨"HillDrumsModel", "known", "(I)I"⟩, 69), (⟨"HillDrumsModel", "tellLaw", "()V"⟩, 69), (⟨"HillDrumsModel", "expression", "()V"⟩, 69), (⟨"HillDrumsModel", "unit", "()V"⟩, 69), (⟨"HillDrumsModel", "emit", "(II)V"⟩, 69), (⟨"HillDrumsModel", "comesOut", "(Z)V"⟩, 69), (⟨"HillDrumsModel", "term", "()V"⟩, 69), (⟨"HillDrumsModel", "tellWeather", "(I)V"⟩, 69), (⟨"HillDrumsModel", "tellSleeper", "()V"⟩, 69), (⟨"HillDrumsModel", "isHill", "(I)Z"⟩, 69), (⟨"HillDrumsModel", "isHeardBy", "(III)Z"⟩, 69), (⟨"HillDrumsModel", "tellsOf", "(III)I"⟩, 69)]
theorem lw_r6 : ∀ q ∈ lw_privs_6, lw_okq q := List.forall_mem_cons.mpr ⟨lw_p80, List.forall_mem_cons.mpr ⟨lw_p81, List.forall_mem_cons.mpr ⟨lw_p82, List.forall_mem_cons.mpr ⟨lw_p83, List.forall_mem_cons.mpr ⟨lw_p84, List.forall_mem_cons.mpr ⟨lw_p85, List.forall_mem_cons.mpr ⟨lw_p86, List.forall_mem_cons.mpr ⟨lw_p87, List.forall_mem_cons.mpr ⟨lw_p88, List.forall_mem_cons.mpr ⟨lw_p89, List.forall_mem_cons.mpr ⟨lw_p90, List.forall_mem_cons.mpr ⟨lw_p91, List.forall_mem_cons.mpr ⟨lw_p92, List.forall_mem_cons.mpr ⟨lw_p93, List.forall_mem_cons.mpr ⟨lw_p94, List.forall_mem_cons.mpr ⟨lw_p95, fun _ h => absurd h List.not_mem_nil⟩⟩⟩⟩⟩⟩⟩⟩⟩⟩⟩⟩⟩⟩⟩⟩
theorem lw_p96 : lw_okq (⟨"HillDrumsModel", "weatherOn", "(II)I"⟩, 69) := ⟨⟨by decide +kernel, by decide +kernel⟩, List.mem_of_getElem? (i := 985) (by decide +kernel), List.mem_of_getElem? (i := 1365) (by decide +kernel), List.mem_of_getElem? (i := 1366) (by decide +kernel)⟩
theorem lw_p97 : lw_okq (⟨"HillDrumsModel", "termOf", "(II)I"⟩, 69) := ⟨⟨by decide +kernel, by decide +kernel⟩, List.mem_of_getElem? (i := 985) (by decide +kernel), List.mem_of_getElem? (i := 1369) (by decide +kernel), List.mem_of_getElem? (i := 1370) (by decide +kernel)⟩
theorem lw_p98 : lw_okq (⟨"HillDrumsModel", "isNews", "(I)Z"⟩, 69) := ⟨⟨by decide +kernel, by decide +kernel⟩, List.mem_of_getElem? (i := 985) (by decide +kernel), List.mem_of_getElem? (i := 1377) (by decide +kernel), List.mem_of_getElem? (i := 1378) (by decide +kernel)⟩
theorem lw_p99 : lw_okq (⟨"HillDrumsModel", "mayNow", "(IIZ)I"⟩, 69) := ⟨⟨by decide +kernel, by decide +kernel⟩, List.mem_of_getElem? (i := 985) (by decide +kernel), List.mem_of_getElem? (i := 1385) (by decide +kernel), List.mem_of_getElem? (i := 1386) (by decide +kernel)⟩
theorem lw_p100 : lw_okq (⟨"HillDrumsModel", "copies", "()V"⟩, 69) := ⟨⟨by decide +kernel, by decide +kernel⟩, List.mem_of_getElem? (i := 985) (by decide +kernel), List.mem_of_getElem? (i := 1389) (by decide +kernel), List.mem_of_getElem? (i := 1390) (by decide +kernel)⟩
theorem lw_p101 : lw_okq (⟨"HillDrumsModel", "knows", "(II)Z"⟩, 69) := ⟨⟨by decide +kernel, by decide +kernel⟩, List.mem_of_getElem? (i := 985) (by decide +kernel), List.mem_of_getElem? (i := 1393) (by decide +kernel), List.mem_of_getElem? (i := 1394) (by decide +kernel)⟩
theorem lw_p102 : lw_okq (⟨"HillDrumsModel", "isAnswer", "(III)Z"⟩, 69) := ⟨⟨by decide +kernel, by decide +kernel⟩, List.mem_of_getElem? (i := 985) (by decide +kernel), List.mem_of_getElem? (i := 1397) (by decide +kernel), List.mem_of_getElem? (i := 1398) (by decide +kernel)⟩
theorem lw_p103 : lw_okq (⟨"HillDrumsModel", "fillsHearers", "(I)V"⟩, 69) := ⟨⟨by decide +kernel, by decide +kernel⟩, List.mem_of_getElem? (i := 985) (by decide +kernel), List.mem_of_getElem? (i := 1401) (by decide +kernel), List.mem_of_getElem? (i := 1402) (by decide +kernel)⟩
theorem lw_p104 : lw_okq (⟨"HillDrumsModel", "drumsNow", "(III)I"⟩, 69) := ⟨⟨by decide +kernel, by decide +kernel⟩, List.mem_of_getElem? (i := 985) (by decide +kernel), List.mem_of_getElem? (i := 1405) (by decide +kernel), List.mem_of_getElem? (i := 1406) (by decide +kernel)⟩
theorem lw_p105 : lw_okq (⟨"HillDrumsModel", "spreads", "(IIII)I"⟩, 69) := ⟨⟨by decide +kernel, by decide +kernel⟩, List.mem_of_getElem? (i := 985) (by decide +kernel), List.mem_of_getElem? (i := 1409) (by decide +kernel), List.mem_of_getElem? (i := 1410) (by decide +kernel)⟩
theorem lw_p106 : lw_okq (⟨"HillDrumsModel", "keeps", "()V"⟩, 69) := ⟨⟨by decide +kernel, by decide +kernel⟩, List.mem_of_getElem? (i := 985) (by decide +kernel), List.mem_of_getElem? (i := 1413) (by decide +kernel), List.mem_of_getElem? (i := 1414) (by decide +kernel)⟩
theorem lw_p107 : lw_okq (⟨"HillDrumsModel", "nightGoes", "()V"⟩, 69) := ⟨⟨by decide +kernel, by decide +kernel⟩, List.mem_of_getElem? (i := 985) (by decide +kernel), List.mem_of_getElem? (i := 1429) (by decide +kernel), List.mem_of_getElem? (i := 1430) (by decide +kernel)⟩
theorem lw_p108 : lw_okq (⟨"HillDrumsModel", "dayByRule", "()V"⟩, 69) := ⟨⟨by decide +kernel, by decide +kernel⟩, List.mem_of_getElem? (i := 985) (by decide +kernel), List.mem_of_getElem? (i := 1437) (by decide +kernel), List.mem_of_getElem? (i := 1438) (by decide +kernel)⟩
theorem lw_p109 : lw_okq (⟨"HillDrumsModel", "isLawful", "(III)Z"⟩, 69) := ⟨⟨by decide +kernel, by decide +kernel⟩, List.mem_of_getElem? (i := 985) (by decide +kernel), List.mem_of_getElem? (i := 1441) (by decide +kernel), List.mem_of_getElem? (i := 1442) (by decide +kernel)⟩
theorem lw_p110 : lw_okq (⟨"HillDrumsModel", "knownBy", "(II)I"⟩, 69) := ⟨⟨by decide +kernel, by decide +kernel⟩, List.mem_of_getElem? (i := 985) (by decide +kernel), List.mem_of_getElem? (i := 1453) (by decide +kernel), List.mem_of_getElem? (i := 1454) (by decide +kernel)⟩
theorem lw_p111 : lw_okq (⟨"HillDrumsModel", "allKnow", "(I)Z"⟩, 69) := ⟨⟨by decide +kernel, by decide +kernel⟩, List.mem_of_getElem? (i := 985) (by decide +kernel), List.mem_of_getElem? (i := 1469) (by decide +kernel), List.mem_of_getElem? (i := 1470) (by decide +kernel)⟩
def lw_privs_7 : List (MethodName × Nat) := [(⟨"HillDrumsModel", "weatherOn", "(II)I"⟩, 69), (⟨"HillDrumsModel", "termOf", "(II)I"⟩, 69), (⟨"HillDrumsModel", "isNews", "(I)Z"⟩, 69), (⟨"HillDrumsModel", "mayNow", "(IIZ)I"⟩, 69), (⟨"HillDrumsModel", "copies", "()V"⟩, 69), (⟨"HillDrumsModel", "knows", "(II)Z"⟩, 69), (⟨"HillDrumsModel", "isAnswer", "(III)Z"⟩, 69), (⟨"HillDrumsModel", "fillsHearers", "(I)V"⟩, 69), (⟨"HillDrumsModel", "drumsNow", "(III)I"⟩, 69), (⟨"HillDrumsModel", "spreads", "(IIII)I"⟩, 69), (⟨"HillDrumsModel", "keeps", "()V"⟩, 69), (⟨"HillDrumsModel", "nightGoes", "()V"⟩, 69), (⟨"HillDrumsModel", "dayByRule", "()V"⟩, 69), (⟨"HillDrumsModel", "isLawful", "(III)Z"⟩, 69), (⟨"HillDrumsModel", "knownBy", "(II)I"⟩, 69), (⟨"HillDrumsModel", "allKnow", "(I)Z"⟩, 69)]
theorem lw_r7 : ∀ q ∈ lw_privs_7, lw_okq q := List.forall_mem_cons.mpr ⟨lw_p96, List.forall_mem_cons.mpr ⟨lw_p97, List.forall_mem_cons.mpr ⟨lw_p98, List.forall_mem_cons.mpr ⟨lw_p99, List.forall_mem_cons.mpr ⟨lw_p100, List.forall_mem_cons.mpr ⟨lw_p101, List.forall_mem_cons.mpr ⟨lw_p102, List.forall_mem_cons.mpr ⟨lw_p103, List.forall_mem_cons.mpr ⟨lw_p104, List.forall_mem_cons.mpr ⟨lw_p105, List.forall_mem_cons.mpr ⟨lw_p106, List.forall_mem_cons.mpr ⟨lw_p107, List.forall_mem_cons.mpr ⟨lw_p108, List.forall_mem_cons.mpr ⟨lw_p109, List.forall_mem_cons.mpr ⟨lw_p110, List.forall_mem_cons.mpr ⟨lw_p111, fun _ h => absurd h List.not_mem_nil⟩⟩⟩⟩⟩⟩⟩⟩⟩⟩⟩⟩⟩⟩⟩⟩
theorem lw_p112 : lw_okq (⟨"HillDrumsModel", "daysTo", "(II)I"⟩, 69) := ⟨⟨by decide +kernel, by decide +kernel⟩, List.mem_of_getElem? (i := 985) (by decide +kernel), List.mem_of_getElem? (i := 1481) (by decide +kernel), List.mem_of_getElem? (i := 1482) (by decide +kernel)⟩
theorem lw_p113 : lw_okq (⟨"HillDrumsModel", "startsPlan", "(I)V"⟩, 69) := ⟨⟨by decide +kernel, by decide +kernel⟩, List.mem_of_getElem? (i := 985) (by decide +kernel), List.mem_of_getElem? (i := 1485) (by decide +kernel), List.mem_of_getElem? (i := 1486) (by decide +kernel)⟩
theorem lw_p114 : lw_okq (⟨"HillDrumsModel", "isReached", "(I)Z"⟩, 69) := ⟨⟨by decide +kernel, by decide +kernel⟩, List.mem_of_getElem? (i := 985) (by decide +kernel), List.mem_of_getElem? (i := 1489) (by decide +kernel), List.mem_of_getElem? (i := 1490) (by decide +kernel)⟩
theorem lw_p115 : lw_okq (⟨"HillDrumsModel", "planDay", "(I)V"⟩, 69) := ⟨⟨by decide +kernel, by decide +kernel⟩, List.mem_of_getElem? (i := 985) (by decide +kernel), List.mem_of_getElem? (i := 1493) (by decide +kernel), List.mem_of_getElem? (i := 1494) (by decide +kernel)⟩
theorem lw_p116 : lw_okq (⟨"HillDrumsModel", "canDrum", "(I)Z"⟩, 69) := ⟨⟨by decide +kernel, by decide +kernel⟩, List.mem_of_getElem? (i := 985) (by decide +kernel), List.mem_of_getElem? (i := 1497) (by decide +kernel), List.mem_of_getElem? (i := 1498) (by decide +kernel)⟩
theorem lw_p117 : lw_okq (⟨"HillDrumsModel", "heardOf", "(I)I"⟩, 69) := ⟨⟨by decide +kernel, by decide +kernel⟩, List.mem_of_getElem? (i := 985) (by decide +kernel), List.mem_of_getElem? (i := 1501) (by decide +kernel), List.mem_of_getElem? (i := 1502) (by decide +kernel)⟩
theorem lw_p118 : lw_okq (⟨"HillDrumsModel", "canHole", "(III)Z"⟩, 69) := ⟨⟨by decide +kernel, by decide +kernel⟩, List.mem_of_getElem? (i := 985) (by decide +kernel), List.mem_of_getElem? (i := 1520) (by decide +kernel), List.mem_of_getElem? (i := 1521) (by decide +kernel)⟩
theorem lw_p119 : lw_okq (⟨"HillDrumsModel", "findsHole", "(III)Z"⟩, 69) := ⟨⟨by decide +kernel, by decide +kernel⟩, List.mem_of_getElem? (i := 985) (by decide +kernel), List.mem_of_getElem? (i := 1524) (by decide +kernel), List.mem_of_getElem? (i := 1525) (by decide +kernel)⟩
theorem lw_p120 : lw_okq (⟨"HillDrumsModel", "beginsHole", "(II)Z"⟩, 69) := ⟨⟨by decide +kernel, by decide +kernel⟩, List.mem_of_getElem? (i := 985) (by decide +kernel), List.mem_of_getElem? (i := 1528) (by decide +kernel), List.mem_of_getElem? (i := 1529) (by decide +kernel)⟩
theorem lw_p121 : lw_okq (⟨"HillDrumsModel", "endsBy", "(IIII)Z"⟩, 69) := ⟨⟨by decide +kernel, by decide +kernel⟩, List.mem_of_getElem? (i := 985) (by decide +kernel), List.mem_of_getElem? (i := 1532) (by decide +kernel), List.mem_of_getElem? (i := 1533) (by decide +kernel)⟩
theorem lw_p122 : lw_okq (⟨"HillDrumsModel", "isSo", "(III)Z"⟩, 69) := ⟨⟨by decide +kernel, by decide +kernel⟩, List.mem_of_getElem? (i := 985) (by decide +kernel), List.mem_of_getElem? (i := 1560) (by decide +kernel), List.mem_of_getElem? (i := 1561) (by decide +kernel)⟩
def lw_privs_8 : List (MethodName × Nat) := [(⟨"HillDrumsModel", "daysTo", "(II)I"⟩, 69), (⟨"HillDrumsModel", "startsPlan", "(I)V"⟩, 69), (⟨"HillDrumsModel", "isReached", "(I)Z"⟩, 69), (⟨"HillDrumsModel", "planDay", "(I)V"⟩, 69), (⟨"HillDrumsModel", "canDrum", "(I)Z"⟩, 69), (⟨"HillDrumsModel", "heardOf", "(I)I"⟩, 69), (⟨"HillDrumsModel", "canHole", "(III)Z"⟩, 69), (⟨"HillDrumsModel", "findsHole", "(III)Z"⟩, 69), (⟨"HillDrumsModel", "beginsHole", "(II)Z"⟩, 69), (⟨"HillDrumsModel", "endsBy", "(IIII)Z"⟩, 69), (⟨"HillDrumsModel", "isSo", "(III)Z"⟩, 69)]
theorem lw_r8 : ∀ q ∈ lw_privs_8, lw_okq q := List.forall_mem_cons.mpr ⟨lw_p112, List.forall_mem_cons.mpr ⟨lw_p113, List.forall_mem_cons.mpr ⟨lw_p114, List.forall_mem_cons.mpr ⟨lw_p115, List.forall_mem_cons.mpr ⟨lw_p116, List.forall_mem_cons.mpr ⟨lw_p117, List.forall_mem_cons.mpr ⟨lw_p118, List.forall_mem_cons.mpr ⟨lw_p119, List.forall_mem_cons.mpr ⟨lw_p120, List.forall_mem_cons.mpr ⟨lw_p121, List.forall_mem_cons.mpr ⟨lw_p122, fun _ h => absurd h List.not_mem_nil⟩⟩⟩⟩⟩⟩⟩⟩⟩⟩⟩
def lw_privs : List (MethodName × Nat) := lw_privs_1 ++ (lw_privs_2 ++ (lw_privs_3 ++ (lw_privs_4 ++ (lw_privs_5 ++ (lw_privs_6 ++ (lw_privs_7 ++ (lw_privs_8)))))))
def lw_tbl : List Cond := k2_sels lw_privs ++ tables_1
theorem lw_privs_ok : ∀ q ∈ lw_privs, lw_okq q := by
  show ∀ q ∈ lw_privs_1 ++ (lw_privs_2 ++ (lw_privs_3 ++ (lw_privs_4 ++ (lw_privs_5 ++ (lw_privs_6 ++ (lw_privs_7 ++ (lw_privs_8))))))), lw_okq q
  exact List.forall_mem_append.mpr ⟨lw_r1, List.forall_mem_append.mpr ⟨lw_r2, List.forall_mem_append.mpr ⟨lw_r3, List.forall_mem_append.mpr ⟨lw_r4, List.forall_mem_append.mpr ⟨lw_r5, List.forall_mem_append.mpr ⟨lw_r6, List.forall_mem_append.mpr ⟨lw_r7, lw_r8⟩⟩⟩⟩⟩⟩⟩
-- ===== end of PART A; then your names; then what follows =====
def RX0 : String := "HillDrums$Law"
def TX0 : u_T := fun k => match k with
  | 0 => ("HillDrums$Law", "cells", "[I", true)
  | 1 => ("HillDrums$Law", "stack", "[I", true)
  | 2 => ("HillDrums$Law", "length", "I", false)
  | _ => ("HillDrums$Law", "top", "I", false)
def tyX0 : Nat → FieldType := fun k => match k with
  | 0 => .array .int
  | 1 => .array .int
  | 2 => .int
  | _ => .int
theorem nmX0 : ∀ a, a < 4 → ∀ b, b < 4 → a ≠ b → (TX0 a).2.1 ≠ (TX0 b).2.1 := by decide +kernel
theorem tyX0_ok : ∀ k, k < 4 → parseFieldDescriptor (TX0 k).2.2.1 = some (tyX0 k) := by decide +kernel
abbrev cX0_init : ByteArray := prog_2_method_1_code
def yX0_init : MethodName := ⟨RX0, "<init>", "()V"⟩
abbrev cX0_setUsual : ByteArray := prog_2_method_2_code
def yX0_setUsual : MethodName := ⟨RX0, "setUsual", "()V"⟩
abbrev cX0_add : ByteArray := prog_2_method_3_code
def yX0_add : MethodName := ⟨RX0, "add", "(I)I"⟩
abbrev cX0_aimHere : ByteArray := prog_2_method_4_code
def yX0_aimHere : MethodName := ⟨RX0, "aimHere", "(I)V"⟩
abbrev cX0_value : ByteArray := prog_2_method_5_code
def yX0_value : MethodName := ⟨RX0, "value", "([I)I"⟩
abbrev cX0_joined : ByteArray := prog_2_method_6_code
def yX0_joined : MethodName := ⟨RX0, "joined", "(III)I"⟩
abbrev cX0_push : ByteArray := prog_2_method_7_code
def yX0_push : MethodName := ⟨RX0, "push", "(I)V"⟩
abbrev cX0_pop : ByteArray := prog_2_method_8_code
def yX0_pop : MethodName := ⟨RX0, "pop", "()I"⟩
def RX1 : String := "HillDrums$Loop"
def TX1 : u_T := fun k => match k with
  | 0 => ("HillDrums$Loop", "found", "[I", true)
  | 1 => ("HillDrums$Loop", "length", "I", false)
  | 2 => ("HillDrums$Loop", "behindFirst", "LHillDrums$World;", true)
  | _ => ("HillDrums$Loop", "behindSecond", "LHillDrums$World;", true)
def tyX1 : Nat → FieldType := fun k => match k with
  | 0 => .array .int
  | 1 => .int
  | 2 => .object "HillDrums$World"
  | _ => .object "HillDrums$World"
theorem nmX1 : ∀ a, a < 4 → ∀ b, b < 4 → a ≠ b → (TX1 a).2.1 ≠ (TX1 b).2.1 := by decide +kernel
theorem tyX1_ok : ∀ k, k < 4 → parseFieldDescriptor (TX1 k).2.2.1 = some (tyX1 k) := by decide +kernel
abbrev cX1_init : ByteArray := prog_3_method_1_code
def yX1_init : MethodName := ⟨RX1, "<init>", "()V"⟩
abbrev cX1_seek : ByteArray := prog_3_method_2_code
def yX1_seek : MethodName := ⟨RX1, "seek", "(LHillDrums$Text;LHillDrums$World;III)V"⟩
abbrev cX1_seekSecond : ByteArray := prog_3_method_3_code
def yX1_seekSecond : MethodName := ⟨RX1, "seekSecond", "(LHillDrums$Text;IIJ)V"⟩
abbrev cX1_lastDrum : ByteArray := prog_3_method_4_code
def yX1_lastDrum : MethodName := ⟨RX1, "lastDrum", "(LHillDrums$Text;LHillDrums$World;II)I"⟩
abbrev cX1_codeOf : ByteArray := prog_3_method_5_code
def yX1_codeOf : MethodName := ⟨RX1, "codeOf", "(IIZ)I"⟩
def RX2 : String := "HillDrums$Past"
def TX2 : u_T := fun k => match k with
  | 0 => ("HillDrums$Past", "worlds", "[LHillDrums$World;", true)
  | 1 => ("HillDrums$Past", "next", "I", false)
  | _ => ("HillDrums$Past", "size", "I", false)
def tyX2 : Nat → FieldType := fun k => match k with
  | 0 => .array (.object "HillDrums$World")
  | 1 => .int
  | _ => .int
theorem nmX2 : ∀ a, a < 3 → ∀ b, b < 3 → a ≠ b → (TX2 a).2.1 ≠ (TX2 b).2.1 := by decide +kernel
theorem tyX2_ok : ∀ k, k < 3 → parseFieldDescriptor (TX2 k).2.2.1 = some (tyX2 k) := by decide +kernel
abbrev cX2_init : ByteArray := prog_4_method_1_code
def yX2_init : MethodName := ⟨RX2, "<init>", "()V"⟩
abbrev cX2_push : ByteArray := prog_4_method_2_code
def yX2_push : MethodName := ⟨RX2, "push", "(LHillDrums$World;)V"⟩
abbrev cX2_pop : ByteArray := prog_4_method_3_code
def yX2_pop : MethodName := ⟨RX2, "pop", "(LHillDrums$World;)Z"⟩
def RX3 : String := "HillDrums$Plans"
def TX3 : u_T := fun k => match k with
  | 0 => ("HillDrums$Plans", "heardBy", "[I", true)
  | 1 => ("HillDrums$Plans", "lawful", "[Z", true)
  | 2 => ("HillDrums$Plans", "fewest", "[I", false)
  | _ => ("HillDrums$Plans", "fewestNext", "[I", false)
def tyX3 : Nat → FieldType := fun k => match k with
  | 0 => .array .int
  | 1 => .array .boolean
  | 2 => .array .int
  | _ => .array .int
theorem nmX3 : ∀ a, a < 4 → ∀ b, b < 4 → a ≠ b → (TX3 a).2.1 ≠ (TX3 b).2.1 := by decide +kernel
theorem tyX3_ok : ∀ k, k < 4 → parseFieldDescriptor (TX3 k).2.2.1 = some (tyX3 k) := by decide +kernel
abbrev cX3_init : ByteArray := prog_5_method_1_code
def yX3_init : MethodName := ⟨RX3, "<init>", "()V"⟩
abbrev cX3_setDay : ByteArray := prog_5_method_2_code
def yX3_setDay : MethodName := ⟨RX3, "setDay", "(LHillDrums$Text;I)V"⟩
abbrev cX3_canSay : ByteArray := prog_5_method_3_code
def yX3_canSay : MethodName := ⟨RX3, "canSay", "(II)Z"⟩
abbrev cX3_fewestDays : ByteArray := prog_5_method_4_code
def yX3_fewestDays : MethodName := ⟨RX3, "fewestDays", "(LHillDrums$Text;LHillDrums$World;II)I"⟩
abbrev cX3_isReached : ByteArray := prog_5_method_5_code
def yX3_isReached : MethodName := ⟨RX3, "isReached", "(JII)Z"⟩
abbrev cX3_reachedNext : ByteArray := prog_5_method_6_code
def yX3_reachedNext : MethodName := ⟨RX3, "reachedNext", "(JI)J"⟩
abbrev cX3_fewestDrums : ByteArray := prog_5_method_7_code
def yX3_fewestDrums : MethodName := ⟨RX3, "fewestDrums", "(LHillDrums$Text;LHillDrums$World;I)I"⟩
abbrev cX3_spreadFewest : ByteArray := prog_5_method_8_code
def yX3_spreadFewest : MethodName := ⟨RX3, "spreadFewest", "(I)V"⟩
def RX4 : String := "HillDrums$Reader"
def TX4 : u_T := fun k => match k with
  | 0 => ("HillDrums$Reader", "tokens", "LHillDrums$Tokens;", true)
  | 1 => ("HillDrums$Reader", "hillNames", "[J", true)
  | 2 => ("HillDrums$Reader", "newsNames", "[J", true)
  | 3 => ("HillDrums$Reader", "into", "LHillDrums$Text;", false)
  | 4 => ("HillDrums$Reader", "at", "I", false)
  | 5 => ("HillDrums$Reader", "fault", "I", false)
  | 6 => ("HillDrums$Reader", "place", "I", false)
  | 7 => ("HillDrums$Reader", "meaningFault", "I", false)
  | _ => ("HillDrums$Reader", "meaningPlace", "I", false)
def tyX4 : Nat → FieldType := fun k => match k with
  | 0 => .object "HillDrums$Tokens"
  | 1 => .array .long
  | 2 => .array .long
  | 3 => .object "HillDrums$Text"
  | 4 => .int
  | 5 => .int
  | 6 => .int
  | 7 => .int
  | _ => .int
theorem nmX4 : ∀ a, a < 9 → ∀ b, b < 9 → a ≠ b → (TX4 a).2.1 ≠ (TX4 b).2.1 := by decide +kernel
theorem tyX4_ok : ∀ k, k < 9 → parseFieldDescriptor (TX4 k).2.2.1 = some (tyX4 k) := by decide +kernel
abbrev cX4_init : ByteArray := prog_6_method_1_code
def yX4_init : MethodName := ⟨RX4, "<init>", "(LHillDrums$Text;)V"⟩
abbrev cX4_parse : ByteArray := prog_6_method_2_code
def yX4_parse : MethodName := ⟨RX4, "parse", "(LHillDrums$Tape;LHillDrums$Text;)V"⟩
abbrev cX4_kind : ByteArray := prog_6_method_3_code
def yX4_kind : MethodName := ⟨RX4, "kind", "()I"⟩
abbrev cX4_fail : ByteArray := prog_6_method_4_code
def yX4_fail : MethodName := ⟨RX4, "fail", "(I)V"⟩
abbrev cX4_mean : ByteArray := prog_6_method_5_code
def yX4_mean : MethodName := ⟨RX4, "mean", "(II)V"⟩
abbrev cX4_take : ByteArray := prog_6_method_6_code
def yX4_take : MethodName := ⟨RX4, "take", "(I)J"⟩
abbrev cX4_takeNumber : ByteArray := prog_6_method_7_code
def yX4_takeNumber : MethodName := ⟨RX4, "takeNumber", "(II)I"⟩
abbrev cX4_takeNewName : ByteArray := prog_6_method_8_code
def yX4_takeNewName : MethodName := ⟨RX4, "takeNewName", "()J"⟩
abbrev cX4_takeOneOf : ByteArray := prog_6_method_9_code
def yX4_takeOneOf : MethodName := ⟨RX4, "takeOneOf", "([JI)I"⟩
abbrev cX4_indexOf : ByteArray := prog_6_method_10_code
def yX4_indexOf : MethodName := ⟨RX4, "indexOf", "(J[JI)I"⟩
abbrev cX4_parseTell : ByteArray := prog_6_method_11_code
def yX4_parseTell : MethodName := ⟨RX4, "parseTell", "()V"⟩
abbrev cX4_parseHill : ByteArray := prog_6_method_12_code
def yX4_parseHill : MethodName := ⟨RX4, "parseHill", "()V"⟩
abbrev cX4_parseNews : ByteArray := prog_6_method_13_code
def yX4_parseNews : MethodName := ⟨RX4, "parseNews", "()V"⟩
abbrev cX4_parseRow : ByteArray := prog_6_method_14_code
def yX4_parseRow : MethodName := ⟨RX4, "parseRow", "(ILHillDrums$Row;)V"⟩
abbrev cX4_parseOrder : ByteArray := prog_6_method_15_code
def yX4_parseOrder : MethodName := ⟨RX4, "parseOrder", "()V"⟩
abbrev cX4_parseSleeper : ByteArray := prog_6_method_16_code
def yX4_parseSleeper : MethodName := ⟨RX4, "parseSleeper", "()V"⟩
abbrev cX4_parseLaw : ByteArray := prog_6_method_17_code
def yX4_parseLaw : MethodName := ⟨RX4, "parseLaw", "()V"⟩
abbrev cX4_parseSum : ByteArray := prog_6_method_18_code
def yX4_parseSum : MethodName := ⟨RX4, "parseSum", "(I)V"⟩
abbrev cX4_parseProduct : ByteArray := prog_6_method_19_code
def yX4_parseProduct : MethodName := ⟨RX4, "parseProduct", "(I)V"⟩
abbrev cX4_parseUnit : ByteArray := prog_6_method_20_code
def yX4_parseUnit : MethodName := ⟨RX4, "parseUnit", "(I)V"⟩
def RX5 : String := "HillDrums$Row"
def TX5 : u_T := fun k => match k with
  | 0 => ("HillDrums$Row", "numbers", "[I", true)
  | _ => ("HillDrums$Row", "size", "I", false)
def tyX5 : Nat → FieldType := fun k => match k with
  | 0 => .array .int
  | _ => .int
theorem nmX5 : ∀ a, a < 2 → ∀ b, b < 2 → a ≠ b → (TX5 a).2.1 ≠ (TX5 b).2.1 := by decide +kernel
theorem tyX5_ok : ∀ k, k < 2 → parseFieldDescriptor (TX5 k).2.2.1 = some (tyX5 k) := by decide +kernel
abbrev cX5_init : ByteArray := prog_7_method_1_code
def yX5_init : MethodName := ⟨RX5, "<init>", "()V"⟩
abbrev cX5_on : ByteArray := prog_7_method_2_code
def yX5_on : MethodName := ⟨RX5, "on", "(I)I"⟩
def RX6 : String := "HillDrums$Tape"
def TX6 : u_T := fun k => match k with
  | 0 => ("HillDrums$Tape", "bytes", "[B", true)
  | _ => ("HillDrums$Tape", "length", "I", false)
def tyX6 : Nat → FieldType := fun k => match k with
  | 0 => .array .byte
  | _ => .int
theorem nmX6 : ∀ a, a < 2 → ∀ b, b < 2 → a ≠ b → (TX6 a).2.1 ≠ (TX6 b).2.1 := by decide +kernel
theorem tyX6_ok : ∀ k, k < 2 → parseFieldDescriptor (TX6 k).2.2.1 = some (tyX6 k) := by decide +kernel
abbrev cX6_init : ByteArray := prog_8_method_1_code
def yX6_init : MethodName := ⟨RX6, "<init>", "()V"⟩
abbrev cX6_add : ByteArray := prog_8_method_2_code
def yX6_add : MethodName := ⟨RX6, "add", "(I)V"⟩
abbrev cX6_byteAt : ByteArray := prog_8_method_3_code
def yX6_byteAt : MethodName := ⟨RX6, "byteAt", "(I)I"⟩
def RX7 : String := "HillDrums$Text"
def TX7 : u_T := fun k => match k with
  | 0 => ("HillDrums$Text", "hills", "I", false)
  | 1 => ("HillDrums$Text", "x", "[I", true)
  | 2 => ("HillDrums$Text", "y", "[I", true)
  | 3 => ("HillDrums$Text", "newsTold", "I", false)
  | 4 => ("HillDrums$Text", "home", "[I", true)
  | 5 => ("HillDrums$Text", "law", "LHillDrums$Law;", true)
  | 6 => ("HillDrums$Text", "wind", "LHillDrums$Row;", true)
  | 7 => ("HillDrums$Text", "fog", "LHillDrums$Row;", true)
  | 8 => ("HillDrums$Text", "order", "I", false)
  | 9 => ("HillDrums$Text", "sleepers", "I", false)
  | 10 => ("HillDrums$Text", "sleeperHill", "[I", true)
  | 11 => ("HillDrums$Text", "sleeperNews", "[I", true)
  | 12 => ("HillDrums$Text", "sleeperDays", "[I", true)
  | 13 => ("HillDrums$Text", "vars", "[I", true)
  | 14 => ("HillDrums$Text", "heardRows", "[J", true)
  | _ => ("HillDrums$Text", "heardDays", "[I", true)
def tyX7 : Nat → FieldType := fun k => match k with
  | 0 => .int
  | 1 => .array .int
  | 2 => .array .int
  | 3 => .int
  | 4 => .array .int
  | 5 => .object "HillDrums$Law"
  | 6 => .object "HillDrums$Row"
  | 7 => .object "HillDrums$Row"
  | 8 => .int
  | 9 => .int
  | 10 => .array .int
  | 11 => .array .int
  | 12 => .array .int
  | 13 => .array .int
  | 14 => .array .long
  | _ => .array .int
theorem nmX7 : ∀ a, a < 16 → ∀ b, b < 16 → a ≠ b → (TX7 a).2.1 ≠ (TX7 b).2.1 := by decide +kernel
theorem tyX7_ok : ∀ k, k < 16 → parseFieldDescriptor (TX7 k).2.2.1 = some (tyX7 k) := by decide +kernel
abbrev cX7_init : ByteArray := prog_9_method_1_code
def yX7_init : MethodName := ⟨RX7, "<init>", "()V"⟩
abbrev cX7_clear : ByteArray := prog_9_method_2_code
def yX7_clear : MethodName := ⟨RX7, "clear", "()V"⟩
abbrev cX7_allHills : ByteArray := prog_9_method_3_code
def yX7_allHills : MethodName := ⟨RX7, "allHills", "()I"⟩
abbrev cX7_lawTells : ByteArray := prog_9_method_4_code
def yX7_lawTells : MethodName := ⟨RX7, "lawTells", "(III)Z"⟩
abbrev cX7_heardOn : ByteArray := prog_9_method_5_code
def yX7_heardOn : MethodName := ⟨RX7, "heardOn", "(I)J"⟩
def RX8 : String := "HillDrums$Tokens"
def TX8 : u_T := fun k => match k with
  | 0 => ("HillDrums$Tokens", "kinds", "[I", true)
  | 1 => ("HillDrums$Tokens", "places", "[I", true)
  | _ => ("HillDrums$Tokens", "values", "[J", true)
def tyX8 : Nat → FieldType := fun k => match k with
  | 0 => .array .int
  | 1 => .array .int
  | _ => .array .long
theorem nmX8 : ∀ a, a < 3 → ∀ b, b < 3 → a ≠ b → (TX8 a).2.1 ≠ (TX8 b).2.1 := by decide +kernel
theorem tyX8_ok : ∀ k, k < 3 → parseFieldDescriptor (TX8 k).2.2.1 = some (tyX8 k) := by decide +kernel
abbrev cX8_init : ByteArray := prog_10_method_1_code
def yX8_init : MethodName := ⟨RX8, "<init>", "()V"⟩
abbrev cX8_split : ByteArray := prog_10_method_2_code
def yX8_split : MethodName := ⟨RX8, "split", "(LHillDrums$Tape;)V"⟩
abbrev cX8_pastBlanks : ByteArray := prog_10_method_3_code
def yX8_pastBlanks : MethodName := ⟨RX8, "pastBlanks", "(LHillDrums$Tape;I)I"⟩
abbrev cX8_isBlank : ByteArray := prog_10_method_4_code
def yX8_isBlank : MethodName := ⟨RX8, "isBlank", "(I)Z"⟩
abbrev cX8_keep : ByteArray := prog_10_method_5_code
def yX8_keep : MethodName := ⟨RX8, "keep", "(LHillDrums$Tape;II)I"⟩
abbrev cX8_isLetter : ByteArray := prog_10_method_6_code
def yX8_isLetter : MethodName := ⟨RX8, "isLetter", "(I)Z"⟩
abbrev cX8_isDigit : ByteArray := prog_10_method_7_code
def yX8_isDigit : MethodName := ⟨RX8, "isDigit", "(I)Z"⟩
abbrev cX8_keepLetters : ByteArray := prog_10_method_8_code
def yX8_keepLetters : MethodName := ⟨RX8, "keepLetters", "(LHillDrums$Tape;II)I"⟩
abbrev cX8_wordOrName : ByteArray := prog_10_method_9_code
def yX8_wordOrName : MethodName := ⟨RX8, "wordOrName", "(LHillDrums$Tape;II)I"⟩
abbrev cX8_keepDigits : ByteArray := prog_10_method_10_code
def yX8_keepDigits : MethodName := ⟨RX8, "keepDigits", "(LHillDrums$Tape;II)I"⟩
def RX9 : String := "HillDrums$Told"
def TX9 : u_T := fun k => match k with
  | 0 => ("HillDrums$Told", "hills", "[I", true)
  | 1 => ("HillDrums$Told", "newses", "[I", true)
  | 2 => ("HillDrums$Told", "days", "[I", true)
  | _ => ("HillDrums$Told", "size", "I", false)
def tyX9 : Nat → FieldType := fun k => match k with
  | 0 => .array .int
  | 1 => .array .int
  | 2 => .array .int
  | _ => .int
theorem nmX9 : ∀ a, a < 4 → ∀ b, b < 4 → a ≠ b → (TX9 a).2.1 ≠ (TX9 b).2.1 := by decide +kernel
theorem tyX9_ok : ∀ k, k < 4 → parseFieldDescriptor (TX9 k).2.2.1 = some (tyX9 k) := by decide +kernel
abbrev cX9_init : ByteArray := prog_11_method_1_code
def yX9_init : MethodName := ⟨RX9, "<init>", "()V"⟩
abbrev cX9_add : ByteArray := prog_11_method_2_code
def yX9_add : MethodName := ⟨RX9, "add", "(III)I"⟩
abbrev cX9_daysNeeded : ByteArray := prog_11_method_3_code
def yX9_daysNeeded : MethodName := ⟨RX9, "daysNeeded", "(II)I"⟩
abbrev cX9_isSo : ByteArray := prog_11_method_4_code
def yX9_isSo : MethodName := ⟨RX9, "isSo", "(LHillDrums$World;II)Z"⟩
def RX10 : String := "HillDrums$World"
def TX10 : u_T := fun k => match k with
  | 0 => ("HillDrums$World", "day", "I", false)
  | 1 => ("HillDrums$World", "known", "I", false)
  | 2 => ("HillDrums$World", "deniedFirst", "I", false)
  | 3 => ("HillDrums$World", "saidToday", "I", false)
  | 4 => ("HillDrums$World", "deniedToday", "I", false)
  | 5 => ("HillDrums$World", "saidEver", "I", false)
  | 6 => ("HillDrums$World", "deniedEver", "I", false)
  | 7 => ("HillDrums$World", "today", "I", false)
  | 8 => ("HillDrums$World", "inAll", "I", false)
  | 9 => ("HillDrums$World", "since", "[I", true)
  | 10 => ("HillDrums$World", "from", "[I", true)
  | _ => ("HillDrums$World", "drumsOfDay", "[I", true)
def tyX10 : Nat → FieldType := fun k => match k with
  | 0 => .int
  | 1 => .int
  | 2 => .int
  | 3 => .int
  | 4 => .int
  | 5 => .int
  | 6 => .int
  | 7 => .int
  | 8 => .int
  | 9 => .array .int
  | 10 => .array .int
  | _ => .array .int
theorem nmX10 : ∀ a, a < 12 → ∀ b, b < 12 → a ≠ b → (TX10 a).2.1 ≠ (TX10 b).2.1 := by decide +kernel
theorem tyX10_ok : ∀ k, k < 12 → parseFieldDescriptor (TX10 k).2.2.1 = some (tyX10 k) := by decide +kernel
abbrev cX10_init : ByteArray := prog_12_method_1_code
def yX10_init : MethodName := ⟨RX10, "<init>", "()V"⟩
abbrev cX10_begin : ByteArray := prog_12_method_2_code
def yX10_begin : MethodName := ⟨RX10, "begin", "(LHillDrums$Text;)V"⟩
abbrev cX10_beginAt : ByteArray := prog_12_method_3_code
def yX10_beginAt : MethodName := ⟨RX10, "beginAt", "(II)V"⟩
abbrev cX10_copy : ByteArray := prog_12_method_4_code
def yX10_copy : MethodName := ⟨RX10, "copy", "(LHillDrums$World;)V"⟩
abbrev cX10_knows : ByteArray := prog_12_method_5_code
def yX10_knows : MethodName := ⟨RX10, "knows", "(II)Z"⟩
abbrev cX10_clashing : ByteArray := prog_12_method_6_code
def yX10_clashing : MethodName := ⟨RX10, "clashing", "()I"⟩
abbrev cX10_isAble : ByteArray := prog_12_method_7_code
def yX10_isAble : MethodName := ⟨RX10, "isAble", "(II)Z"⟩
abbrev cX10_isAnswer : ByteArray := prog_12_method_8_code
def yX10_isAnswer : MethodName := ⟨RX10, "isAnswer", "(IIIZ)Z"⟩
abbrev cX10_drumByDay : ByteArray := prog_12_method_9_code
def yX10_drumByDay : MethodName := ⟨RX10, "drumByDay", "(IIZI)V"⟩
abbrev cX10_sound : ByteArray := prog_12_method_10_code
def yX10_sound : MethodName := ⟨RX10, "sound", "(IIZI)V"⟩
abbrev cX10_noteOrigin : ByteArray := prog_12_method_11_code
def yX10_noteOrigin : MethodName := ⟨RX10, "noteOrigin", "(II)V"⟩
abbrev cX10_passDay : ByteArray := prog_12_method_12_code
def yX10_passDay : MethodName := ⟨RX10, "passDay", "(LHillDrums$Text;II)V"⟩
abbrev cX10_passNight : ByteArray := prog_12_method_13_code
def yX10_passNight : MethodName := ⟨RX10, "passNight", "(LHillDrums$Text;I)V"⟩
def RX11 : String := "HillDrums"
def TX11 : u_T := fun k => match k with
  | 0 => ("HillDrums", "tape", "LHillDrums$Tape;", true)
  | 1 => ("HillDrums", "text", "LHillDrums$Text;", false)
  | 2 => ("HillDrums", "spare", "LHillDrums$Text;", false)
  | 3 => ("HillDrums", "reader", "LHillDrums$Reader;", true)
  | 4 => ("HillDrums", "faultPlace", "I", false)
  | 5 => ("HillDrums", "now", "LHillDrums$World;", true)
  | 6 => ("HillDrums", "would", "LHillDrums$World;", true)
  | 7 => ("HillDrums", "past", "LHillDrums$Past;", true)
  | 8 => ("HillDrums", "slots", "[LHillDrums$World;", true)
  | 9 => ("HillDrums", "heldSlots", "I", false)
  | 10 => ("HillDrums", "told", "LHillDrums$Told;", true)
  | 11 => ("HillDrums", "plans", "LHillDrums$Plans;", true)
  | _ => ("HillDrums", "loop", "LHillDrums$Loop;", true)
def tyX11 : Nat → FieldType := fun k => match k with
  | 0 => .object "HillDrums$Tape"
  | 1 => .object "HillDrums$Text"
  | 2 => .object "HillDrums$Text"
  | 3 => .object "HillDrums$Reader"
  | 4 => .int
  | 5 => .object "HillDrums$World"
  | 6 => .object "HillDrums$World"
  | 7 => .object "HillDrums$Past"
  | 8 => .array (.object "HillDrums$World")
  | 9 => .int
  | 10 => .object "HillDrums$Told"
  | 11 => .object "HillDrums$Plans"
  | _ => .object "HillDrums$Loop"
theorem nmX11 : ∀ a, a < 13 → ∀ b, b < 13 → a ≠ b → (TX11 a).2.1 ≠ (TX11 b).2.1 := by decide +kernel
theorem tyX11_ok : ∀ k, k < 13 → parseFieldDescriptor (TX11 k).2.2.1 = some (tyX11 k) := by decide +kernel
abbrev cX11_init : ByteArray := prog_1_method_1_code
def yX11_init : MethodName := ⟨RX11, "<init>", "()V"⟩
abbrev cX11_feed : ByteArray := prog_1_method_2_code
def yX11_feed : MethodName := ⟨RX11, "feed", "(IIIII)I"⟩
abbrev cX11_back : ByteArray := prog_1_method_3_code
def yX11_back : MethodName := ⟨RX11, "back", "(I)I"⟩
abbrev cX11_read : ByteArray := prog_1_method_4_code
def yX11_read : MethodName := ⟨RX11, "read", "()I"⟩
abbrev cX11_takeSpareText : ByteArray := prog_1_method_5_code
def yX11_takeSpareText : MethodName := ⟨RX11, "takeSpareText", "()V"⟩
abbrev cX11_place : ByteArray := prog_1_method_6_code
def yX11_place : MethodName := ⟨RX11, "place", "()I"⟩
abbrev cX11_isHill : ByteArray := prog_1_method_7_code
def yX11_isHill : MethodName := ⟨RX11, "isHill", "(I)Z"⟩
abbrev cX11_isNews : ByteArray := prog_1_method_8_code
def yX11_isNews : MethodName := ⟨RX11, "isNews", "(I)Z"⟩
abbrev cX11_hears : ByteArray := prog_1_method_9_code
def yX11_hears : MethodName := ⟨RX11, "hears", "(III)I"⟩
abbrev cX11_news : ByteArray := prog_1_method_10_code
def yX11_news : MethodName := ⟨RX11, "news", "(III)I"⟩
abbrev cX11_drum : ByteArray := prog_1_method_11_code
def yX11_drum : MethodName := ⟨RX11, "drum", "(IIZ)I"⟩
abbrev cX11_may : ByteArray := prog_1_method_12_code
def yX11_may : MethodName := ⟨RX11, "may", "(IIZ)I"⟩
abbrev cX11_drummed : ByteArray := prog_1_method_13_code
def yX11_drummed : MethodName := ⟨RX11, "drummed", "(II)I"⟩
abbrev cX11_night : ByteArray := prog_1_method_14_code
def yX11_night : MethodName := ⟨RX11, "night", "()I"⟩
abbrev cX11_run : ByteArray := prog_1_method_15_code
def yX11_run : MethodName := ⟨RX11, "run", "(I)I"⟩
abbrev cX11_undo : ByteArray := prog_1_method_16_code
def yX11_undo : MethodName := ⟨RX11, "undo", "()Z"⟩
abbrev cX11_clashes : ByteArray := prog_1_method_17_code
def yX11_clashes : MethodName := ⟨RX11, "clashes", "(I)I"⟩
abbrev cX11_daysTill : ByteArray := prog_1_method_18_code
def yX11_daysTill : MethodName := ⟨RX11, "daysTill", "(III)I"⟩
abbrev cX11_byRule : ByteArray := prog_1_method_19_code
def yX11_byRule : MethodName := ⟨RX11, "byRule", "(II)I"⟩
abbrev cX11_agreed : ByteArray := prog_1_method_20_code
def yX11_agreed : MethodName := ⟨RX11, "agreed", "(IIII)I"⟩
abbrev cX11_talk : ByteArray := prog_1_method_21_code
def yX11_talk : MethodName := ⟨RX11, "talk", "(I)I"⟩
abbrev cX11_bestOrder : ByteArray := prog_1_method_22_code
def yX11_bestOrder : MethodName := ⟨RX11, "bestOrder", "(II)I"⟩
abbrev cX11_quiet : ByteArray := prog_1_method_23_code
def yX11_quiet : MethodName := ⟨RX11, "quiet", "(III)I"⟩
abbrev cX11_isSooner : ByteArray := prog_1_method_24_code
def yX11_isSooner : MethodName := ⟨RX11, "isSooner", "(II)Z"⟩
abbrev cX11_soonest : ByteArray := prog_1_method_25_code
def yX11_soonest : MethodName := ⟨RX11, "soonest", "(II)I"⟩
abbrev cX11_all : ByteArray := prog_1_method_26_code
def yX11_all : MethodName := ⟨RX11, "all", "(I)I"⟩
abbrev cX11_drums : ByteArray := prog_1_method_27_code
def yX11_drums : MethodName := ⟨RX11, "drums", "(I)I"⟩
abbrev cX11_loophole : ByteArray := prog_1_method_28_code
def yX11_loophole : MethodName := ⟨RX11, "loophole", "(III)I"⟩
abbrev cX11_loopholeAt : ByteArray := prog_1_method_29_code
def yX11_loopholeAt : MethodName := ⟨RX11, "loopholeAt", "(IIII)I"⟩
abbrev cX11_sure : ByteArray := prog_1_method_30_code
def yX11_sure : MethodName := ⟨RX11, "sure", "(IIII)I"⟩
abbrev cX11_tell : ByteArray := prog_1_method_31_code
def yX11_tell : MethodName := ⟨RX11, "tell", "(III)I"⟩
abbrev cX11_forget : ByteArray := prog_1_method_32_code
def yX11_forget : MethodName := ⟨RX11, "forget", "()I"⟩
abbrev cX11_beginners : ByteArray := prog_1_method_33_code
def yX11_beginners : MethodName := ⟨RX11, "beginners", "(II)I"⟩
abbrev cX11_hold : ByteArray := prog_1_method_34_code
def yX11_hold : MethodName := ⟨RX11, "hold", "(I)Z"⟩
abbrev cX11_restore : ByteArray := prog_1_method_35_code
def yX11_restore : MethodName := ⟨RX11, "restore", "(I)Z"⟩
abbrev cX11_count : ByteArray := prog_1_method_36_code
def yX11_count : MethodName := ⟨RX11, "count", "(I)I"⟩
abbrev cX11_pairOf : ByteArray := prog_1_method_37_code
def yX11_pairOf : MethodName := ⟨RX11, "pairOf", "(II)I"⟩
abbrev cX11_rowOf : ByteArray := prog_1_method_38_code
def yX11_rowOf : MethodName := ⟨RX11, "rowOf", "(II)I"⟩
abbrev cX11_hearersOf : ByteArray := prog_1_method_39_code
def yX11_hearersOf : MethodName := ⟨RX11, "hearersOf", "(JI)I"⟩
def RX12 : String := "HillDrumsModel"
def TX12 : u_T := fun k => match k with
  | 0 => ("HillDrumsModel", "thrown", "I", false)
  | 1 => ("HillDrumsModel", "tape", "[B", true)
  | 2 => ("HillDrumsModel", "taped", "I", false)
  | 3 => ("HillDrumsModel", "text", "[B", true)
  | 4 => ("HillDrumsModel", "size", "I", false)
  | 5 => ("HillDrumsModel", "tKind", "[I", true)
  | 6 => ("HillDrumsModel", "tPlace", "[I", true)
  | 7 => ("HillDrumsModel", "tValue", "[I", true)
  | 8 => ("HillDrumsModel", "tName", "[J", true)
  | 9 => ("HillDrumsModel", "keys", "[J", true)
  | 10 => ("HillDrumsModel", "tokens", "I", false)
  | 11 => ("HillDrumsModel", "t", "I", false)
  | 12 => ("HillDrumsModel", "open", "I", false)
  | 13 => ("HillDrumsModel", "fault", "I", false)
  | 14 => ("HillDrumsModel", "faultPlace", "I", false)
  | 15 => ("HillDrumsModel", "worst", "I", false)
  | 16 => ("HillDrumsModel", "worstPlace", "I", false)
  | 17 => ("HillDrumsModel", "place", "I", false)
  | 18 => ("HillDrumsModel", "live", "I", false)
  | 19 => ("HillDrumsModel", "side", "I", false)
  | 20 => ("HillDrumsModel", "names", "I", false)
  | 21 => ("HillDrumsModel", "nameOf", "[J", true)
  | 22 => ("HillDrumsModel", "nameSort", "[I", true)
  | 23 => ("HillDrumsModel", "nameAt", "[I", true)
  | 24 => ("HillDrumsModel", "hills", "[I", true)
  | 25 => ("HillDrumsModel", "hillX", "[I", true)
  | 26 => ("HillDrumsModel", "hillY", "[I", true)
  | 27 => ("HillDrumsModel", "newsMany", "[I", true)
  | 28 => ("HillDrumsModel", "newsAt", "[I", true)
  | 29 => ("HillDrumsModel", "many", "[I", true)
  | 30 => ("HillDrumsModel", "weather", "[I", true)
  | 31 => ("HillDrumsModel", "order", "[I", true)
  | 32 => ("HillDrumsModel", "sleepers", "[I", true)
  | 33 => ("HillDrumsModel", "sleepHill", "[I", true)
  | 34 => ("HillDrumsModel", "sleepNews", "[I", true)
  | 35 => ("HillDrumsModel", "sleepDays", "[I", true)
  | 36 => ("HillDrumsModel", "lawFirst", "[I", true)
  | 37 => ("HillDrumsModel", "lawLast", "[I", true)
  | 38 => ("HillDrumsModel", "branches", "I", false)
  | 39 => ("HillDrumsModel", "hasTest", "[Z", true)
  | 40 => ("HillDrumsModel", "testFrom", "[I", true)
  | 41 => ("HillDrumsModel", "testMid", "[I", true)
  | 42 => ("HillDrumsModel", "testTo", "[I", true)
  | 43 => ("HillDrumsModel", "termTo", "[I", true)
  | 44 => ("HillDrumsModel", "codes", "I", false)
  | 45 => ("HillDrumsModel", "code", "[I", true)
  | 46 => ("HillDrumsModel", "codeInt", "[I", true)
  | 47 => ("HillDrumsModel", "waits", "[I", true)
  | 48 => ("HillDrumsModel", "waiting", "I", false)
  | 49 => ("HillDrumsModel", "variables", "[I", true)
  | 50 => ("HillDrumsModel", "pile", "[I", true)
  | 51 => ("HillDrumsModel", "isBroken", "Z", false)
  | 52 => ("HillDrumsModel", "hearers", "[I", true)
  | 53 => ("HillDrumsModel", "now", "[I", true)
  | 54 => ("HillDrumsModel", "row", "[I", true)
  | 55 => ("HillDrumsModel", "how", "I", false)
  | 56 => ("HillDrumsModel", "silent", "I", false)
  | 57 => ("HillDrumsModel", "undos", "I", false)
  | 58 => ("HillDrumsModel", "history", "[I", true)
  | 59 => ("HillDrumsModel", "drumsBy", "[I", true)
  | 60 => ("HillDrumsModel", "drumsThen", "[I", true)
  | 61 => ("HillDrumsModel", "hole", "[I", true)
  | 62 => ("HillDrumsModel", "holeLong", "I", false)
  | 63 => ("HillDrumsModel", "told", "I", false)
  | 64 => ("HillDrumsModel", "toldHill", "[I", true)
  | 65 => ("HillDrumsModel", "toldNews", "[I", true)
  | 66 => ("HillDrumsModel", "toldDay", "[I", true)
  | 67 => ("HillDrumsModel", "isHeld", "[Z", true)
  | _ => ("HillDrumsModel", "held", "[I", true)
def tyX12 : Nat → FieldType := fun k => match k with
  | 0 => .int
  | 1 => .array .byte
  | 2 => .int
  | 3 => .array .byte
  | 4 => .int
  | 5 => .array .int
  | 6 => .array .int
  | 7 => .array .int
  | 8 => .array .long
  | 9 => .array .long
  | 10 => .int
  | 11 => .int
  | 12 => .int
  | 13 => .int
  | 14 => .int
  | 15 => .int
  | 16 => .int
  | 17 => .int
  | 18 => .int
  | 19 => .int
  | 20 => .int
  | 21 => .array .long
  | 22 => .array .int
  | 23 => .array .int
  | 24 => .array .int
  | 25 => .array .int
  | 26 => .array .int
  | 27 => .array .int
  | 28 => .array .int
  | 29 => .array .int
  | 30 => .array .int
  | 31 => .array .int
  | 32 => .array .int
  | 33 => .array .int
  | 34 => .array .int
  | 35 => .array .int
  | 36 => .array .int
  | 37 => .array .int
  | 38 => .int
  | 39 => .array .boolean
  | 40 => .array .int
  | 41 => .array .int
  | 42 => .array .int
  | 43 => .array .int
  | 44 => .int
  | 45 => .array .int
  | 46 => .array .int
  | 47 => .array .int
  | 48 => .int
  | 49 => .array .int
  | 50 => .array .int
  | 51 => .boolean
  | 52 => .array .int
  | 53 => .array .int
  | 54 => .array .int
  | 55 => .int
  | 56 => .int
  | 57 => .int
  | 58 => .array .int
  | 59 => .array .int
  | 60 => .array .int
  | 61 => .array .int
  | 62 => .int
  | 63 => .int
  | 64 => .array .int
  | 65 => .array .int
  | 66 => .array .int
  | 67 => .array .boolean
  | _ => .array .int
theorem nmX12 : ∀ a, a < 69 → ∀ b, b < 69 → a ≠ b → (TX12 a).2.1 ≠ (TX12 b).2.1 := by decide +kernel
theorem tyX12_ok : ∀ k, k < 69 → parseFieldDescriptor (TX12 k).2.2.1 = some (tyX12 k) := by decide +kernel
abbrev cX12_init : ByteArray := prog_14_method_2_code
def yX12_init : MethodName := ⟨RX12, "<init>", "()V"⟩
abbrev cX12_feed : ByteArray := prog_14_method_3_code
def yX12_feed : MethodName := ⟨RX12, "feed", "(IIIII)I"⟩
abbrev cX12_put : ByteArray := prog_14_method_4_code
def yX12_put : MethodName := ⟨RX12, "put", "(I)V"⟩
abbrev cX12_back : ByteArray := prog_14_method_5_code
def yX12_back : MethodName := ⟨RX12, "back", "(I)I"⟩
abbrev cX12_byteAt : ByteArray := prog_14_method_6_code
def yX12_byteAt : MethodName := ⟨RX12, "byteAt", "(I)I"⟩
abbrev cX12_isDigit : ByteArray := prog_14_method_7_code
def yX12_isDigit : MethodName := ⟨RX12, "isDigit", "(I)Z"⟩
abbrev cX12_isLetter : ByteArray := prog_14_method_8_code
def yX12_isLetter : MethodName := ⟨RX12, "isLetter", "(I)Z"⟩
abbrev cX12_appends : ByteArray := prog_14_method_9_code
def yX12_appends : MethodName := ⟨RX12, "appends", "(JI)J"⟩
abbrev cX12_word : ByteArray := prog_14_method_10_code
def yX12_word : MethodName := ⟨RX12, "word", "(IIIIIII)J"⟩
abbrev cX12_token : ByteArray := prog_14_method_11_code
def yX12_token : MethodName := ⟨RX12, "token", "(IIIJ)V"⟩
abbrev cX12_cut : ByteArray := prog_14_method_12_code
def yX12_cut : MethodName := ⟨RX12, "cut", "()V"⟩
abbrev cX12_sign : ByteArray := prog_14_method_13_code
def yX12_sign : MethodName := ⟨RX12, "sign", "(III)I"⟩
abbrev cX12_is : ByteArray := prog_14_method_14_code
def yX12_is : MethodName := ⟨RX12, "is", "(I)Z"⟩
abbrev cX12_fail : ByteArray := prog_14_method_15_code
def yX12_fail : MethodName := ⟨RX12, "fail", "(I)V"⟩
abbrev cX12_wrong : ByteArray := prog_14_method_16_code
def yX12_wrong : MethodName := ⟨RX12, "wrong", "(II)V"⟩
abbrev cX12_goesOn : ByteArray := prog_14_method_17_code
def yX12_goesOn : MethodName := ⟨RX12, "goesOn", "()V"⟩
abbrev cX12_must : ByteArray := prog_14_method_18_code
def yX12_must : MethodName := ⟨RX12, "must", "(I)V"⟩
abbrev cX12_read : ByteArray := prog_14_method_19_code
def yX12_read : MethodName := ⟨RX12, "read", "()I"⟩
abbrev cX12_place : ByteArray := prog_14_method_20_code
def yX12_place : MethodName := ⟨RX12, "place", "()I"⟩
abbrev cX12_roomFor : ByteArray := prog_14_method_21_code
def yX12_roomFor : MethodName := ⟨RX12, "roomFor", "(II)V"⟩
abbrev cX12_tell : ByteArray := prog_14_method_22_code
def yX12_tell : MethodName := ⟨RX12, "tell", "()V"⟩
abbrev cX12_named : ByteArray := prog_14_method_23_code
def yX12_named : MethodName := ⟨RX12, "named", "()I"⟩
abbrev cX12_notes : ByteArray := prog_14_method_24_code
def yX12_notes : MethodName := ⟨RX12, "notes", "(III)V"⟩
abbrev cX12_known : ByteArray := prog_14_method_25_code
def yX12_known : MethodName := ⟨RX12, "known", "(I)I"⟩
abbrev cX12_bounded : ByteArray := prog_14_method_26_code
def yX12_bounded : MethodName := ⟨RX12, "bounded", "(II)I"⟩
abbrev cX12_tellHill : ByteArray := prog_14_method_27_code
def yX12_tellHill : MethodName := ⟨RX12, "tellHill", "()V"⟩
abbrev cX12_tellNews : ByteArray := prog_14_method_28_code
def yX12_tellNews : MethodName := ⟨RX12, "tellNews", "()V"⟩
abbrev cX12_tellWeather : ByteArray := prog_14_method_29_code
def yX12_tellWeather : MethodName := ⟨RX12, "tellWeather", "(I)V"⟩
abbrev cX12_tellSleeper : ByteArray := prog_14_method_30_code
def yX12_tellSleeper : MethodName := ⟨RX12, "tellSleeper", "()V"⟩
abbrev cX12_tellLaw : ByteArray := prog_14_method_31_code
def yX12_tellLaw : MethodName := ⟨RX12, "tellLaw", "()V"⟩
abbrev cX12_term : ByteArray := prog_14_method_32_code
def yX12_term : MethodName := ⟨RX12, "term", "()V"⟩
abbrev cX12_emit : ByteArray := prog_14_method_33_code
def yX12_emit : MethodName := ⟨RX12, "emit", "(II)V"⟩
abbrev cX12_comesOut : ByteArray := prog_14_method_34_code
def yX12_comesOut : MethodName := ⟨RX12, "comesOut", "(Z)V"⟩
abbrev cX12_expression : ByteArray := prog_14_method_35_code
def yX12_expression : MethodName := ⟨RX12, "expression", "()V"⟩
abbrev cX12_unit : ByteArray := prog_14_method_36_code
def yX12_unit : MethodName := ⟨RX12, "unit", "()V"⟩
abbrev cX12_termOf : ByteArray := prog_14_method_37_code
def yX12_termOf : MethodName := ⟨RX12, "termOf", "(II)I"⟩
abbrev cX12_in : ByteArray := prog_14_method_38_code
def yX12_in : MethodName := ⟨RX12, "in", "(III)Z"⟩
abbrev cX12_isHill : ByteArray := prog_14_method_39_code
def yX12_isHill : MethodName := ⟨RX12, "isHill", "(I)Z"⟩
abbrev cX12_isNews : ByteArray := prog_14_method_40_code
def yX12_isNews : MethodName := ⟨RX12, "isNews", "(I)Z"⟩
abbrev cX12_weatherOn : ByteArray := prog_14_method_41_code
def yX12_weatherOn : MethodName := ⟨RX12, "weatherOn", "(II)I"⟩
abbrev cX12_apart : ByteArray := prog_14_method_42_code
def yX12_apart : MethodName := ⟨RX12, "apart", "(II)I"⟩
abbrev cX12_tellsOf : ByteArray := prog_14_method_43_code
def yX12_tellsOf : MethodName := ⟨RX12, "tellsOf", "(III)I"⟩
abbrev cX12_isHeardBy : ByteArray := prog_14_method_44_code
def yX12_isHeardBy : MethodName := ⟨RX12, "isHeardBy", "(III)Z"⟩
abbrev cX12_fillsHearers : ByteArray := prog_14_method_45_code
def yX12_fillsHearers : MethodName := ⟨RX12, "fillsHearers", "(I)V"⟩
abbrev cX12_hears : ByteArray := prog_14_method_46_code
def yX12_hears : MethodName := ⟨RX12, "hears", "(III)I"⟩
abbrev cX12_begins : ByteArray := prog_14_method_47_code
def yX12_begins : MethodName := ⟨RX12, "begins", "()V"⟩
abbrev cX12_knowsFromBegin : ByteArray := prog_14_method_48_code
def yX12_knowsFromBegin : MethodName := ⟨RX12, "knowsFromBegin", "(II)V"⟩
abbrev cX12_keepsRow : ByteArray := prog_14_method_49_code
def yX12_keepsRow : MethodName := ⟨RX12, "keepsRow", "()V"⟩
abbrev cX12_copies : ByteArray := prog_14_method_50_code
def yX12_copies : MethodName := ⟨RX12, "copies", "()V"⟩
abbrev cX12_knows : ByteArray := prog_14_method_51_code
def yX12_knows : MethodName := ⟨RX12, "knows", "(II)Z"⟩
abbrev cX12_spreads : ByteArray := prog_14_method_52_code
def yX12_spreads : MethodName := ⟨RX12, "spreads", "(IIII)I"⟩
abbrev cX12_isAnswer : ByteArray := prog_14_method_53_code
def yX12_isAnswer : MethodName := ⟨RX12, "isAnswer", "(III)Z"⟩
abbrev cX12_isLawful : ByteArray := prog_14_method_54_code
def yX12_isLawful : MethodName := ⟨RX12, "isLawful", "(III)Z"⟩
abbrev cX12_drumsNow : ByteArray := prog_14_method_55_code
def yX12_drumsNow : MethodName := ⟨RX12, "drumsNow", "(III)I"⟩
abbrev cX12_nightGoes : ByteArray := prog_14_method_56_code
def yX12_nightGoes : MethodName := ⟨RX12, "nightGoes", "()V"⟩
abbrev cX12_dayByRule : ByteArray := prog_14_method_57_code
def yX12_dayByRule : MethodName := ⟨RX12, "dayByRule", "()V"⟩
abbrev cX12_news : ByteArray := prog_14_method_58_code
def yX12_news : MethodName := ⟨RX12, "news", "(III)I"⟩
abbrev cX12_keeps : ByteArray := prog_14_method_59_code
def yX12_keeps : MethodName := ⟨RX12, "keeps", "()V"⟩
abbrev cX12_mayNow : ByteArray := prog_14_method_60_code
def yX12_mayNow : MethodName := ⟨RX12, "mayNow", "(IIZ)I"⟩
abbrev cX12_drum : ByteArray := prog_14_method_61_code
def yX12_drum : MethodName := ⟨RX12, "drum", "(IIZ)I"⟩
abbrev cX12_may : ByteArray := prog_14_method_62_code
def yX12_may : MethodName := ⟨RX12, "may", "(IIZ)I"⟩
abbrev cX12_drummed : ByteArray := prog_14_method_63_code
def yX12_drummed : MethodName := ⟨RX12, "drummed", "(II)I"⟩
abbrev cX12_night : ByteArray := prog_14_method_64_code
def yX12_night : MethodName := ⟨RX12, "night", "()I"⟩
abbrev cX12_run : ByteArray := prog_14_method_65_code
def yX12_run : MethodName := ⟨RX12, "run", "(I)I"⟩
abbrev cX12_undo : ByteArray := prog_14_method_66_code
def yX12_undo : MethodName := ⟨RX12, "undo", "()Z"⟩
abbrev cX12_knownBy : ByteArray := prog_14_method_67_code
def yX12_knownBy : MethodName := ⟨RX12, "knownBy", "(II)I"⟩
abbrev cX12_byRule : ByteArray := prog_14_method_68_code
def yX12_byRule : MethodName := ⟨RX12, "byRule", "(II)I"⟩
abbrev cX12_agreed : ByteArray := prog_14_method_69_code
def yX12_agreed : MethodName := ⟨RX12, "agreed", "(IIII)I"⟩
abbrev cX12_talk : ByteArray := prog_14_method_70_code
def yX12_talk : MethodName := ⟨RX12, "talk", "(I)I"⟩
abbrev cX12_allKnow : ByteArray := prog_14_method_71_code
def yX12_allKnow : MethodName := ⟨RX12, "allKnow", "(I)Z"⟩
abbrev cX12_bestOrder : ByteArray := prog_14_method_72_code
def yX12_bestOrder : MethodName := ⟨RX12, "bestOrder", "(II)I"⟩
abbrev cX12_quiet : ByteArray := prog_14_method_73_code
def yX12_quiet : MethodName := ⟨RX12, "quiet", "(III)I"⟩
abbrev cX12_bits : ByteArray := prog_14_method_74_code
def yX12_bits : MethodName := ⟨RX12, "bits", "(I)I"⟩
abbrev cX12_canDrum : ByteArray := prog_14_method_75_code
def yX12_canDrum : MethodName := ⟨RX12, "canDrum", "(I)Z"⟩
abbrev cX12_heardOf : ByteArray := prog_14_method_76_code
def yX12_heardOf : MethodName := ⟨RX12, "heardOf", "(I)I"⟩
abbrev cX12_startsPlan : ByteArray := prog_14_method_77_code
def yX12_startsPlan : MethodName := ⟨RX12, "startsPlan", "(I)V"⟩
abbrev cX12_planDay : ByteArray := prog_14_method_78_code
def yX12_planDay : MethodName := ⟨RX12, "planDay", "(I)V"⟩
abbrev cX12_isReached : ByteArray := prog_14_method_79_code
def yX12_isReached : MethodName := ⟨RX12, "isReached", "(I)Z"⟩
abbrev cX12_daysTo : ByteArray := prog_14_method_80_code
def yX12_daysTo : MethodName := ⟨RX12, "daysTo", "(II)I"⟩
abbrev cX12_soonest : ByteArray := prog_14_method_81_code
def yX12_soonest : MethodName := ⟨RX12, "soonest", "(II)I"⟩
abbrev cX12_all : ByteArray := prog_14_method_82_code
def yX12_all : MethodName := ⟨RX12, "all", "(I)I"⟩
abbrev cX12_drums : ByteArray := prog_14_method_83_code
def yX12_drums : MethodName := ⟨RX12, "drums", "(I)I"⟩
abbrev cX12_endsBy : ByteArray := prog_14_method_84_code
def yX12_endsBy : MethodName := ⟨RX12, "endsBy", "(IIII)Z"⟩
abbrev cX12_beginsHole : ByteArray := prog_14_method_85_code
def yX12_beginsHole : MethodName := ⟨RX12, "beginsHole", "(II)Z"⟩
abbrev cX12_findsHole : ByteArray := prog_14_method_86_code
def yX12_findsHole : MethodName := ⟨RX12, "findsHole", "(III)Z"⟩
abbrev cX12_canHole : ByteArray := prog_14_method_87_code
def yX12_canHole : MethodName := ⟨RX12, "canHole", "(III)Z"⟩
abbrev cX12_loophole : ByteArray := prog_14_method_88_code
def yX12_loophole : MethodName := ⟨RX12, "loophole", "(III)I"⟩
abbrev cX12_loopholeAt : ByteArray := prog_14_method_89_code
def yX12_loopholeAt : MethodName := ⟨RX12, "loopholeAt", "(IIII)I"⟩
abbrev cX12_clashes : ByteArray := prog_14_method_90_code
def yX12_clashes : MethodName := ⟨RX12, "clashes", "(I)I"⟩
abbrev cX12_sure : ByteArray := prog_14_method_91_code
def yX12_sure : MethodName := ⟨RX12, "sure", "(IIII)I"⟩
abbrev cX12_tell_ : ByteArray := prog_14_method_92_code
def yX12_tell_ : MethodName := ⟨RX12, "tell", "(III)I"⟩
abbrev cX12_forget : ByteArray := prog_14_method_93_code
def yX12_forget : MethodName := ⟨RX12, "forget", "()I"⟩
abbrev cX12_isSo : ByteArray := prog_14_method_94_code
def yX12_isSo : MethodName := ⟨RX12, "isSo", "(III)Z"⟩
abbrev cX12_beginners : ByteArray := prog_14_method_95_code
def yX12_beginners : MethodName := ⟨RX12, "beginners", "(II)I"⟩
abbrev cX12_hold : ByteArray := prog_14_method_96_code
def yX12_hold : MethodName := ⟨RX12, "hold", "(I)Z"⟩
abbrev cX12_restore : ByteArray := prog_14_method_97_code
def yX12_restore : MethodName := ⟨RX12, "restore", "(I)Z"⟩
abbrev cX12_count : ByteArray := prog_14_method_98_code
def yX12_count : MethodName := ⟨RX12, "count", "(I)I"⟩
def RJx145de : String := "java/io/Serializable"
def TJx145de : u_T := fun k => match k with
  | _ => ("", "", "", false)
def tyJx145de : Nat → FieldType := fun k => match k with
  | _ => .int
theorem nmJx145de : ∀ a, a < 0 → ∀ b, b < 0 → a ≠ b → (TJx145de a).2.1 ≠ (TJx145de b).2.1 := by decide +kernel
theorem tyJx145de_ok : ∀ k, k < 0 → parseFieldDescriptor (TJx145de k).2.2.1 = some (tyJx145de k) := by decide +kernel
def RJx9f9b0 : String := "java/lang/CharSequence"
def TJx9f9b0 : u_T := fun k => match k with
  | _ => ("", "", "", false)
def tyJx9f9b0 : Nat → FieldType := fun k => match k with
  | _ => .int
theorem nmJx9f9b0 : ∀ a, a < 0 → ∀ b, b < 0 → a ≠ b → (TJx9f9b0 a).2.1 ≠ (TJx9f9b0 b).2.1 := by decide +kernel
theorem tyJx9f9b0_ok : ∀ k, k < 0 → parseFieldDescriptor (TJx9f9b0 k).2.2.1 = some (tyJx9f9b0 k) := by decide +kernel
def RJ11 : String := "java/lang/Character"
def TJ11 : u_T := fun k => match k with
  | _ => ("", "", "", false)
def tyJ11 : Nat → FieldType := fun k => match k with
  | _ => .int
theorem nmJ11 : ∀ a, a < 0 → ∀ b, b < 0 → a ≠ b → (TJ11 a).2.1 ≠ (TJ11 b).2.1 := by decide +kernel
theorem tyJ11_ok : ∀ k, k < 0 → parseFieldDescriptor (TJ11 k).2.2.1 = some (tyJ11 k) := by decide +kernel
abbrev cJ11_isValidCodePoint_9a6ad : ByteArray := prog_15_method_11_code
def yJ11_isValidCodePoint_9a6ad : MethodName := ⟨RJ11, "isValidCodePoint", "(I)Z"⟩
abbrev cJ11_highSurrogate_5068e : ByteArray := prog_15_method_28_code
def yJ11_highSurrogate_5068e : MethodName := ⟨RJ11, "highSurrogate", "(I)C"⟩
abbrev cJ11_lowSurrogate_5068e : ByteArray := prog_15_method_29_code
def yJ11_lowSurrogate_5068e : MethodName := ⟨RJ11, "lowSurrogate", "(I)C"⟩
def RJxb160c : String := "java/lang/Comparable"
def TJxb160c : u_T := fun k => match k with
  | _ => ("", "", "", false)
def tyJxb160c : Nat → FieldType := fun k => match k with
  | _ => .int
theorem nmJxb160c : ∀ a, a < 0 → ∀ b, b < 0 → a ≠ b → (TJxb160c a).2.1 ≠ (TJxb160c b).2.1 := by decide +kernel
theorem tyJxb160c_ok : ∀ k, k < 0 → parseFieldDescriptor (TJxb160c k).2.2.1 = some (tyJxb160c k) := by decide +kernel
def RJ6 : String := "java/lang/Integer"
def TJ6 : u_T := fun k => match k with
  | _ => ("", "", "", false)
def tyJ6 : Nat → FieldType := fun k => match k with
  | _ => .int
theorem nmJ6 : ∀ a, a < 0 → ∀ b, b < 0 → a ≠ b → (TJ6 a).2.1 ≠ (TJ6 b).2.1 := by decide +kernel
theorem tyJ6_ok : ∀ k, k < 0 → parseFieldDescriptor (TJ6 k).2.2.1 = some (tyJ6 k) := by decide +kernel
abbrev cJ6_bitCount_0f7a4 : ByteArray := prog_16_method_49_code
def yJ6_bitCount_0f7a4 : MethodName := ⟨RJ6, "bitCount", "(I)I"⟩
def RJ9 : String := "java/lang/Math"
def TJ9 : u_T := fun k => match k with
  | _ => ("", "", "", false)
def tyJ9 : Nat → FieldType := fun k => match k with
  | _ => .int
theorem nmJ9 : ∀ a, a < 0 → ∀ b, b < 0 → a ≠ b → (TJ9 a).2.1 ≠ (TJ9 b).2.1 := by decide +kernel
theorem tyJ9_ok : ∀ k, k < 0 → parseFieldDescriptor (TJ9 k).2.2.1 = some (tyJ9 k) := by decide +kernel
abbrev cJ9_abs_0f7a4 : ByteArray := prog_17_method_59_code
def yJ9_abs_0f7a4 : MethodName := ⟨RJ9, "abs", "(I)I"⟩
abbrev cJ9_max_7cf53 : ByteArray := prog_17_method_65_code
def yJ9_max_7cf53 : MethodName := ⟨RJ9, "max", "(II)I"⟩
abbrev cJ9_min_7cf53 : ByteArray := prog_17_method_69_code
def yJ9_min_7cf53 : MethodName := ⟨RJ9, "min", "(II)I"⟩
def RJ0 : String := "java/lang/String"
def TJ0 : u_T := fun k => match k with
  | _ => ("", "", "", false)
def tyJ0 : Nat → FieldType := fun k => match k with
  | _ => .int
theorem nmJ0 : ∀ a, a < 0 → ∀ b, b < 0 → a ≠ b → (TJ0 a).2.1 ≠ (TJ0 b).2.1 := by decide +kernel
theorem tyJ0_ok : ∀ k, k < 0 → parseFieldDescriptor (TJ0 k).2.2.1 = some (tyJ0 k) := by decide +kernel
abbrev cJ0_length_8abf5 : ByteArray := prog_18_method_54_code
def yJ0_length_8abf5 : MethodName := ⟨RJ0, "length", "()I"⟩
abbrev cJ0_charAt_5068e : ByteArray := prog_18_method_56_code
def yJ0_charAt_5068e : MethodName := ⟨RJ0, "charAt", "(I)C"⟩
abbrev cJ0_indexOf_0f7a4 : ByteArray := prog_18_method_79_code
def yJ0_indexOf_0f7a4 : MethodName := ⟨RJ0, "indexOf", "(I)I"⟩
abbrev cJ0_indexOf_7cf53 : ByteArray := prog_18_method_80_code
def yJ0_indexOf_7cf53 : MethodName := ⟨RJ0, "indexOf", "(II)I"⟩
abbrev cJ0_coder_7d493 : ByteArray := prog_18_method_152_code
def yJ0_coder_7d493 : MethodName := ⟨RJ0, "coder", "()B"⟩
abbrev cJ0_isLatin1_aae02 : ByteArray := prog_18_method_154_code
def yJ0_isLatin1_aae02 : MethodName := ⟨RJ0, "isLatin1", "()Z"⟩
abbrev cJ0_checkIndex_df160 : ByteArray := prog_18_method_155_code
def yJ0_checkIndex_df160 : MethodName := ⟨RJ0, "checkIndex", "(II)V"⟩
abbrev cJ0_checkBoundsBeginEnd_23922 : ByteArray := prog_18_method_158_code
def yJ0_checkBoundsBeginEnd_23922 : MethodName := ⟨RJ0, "checkBoundsBeginEnd", "(III)V"⟩
def RJ1 : String := "java/lang/StringLatin1"
def TJ1 : u_T := fun k => match k with
  | _ => ("", "", "", false)
def tyJ1 : Nat → FieldType := fun k => match k with
  | _ => .int
theorem nmJ1 : ∀ a, a < 0 → ∀ b, b < 0 → a ≠ b → (TJ1 a).2.1 ≠ (TJ1 b).2.1 := by decide +kernel
theorem tyJ1_ok : ∀ k, k < 0 → parseFieldDescriptor (TJ1 k).2.2.1 = some (tyJ1 k) := by decide +kernel
abbrev cJ1_charAt_3b067 : ByteArray := prog_19_method_2_code
def yJ1_charAt_3b067 : MethodName := ⟨RJ1, "charAt", "([BI)C"⟩
abbrev cJ1_canEncode_9a6ad : ByteArray := prog_19_method_4_code
def yJ1_canEncode_9a6ad : MethodName := ⟨RJ1, "canEncode", "(I)Z"⟩
abbrev cJ1_indexOf_4cfef : ByteArray := prog_19_method_22_code
def yJ1_indexOf_4cfef : MethodName := ⟨RJ1, "indexOf", "([BIII)I"⟩
abbrev cJ1_indexOfChar_4cfef : ByteArray := prog_19_method_23_code
def yJ1_indexOfChar_4cfef : MethodName := ⟨RJ1, "indexOfChar", "([BIII)I"⟩
def RJ2 : String := "java/lang/StringUTF16"
def TJ2 : u_T := fun k => match k with
  | _ => ("", "", "", false)
def tyJ2 : Nat → FieldType := fun k => match k with
  | _ => .int
theorem nmJ2 : ∀ a, a < 0 → ∀ b, b < 0 → a ≠ b → (TJ2 a).2.1 ≠ (TJ2 b).2.1 := by decide +kernel
theorem tyJ2_ok : ∀ k, k < 0 → parseFieldDescriptor (TJ2 k).2.2.1 = some (tyJ2 k) := by decide +kernel
abbrev cJ2_getChar_3b067 : ByteArray := prog_20_method_5_code
def yJ2_getChar_3b067 : MethodName := ⟨RJ2, "getChar", "([BI)C"⟩
abbrev cJ2_length_9d52b : ByteArray := prog_20_method_6_code
def yJ2_length_9d52b : MethodName := ⟨RJ2, "length", "([B)I"⟩
abbrev cJ2_indexOf_4cfef : ByteArray := prog_20_method_40_code
def yJ2_indexOf_4cfef : MethodName := ⟨RJ2, "indexOf", "([BIII)I"⟩
abbrev cJ2_indexOfChar_4cfef : ByteArray := prog_20_method_47_code
def yJ2_indexOfChar_4cfef : MethodName := ⟨RJ2, "indexOfChar", "([BIII)I"⟩
abbrev cJ2_indexOfCharUnsafe_4cfef : ByteArray := prog_20_method_48_code
def yJ2_indexOfCharUnsafe_4cfef : MethodName := ⟨RJ2, "indexOfCharUnsafe", "([BIII)I"⟩
abbrev cJ2_indexOfSupplementary_4cfef : ByteArray := prog_20_method_49_code
def yJ2_indexOfSupplementary_4cfef : MethodName := ⟨RJ2, "indexOfSupplementary", "([BIII)I"⟩
abbrev cJ2_charAt_3b067 : ByteArray := prog_20_method_83_code
def yJ2_charAt_3b067 : MethodName := ⟨RJ2, "charAt", "([BI)C"⟩
abbrev cJ2_checkIndex_2214a : ByteArray := prog_20_method_91_code
def yJ2_checkIndex_2214a : MethodName := ⟨RJ2, "checkIndex", "(I[B)V"⟩
abbrev cJ2_checkBoundsBeginEnd_d044e : ByteArray := prog_20_method_93_code
def yJ2_checkBoundsBeginEnd_d044e : MethodName := ⟨RJ2, "checkBoundsBeginEnd", "(II[B)V"⟩
def RJ10 : String := "java/lang/System"
def TJ10 : u_T := fun k => match k with
  | _ => ("", "", "", false)
def tyJ10 : Nat → FieldType := fun k => match k with
  | _ => .int
theorem nmJ10 : ∀ a, a < 0 → ∀ b, b < 0 → a ≠ b → (TJ10 a).2.1 ≠ (TJ10 b).2.1 := by decide +kernel
theorem tyJ10_ok : ∀ k, k < 0 → parseFieldDescriptor (TJ10 k).2.2.1 = some (tyJ10 k) := by decide +kernel
def RJxfd54e : String := "java/lang/constant/Constable"
def TJxfd54e : u_T := fun k => match k with
  | _ => ("", "", "", false)
def tyJxfd54e : Nat → FieldType := fun k => match k with
  | _ => .int
theorem nmJxfd54e : ∀ a, a < 0 → ∀ b, b < 0 → a ≠ b → (TJxfd54e a).2.1 ≠ (TJxfd54e b).2.1 := by decide +kernel
theorem tyJxfd54e_ok : ∀ k, k < 0 → parseFieldDescriptor (TJxfd54e k).2.2.1 = some (tyJxfd54e k) := by decide +kernel
def RJx3cf43 : String := "java/lang/constant/ConstantDesc"
def TJx3cf43 : u_T := fun k => match k with
  | _ => ("", "", "", false)
def tyJx3cf43 : Nat → FieldType := fun k => match k with
  | _ => .int
theorem nmJx3cf43 : ∀ a, a < 0 → ∀ b, b < 0 → a ≠ b → (TJx3cf43 a).2.1 ≠ (TJx3cf43 b).2.1 := by decide +kernel
theorem tyJx3cf43_ok : ∀ k, k < 0 → parseFieldDescriptor (TJx3cf43 k).2.2.1 = some (tyJx3cf43 k) := by decide +kernel
def RJ7 : String := "java/util/Arrays"
def TJ7 : u_T := fun k => match k with
  | _ => ("", "", "", false)
def tyJ7 : Nat → FieldType := fun k => match k with
  | _ => .int
theorem nmJ7 : ∀ a, a < 0 → ∀ b, b < 0 → a ≠ b → (TJ7 a).2.1 ≠ (TJ7 b).2.1 := by decide +kernel
theorem tyJ7_ok : ∀ k, k < 0 → parseFieldDescriptor (TJ7 k).2.2.1 = some (tyJ7 k) := by decide +kernel
abbrev cJ7_fill_53178 : ByteArray := prog_22_method_103_code
def yJ7_fill_53178 : MethodName := ⟨RJ7, "fill", "([II)V"⟩
def RJ3 : String := "jdk/internal/util/Preconditions"
def TJ3 : u_T := fun k => match k with
  | _ => ("", "", "", false)
def tyJ3 : Nat → FieldType := fun k => match k with
  | _ => .int
theorem nmJ3 : ∀ a, a < 0 → ∀ b, b < 0 → a ≠ b → (TJ3 a).2.1 ≠ (TJ3 b).2.1 := by decide +kernel
theorem tyJ3_ok : ∀ k, k < 0 → parseFieldDescriptor (TJ3 k).2.2.1 = some (tyJ3 k) := by decide +kernel
abbrev cJ3_checkIndex_8e157 : ByteArray := prog_23_method_11_code
def yJ3_checkIndex_8e157 : MethodName := ⟨RJ3, "checkIndex", "(IILjava/util/function/BiFunction;)I"⟩
abbrev cJ3_checkFromToIndex_8c36e : ByteArray := prog_23_method_12_code
def yJ3_checkFromToIndex_8c36e : MethodName := ⟨RJ3, "checkFromToIndex", "(IIILjava/util/function/BiFunction;)I"⟩
def RL : String := "HillDrumsLaw"
abbrev cL_law : ByteArray := code
def yL_law : MethodName := ⟨RL, "law", "([I)Z"⟩
abbrev vwCl : List vw_C := [(RX0, TX0, 4), (RX1, TX1, 4), (RX2, TX2, 3), (RX3, TX3, 4), (RX4, TX4, 9), (RX5, TX5, 2), (RX6, TX6, 2), (RX7, TX7, 16), (RX8, TX8, 3), (RX9, TX9, 4), (RX10, TX10, 12), (RX11, TX11, 13), (RX12, TX12, 69)]
