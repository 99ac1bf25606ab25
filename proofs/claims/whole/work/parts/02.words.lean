/-! ===== the tables' words that are used, each by its place ===== -/
def wsL_law : List Cond := lw_tbl.filter goodWord
theorem wq_in {w : Cond} (h : w ∈ lw_tbl) (hg : goodWord w = true) : w ∈ wsL_law := List.mem_filter.mpr ⟨h, hg⟩
theorem wsL_in : ∀ w ∈ wsL_law, w ∈ lw_tbl := fun _ h => (List.mem_filter.mp h).1
theorem wsL_good : GoodIn wsL_law wsL_law := fun _ h => ⟨h, good_of_word (List.mem_filter.mp h).2⟩
theorem tq_1 {w : Cond} (h : w ∈ tables_1_1) : w ∈ lw_tbl := List.mem_append_right _ (List.mem_append_left _ h)
theorem tq_2 {w : Cond} (h : w ∈ tables_1_2) : w ∈ lw_tbl := List.mem_append_right _ (List.mem_append_right _ (List.mem_append_left _ h))
theorem tq_3 {w : Cond} (h : w ∈ tables_1_3) : w ∈ lw_tbl := List.mem_append_right _ (List.mem_append_right _ (List.mem_append_right _ (List.mem_append_left _ h)))
theorem tq_4 {w : Cond} (h : w ∈ tables_1_4) : w ∈ lw_tbl := List.mem_append_right _ (List.mem_append_right _ (List.mem_append_right _ (List.mem_append_right _ (List.mem_append_left _ h))))
theorem tq_5 {w : Cond} (h : w ∈ tables_1_5) : w ∈ lw_tbl := List.mem_append_right _ (List.mem_append_right _ (List.mem_append_right _ (List.mem_append_right _ (List.mem_append_right _ (List.mem_append_left _ h)))))
theorem tq_6 {w : Cond} (h : w ∈ tables_1_6) : w ∈ lw_tbl := List.mem_append_right _ (List.mem_append_right _ (List.mem_append_right _ (List.mem_append_right _ (List.mem_append_right _ (List.mem_append_right _ (List.mem_append_left _ h))))))
theorem tq_7 {w : Cond} (h : w ∈ tables_1_7) : w ∈ lw_tbl := List.mem_append_right _ (List.mem_append_right _ (List.mem_append_right _ (List.mem_append_right _ (List.mem_append_right _ (List.mem_append_right _ (List.mem_append_right _ (h)))))))
theorem q_0 : Cond.initialized "HillDrumsLaw" ∈ wsL_law := wq_in (tq_1 (List.mem_of_getElem? (i := 0) rfl)) rfl
theorem q_1 : Cond.initialized "HillDrums" ∈ wsL_law := wq_in (tq_1 (List.mem_of_getElem? (i := 1) rfl)) rfl
theorem q_2 : Cond.initialized "HillDrums$Tape" ∈ wsL_law := wq_in (tq_1 (List.mem_of_getElem? (i := 2) rfl)) rfl
theorem q_3 : Cond.initialized "HillDrums$Text" ∈ wsL_law := wq_in (tq_1 (List.mem_of_getElem? (i := 3) rfl)) rfl
theorem q_4 : Cond.initialized "HillDrums$Law" ∈ wsL_law := wq_in (tq_1 (List.mem_of_getElem? (i := 4) rfl)) rfl
theorem q_5 : Cond.initialized "HillDrums$Row" ∈ wsL_law := wq_in (tq_1 (List.mem_of_getElem? (i := 5) rfl)) rfl
theorem q_6 : Cond.initialized "HillDrums$Reader" ∈ wsL_law := wq_in (tq_1 (List.mem_of_getElem? (i := 6) rfl)) rfl
theorem q_7 : Cond.initialized "HillDrums$Tokens" ∈ wsL_law := wq_in (tq_1 (List.mem_of_getElem? (i := 7) rfl)) rfl
theorem q_8 : Cond.initialized "HillDrums$World" ∈ wsL_law := wq_in (tq_1 (List.mem_of_getElem? (i := 8) rfl)) rfl
theorem q_9 : Cond.initialized "HillDrums$Past" ∈ wsL_law := wq_in (tq_1 (List.mem_of_getElem? (i := 9) rfl)) rfl
theorem q_10 : Cond.initialized "HillDrums$Told" ∈ wsL_law := wq_in (tq_1 (List.mem_of_getElem? (i := 10) rfl)) rfl
theorem q_11 : Cond.initialized "HillDrums$Plans" ∈ wsL_law := wq_in (tq_1 (List.mem_of_getElem? (i := 11) rfl)) rfl
theorem q_12 : Cond.initialized "HillDrums$Loop" ∈ wsL_law := wq_in (tq_1 (List.mem_of_getElem? (i := 12) rfl)) rfl
theorem q_13 : Cond.initialized "java/util/Arrays" ∈ wsL_law := wq_in (tq_1 (List.mem_of_getElem? (i := 13) rfl)) rfl
theorem q_14 : Cond.initialized "HillDrumsModel" ∈ wsL_law := wq_in (tq_1 (List.mem_of_getElem? (i := 14) rfl)) rfl
theorem q_15 : Cond.initialized "java/lang/String" ∈ wsL_law := wq_in (tq_1 (List.mem_of_getElem? (i := 15) rfl)) rfl
theorem q_16 : Cond.initialized "java/lang/StringLatin1" ∈ wsL_law := wq_in (tq_1 (List.mem_of_getElem? (i := 16) rfl)) rfl
theorem q_17 : Cond.initialized "jdk/internal/util/Preconditions" ∈ wsL_law := wq_in (tq_1 (List.mem_of_getElem? (i := 17) rfl)) rfl
theorem q_18 : Cond.initialized "java/lang/StringUTF16" ∈ wsL_law := wq_in (tq_1 (List.mem_of_getElem? (i := 18) rfl)) rfl
theorem q_19 : Cond.initialized "java/lang/Math" ∈ wsL_law := wq_in (tq_1 (List.mem_of_getElem? (i := 19) rfl)) rfl
theorem q_20 : Cond.initialized "java/lang/Character" ∈ wsL_law := wq_in (tq_1 (List.mem_of_getElem? (i := 20) rfl)) rfl
theorem q_21 : Cond.initialized "java/lang/System" ∈ wsL_law := wq_in (tq_1 (List.mem_of_getElem? (i := 21) rfl)) rfl
theorem q_22 : Cond.initialized "java/lang/Integer" ∈ wsL_law := wq_in (tq_1 (List.mem_of_getElem? (i := 22) rfl)) rfl
theorem q_23 : Cond.classLink "HillDrumsLaw" 7 "HillDrums" ∈ wsL_law := wq_in (tq_1 (List.mem_of_getElem? (i := 23) rfl)) rfl
theorem q_24 : Cond.instantiable "HillDrums" 13 ∈ wsL_law := wq_in (tq_1 (List.mem_of_getElem? (i := 24) rfl)) rfl
theorem q_25 : Cond.methodLink "HillDrumsLaw" 9 ⟨"HillDrums", "<init>", "()V"⟩ ∈ wsL_law := wq_in (tq_1 (List.mem_of_getElem? (i := 25) rfl)) rfl
theorem q_26 : Cond.instanceMethod ⟨"HillDrums", "<init>", "()V"⟩ ∈ wsL_law := wq_in (tq_1 (List.mem_of_getElem? (i := 26) rfl)) rfl
theorem q_27 : Cond.code ⟨"HillDrums", "<init>", "()V"⟩ prog_1_method_1_code 2 none ∈ wsL_law := wq_in (tq_1 (List.mem_of_getElem? (i := 27) rfl)) rfl
theorem q_28 : Cond.methodLink "HillDrums" 1 ⟨"java/lang/Object", "<init>", "()V"⟩ ∈ wsL_law := wq_in (tq_1 (List.mem_of_getElem? (i := 28) rfl)) rfl
theorem q_29 : Cond.instanceMethod ⟨"java/lang/Object", "<init>", "()V"⟩ ∈ wsL_law := wq_in (tq_1 (List.mem_of_getElem? (i := 29) rfl)) rfl
theorem q_30 : Cond.code ⟨"java/lang/Object", "<init>", "()V"⟩ object_method_1_code 1 none ∈ wsL_law := wq_in (tq_1 (List.mem_of_getElem? (i := 30) rfl)) rfl
theorem q_31 : Cond.classLink "HillDrums" 7 "HillDrums$Tape" ∈ wsL_law := wq_in (tq_1 (List.mem_of_getElem? (i := 31) rfl)) rfl
theorem q_32 : Cond.instantiable "HillDrums$Tape" 2 ∈ wsL_law := wq_in (tq_1 (List.mem_of_getElem? (i := 32) rfl)) rfl
theorem q_34 : Cond.instanceMethod ⟨"HillDrums$Tape", "<init>", "()V"⟩ ∈ wsL_law := wq_in (tq_1 (List.mem_of_getElem? (i := 34) rfl)) rfl
theorem q_35 : Cond.code ⟨"HillDrums$Tape", "<init>", "()V"⟩ prog_8_method_1_code 1 none ∈ wsL_law := wq_in (tq_1 (List.mem_of_getElem? (i := 35) rfl)) rfl
theorem q_36 : Cond.methodLink "HillDrums$Tape" 3 ⟨"java/lang/Object", "<init>", "()V"⟩ ∈ wsL_law := wq_in (tq_1 (List.mem_of_getElem? (i := 36) rfl)) rfl
theorem q_37 : Cond.fieldLink "HillDrums$Tape" 9 "HillDrums$Tape" "bytes" "[B" ∈ wsL_law := wq_in (tq_1 (List.mem_of_getElem? (i := 37) rfl)) rfl
theorem q_38 : Cond.fieldLink "HillDrums$Tape" 15 "HillDrums$Tape" "length" "I" ∈ wsL_law := wq_in (tq_1 (List.mem_of_getElem? (i := 38) rfl)) rfl
theorem q_46 : Cond.arrayClass .byte ∈ wsL_law := wq_in (tq_1 (List.mem_of_getElem? (i := 46) rfl)) rfl
theorem q_47 : Cond.classLink "HillDrums" 16 "HillDrums$Text" ∈ wsL_law := wq_in (tq_1 (List.mem_of_getElem? (i := 47) rfl)) rfl
theorem q_48 : Cond.instantiable "HillDrums$Text" 16 ∈ wsL_law := wq_in (tq_1 (List.mem_of_getElem? (i := 48) rfl)) rfl
theorem q_50 : Cond.instanceMethod ⟨"HillDrums$Text", "<init>", "()V"⟩ ∈ wsL_law := wq_in (tq_1 (List.mem_of_getElem? (i := 50) rfl)) rfl
theorem q_51 : Cond.code ⟨"HillDrums$Text", "<init>", "()V"⟩ prog_9_method_1_code 1 none ∈ wsL_law := wq_in (tq_1 (List.mem_of_getElem? (i := 51) rfl)) rfl
theorem q_52 : Cond.methodLink "HillDrums$Text" 3 ⟨"java/lang/Object", "<init>", "()V"⟩ ∈ wsL_law := wq_in (tq_1 (List.mem_of_getElem? (i := 52) rfl)) rfl
theorem q_53 : Cond.classLink "HillDrums$Text" 28 "HillDrums$Law" ∈ wsL_law := wq_in (tq_1 (List.mem_of_getElem? (i := 53) rfl)) rfl
theorem q_54 : Cond.instantiable "HillDrums$Law" 4 ∈ wsL_law := wq_in (tq_1 (List.mem_of_getElem? (i := 54) rfl)) rfl
theorem q_56 : Cond.instanceMethod ⟨"HillDrums$Law", "<init>", "()V"⟩ ∈ wsL_law := wq_in (tq_1 (List.mem_of_getElem? (i := 56) rfl)) rfl
theorem q_57 : Cond.code ⟨"HillDrums$Law", "<init>", "()V"⟩ prog_2_method_1_code 1 none ∈ wsL_law := wq_in (tq_1 (List.mem_of_getElem? (i := 57) rfl)) rfl
theorem q_58 : Cond.methodLink "HillDrums$Law" 3 ⟨"java/lang/Object", "<init>", "()V"⟩ ∈ wsL_law := wq_in (tq_1 (List.mem_of_getElem? (i := 58) rfl)) rfl
theorem q_59 : Cond.fieldLink "HillDrums$Law" 9 "HillDrums$Law" "cells" "[I" ∈ wsL_law := wq_in (tq_1 (List.mem_of_getElem? (i := 59) rfl)) rfl
theorem q_60 : Cond.fieldLink "HillDrums$Law" 15 "HillDrums$Law" "stack" "[I" ∈ wsL_law := wq_in (tq_1 (List.mem_of_getElem? (i := 60) rfl)) rfl
theorem q_61 : Cond.fieldLink "HillDrums$Law" 18 "HillDrums$Law" "length" "I" ∈ wsL_law := wq_in (tq_1 (List.mem_of_getElem? (i := 61) rfl)) rfl
theorem q_63 : Cond.fieldLink "HillDrums$Law" 22 "HillDrums$Law" "top" "I" ∈ wsL_law := wq_in (tq_1 (List.mem_of_getElem? (i := 63) rfl)) rfl
theorem q_73 : Cond.arrayClass .int ∈ wsL_law := wq_in (tq_1 (List.mem_of_getElem? (i := 73) rfl)) rfl
theorem q_74 : Cond.classLink "HillDrums$Text" 35 "HillDrums$Row" ∈ wsL_law := wq_in (tq_1 (List.mem_of_getElem? (i := 74) rfl)) rfl
theorem q_75 : Cond.instantiable "HillDrums$Row" 2 ∈ wsL_law := wq_in (tq_1 (List.mem_of_getElem? (i := 75) rfl)) rfl
theorem q_77 : Cond.instanceMethod ⟨"HillDrums$Row", "<init>", "()V"⟩ ∈ wsL_law := wq_in (tq_1 (List.mem_of_getElem? (i := 77) rfl)) rfl
theorem q_78 : Cond.code ⟨"HillDrums$Row", "<init>", "()V"⟩ prog_7_method_1_code 1 none ∈ wsL_law := wq_in (tq_1 (List.mem_of_getElem? (i := 78) rfl)) rfl
theorem q_79 : Cond.methodLink "HillDrums$Row" 3 ⟨"java/lang/Object", "<init>", "()V"⟩ ∈ wsL_law := wq_in (tq_1 (List.mem_of_getElem? (i := 79) rfl)) rfl
theorem q_80 : Cond.fieldLink "HillDrums$Row" 9 "HillDrums$Row" "numbers" "[I" ∈ wsL_law := wq_in (tq_1 (List.mem_of_getElem? (i := 80) rfl)) rfl
theorem q_82 : Cond.fieldLink "HillDrums$Row" 15 "HillDrums$Row" "size" "I" ∈ wsL_law := wq_in (tq_1 (List.mem_of_getElem? (i := 82) rfl)) rfl
theorem q_91 : Cond.fieldLink "HillDrums$Text" 9 "HillDrums$Text" "hills" "I" ∈ wsL_law := wq_in (tq_1 (List.mem_of_getElem? (i := 91) rfl)) rfl
theorem q_97 : Cond.fieldLink "HillDrums$Text" 15 "HillDrums$Text" "x" "[I" ∈ wsL_law := wq_in (tq_1 (List.mem_of_getElem? (i := 97) rfl)) rfl
theorem q_99 : Cond.fieldLink "HillDrums$Text" 19 "HillDrums$Text" "y" "[I" ∈ wsL_law := wq_in (tq_1 (List.mem_of_getElem? (i := 99) rfl)) rfl
theorem q_101 : Cond.fieldLink "HillDrums$Text" 22 "HillDrums$Text" "newsTold" "I" ∈ wsL_law := wq_in (tq_1 (List.mem_of_getElem? (i := 101) rfl)) rfl
theorem q_106 : Cond.fieldLink "HillDrums$Text" 25 "HillDrums$Text" "home" "[I" ∈ wsL_law := wq_in (tq_1 (List.mem_of_getElem? (i := 106) rfl)) rfl
theorem q_109 : Cond.fieldLink "HillDrums$Text" 31 "HillDrums$Text" "law" "LHillDrums$Law;" ∈ wsL_law := wq_in (tq_1 (List.mem_of_getElem? (i := 109) rfl)) rfl
theorem q_111 : Cond.fieldLink "HillDrums$Text" 38 "HillDrums$Text" "wind" "LHillDrums$Row;" ∈ wsL_law := wq_in (tq_1 (List.mem_of_getElem? (i := 111) rfl)) rfl
theorem q_114 : Cond.fieldLink "HillDrums$Text" 42 "HillDrums$Text" "fog" "LHillDrums$Row;" ∈ wsL_law := wq_in (tq_1 (List.mem_of_getElem? (i := 114) rfl)) rfl
theorem q_117 : Cond.fieldLink "HillDrums$Text" 45 "HillDrums$Text" "order" "I" ∈ wsL_law := wq_in (tq_1 (List.mem_of_getElem? (i := 117) rfl)) rfl
theorem q_122 : Cond.fieldLink "HillDrums$Text" 48 "HillDrums$Text" "sleepers" "I" ∈ wsL_law := wq_in (tq_1 (List.mem_of_getElem? (i := 122) rfl)) rfl
theorem q_126 : Cond.fieldLink "HillDrums$Text" 51 "HillDrums$Text" "sleeperHill" "[I" ∈ wsL_law := wq_in (tq_1 (List.mem_of_getElem? (i := 126) rfl)) rfl
theorem q_129 : Cond.fieldLink "HillDrums$Text" 54 "HillDrums$Text" "sleeperNews" "[I" ∈ wsL_law := wq_in (tq_1 (List.mem_of_getElem? (i := 129) rfl)) rfl
theorem q_132 : Cond.fieldLink "HillDrums$Text" 57 "HillDrums$Text" "sleeperDays" "[I" ∈ wsL_law := wq_in (tq_1 (List.mem_of_getElem? (i := 132) rfl)) rfl
theorem q_135 : Cond.fieldLink "HillDrums$Text" 60 "HillDrums$Text" "vars" "[I" ∈ wsL_law := wq_in (tq_1 (List.mem_of_getElem? (i := 135) rfl)) rfl
theorem q_136 : Cond.fieldLink "HillDrums$Text" 63 "HillDrums$Text" "heardRows" "[J" ∈ wsL_law := wq_in (tq_1 (List.mem_of_getElem? (i := 136) rfl)) rfl
theorem q_137 : Cond.fieldLink "HillDrums$Text" 67 "HillDrums$Text" "heardDays" "[I" ∈ wsL_law := wq_in (tq_1 (List.mem_of_getElem? (i := 137) rfl)) rfl
theorem q_171 : Cond.arrayClass .long ∈ wsL_law := wq_in (tq_1 (List.mem_of_getElem? (i := 171) rfl)) rfl
theorem q_172 : Cond.classLink "HillDrums" 26 "HillDrums$Reader" ∈ wsL_law := wq_in (tq_1 (List.mem_of_getElem? (i := 172) rfl)) rfl
theorem q_173 : Cond.instantiable "HillDrums$Reader" 9 ∈ wsL_law := wq_in (tq_1 (List.mem_of_getElem? (i := 173) rfl)) rfl
theorem q_175 : Cond.instanceMethod ⟨"HillDrums$Reader", "<init>", "(LHillDrums$Text;)V"⟩ ∈ wsL_law := wq_in (tq_1 (List.mem_of_getElem? (i := 175) rfl)) rfl
theorem q_176 : Cond.code ⟨"HillDrums$Reader", "<init>", "(LHillDrums$Text;)V"⟩ prog_6_method_1_code 2 none ∈ wsL_law := wq_in (tq_1 (List.mem_of_getElem? (i := 176) rfl)) rfl
theorem q_177 : Cond.methodLink "HillDrums$Reader" 3 ⟨"java/lang/Object", "<init>", "()V"⟩ ∈ wsL_law := wq_in (tq_1 (List.mem_of_getElem? (i := 177) rfl)) rfl
theorem q_178 : Cond.classLink "HillDrums$Reader" 9 "HillDrums$Tokens" ∈ wsL_law := wq_in (tq_1 (List.mem_of_getElem? (i := 178) rfl)) rfl
theorem q_179 : Cond.instantiable "HillDrums$Tokens" 3 ∈ wsL_law := wq_in (tq_1 (List.mem_of_getElem? (i := 179) rfl)) rfl
theorem q_181 : Cond.instanceMethod ⟨"HillDrums$Tokens", "<init>", "()V"⟩ ∈ wsL_law := wq_in (tq_1 (List.mem_of_getElem? (i := 181) rfl)) rfl
theorem q_182 : Cond.code ⟨"HillDrums$Tokens", "<init>", "()V"⟩ prog_10_method_1_code 1 none ∈ wsL_law := wq_in (tq_1 (List.mem_of_getElem? (i := 182) rfl)) rfl
theorem q_183 : Cond.methodLink "HillDrums$Tokens" 3 ⟨"java/lang/Object", "<init>", "()V"⟩ ∈ wsL_law := wq_in (tq_1 (List.mem_of_getElem? (i := 183) rfl)) rfl
theorem q_184 : Cond.fieldLink "HillDrums$Tokens" 9 "HillDrums$Tokens" "kinds" "[I" ∈ wsL_law := wq_in (tq_1 (List.mem_of_getElem? (i := 184) rfl)) rfl
theorem q_186 : Cond.fieldLink "HillDrums$Tokens" 15 "HillDrums$Tokens" "places" "[I" ∈ wsL_law := wq_in (tq_1 (List.mem_of_getElem? (i := 186) rfl)) rfl
theorem q_188 : Cond.fieldLink "HillDrums$Tokens" 18 "HillDrums$Tokens" "values" "[J" ∈ wsL_law := wq_in (tq_1 (List.mem_of_getElem? (i := 188) rfl)) rfl
theorem q_197 : Cond.fieldLink "HillDrums$Reader" 12 "HillDrums$Reader" "tokens" "LHillDrums$Tokens;" ∈ wsL_law := wq_in (tq_1 (List.mem_of_getElem? (i := 197) rfl)) rfl
theorem q_198 : Cond.fieldLink "HillDrums$Reader" 18 "HillDrums$Reader" "hillNames" "[J" ∈ wsL_law := wq_in (tq_1 (List.mem_of_getElem? (i := 198) rfl)) rfl
theorem q_199 : Cond.fieldLink "HillDrums$Reader" 22 "HillDrums$Reader" "newsNames" "[J" ∈ wsL_law := wq_in (tq_1 (List.mem_of_getElem? (i := 199) rfl)) rfl
theorem q_200 : Cond.fieldLink "HillDrums$Reader" 41 "HillDrums$Reader" "into" "LHillDrums$Text;" ∈ wsL_law := wq_in (tq_1 (List.mem_of_getElem? (i := 200) rfl)) rfl
theorem q_201 : Cond.fieldLink "HillDrums$Reader" 25 "HillDrums$Reader" "at" "I" ∈ wsL_law := wq_in (tq_1 (List.mem_of_getElem? (i := 201) rfl)) rfl
theorem q_202 : Cond.fieldLink "HillDrums$Reader" 29 "HillDrums$Reader" "fault" "I" ∈ wsL_law := wq_in (tq_1 (List.mem_of_getElem? (i := 202) rfl)) rfl
theorem q_204 : Cond.fieldLink "HillDrums$Reader" 32 "HillDrums$Reader" "place" "I" ∈ wsL_law := wq_in (tq_1 (List.mem_of_getElem? (i := 204) rfl)) rfl
theorem q_206 : Cond.fieldLink "HillDrums$Reader" 35 "HillDrums$Reader" "meaningFault" "I" ∈ wsL_law := wq_in (tq_1 (List.mem_of_getElem? (i := 206) rfl)) rfl
theorem q_207 : Cond.fieldLink "HillDrums$Reader" 38 "HillDrums$Reader" "meaningPlace" "I" ∈ wsL_law := wq_in (tq_1 (List.mem_of_getElem? (i := 207) rfl)) rfl
theorem q_227 : Cond.classLink "HillDrums" 39 "HillDrums$World" ∈ wsL_law := wq_in (tq_1 (List.mem_of_getElem? (i := 227) rfl)) rfl
theorem q_228 : Cond.instantiable "HillDrums$World" 12 ∈ wsL_law := wq_in (tq_1 (List.mem_of_getElem? (i := 228) rfl)) rfl
theorem q_230 : Cond.instanceMethod ⟨"HillDrums$World", "<init>", "()V"⟩ ∈ wsL_law := wq_in (tq_1 (List.mem_of_getElem? (i := 230) rfl)) rfl
theorem q_231 : Cond.code ⟨"HillDrums$World", "<init>", "()V"⟩ prog_12_method_1_code 1 none ∈ wsL_law := wq_in (tq_1 (List.mem_of_getElem? (i := 231) rfl)) rfl
theorem q_232 : Cond.methodLink "HillDrums$World" 3 ⟨"java/lang/Object", "<init>", "()V"⟩ ∈ wsL_law := wq_in (tq_1 (List.mem_of_getElem? (i := 232) rfl)) rfl
theorem q_233 : Cond.fieldLink "HillDrums$World" 9 "HillDrums$World" "day" "I" ∈ wsL_law := wq_in (tq_1 (List.mem_of_getElem? (i := 233) rfl)) rfl
theorem q_237 : Cond.fieldLink "HillDrums$World" 15 "HillDrums$World" "known" "I" ∈ wsL_law := wq_in (tq_1 (List.mem_of_getElem? (i := 237) rfl)) rfl
theorem q_240 : Cond.fieldLink "HillDrums$World" 18 "HillDrums$World" "deniedFirst" "I" ∈ wsL_law := wq_in (tq_2 (List.mem_of_getElem? (i := 0) rfl)) rfl
theorem q_242 : Cond.fieldLink "HillDrums$World" 21 "HillDrums$World" "saidToday" "I" ∈ wsL_law := wq_in (tq_2 (List.mem_of_getElem? (i := 2) rfl)) rfl
theorem q_243 : Cond.fieldLink "HillDrums$World" 24 "HillDrums$World" "deniedToday" "I" ∈ wsL_law := wq_in (tq_2 (List.mem_of_getElem? (i := 3) rfl)) rfl
theorem q_244 : Cond.fieldLink "HillDrums$World" 27 "HillDrums$World" "saidEver" "I" ∈ wsL_law := wq_in (tq_2 (List.mem_of_getElem? (i := 4) rfl)) rfl
theorem q_245 : Cond.fieldLink "HillDrums$World" 30 "HillDrums$World" "deniedEver" "I" ∈ wsL_law := wq_in (tq_2 (List.mem_of_getElem? (i := 5) rfl)) rfl
theorem q_246 : Cond.fieldLink "HillDrums$World" 33 "HillDrums$World" "today" "I" ∈ wsL_law := wq_in (tq_2 (List.mem_of_getElem? (i := 6) rfl)) rfl
theorem q_248 : Cond.fieldLink "HillDrums$World" 36 "HillDrums$World" "inAll" "I" ∈ wsL_law := wq_in (tq_2 (List.mem_of_getElem? (i := 8) rfl)) rfl
theorem q_250 : Cond.fieldLink "HillDrums$World" 39 "HillDrums$World" "since" "[I" ∈ wsL_law := wq_in (tq_2 (List.mem_of_getElem? (i := 10) rfl)) rfl
theorem q_253 : Cond.fieldLink "HillDrums$World" 43 "HillDrums$World" "from" "[I" ∈ wsL_law := wq_in (tq_2 (List.mem_of_getElem? (i := 13) rfl)) rfl
theorem q_255 : Cond.fieldLink "HillDrums$World" 46 "HillDrums$World" "drumsOfDay" "[I" ∈ wsL_law := wq_in (tq_2 (List.mem_of_getElem? (i := 15) rfl)) rfl
theorem q_282 : Cond.classLink "HillDrums" 49 "HillDrums$Past" ∈ wsL_law := wq_in (tq_2 (List.mem_of_getElem? (i := 42) rfl)) rfl
theorem q_283 : Cond.instantiable "HillDrums$Past" 3 ∈ wsL_law := wq_in (tq_2 (List.mem_of_getElem? (i := 43) rfl)) rfl
theorem q_285 : Cond.instanceMethod ⟨"HillDrums$Past", "<init>", "()V"⟩ ∈ wsL_law := wq_in (tq_2 (List.mem_of_getElem? (i := 45) rfl)) rfl
theorem q_286 : Cond.code ⟨"HillDrums$Past", "<init>", "()V"⟩ prog_4_method_1_code 2 none ∈ wsL_law := wq_in (tq_2 (List.mem_of_getElem? (i := 46) rfl)) rfl
theorem q_287 : Cond.methodLink "HillDrums$Past" 3 ⟨"java/lang/Object", "<init>", "()V"⟩ ∈ wsL_law := wq_in (tq_2 (List.mem_of_getElem? (i := 47) rfl)) rfl
theorem q_288 : Cond.classLink "HillDrums$Past" 9 "HillDrums$World" ∈ wsL_law := wq_in (tq_2 (List.mem_of_getElem? (i := 48) rfl)) rfl
theorem q_291 : Cond.fieldLink "HillDrums$Past" 11 "HillDrums$Past" "worlds" "[LHillDrums$World;" ∈ wsL_law := wq_in (tq_2 (List.mem_of_getElem? (i := 51) rfl)) rfl
theorem q_292 : Cond.fieldLink "HillDrums$Past" 17 "HillDrums$Past" "next" "I" ∈ wsL_law := wq_in (tq_2 (List.mem_of_getElem? (i := 52) rfl)) rfl
theorem q_293 : Cond.fieldLink "HillDrums$Past" 21 "HillDrums$Past" "size" "I" ∈ wsL_law := wq_in (tq_2 (List.mem_of_getElem? (i := 53) rfl)) rfl
theorem q_302 : Cond.classLink "HillDrums" 63 "HillDrums$Told" ∈ wsL_law := wq_in (tq_2 (List.mem_of_getElem? (i := 62) rfl)) rfl
theorem q_303 : Cond.instantiable "HillDrums$Told" 4 ∈ wsL_law := wq_in (tq_2 (List.mem_of_getElem? (i := 63) rfl)) rfl
theorem q_305 : Cond.instanceMethod ⟨"HillDrums$Told", "<init>", "()V"⟩ ∈ wsL_law := wq_in (tq_2 (List.mem_of_getElem? (i := 65) rfl)) rfl
theorem q_306 : Cond.code ⟨"HillDrums$Told", "<init>", "()V"⟩ prog_11_method_1_code 1 none ∈ wsL_law := wq_in (tq_2 (List.mem_of_getElem? (i := 66) rfl)) rfl
theorem q_307 : Cond.methodLink "HillDrums$Told" 3 ⟨"java/lang/Object", "<init>", "()V"⟩ ∈ wsL_law := wq_in (tq_2 (List.mem_of_getElem? (i := 67) rfl)) rfl
theorem q_308 : Cond.fieldLink "HillDrums$Told" 9 "HillDrums$Told" "hills" "[I" ∈ wsL_law := wq_in (tq_2 (List.mem_of_getElem? (i := 68) rfl)) rfl
theorem q_309 : Cond.fieldLink "HillDrums$Told" 15 "HillDrums$Told" "newses" "[I" ∈ wsL_law := wq_in (tq_2 (List.mem_of_getElem? (i := 69) rfl)) rfl
theorem q_310 : Cond.fieldLink "HillDrums$Told" 18 "HillDrums$Told" "days" "[I" ∈ wsL_law := wq_in (tq_2 (List.mem_of_getElem? (i := 70) rfl)) rfl
theorem q_311 : Cond.fieldLink "HillDrums$Told" 21 "HillDrums$Told" "size" "I" ∈ wsL_law := wq_in (tq_2 (List.mem_of_getElem? (i := 71) rfl)) rfl
theorem q_322 : Cond.classLink "HillDrums" 70 "HillDrums$Plans" ∈ wsL_law := wq_in (tq_2 (List.mem_of_getElem? (i := 82) rfl)) rfl
theorem q_323 : Cond.instantiable "HillDrums$Plans" 4 ∈ wsL_law := wq_in (tq_2 (List.mem_of_getElem? (i := 83) rfl)) rfl
theorem q_325 : Cond.instanceMethod ⟨"HillDrums$Plans", "<init>", "()V"⟩ ∈ wsL_law := wq_in (tq_2 (List.mem_of_getElem? (i := 85) rfl)) rfl
theorem q_326 : Cond.code ⟨"HillDrums$Plans", "<init>", "()V"⟩ prog_5_method_1_code 1 none ∈ wsL_law := wq_in (tq_2 (List.mem_of_getElem? (i := 86) rfl)) rfl
theorem q_327 : Cond.methodLink "HillDrums$Plans" 3 ⟨"java/lang/Object", "<init>", "()V"⟩ ∈ wsL_law := wq_in (tq_2 (List.mem_of_getElem? (i := 87) rfl)) rfl
theorem q_328 : Cond.fieldLink "HillDrums$Plans" 9 "HillDrums$Plans" "heardBy" "[I" ∈ wsL_law := wq_in (tq_2 (List.mem_of_getElem? (i := 88) rfl)) rfl
theorem q_329 : Cond.fieldLink "HillDrums$Plans" 15 "HillDrums$Plans" "lawful" "[Z" ∈ wsL_law := wq_in (tq_2 (List.mem_of_getElem? (i := 89) rfl)) rfl
theorem q_330 : Cond.fieldLink "HillDrums$Plans" 19 "HillDrums$Plans" "fewest" "[I" ∈ wsL_law := wq_in (tq_2 (List.mem_of_getElem? (i := 90) rfl)) rfl
theorem q_331 : Cond.fieldLink "HillDrums$Plans" 22 "HillDrums$Plans" "fewestNext" "[I" ∈ wsL_law := wq_in (tq_2 (List.mem_of_getElem? (i := 91) rfl)) rfl
theorem q_341 : Cond.arrayClass .boolean ∈ wsL_law := wq_in (tq_2 (List.mem_of_getElem? (i := 101) rfl)) rfl
theorem q_342 : Cond.classLink "HillDrums" 77 "HillDrums$Loop" ∈ wsL_law := wq_in (tq_2 (List.mem_of_getElem? (i := 102) rfl)) rfl
theorem q_343 : Cond.instantiable "HillDrums$Loop" 4 ∈ wsL_law := wq_in (tq_2 (List.mem_of_getElem? (i := 103) rfl)) rfl
theorem q_345 : Cond.instanceMethod ⟨"HillDrums$Loop", "<init>", "()V"⟩ ∈ wsL_law := wq_in (tq_2 (List.mem_of_getElem? (i := 105) rfl)) rfl
theorem q_346 : Cond.code ⟨"HillDrums$Loop", "<init>", "()V"⟩ prog_3_method_1_code 1 none ∈ wsL_law := wq_in (tq_2 (List.mem_of_getElem? (i := 106) rfl)) rfl
theorem q_347 : Cond.methodLink "HillDrums$Loop" 3 ⟨"java/lang/Object", "<init>", "()V"⟩ ∈ wsL_law := wq_in (tq_2 (List.mem_of_getElem? (i := 107) rfl)) rfl
theorem q_348 : Cond.classLink "HillDrums$Loop" 19 "HillDrums$World" ∈ wsL_law := wq_in (tq_2 (List.mem_of_getElem? (i := 108) rfl)) rfl
theorem q_350 : Cond.fieldLink "HillDrums$Loop" 9 "HillDrums$Loop" "found" "[I" ∈ wsL_law := wq_in (tq_2 (List.mem_of_getElem? (i := 110) rfl)) rfl
theorem q_352 : Cond.fieldLink "HillDrums$Loop" 15 "HillDrums$Loop" "length" "I" ∈ wsL_law := wq_in (tq_2 (List.mem_of_getElem? (i := 112) rfl)) rfl
theorem q_354 : Cond.fieldLink "HillDrums$Loop" 22 "HillDrums$Loop" "behindFirst" "LHillDrums$World;" ∈ wsL_law := wq_in (tq_2 (List.mem_of_getElem? (i := 114) rfl)) rfl
theorem q_355 : Cond.fieldLink "HillDrums$Loop" 26 "HillDrums$Loop" "behindSecond" "LHillDrums$World;" ∈ wsL_law := wq_in (tq_2 (List.mem_of_getElem? (i := 115) rfl)) rfl
theorem q_367 : Cond.instanceMethod ⟨"HillDrums$Text", "clear", "()V"⟩ ∈ wsL_law := wq_in (tq_2 (List.mem_of_getElem? (i := 127) rfl)) rfl
theorem q_368 : Cond.code ⟨"HillDrums$Text", "clear", "()V"⟩ prog_9_method_2_code 1 none ∈ wsL_law := wq_in (tq_2 (List.mem_of_getElem? (i := 128) rfl)) rfl
theorem q_371 : Cond.instanceMethod ⟨"HillDrums$Law", "setUsual", "()V"⟩ ∈ wsL_law := wq_in (tq_2 (List.mem_of_getElem? (i := 131) rfl)) rfl
theorem q_372 : Cond.code ⟨"HillDrums$Law", "setUsual", "()V"⟩ prog_2_method_2_code 1 none ∈ wsL_law := wq_in (tq_2 (List.mem_of_getElem? (i := 132) rfl)) rfl
theorem q_373 : Cond.methodLink "HillDrums$Law" 25 ⟨"HillDrums$Law", "add", "(I)I"⟩ ∈ wsL_law := wq_in (tq_2 (List.mem_of_getElem? (i := 133) rfl)) rfl
theorem q_375 : Cond.instanceMethod ⟨"HillDrums$Law", "add", "(I)I"⟩ ∈ wsL_law := wq_in (tq_2 (List.mem_of_getElem? (i := 135) rfl)) rfl
theorem q_376 : Cond.code ⟨"HillDrums$Law", "add", "(I)I"⟩ prog_2_method_3_code 2 (some .int) ∈ wsL_law := wq_in (tq_2 (List.mem_of_getElem? (i := 136) rfl)) rfl
theorem q_377 : Cond.methodLink "HillDrums$Text" 76 ⟨"java/util/Arrays", "fill", "([II)V"⟩ ∈ wsL_law := wq_in (tq_2 (List.mem_of_getElem? (i := 137) rfl)) rfl
theorem q_378 : Cond.static ⟨"java/util/Arrays", "fill", "([II)V"⟩ ∈ wsL_law := wq_in (tq_2 (List.mem_of_getElem? (i := 138) rfl)) rfl
theorem q_379 : Cond.code ⟨"java/util/Arrays", "fill", "([II)V"⟩ prog_22_method_103_code 4 none ∈ wsL_law := wq_in (tq_2 (List.mem_of_getElem? (i := 139) rfl)) rfl
theorem q_382 : Cond.instanceMethod ⟨"HillDrums$World", "begin", "(LHillDrums$Text;)V"⟩ ∈ wsL_law := wq_in (tq_2 (List.mem_of_getElem? (i := 142) rfl)) rfl
theorem q_383 : Cond.code ⟨"HillDrums$World", "begin", "(LHillDrums$Text;)V"⟩ prog_12_method_2_code 3 none ∈ wsL_law := wq_in (tq_2 (List.mem_of_getElem? (i := 143) rfl)) rfl
theorem q_384 : Cond.methodLink "HillDrums$World" 57 ⟨"HillDrums$World", "beginAt", "(II)V"⟩ ∈ wsL_law := wq_in (tq_2 (List.mem_of_getElem? (i := 144) rfl)) rfl
theorem q_386 : Cond.instanceMethod ⟨"HillDrums$World", "beginAt", "(II)V"⟩ ∈ wsL_law := wq_in (tq_2 (List.mem_of_getElem? (i := 146) rfl)) rfl
theorem q_387 : Cond.code ⟨"HillDrums$World", "beginAt", "(II)V"⟩ prog_12_method_3_code 4 none ∈ wsL_law := wq_in (tq_2 (List.mem_of_getElem? (i := 147) rfl)) rfl
theorem q_389 : Cond.static ⟨"HillDrums", "pairOf", "(II)I"⟩ ∈ wsL_law := wq_in (tq_2 (List.mem_of_getElem? (i := 149) rfl)) rfl
theorem q_390 : Cond.code ⟨"HillDrums", "pairOf", "(II)I"⟩ prog_1_method_37_code 2 (some .int) ∈ wsL_law := wq_in (tq_2 (List.mem_of_getElem? (i := 150) rfl)) rfl
theorem q_391 : Cond.fieldLink "HillDrums" 10 "HillDrums" "tape" "LHillDrums$Tape;" ∈ wsL_law := wq_in (tq_2 (List.mem_of_getElem? (i := 151) rfl)) rfl
theorem q_392 : Cond.fieldLink "HillDrums" 19 "HillDrums" "text" "LHillDrums$Text;" ∈ wsL_law := wq_in (tq_2 (List.mem_of_getElem? (i := 152) rfl)) rfl
theorem q_393 : Cond.fieldLink "HillDrums" 23 "HillDrums" "spare" "LHillDrums$Text;" ∈ wsL_law := wq_in (tq_2 (List.mem_of_getElem? (i := 153) rfl)) rfl
theorem q_394 : Cond.fieldLink "HillDrums" 31 "HillDrums" "reader" "LHillDrums$Reader;" ∈ wsL_law := wq_in (tq_2 (List.mem_of_getElem? (i := 154) rfl)) rfl
theorem q_395 : Cond.fieldLink "HillDrums" 35 "HillDrums" "faultPlace" "I" ∈ wsL_law := wq_in (tq_2 (List.mem_of_getElem? (i := 155) rfl)) rfl
theorem q_396 : Cond.fieldLink "HillDrums" 42 "HillDrums" "now" "LHillDrums$World;" ∈ wsL_law := wq_in (tq_2 (List.mem_of_getElem? (i := 156) rfl)) rfl
theorem q_397 : Cond.fieldLink "HillDrums" 46 "HillDrums" "would" "LHillDrums$World;" ∈ wsL_law := wq_in (tq_2 (List.mem_of_getElem? (i := 157) rfl)) rfl
theorem q_398 : Cond.fieldLink "HillDrums" 52 "HillDrums" "past" "LHillDrums$Past;" ∈ wsL_law := wq_in (tq_2 (List.mem_of_getElem? (i := 158) rfl)) rfl
theorem q_399 : Cond.fieldLink "HillDrums" 56 "HillDrums" "slots" "[LHillDrums$World;" ∈ wsL_law := wq_in (tq_2 (List.mem_of_getElem? (i := 159) rfl)) rfl
theorem q_400 : Cond.fieldLink "HillDrums" 60 "HillDrums" "heldSlots" "I" ∈ wsL_law := wq_in (tq_2 (List.mem_of_getElem? (i := 160) rfl)) rfl
theorem q_401 : Cond.fieldLink "HillDrums" 66 "HillDrums" "told" "LHillDrums$Told;" ∈ wsL_law := wq_in (tq_2 (List.mem_of_getElem? (i := 161) rfl)) rfl
theorem q_402 : Cond.fieldLink "HillDrums" 73 "HillDrums" "plans" "LHillDrums$Plans;" ∈ wsL_law := wq_in (tq_2 (List.mem_of_getElem? (i := 162) rfl)) rfl
theorem q_403 : Cond.fieldLink "HillDrums" 80 "HillDrums" "loop" "LHillDrums$Loop;" ∈ wsL_law := wq_in (tq_2 (List.mem_of_getElem? (i := 163) rfl)) rfl
theorem q_431 : Cond.methodLink "HillDrumsLaw" 13 ⟨"HillDrums", "feed", "(IIIII)I"⟩ ∈ wsL_law := wq_in (tq_2 (List.mem_of_getElem? (i := 191) rfl)) rfl
theorem q_432 : Cond.instanceMethod ⟨"HillDrums", "feed", "(IIIII)I"⟩ ∈ wsL_law := wq_in (tq_2 (List.mem_of_getElem? (i := 192) rfl)) rfl
theorem q_433 : Cond.selects "HillDrums" ⟨"HillDrums", "feed", "(IIIII)I"⟩ ⟨"HillDrums", "feed", "(IIIII)I"⟩ ∈ wsL_law := wq_in (tq_2 (List.mem_of_getElem? (i := 193) rfl)) rfl
theorem q_434 : Cond.code ⟨"HillDrums", "feed", "(IIIII)I"⟩ prog_1_method_2_code 6 (some .int) ∈ wsL_law := wq_in (tq_2 (List.mem_of_getElem? (i := 194) rfl)) rfl
theorem q_437 : Cond.instanceMethod ⟨"HillDrums$Tape", "add", "(I)V"⟩ ∈ wsL_law := wq_in (tq_2 (List.mem_of_getElem? (i := 197) rfl)) rfl
theorem q_438 : Cond.code ⟨"HillDrums$Tape", "add", "(I)V"⟩ prog_8_method_2_code 3 none ∈ wsL_law := wq_in (tq_2 (List.mem_of_getElem? (i := 198) rfl)) rfl
theorem q_439 : Cond.methodLink "HillDrumsLaw" 18 ⟨"HillDrums", "back", "(I)I"⟩ ∈ wsL_law := wq_in (tq_2 (List.mem_of_getElem? (i := 199) rfl)) rfl
theorem q_440 : Cond.instanceMethod ⟨"HillDrums", "back", "(I)I"⟩ ∈ wsL_law := wq_in (tq_2 (List.mem_of_getElem? (i := 200) rfl)) rfl
theorem q_441 : Cond.selects "HillDrums" ⟨"HillDrums", "back", "(I)I"⟩ ⟨"HillDrums", "back", "(I)I"⟩ ∈ wsL_law := wq_in (tq_2 (List.mem_of_getElem? (i := 201) rfl)) rfl
theorem q_442 : Cond.code ⟨"HillDrums", "back", "(I)I"⟩ prog_1_method_3_code 2 (some .int) ∈ wsL_law := wq_in (tq_2 (List.mem_of_getElem? (i := 202) rfl)) rfl
theorem q_443 : Cond.methodLink "HillDrumsLaw" 23 ⟨"HillDrums", "read", "()I"⟩ ∈ wsL_law := wq_in (tq_2 (List.mem_of_getElem? (i := 203) rfl)) rfl
theorem q_444 : Cond.instanceMethod ⟨"HillDrums", "read", "()I"⟩ ∈ wsL_law := wq_in (tq_2 (List.mem_of_getElem? (i := 204) rfl)) rfl
theorem q_445 : Cond.selects "HillDrums" ⟨"HillDrums", "read", "()I"⟩ ⟨"HillDrums", "read", "()I"⟩ ∈ wsL_law := wq_in (tq_2 (List.mem_of_getElem? (i := 205) rfl)) rfl
theorem q_446 : Cond.code ⟨"HillDrums", "read", "()I"⟩ prog_1_method_4_code 1 (some .int) ∈ wsL_law := wq_in (tq_2 (List.mem_of_getElem? (i := 206) rfl)) rfl
theorem q_449 : Cond.instanceMethod ⟨"HillDrums$Reader", "parse", "(LHillDrums$Tape;LHillDrums$Text;)V"⟩ ∈ wsL_law := wq_in (tq_2 (List.mem_of_getElem? (i := 209) rfl)) rfl
theorem q_450 : Cond.code ⟨"HillDrums$Reader", "parse", "(LHillDrums$Tape;LHillDrums$Text;)V"⟩ prog_6_method_2_code 4 none ∈ wsL_law := wq_in (tq_2 (List.mem_of_getElem? (i := 210) rfl)) rfl
theorem q_454 : Cond.instanceMethod ⟨"HillDrums$Tokens", "split", "(LHillDrums$Tape;)V"⟩ ∈ wsL_law := wq_in (tq_2 (List.mem_of_getElem? (i := 214) rfl)) rfl
theorem q_455 : Cond.code ⟨"HillDrums$Tokens", "split", "(LHillDrums$Tape;)V"⟩ prog_10_method_2_code 4 none ∈ wsL_law := wq_in (tq_2 (List.mem_of_getElem? (i := 215) rfl)) rfl
theorem q_456 : Cond.methodLink "HillDrums$Tokens" 22 ⟨"HillDrums$Tokens", "pastBlanks", "(LHillDrums$Tape;I)I"⟩ ∈ wsL_law := wq_in (tq_2 (List.mem_of_getElem? (i := 216) rfl)) rfl
theorem q_457 : Cond.static ⟨"HillDrums$Tokens", "pastBlanks", "(LHillDrums$Tape;I)I"⟩ ∈ wsL_law := wq_in (tq_2 (List.mem_of_getElem? (i := 217) rfl)) rfl
theorem q_458 : Cond.code ⟨"HillDrums$Tokens", "pastBlanks", "(LHillDrums$Tape;I)I"⟩ prog_10_method_3_code 3 (some .int) ∈ wsL_law := wq_in (tq_2 (List.mem_of_getElem? (i := 218) rfl)) rfl
theorem q_461 : Cond.instanceMethod ⟨"HillDrums$Tape", "byteAt", "(I)I"⟩ ∈ wsL_law := wq_in (tq_2 (List.mem_of_getElem? (i := 221) rfl)) rfl
theorem q_462 : Cond.code ⟨"HillDrums$Tape", "byteAt", "(I)I"⟩ prog_8_method_3_code 2 (some .int) ∈ wsL_law := wq_in (tq_2 (List.mem_of_getElem? (i := 222) rfl)) rfl
theorem q_463 : Cond.methodLink "HillDrums$Tokens" 40 ⟨"HillDrums$Tokens", "isBlank", "(I)Z"⟩ ∈ wsL_law := wq_in (tq_2 (List.mem_of_getElem? (i := 223) rfl)) rfl
theorem q_464 : Cond.static ⟨"HillDrums$Tokens", "isBlank", "(I)Z"⟩ ∈ wsL_law := wq_in (tq_2 (List.mem_of_getElem? (i := 224) rfl)) rfl
theorem q_465 : Cond.code ⟨"HillDrums$Tokens", "isBlank", "(I)Z"⟩ prog_10_method_4_code 1 (some .boolean) ∈ wsL_law := wq_in (tq_2 (List.mem_of_getElem? (i := 225) rfl)) rfl
theorem q_466 : Cond.methodLink "HillDrums$Tokens" 26 ⟨"HillDrums$Tokens", "keep", "(LHillDrums$Tape;II)I"⟩ ∈ wsL_law := wq_in (tq_2 (List.mem_of_getElem? (i := 226) rfl)) rfl
theorem q_468 : Cond.instanceMethod ⟨"HillDrums$Tokens", "keep", "(LHillDrums$Tape;II)I"⟩ ∈ wsL_law := wq_in (tq_2 (List.mem_of_getElem? (i := 228) rfl)) rfl
theorem q_469 : Cond.code ⟨"HillDrums$Tokens", "keep", "(LHillDrums$Tape;II)I"⟩ prog_10_method_5_code 5 (some .int) ∈ wsL_law := wq_in (tq_2 (List.mem_of_getElem? (i := 229) rfl)) rfl
theorem q_470 : Cond.methodLink "HillDrums$Tokens" 44 ⟨"HillDrums$Tokens", "isLetter", "(I)Z"⟩ ∈ wsL_law := wq_in (tq_2 (List.mem_of_getElem? (i := 230) rfl)) rfl
theorem q_471 : Cond.static ⟨"HillDrums$Tokens", "isLetter", "(I)Z"⟩ ∈ wsL_law := wq_in (tq_2 (List.mem_of_getElem? (i := 231) rfl)) rfl
theorem q_472 : Cond.code ⟨"HillDrums$Tokens", "isLetter", "(I)Z"⟩ prog_10_method_6_code 1 (some .boolean) ∈ wsL_law := wq_in (tq_2 (List.mem_of_getElem? (i := 232) rfl)) rfl
theorem q_473 : Cond.methodLink "HillDrums$Tokens" 47 ⟨"HillDrums$Tokens", "keepLetters", "(LHillDrums$Tape;II)I"⟩ ∈ wsL_law := wq_in (tq_2 (List.mem_of_getElem? (i := 233) rfl)) rfl
theorem q_475 : Cond.instanceMethod ⟨"HillDrums$Tokens", "keepLetters", "(LHillDrums$Tape;II)I"⟩ ∈ wsL_law := wq_in (tq_2 (List.mem_of_getElem? (i := 235) rfl)) rfl
theorem q_476 : Cond.code ⟨"HillDrums$Tokens", "keepLetters", "(LHillDrums$Tape;II)I"⟩ prog_10_method_8_code 5 (some .int) ∈ wsL_law := wq_in (tq_2 (List.mem_of_getElem? (i := 236) rfl)) rfl
theorem q_477 : Cond.constantLong "HillDrums$Tokens" 63 (32 : Int64) ∈ wsL_law := wq_in (tq_2 (List.mem_of_getElem? (i := 237) rfl)) rfl
theorem q_478 : Cond.methodLink "HillDrums$Tokens" 65 ⟨"HillDrums$Tokens", "wordOrName", "(LHillDrums$Tape;II)I"⟩ ∈ wsL_law := wq_in (tq_2 (List.mem_of_getElem? (i := 238) rfl)) rfl
theorem q_479 : Cond.static ⟨"HillDrums$Tokens", "wordOrName", "(LHillDrums$Tape;II)I"⟩ ∈ wsL_law := wq_in (tq_2 (List.mem_of_getElem? (i := 239) rfl)) rfl
theorem q_480 : Cond.code ⟨"HillDrums$Tokens", "wordOrName", "(LHillDrums$Tape;II)I"⟩ prog_10_method_9_code 7 (some .int) ∈ wsL_law := wq_in (tq_3 (List.mem_of_getElem? (i := 0) rfl)) rfl
theorem q_482 : Cond.methodLink "HillDrums$Tokens" 70 ⟨"java/lang/String", "charAt", "(I)C"⟩ ∈ wsL_law := wq_in (tq_3 (List.mem_of_getElem? (i := 2) rfl)) rfl
theorem q_483 : Cond.instanceMethod ⟨"java/lang/String", "charAt", "(I)C"⟩ ∈ wsL_law := wq_in (tq_3 (List.mem_of_getElem? (i := 3) rfl)) rfl
theorem q_484 : Cond.selects "java/lang/String" ⟨"java/lang/String", "charAt", "(I)C"⟩ ⟨"java/lang/String", "charAt", "(I)C"⟩ ∈ wsL_law := wq_in (tq_3 (List.mem_of_getElem? (i := 4) rfl)) rfl
theorem q_485 : Cond.code ⟨"java/lang/String", "charAt", "(I)C"⟩ prog_18_method_56_code 2 (some .char) ∈ wsL_law := wq_in (tq_3 (List.mem_of_getElem? (i := 5) rfl)) rfl
theorem q_486 : Cond.methodLink "java/lang/String" 492 ⟨"java/lang/String", "isLatin1", "()Z"⟩ ∈ wsL_law := wq_in (tq_3 (List.mem_of_getElem? (i := 6) rfl)) rfl
theorem q_487 : Cond.instanceMethod ⟨"java/lang/String", "isLatin1", "()Z"⟩ ∈ wsL_law := wq_in (tq_3 (List.mem_of_getElem? (i := 7) rfl)) rfl
theorem q_488 : Cond.selects "java/lang/String" ⟨"java/lang/String", "isLatin1", "()Z"⟩ ⟨"java/lang/String", "isLatin1", "()Z"⟩ ∈ wsL_law := wq_in (tq_3 (List.mem_of_getElem? (i := 8) rfl)) rfl
theorem q_489 : Cond.code ⟨"java/lang/String", "isLatin1", "()Z"⟩ prog_18_method_154_code 1 (some .boolean) ∈ wsL_law := wq_in (tq_3 (List.mem_of_getElem? (i := 9) rfl)) rfl
theorem q_490 : Cond.fieldLink "java/lang/String" 38 "java/lang/String" "COMPACT_STRINGS" "Z" ∈ wsL_law := wq_in (tq_3 (List.mem_of_getElem? (i := 10) rfl)) rfl
theorem q_492 : Cond.methodLink "java/lang/String" 495 ⟨"java/lang/StringLatin1", "charAt", "([BI)C"⟩ ∈ wsL_law := wq_in (tq_3 (List.mem_of_getElem? (i := 12) rfl)) rfl
theorem q_493 : Cond.static ⟨"java/lang/StringLatin1", "charAt", "([BI)C"⟩ ∈ wsL_law := wq_in (tq_3 (List.mem_of_getElem? (i := 13) rfl)) rfl
theorem q_494 : Cond.code ⟨"java/lang/StringLatin1", "charAt", "([BI)C"⟩ prog_19_method_2_code 2 (some .char) ∈ wsL_law := wq_in (tq_3 (List.mem_of_getElem? (i := 14) rfl)) rfl
theorem q_495 : Cond.methodLink "java/lang/StringLatin1" 9 ⟨"java/lang/String", "checkIndex", "(II)V"⟩ ∈ wsL_law := wq_in (tq_3 (List.mem_of_getElem? (i := 15) rfl)) rfl
theorem q_496 : Cond.static ⟨"java/lang/String", "checkIndex", "(II)V"⟩ ∈ wsL_law := wq_in (tq_3 (List.mem_of_getElem? (i := 16) rfl)) rfl
theorem q_497 : Cond.code ⟨"java/lang/String", "checkIndex", "(II)V"⟩ prog_18_method_155_code 2 none ∈ wsL_law := wq_in (tq_3 (List.mem_of_getElem? (i := 17) rfl)) rfl
theorem q_498 : Cond.fieldLink "java/lang/String" 1053 "jdk/internal/util/Preconditions" "SIOOBE_FORMATTER" "Ljava/util/function/BiFunction;" ∈ wsL_law := wq_in (tq_3 (List.mem_of_getElem? (i := 18) rfl)) rfl
theorem q_500 : Cond.methodLink "java/lang/String" 1059 ⟨"jdk/internal/util/Preconditions", "checkIndex", "(IILjava/util/function/BiFunction;)I"⟩ ∈ wsL_law := wq_in (tq_3 (List.mem_of_getElem? (i := 20) rfl)) rfl
theorem q_501 : Cond.static ⟨"jdk/internal/util/Preconditions", "checkIndex", "(IILjava/util/function/BiFunction;)I"⟩ ∈ wsL_law := wq_in (tq_3 (List.mem_of_getElem? (i := 21) rfl)) rfl
theorem q_502 : Cond.code ⟨"jdk/internal/util/Preconditions", "checkIndex", "(IILjava/util/function/BiFunction;)I"⟩ prog_23_method_11_code 3 (some .int) ∈ wsL_law := wq_in (tq_3 (List.mem_of_getElem? (i := 22) rfl)) rfl
theorem q_503 : Cond.methodLink "java/lang/String" 498 ⟨"java/lang/StringUTF16", "charAt", "([BI)C"⟩ ∈ wsL_law := wq_in (tq_3 (List.mem_of_getElem? (i := 23) rfl)) rfl
theorem q_504 : Cond.static ⟨"java/lang/StringUTF16", "charAt", "([BI)C"⟩ ∈ wsL_law := wq_in (tq_3 (List.mem_of_getElem? (i := 24) rfl)) rfl
theorem q_505 : Cond.code ⟨"java/lang/StringUTF16", "charAt", "([BI)C"⟩ prog_20_method_83_code 2 (some .char) ∈ wsL_law := wq_in (tq_3 (List.mem_of_getElem? (i := 25) rfl)) rfl
theorem q_506 : Cond.methodLink "java/lang/StringUTF16" 67 ⟨"java/lang/StringUTF16", "checkIndex", "(I[B)V"⟩ ∈ wsL_law := wq_in (tq_3 (List.mem_of_getElem? (i := 26) rfl)) rfl
theorem q_507 : Cond.static ⟨"java/lang/StringUTF16", "checkIndex", "(I[B)V"⟩ ∈ wsL_law := wq_in (tq_3 (List.mem_of_getElem? (i := 27) rfl)) rfl
theorem q_508 : Cond.code ⟨"java/lang/StringUTF16", "checkIndex", "(I[B)V"⟩ prog_20_method_91_code 2 none ∈ wsL_law := wq_in (tq_3 (List.mem_of_getElem? (i := 28) rfl)) rfl
theorem q_509 : Cond.methodLink "java/lang/StringUTF16" 48 ⟨"java/lang/StringUTF16", "length", "([B)I"⟩ ∈ wsL_law := wq_in (tq_3 (List.mem_of_getElem? (i := 29) rfl)) rfl
theorem q_510 : Cond.static ⟨"java/lang/StringUTF16", "length", "([B)I"⟩ ∈ wsL_law := wq_in (tq_3 (List.mem_of_getElem? (i := 30) rfl)) rfl
theorem q_511 : Cond.code ⟨"java/lang/StringUTF16", "length", "([B)I"⟩ prog_20_method_6_code 1 (some .int) ∈ wsL_law := wq_in (tq_3 (List.mem_of_getElem? (i := 31) rfl)) rfl
theorem q_512 : Cond.methodLink "java/lang/StringUTF16" 414 ⟨"java/lang/String", "checkIndex", "(II)V"⟩ ∈ wsL_law := wq_in (tq_3 (List.mem_of_getElem? (i := 32) rfl)) rfl
theorem q_513 : Cond.methodLink "java/lang/StringUTF16" 71 ⟨"java/lang/StringUTF16", "getChar", "([BI)C"⟩ ∈ wsL_law := wq_in (tq_3 (List.mem_of_getElem? (i := 33) rfl)) rfl
theorem q_514 : Cond.static ⟨"java/lang/StringUTF16", "getChar", "([BI)C"⟩ ∈ wsL_law := wq_in (tq_3 (List.mem_of_getElem? (i := 34) rfl)) rfl
theorem q_515 : Cond.code ⟨"java/lang/StringUTF16", "getChar", "([BI)C"⟩ prog_20_method_5_code 2 (some .char) ∈ wsL_law := wq_in (tq_3 (List.mem_of_getElem? (i := 35) rfl)) rfl
theorem q_516 : Cond.fieldLink "java/lang/StringUTF16" 44 "java/lang/StringUTF16" "$assertionsDisabled" "Z" ∈ wsL_law := wq_in (tq_3 (List.mem_of_getElem? (i := 36) rfl)) rfl
theorem q_518 : Cond.fieldLink "java/lang/StringUTF16" 59 "java/lang/StringUTF16" "HI_BYTE_SHIFT" "I" ∈ wsL_law := wq_in (tq_3 (List.mem_of_getElem? (i := 38) rfl)) rfl
theorem q_520 : Cond.fieldLink "java/lang/StringUTF16" 63 "java/lang/StringUTF16" "LO_BYTE_SHIFT" "I" ∈ wsL_law := wq_in (tq_3 (List.mem_of_getElem? (i := 40) rfl)) rfl
theorem q_522 : Cond.methodLink "HillDrums$Tokens" 50 ⟨"HillDrums$Tokens", "isDigit", "(I)Z"⟩ ∈ wsL_law := wq_in (tq_3 (List.mem_of_getElem? (i := 42) rfl)) rfl
theorem q_523 : Cond.static ⟨"HillDrums$Tokens", "isDigit", "(I)Z"⟩ ∈ wsL_law := wq_in (tq_3 (List.mem_of_getElem? (i := 43) rfl)) rfl
theorem q_524 : Cond.code ⟨"HillDrums$Tokens", "isDigit", "(I)Z"⟩ prog_10_method_7_code 1 (some .boolean) ∈ wsL_law := wq_in (tq_3 (List.mem_of_getElem? (i := 44) rfl)) rfl
theorem q_525 : Cond.methodLink "HillDrums$Tokens" 53 ⟨"HillDrums$Tokens", "keepDigits", "(LHillDrums$Tape;II)I"⟩ ∈ wsL_law := wq_in (tq_3 (List.mem_of_getElem? (i := 45) rfl)) rfl
theorem q_527 : Cond.instanceMethod ⟨"HillDrums$Tokens", "keepDigits", "(LHillDrums$Tape;II)I"⟩ ∈ wsL_law := wq_in (tq_3 (List.mem_of_getElem? (i := 47) rfl)) rfl
theorem q_528 : Cond.code ⟨"HillDrums$Tokens", "keepDigits", "(LHillDrums$Tape;II)I"⟩ prog_10_method_10_code 5 (some .int) ∈ wsL_law := wq_in (tq_3 (List.mem_of_getElem? (i := 48) rfl)) rfl
theorem q_529 : Cond.constantLong "HillDrums$Tokens" 74 (10 : Int64) ∈ wsL_law := wq_in (tq_3 (List.mem_of_getElem? (i := 49) rfl)) rfl
theorem q_531 : Cond.methodLink "HillDrums$Tokens" 58 ⟨"java/lang/String", "indexOf", "(I)I"⟩ ∈ wsL_law := wq_in (tq_3 (List.mem_of_getElem? (i := 51) rfl)) rfl
theorem q_532 : Cond.instanceMethod ⟨"java/lang/String", "indexOf", "(I)I"⟩ ∈ wsL_law := wq_in (tq_3 (List.mem_of_getElem? (i := 52) rfl)) rfl
theorem q_533 : Cond.selects "java/lang/String" ⟨"java/lang/String", "indexOf", "(I)I"⟩ ⟨"java/lang/String", "indexOf", "(I)I"⟩ ∈ wsL_law := wq_in (tq_3 (List.mem_of_getElem? (i := 53) rfl)) rfl
theorem q_534 : Cond.code ⟨"java/lang/String", "indexOf", "(I)I"⟩ prog_18_method_79_code 2 (some .int) ∈ wsL_law := wq_in (tq_3 (List.mem_of_getElem? (i := 54) rfl)) rfl
theorem q_535 : Cond.methodLink "java/lang/String" 633 ⟨"java/lang/String", "indexOf", "(II)I"⟩ ∈ wsL_law := wq_in (tq_3 (List.mem_of_getElem? (i := 55) rfl)) rfl
theorem q_536 : Cond.instanceMethod ⟨"java/lang/String", "indexOf", "(II)I"⟩ ∈ wsL_law := wq_in (tq_3 (List.mem_of_getElem? (i := 56) rfl)) rfl
theorem q_537 : Cond.selects "java/lang/String" ⟨"java/lang/String", "indexOf", "(II)I"⟩ ⟨"java/lang/String", "indexOf", "(II)I"⟩ ∈ wsL_law := wq_in (tq_3 (List.mem_of_getElem? (i := 57) rfl)) rfl
theorem q_538 : Cond.code ⟨"java/lang/String", "indexOf", "(II)I"⟩ prog_18_method_80_code 3 (some .int) ∈ wsL_law := wq_in (tq_3 (List.mem_of_getElem? (i := 58) rfl)) rfl
theorem q_539 : Cond.methodLink "java/lang/String" 505 ⟨"java/lang/String", "length", "()I"⟩ ∈ wsL_law := wq_in (tq_3 (List.mem_of_getElem? (i := 59) rfl)) rfl
theorem q_540 : Cond.instanceMethod ⟨"java/lang/String", "length", "()I"⟩ ∈ wsL_law := wq_in (tq_3 (List.mem_of_getElem? (i := 60) rfl)) rfl
theorem q_541 : Cond.selects "java/lang/String" ⟨"java/lang/String", "length", "()I"⟩ ⟨"java/lang/String", "length", "()I"⟩ ∈ wsL_law := wq_in (tq_3 (List.mem_of_getElem? (i := 61) rfl)) rfl
theorem q_542 : Cond.code ⟨"java/lang/String", "length", "()I"⟩ prog_18_method_54_code 1 (some .int) ∈ wsL_law := wq_in (tq_3 (List.mem_of_getElem? (i := 62) rfl)) rfl
theorem q_543 : Cond.methodLink "java/lang/String" 335 ⟨"java/lang/String", "coder", "()B"⟩ ∈ wsL_law := wq_in (tq_3 (List.mem_of_getElem? (i := 63) rfl)) rfl
theorem q_544 : Cond.instanceMethod ⟨"java/lang/String", "coder", "()B"⟩ ∈ wsL_law := wq_in (tq_3 (List.mem_of_getElem? (i := 64) rfl)) rfl
theorem q_545 : Cond.selects "java/lang/String" ⟨"java/lang/String", "coder", "()B"⟩ ⟨"java/lang/String", "coder", "()B"⟩ ∈ wsL_law := wq_in (tq_3 (List.mem_of_getElem? (i := 65) rfl)) rfl
theorem q_546 : Cond.code ⟨"java/lang/String", "coder", "()B"⟩ prog_18_method_152_code 1 (some .byte) ∈ wsL_law := wq_in (tq_3 (List.mem_of_getElem? (i := 66) rfl)) rfl
theorem q_547 : Cond.methodLink "java/lang/String" 637 ⟨"java/lang/StringLatin1", "indexOf", "([BIII)I"⟩ ∈ wsL_law := wq_in (tq_3 (List.mem_of_getElem? (i := 67) rfl)) rfl
theorem q_548 : Cond.static ⟨"java/lang/StringLatin1", "indexOf", "([BIII)I"⟩ ∈ wsL_law := wq_in (tq_3 (List.mem_of_getElem? (i := 68) rfl)) rfl
theorem q_549 : Cond.code ⟨"java/lang/StringLatin1", "indexOf", "([BIII)I"⟩ prog_19_method_22_code 4 (some .int) ∈ wsL_law := wq_in (tq_3 (List.mem_of_getElem? (i := 69) rfl)) rfl
theorem q_550 : Cond.methodLink "java/lang/StringLatin1" 88 ⟨"java/lang/StringLatin1", "canEncode", "(I)Z"⟩ ∈ wsL_law := wq_in (tq_3 (List.mem_of_getElem? (i := 70) rfl)) rfl
theorem q_551 : Cond.static ⟨"java/lang/StringLatin1", "canEncode", "(I)Z"⟩ ∈ wsL_law := wq_in (tq_3 (List.mem_of_getElem? (i := 71) rfl)) rfl
theorem q_552 : Cond.code ⟨"java/lang/StringLatin1", "canEncode", "(I)Z"⟩ prog_19_method_4_code 1 (some .boolean) ∈ wsL_law := wq_in (tq_3 (List.mem_of_getElem? (i := 72) rfl)) rfl
theorem q_553 : Cond.methodLink "java/lang/StringLatin1" 92 ⟨"java/lang/Math", "max", "(II)I"⟩ ∈ wsL_law := wq_in (tq_3 (List.mem_of_getElem? (i := 73) rfl)) rfl
theorem q_554 : Cond.static ⟨"java/lang/Math", "max", "(II)I"⟩ ∈ wsL_law := wq_in (tq_3 (List.mem_of_getElem? (i := 74) rfl)) rfl
theorem q_555 : Cond.code ⟨"java/lang/Math", "max", "(II)I"⟩ prog_17_method_65_code 2 (some .int) ∈ wsL_law := wq_in (tq_3 (List.mem_of_getElem? (i := 75) rfl)) rfl
theorem q_556 : Cond.methodLink "java/lang/StringLatin1" 38 ⟨"java/lang/Math", "min", "(II)I"⟩ ∈ wsL_law := wq_in (tq_3 (List.mem_of_getElem? (i := 76) rfl)) rfl
theorem q_557 : Cond.static ⟨"java/lang/Math", "min", "(II)I"⟩ ∈ wsL_law := wq_in (tq_3 (List.mem_of_getElem? (i := 77) rfl)) rfl
theorem q_558 : Cond.code ⟨"java/lang/Math", "min", "(II)I"⟩ prog_17_method_69_code 2 (some .int) ∈ wsL_law := wq_in (tq_3 (List.mem_of_getElem? (i := 78) rfl)) rfl
theorem q_559 : Cond.methodLink "java/lang/StringLatin1" 95 ⟨"java/lang/StringLatin1", "indexOfChar", "([BIII)I"⟩ ∈ wsL_law := wq_in (tq_3 (List.mem_of_getElem? (i := 79) rfl)) rfl
theorem q_560 : Cond.static ⟨"java/lang/StringLatin1", "indexOfChar", "([BIII)I"⟩ ∈ wsL_law := wq_in (tq_3 (List.mem_of_getElem? (i := 80) rfl)) rfl
theorem q_561 : Cond.code ⟨"java/lang/StringLatin1", "indexOfChar", "([BIII)I"⟩ prog_19_method_23_code 6 (some .int) ∈ wsL_law := wq_in (tq_3 (List.mem_of_getElem? (i := 81) rfl)) rfl
theorem q_562 : Cond.methodLink "java/lang/String" 640 ⟨"java/lang/StringUTF16", "indexOf", "([BIII)I"⟩ ∈ wsL_law := wq_in (tq_3 (List.mem_of_getElem? (i := 82) rfl)) rfl
theorem q_563 : Cond.static ⟨"java/lang/StringUTF16", "indexOf", "([BIII)I"⟩ ∈ wsL_law := wq_in (tq_3 (List.mem_of_getElem? (i := 83) rfl)) rfl
theorem q_564 : Cond.code ⟨"java/lang/StringUTF16", "indexOf", "([BIII)I"⟩ prog_20_method_40_code 4 (some .int) ∈ wsL_law := wq_in (tq_3 (List.mem_of_getElem? (i := 84) rfl)) rfl
theorem q_565 : Cond.methodLink "java/lang/StringUTF16" 224 ⟨"java/lang/Math", "max", "(II)I"⟩ ∈ wsL_law := wq_in (tq_3 (List.mem_of_getElem? (i := 85) rfl)) rfl
theorem q_566 : Cond.methodLink "java/lang/StringUTF16" 183 ⟨"java/lang/Math", "min", "(II)I"⟩ ∈ wsL_law := wq_in (tq_3 (List.mem_of_getElem? (i := 86) rfl)) rfl
theorem q_567 : Cond.constant "java/lang/StringUTF16" 227 (65536 : Int32) ∈ wsL_law := wq_in (tq_3 (List.mem_of_getElem? (i := 87) rfl)) rfl
theorem q_568 : Cond.methodLink "java/lang/StringUTF16" 228 ⟨"java/lang/StringUTF16", "indexOfChar", "([BIII)I"⟩ ∈ wsL_law := wq_in (tq_3 (List.mem_of_getElem? (i := 88) rfl)) rfl
theorem q_569 : Cond.static ⟨"java/lang/StringUTF16", "indexOfChar", "([BIII)I"⟩ ∈ wsL_law := wq_in (tq_3 (List.mem_of_getElem? (i := 89) rfl)) rfl
theorem q_570 : Cond.code ⟨"java/lang/StringUTF16", "indexOfChar", "([BIII)I"⟩ prog_20_method_47_code 4 (some .int) ∈ wsL_law := wq_in (tq_3 (List.mem_of_getElem? (i := 90) rfl)) rfl
theorem q_571 : Cond.methodLink "java/lang/StringUTF16" 96 ⟨"java/lang/StringUTF16", "checkBoundsBeginEnd", "(II[B)V"⟩ ∈ wsL_law := wq_in (tq_3 (List.mem_of_getElem? (i := 91) rfl)) rfl
theorem q_572 : Cond.static ⟨"java/lang/StringUTF16", "checkBoundsBeginEnd", "(II[B)V"⟩ ∈ wsL_law := wq_in (tq_3 (List.mem_of_getElem? (i := 92) rfl)) rfl
theorem q_573 : Cond.code ⟨"java/lang/StringUTF16", "checkBoundsBeginEnd", "(II[B)V"⟩ prog_20_method_93_code 3 none ∈ wsL_law := wq_in (tq_3 (List.mem_of_getElem? (i := 93) rfl)) rfl
theorem q_574 : Cond.methodLink "java/lang/StringUTF16" 241 ⟨"java/lang/String", "checkBoundsBeginEnd", "(III)V"⟩ ∈ wsL_law := wq_in (tq_3 (List.mem_of_getElem? (i := 94) rfl)) rfl
theorem q_575 : Cond.static ⟨"java/lang/String", "checkBoundsBeginEnd", "(III)V"⟩ ∈ wsL_law := wq_in (tq_3 (List.mem_of_getElem? (i := 95) rfl)) rfl
theorem q_576 : Cond.code ⟨"java/lang/String", "checkBoundsBeginEnd", "(III)V"⟩ prog_18_method_158_code 3 none ∈ wsL_law := wq_in (tq_3 (List.mem_of_getElem? (i := 96) rfl)) rfl
theorem q_577 : Cond.methodLink "java/lang/String" 1062 ⟨"jdk/internal/util/Preconditions", "checkFromToIndex", "(IIILjava/util/function/BiFunction;)I"⟩ ∈ wsL_law := wq_in (tq_3 (List.mem_of_getElem? (i := 97) rfl)) rfl
theorem q_578 : Cond.static ⟨"jdk/internal/util/Preconditions", "checkFromToIndex", "(IIILjava/util/function/BiFunction;)I"⟩ ∈ wsL_law := wq_in (tq_3 (List.mem_of_getElem? (i := 98) rfl)) rfl
theorem q_579 : Cond.code ⟨"jdk/internal/util/Preconditions", "checkFromToIndex", "(IIILjava/util/function/BiFunction;)I"⟩ prog_23_method_12_code 4 (some .int) ∈ wsL_law := wq_in (tq_3 (List.mem_of_getElem? (i := 99) rfl)) rfl
theorem q_580 : Cond.methodLink "java/lang/StringUTF16" 244 ⟨"java/lang/StringUTF16", "indexOfCharUnsafe", "([BIII)I"⟩ ∈ wsL_law := wq_in (tq_3 (List.mem_of_getElem? (i := 100) rfl)) rfl
theorem q_581 : Cond.static ⟨"java/lang/StringUTF16", "indexOfCharUnsafe", "([BIII)I"⟩ ∈ wsL_law := wq_in (tq_3 (List.mem_of_getElem? (i := 101) rfl)) rfl
theorem q_582 : Cond.code ⟨"java/lang/StringUTF16", "indexOfCharUnsafe", "([BIII)I"⟩ prog_20_method_48_code 5 (some .int) ∈ wsL_law := wq_in (tq_3 (List.mem_of_getElem? (i := 102) rfl)) rfl
theorem q_583 : Cond.methodLink "java/lang/StringUTF16" 232 ⟨"java/lang/StringUTF16", "indexOfSupplementary", "([BIII)I"⟩ ∈ wsL_law := wq_in (tq_3 (List.mem_of_getElem? (i := 103) rfl)) rfl
theorem q_584 : Cond.static ⟨"java/lang/StringUTF16", "indexOfSupplementary", "([BIII)I"⟩ ∈ wsL_law := wq_in (tq_3 (List.mem_of_getElem? (i := 104) rfl)) rfl
theorem q_585 : Cond.code ⟨"java/lang/StringUTF16", "indexOfSupplementary", "([BIII)I"⟩ prog_20_method_49_code 7 (some .int) ∈ wsL_law := wq_in (tq_3 (List.mem_of_getElem? (i := 105) rfl)) rfl
theorem q_586 : Cond.methodLink "java/lang/StringUTF16" 164 ⟨"java/lang/Character", "isValidCodePoint", "(I)Z"⟩ ∈ wsL_law := wq_in (tq_3 (List.mem_of_getElem? (i := 106) rfl)) rfl
theorem q_587 : Cond.static ⟨"java/lang/Character", "isValidCodePoint", "(I)Z"⟩ ∈ wsL_law := wq_in (tq_3 (List.mem_of_getElem? (i := 107) rfl)) rfl
theorem q_588 : Cond.code ⟨"java/lang/Character", "isValidCodePoint", "(I)Z"⟩ prog_15_method_11_code 2 (some .boolean) ∈ wsL_law := wq_in (tq_3 (List.mem_of_getElem? (i := 108) rfl)) rfl
theorem q_589 : Cond.methodLink "java/lang/StringUTF16" 157 ⟨"java/lang/Character", "highSurrogate", "(I)C"⟩ ∈ wsL_law := wq_in (tq_3 (List.mem_of_getElem? (i := 109) rfl)) rfl
theorem q_590 : Cond.static ⟨"java/lang/Character", "highSurrogate", "(I)C"⟩ ∈ wsL_law := wq_in (tq_3 (List.mem_of_getElem? (i := 110) rfl)) rfl
theorem q_591 : Cond.code ⟨"java/lang/Character", "highSurrogate", "(I)C"⟩ prog_15_method_28_code 1 (some .char) ∈ wsL_law := wq_in (tq_3 (List.mem_of_getElem? (i := 111) rfl)) rfl
theorem q_592 : Cond.constant "java/lang/Character" 110 (55232 : Int32) ∈ wsL_law := wq_in (tq_3 (List.mem_of_getElem? (i := 112) rfl)) rfl
theorem q_593 : Cond.methodLink "java/lang/StringUTF16" 161 ⟨"java/lang/Character", "lowSurrogate", "(I)C"⟩ ∈ wsL_law := wq_in (tq_3 (List.mem_of_getElem? (i := 113) rfl)) rfl
theorem q_594 : Cond.static ⟨"java/lang/Character", "lowSurrogate", "(I)C"⟩ ∈ wsL_law := wq_in (tq_3 (List.mem_of_getElem? (i := 114) rfl)) rfl
theorem q_595 : Cond.code ⟨"java/lang/Character", "lowSurrogate", "(I)C"⟩ prog_15_method_29_code 1 (some .char) ∈ wsL_law := wq_in (tq_3 (List.mem_of_getElem? (i := 115) rfl)) rfl
theorem q_596 : Cond.constant "java/lang/Character" 76 (56320 : Int32) ∈ wsL_law := wq_in (tq_3 (List.mem_of_getElem? (i := 116) rfl)) rfl
theorem q_597 : Cond.methodLink "HillDrums$Reader" 54 ⟨"HillDrums$Reader", "kind", "()I"⟩ ∈ wsL_law := wq_in (tq_3 (List.mem_of_getElem? (i := 117) rfl)) rfl
theorem q_599 : Cond.instanceMethod ⟨"HillDrums$Reader", "kind", "()I"⟩ ∈ wsL_law := wq_in (tq_3 (List.mem_of_getElem? (i := 119) rfl)) rfl
theorem q_600 : Cond.code ⟨"HillDrums$Reader", "kind", "()I"⟩ prog_6_method_3_code 1 (some .int) ∈ wsL_law := wq_in (tq_3 (List.mem_of_getElem? (i := 120) rfl)) rfl
theorem q_601 : Cond.methodLink "HillDrums$Reader" 58 ⟨"HillDrums$Reader", "parseTell", "()V"⟩ ∈ wsL_law := wq_in (tq_3 (List.mem_of_getElem? (i := 121) rfl)) rfl
theorem q_603 : Cond.instanceMethod ⟨"HillDrums$Reader", "parseTell", "()V"⟩ ∈ wsL_law := wq_in (tq_3 (List.mem_of_getElem? (i := 123) rfl)) rfl
theorem q_604 : Cond.code ⟨"HillDrums$Reader", "parseTell", "()V"⟩ prog_6_method_11_code 1 none ∈ wsL_law := wq_in (tq_3 (List.mem_of_getElem? (i := 124) rfl)) rfl
theorem q_605 : Cond.methodLink "HillDrums$Reader" 95 ⟨"HillDrums$Reader", "parseHill", "()V"⟩ ∈ wsL_law := wq_in (tq_3 (List.mem_of_getElem? (i := 125) rfl)) rfl
theorem q_607 : Cond.instanceMethod ⟨"HillDrums$Reader", "parseHill", "()V"⟩ ∈ wsL_law := wq_in (tq_3 (List.mem_of_getElem? (i := 127) rfl)) rfl
theorem q_608 : Cond.code ⟨"HillDrums$Reader", "parseHill", "()V"⟩ prog_6_method_12_code 2 none ∈ wsL_law := wq_in (tq_3 (List.mem_of_getElem? (i := 128) rfl)) rfl
theorem q_609 : Cond.methodLink "HillDrums$Reader" 121 ⟨"HillDrums$Reader", "fail", "(I)V"⟩ ∈ wsL_law := wq_in (tq_3 (List.mem_of_getElem? (i := 129) rfl)) rfl
theorem q_611 : Cond.instanceMethod ⟨"HillDrums$Reader", "fail", "(I)V"⟩ ∈ wsL_law := wq_in (tq_3 (List.mem_of_getElem? (i := 131) rfl)) rfl
theorem q_612 : Cond.code ⟨"HillDrums$Reader", "fail", "(I)V"⟩ prog_6_method_4_code 2 none ∈ wsL_law := wq_in (tq_3 (List.mem_of_getElem? (i := 132) rfl)) rfl
theorem q_613 : Cond.methodLink "HillDrums$Reader" 71 ⟨"HillDrums$Reader", "take", "(I)J"⟩ ∈ wsL_law := wq_in (tq_3 (List.mem_of_getElem? (i := 133) rfl)) rfl
theorem q_615 : Cond.instanceMethod ⟨"HillDrums$Reader", "take", "(I)J"⟩ ∈ wsL_law := wq_in (tq_3 (List.mem_of_getElem? (i := 135) rfl)) rfl
theorem q_616 : Cond.code ⟨"HillDrums$Reader", "take", "(I)J"⟩ prog_6_method_6_code 3 (some .long) ∈ wsL_law := wq_in (tq_3 (List.mem_of_getElem? (i := 136) rfl)) rfl
theorem q_617 : Cond.methodLink "HillDrums$Reader" 125 ⟨"HillDrums$Reader", "takeNewName", "()J"⟩ ∈ wsL_law := wq_in (tq_3 (List.mem_of_getElem? (i := 137) rfl)) rfl
theorem q_619 : Cond.instanceMethod ⟨"HillDrums$Reader", "takeNewName", "()J"⟩ ∈ wsL_law := wq_in (tq_3 (List.mem_of_getElem? (i := 139) rfl)) rfl
theorem q_620 : Cond.code ⟨"HillDrums$Reader", "takeNewName", "()J"⟩ prog_6_method_8_code 4 (some .long) ∈ wsL_law := wq_in (tq_3 (List.mem_of_getElem? (i := 140) rfl)) rfl
theorem q_621 : Cond.methodLink "HillDrums$Reader" 82 ⟨"HillDrums$Reader", "indexOf", "(J[JI)I"⟩ ∈ wsL_law := wq_in (tq_3 (List.mem_of_getElem? (i := 141) rfl)) rfl
theorem q_622 : Cond.static ⟨"HillDrums$Reader", "indexOf", "(J[JI)I"⟩ ∈ wsL_law := wq_in (tq_3 (List.mem_of_getElem? (i := 142) rfl)) rfl
theorem q_623 : Cond.code ⟨"HillDrums$Reader", "indexOf", "(J[JI)I"⟩ prog_6_method_10_code 5 (some .int) ∈ wsL_law := wq_in (tq_3 (List.mem_of_getElem? (i := 143) rfl)) rfl
theorem q_624 : Cond.methodLink "HillDrums$Reader" 75 ⟨"HillDrums$Reader", "mean", "(II)V"⟩ ∈ wsL_law := wq_in (tq_3 (List.mem_of_getElem? (i := 144) rfl)) rfl
theorem q_626 : Cond.instanceMethod ⟨"HillDrums$Reader", "mean", "(II)V"⟩ ∈ wsL_law := wq_in (tq_3 (List.mem_of_getElem? (i := 146) rfl)) rfl
theorem q_627 : Cond.code ⟨"HillDrums$Reader", "mean", "(II)V"⟩ prog_6_method_5_code 3 none ∈ wsL_law := wq_in (tq_3 (List.mem_of_getElem? (i := 147) rfl)) rfl
theorem q_628 : Cond.methodLink "HillDrums$Reader" 132 ⟨"HillDrums$Reader", "takeNumber", "(II)I"⟩ ∈ wsL_law := wq_in (tq_3 (List.mem_of_getElem? (i := 148) rfl)) rfl
theorem q_630 : Cond.instanceMethod ⟨"HillDrums$Reader", "takeNumber", "(II)I"⟩ ∈ wsL_law := wq_in (tq_3 (List.mem_of_getElem? (i := 150) rfl)) rfl
theorem q_631 : Cond.code ⟨"HillDrums$Reader", "takeNumber", "(II)I"⟩ prog_6_method_7_code 4 (some .int) ∈ wsL_law := wq_in (tq_3 (List.mem_of_getElem? (i := 151) rfl)) rfl
theorem q_632 : Cond.methodLink "HillDrums$Reader" 98 ⟨"HillDrums$Reader", "parseNews", "()V"⟩ ∈ wsL_law := wq_in (tq_3 (List.mem_of_getElem? (i := 152) rfl)) rfl
theorem q_634 : Cond.instanceMethod ⟨"HillDrums$Reader", "parseNews", "()V"⟩ ∈ wsL_law := wq_in (tq_3 (List.mem_of_getElem? (i := 154) rfl)) rfl
theorem q_635 : Cond.code ⟨"HillDrums$Reader", "parseNews", "()V"⟩ prog_6_method_13_code 2 none ∈ wsL_law := wq_in (tq_3 (List.mem_of_getElem? (i := 155) rfl)) rfl
theorem q_636 : Cond.methodLink "HillDrums$Reader" 141 ⟨"HillDrums$Reader", "takeOneOf", "([JI)I"⟩ ∈ wsL_law := wq_in (tq_3 (List.mem_of_getElem? (i := 156) rfl)) rfl
theorem q_638 : Cond.instanceMethod ⟨"HillDrums$Reader", "takeOneOf", "([JI)I"⟩ ∈ wsL_law := wq_in (tq_3 (List.mem_of_getElem? (i := 158) rfl)) rfl
theorem q_639 : Cond.code ⟨"HillDrums$Reader", "takeOneOf", "([JI)I"⟩ prog_6_method_9_code 4 (some .int) ∈ wsL_law := wq_in (tq_3 (List.mem_of_getElem? (i := 159) rfl)) rfl
theorem q_640 : Cond.methodLink "HillDrums$Reader" 89 ⟨"java/lang/Math", "max", "(II)I"⟩ ∈ wsL_law := wq_in (tq_3 (List.mem_of_getElem? (i := 160) rfl)) rfl
theorem q_641 : Cond.methodLink "HillDrums$Reader" 101 ⟨"HillDrums$Reader", "parseLaw", "()V"⟩ ∈ wsL_law := wq_in (tq_3 (List.mem_of_getElem? (i := 161) rfl)) rfl
theorem q_643 : Cond.instanceMethod ⟨"HillDrums$Reader", "parseLaw", "()V"⟩ ∈ wsL_law := wq_in (tq_3 (List.mem_of_getElem? (i := 163) rfl)) rfl
theorem q_644 : Cond.code ⟨"HillDrums$Reader", "parseLaw", "()V"⟩ prog_6_method_17_code 3 none ∈ wsL_law := wq_in (tq_3 (List.mem_of_getElem? (i := 164) rfl)) rfl
theorem q_645 : Cond.methodLink "HillDrums$Reader" 177 ⟨"HillDrums$Reader", "parseSum", "(I)V"⟩ ∈ wsL_law := wq_in (tq_3 (List.mem_of_getElem? (i := 165) rfl)) rfl
theorem q_647 : Cond.instanceMethod ⟨"HillDrums$Reader", "parseSum", "(I)V"⟩ ∈ wsL_law := wq_in (tq_3 (List.mem_of_getElem? (i := 167) rfl)) rfl
theorem q_648 : Cond.code ⟨"HillDrums$Reader", "parseSum", "(I)V"⟩ prog_6_method_18_code 4 none ∈ wsL_law := wq_in (tq_3 (List.mem_of_getElem? (i := 168) rfl)) rfl
theorem q_649 : Cond.methodLink "HillDrums$Reader" 187 ⟨"HillDrums$Reader", "parseProduct", "(I)V"⟩ ∈ wsL_law := wq_in (tq_3 (List.mem_of_getElem? (i := 169) rfl)) rfl
theorem q_651 : Cond.instanceMethod ⟨"HillDrums$Reader", "parseProduct", "(I)V"⟩ ∈ wsL_law := wq_in (tq_3 (List.mem_of_getElem? (i := 171) rfl)) rfl
theorem q_652 : Cond.code ⟨"HillDrums$Reader", "parseProduct", "(I)V"⟩ prog_6_method_19_code 4 none ∈ wsL_law := wq_in (tq_3 (List.mem_of_getElem? (i := 172) rfl)) rfl
theorem q_653 : Cond.methodLink "HillDrums$Reader" 190 ⟨"HillDrums$Reader", "parseUnit", "(I)V"⟩ ∈ wsL_law := wq_in (tq_3 (List.mem_of_getElem? (i := 173) rfl)) rfl
theorem q_655 : Cond.instanceMethod ⟨"HillDrums$Reader", "parseUnit", "(I)V"⟩ ∈ wsL_law := wq_in (tq_3 (List.mem_of_getElem? (i := 175) rfl)) rfl
theorem q_656 : Cond.code ⟨"HillDrums$Reader", "parseUnit", "(I)V"⟩ prog_6_method_20_code 3 none ∈ wsL_law := wq_in (tq_3 (List.mem_of_getElem? (i := 176) rfl)) rfl
theorem q_660 : Cond.instanceMethod ⟨"HillDrums$Law", "aimHere", "(I)V"⟩ ∈ wsL_law := wq_in (tq_3 (List.mem_of_getElem? (i := 180) rfl)) rfl
theorem q_661 : Cond.code ⟨"HillDrums$Law", "aimHere", "(I)V"⟩ prog_2_method_4_code 2 none ∈ wsL_law := wq_in (tq_3 (List.mem_of_getElem? (i := 181) rfl)) rfl
theorem q_662 : Cond.methodLink "HillDrums$Reader" 108 ⟨"HillDrums$Reader", "parseRow", "(ILHillDrums$Row;)V"⟩ ∈ wsL_law := wq_in (tq_3 (List.mem_of_getElem? (i := 182) rfl)) rfl
theorem q_664 : Cond.instanceMethod ⟨"HillDrums$Reader", "parseRow", "(ILHillDrums$Row;)V"⟩ ∈ wsL_law := wq_in (tq_3 (List.mem_of_getElem? (i := 184) rfl)) rfl
theorem q_665 : Cond.code ⟨"HillDrums$Reader", "parseRow", "(ILHillDrums$Row;)V"⟩ prog_6_method_14_code 4 none ∈ wsL_law := wq_in (tq_3 (List.mem_of_getElem? (i := 185) rfl)) rfl
theorem q_666 : Cond.methodLink "HillDrums$Reader" 115 ⟨"HillDrums$Reader", "parseOrder", "()V"⟩ ∈ wsL_law := wq_in (tq_3 (List.mem_of_getElem? (i := 186) rfl)) rfl
theorem q_668 : Cond.instanceMethod ⟨"HillDrums$Reader", "parseOrder", "()V"⟩ ∈ wsL_law := wq_in (tq_3 (List.mem_of_getElem? (i := 188) rfl)) rfl
theorem q_669 : Cond.code ⟨"HillDrums$Reader", "parseOrder", "()V"⟩ prog_6_method_15_code 2 none ∈ wsL_law := wq_in (tq_3 (List.mem_of_getElem? (i := 189) rfl)) rfl
theorem q_670 : Cond.methodLink "HillDrums$Reader" 118 ⟨"HillDrums$Reader", "parseSleeper", "()V"⟩ ∈ wsL_law := wq_in (tq_3 (List.mem_of_getElem? (i := 190) rfl)) rfl
theorem q_672 : Cond.instanceMethod ⟨"HillDrums$Reader", "parseSleeper", "()V"⟩ ∈ wsL_law := wq_in (tq_3 (List.mem_of_getElem? (i := 192) rfl)) rfl
theorem q_673 : Cond.code ⟨"HillDrums$Reader", "parseSleeper", "()V"⟩ prog_6_method_16_code 2 none ∈ wsL_law := wq_in (tq_3 (List.mem_of_getElem? (i := 193) rfl)) rfl
theorem q_674 : Cond.methodLink "HillDrums" 107 ⟨"HillDrums", "takeSpareText", "()V"⟩ ∈ wsL_law := wq_in (tq_3 (List.mem_of_getElem? (i := 194) rfl)) rfl
theorem q_676 : Cond.instanceMethod ⟨"HillDrums", "takeSpareText", "()V"⟩ ∈ wsL_law := wq_in (tq_3 (List.mem_of_getElem? (i := 196) rfl)) rfl
theorem q_677 : Cond.code ⟨"HillDrums", "takeSpareText", "()V"⟩ prog_1_method_5_code 2 none ∈ wsL_law := wq_in (tq_3 (List.mem_of_getElem? (i := 197) rfl)) rfl
theorem q_678 : Cond.methodLink "HillDrumsLaw" 28 ⟨"HillDrums", "place", "()I"⟩ ∈ wsL_law := wq_in (tq_3 (List.mem_of_getElem? (i := 198) rfl)) rfl
theorem q_679 : Cond.instanceMethod ⟨"HillDrums", "place", "()I"⟩ ∈ wsL_law := wq_in (tq_3 (List.mem_of_getElem? (i := 199) rfl)) rfl
theorem q_680 : Cond.selects "HillDrums" ⟨"HillDrums", "place", "()I"⟩ ⟨"HillDrums", "place", "()I"⟩ ∈ wsL_law := wq_in (tq_3 (List.mem_of_getElem? (i := 200) rfl)) rfl
theorem q_681 : Cond.code ⟨"HillDrums", "place", "()I"⟩ prog_1_method_6_code 1 (some .int) ∈ wsL_law := wq_in (tq_3 (List.mem_of_getElem? (i := 201) rfl)) rfl
theorem q_682 : Cond.methodLink "HillDrumsLaw" 32 ⟨"HillDrums", "hears", "(III)I"⟩ ∈ wsL_law := wq_in (tq_3 (List.mem_of_getElem? (i := 202) rfl)) rfl
theorem q_683 : Cond.instanceMethod ⟨"HillDrums", "hears", "(III)I"⟩ ∈ wsL_law := wq_in (tq_3 (List.mem_of_getElem? (i := 203) rfl)) rfl
theorem q_684 : Cond.selects "HillDrums" ⟨"HillDrums", "hears", "(III)I"⟩ ⟨"HillDrums", "hears", "(III)I"⟩ ∈ wsL_law := wq_in (tq_3 (List.mem_of_getElem? (i := 204) rfl)) rfl
theorem q_685 : Cond.code ⟨"HillDrums", "hears", "(III)I"⟩ prog_1_method_9_code 4 (some .int) ∈ wsL_law := wq_in (tq_3 (List.mem_of_getElem? (i := 205) rfl)) rfl
theorem q_686 : Cond.methodLink "HillDrums" 120 ⟨"HillDrums", "isHill", "(I)Z"⟩ ∈ wsL_law := wq_in (tq_3 (List.mem_of_getElem? (i := 206) rfl)) rfl
theorem q_688 : Cond.instanceMethod ⟨"HillDrums", "isHill", "(I)Z"⟩ ∈ wsL_law := wq_in (tq_3 (List.mem_of_getElem? (i := 208) rfl)) rfl
theorem q_689 : Cond.code ⟨"HillDrums", "isHill", "(I)Z"⟩ prog_1_method_7_code 2 (some .boolean) ∈ wsL_law := wq_in (tq_3 (List.mem_of_getElem? (i := 209) rfl)) rfl
theorem q_692 : Cond.instanceMethod ⟨"HillDrums$Text", "lawTells", "(III)Z"⟩ ∈ wsL_law := wq_in (tq_3 (List.mem_of_getElem? (i := 212) rfl)) rfl
theorem q_693 : Cond.code ⟨"HillDrums$Text", "lawTells", "(III)Z"⟩ prog_9_method_4_code 4 (some .boolean) ∈ wsL_law := wq_in (tq_3 (List.mem_of_getElem? (i := 213) rfl)) rfl
theorem q_694 : Cond.methodLink "HillDrums$Text" 82 ⟨"java/lang/Math", "abs", "(I)I"⟩ ∈ wsL_law := wq_in (tq_3 (List.mem_of_getElem? (i := 214) rfl)) rfl
theorem q_695 : Cond.static ⟨"java/lang/Math", "abs", "(I)I"⟩ ∈ wsL_law := wq_in (tq_3 (List.mem_of_getElem? (i := 215) rfl)) rfl
theorem q_696 : Cond.code ⟨"java/lang/Math", "abs", "(I)I"⟩ prog_17_method_59_code 1 (some .int) ∈ wsL_law := wq_in (tq_3 (List.mem_of_getElem? (i := 216) rfl)) rfl
theorem q_699 : Cond.instanceMethod ⟨"HillDrums$Row", "on", "(I)I"⟩ ∈ wsL_law := wq_in (tq_3 (List.mem_of_getElem? (i := 219) rfl)) rfl
theorem q_700 : Cond.code ⟨"HillDrums$Row", "on", "(I)I"⟩ prog_7_method_2_code 2 (some .int) ∈ wsL_law := wq_in (tq_3 (List.mem_of_getElem? (i := 220) rfl)) rfl
theorem q_703 : Cond.instanceMethod ⟨"HillDrums$Law", "value", "([I)I"⟩ ∈ wsL_law := wq_in (tq_3 (List.mem_of_getElem? (i := 223) rfl)) rfl
theorem q_704 : Cond.code ⟨"HillDrums$Law", "value", "([I)I"⟩ prog_2_method_5_code 7 (some .int) ∈ wsL_law := wq_in (tq_3 (List.mem_of_getElem? (i := 224) rfl)) rfl
theorem q_705 : Cond.methodLink "HillDrums$Law" 29 ⟨"HillDrums$Law", "push", "(I)V"⟩ ∈ wsL_law := wq_in (tq_3 (List.mem_of_getElem? (i := 225) rfl)) rfl
theorem q_707 : Cond.instanceMethod ⟨"HillDrums$Law", "push", "(I)V"⟩ ∈ wsL_law := wq_in (tq_3 (List.mem_of_getElem? (i := 227) rfl)) rfl
theorem q_708 : Cond.code ⟨"HillDrums$Law", "push", "(I)V"⟩ prog_2_method_7_code 2 none ∈ wsL_law := wq_in (tq_3 (List.mem_of_getElem? (i := 228) rfl)) rfl
theorem q_709 : Cond.methodLink "HillDrums$Law" 33 ⟨"HillDrums$Law", "pop", "()I"⟩ ∈ wsL_law := wq_in (tq_3 (List.mem_of_getElem? (i := 229) rfl)) rfl
theorem q_711 : Cond.instanceMethod ⟨"HillDrums$Law", "pop", "()I"⟩ ∈ wsL_law := wq_in (tq_3 (List.mem_of_getElem? (i := 231) rfl)) rfl
theorem q_712 : Cond.code ⟨"HillDrums$Law", "pop", "()I"⟩ prog_2_method_8_code 1 (some .int) ∈ wsL_law := wq_in (tq_3 (List.mem_of_getElem? (i := 232) rfl)) rfl
theorem q_713 : Cond.methodLink "HillDrums$Law" 37 ⟨"HillDrums$Law", "joined", "(III)I"⟩ ∈ wsL_law := wq_in (tq_3 (List.mem_of_getElem? (i := 233) rfl)) rfl
theorem q_714 : Cond.static ⟨"HillDrums$Law", "joined", "(III)I"⟩ ∈ wsL_law := wq_in (tq_3 (List.mem_of_getElem? (i := 234) rfl)) rfl
theorem q_715 : Cond.code ⟨"HillDrums$Law", "joined", "(III)I"⟩ prog_2_method_6_code 3 (some .int) ∈ wsL_law := wq_in (tq_3 (List.mem_of_getElem? (i := 235) rfl)) rfl
theorem q_716 : Cond.methodLink "HillDrumsLaw" 37 ⟨"HillDrums", "news", "(III)I"⟩ ∈ wsL_law := wq_in (tq_3 (List.mem_of_getElem? (i := 236) rfl)) rfl
theorem q_717 : Cond.instanceMethod ⟨"HillDrums", "news", "(III)I"⟩ ∈ wsL_law := wq_in (tq_3 (List.mem_of_getElem? (i := 237) rfl)) rfl
theorem q_718 : Cond.selects "HillDrums" ⟨"HillDrums", "news", "(III)I"⟩ ⟨"HillDrums", "news", "(III)I"⟩ ∈ wsL_law := wq_in (tq_3 (List.mem_of_getElem? (i := 238) rfl)) rfl
theorem q_719 : Cond.code ⟨"HillDrums", "news", "(III)I"⟩ prog_1_method_10_code 6 (some .int) ∈ wsL_law := wq_in (tq_3 (List.mem_of_getElem? (i := 239) rfl)) rfl
theorem q_720 : Cond.methodLink "HillDrums" 128 ⟨"HillDrums", "isNews", "(I)Z"⟩ ∈ wsL_law := wq_in (tq_4 (List.mem_of_getElem? (i := 0) rfl)) rfl
theorem q_722 : Cond.instanceMethod ⟨"HillDrums", "isNews", "(I)Z"⟩ ∈ wsL_law := wq_in (tq_4 (List.mem_of_getElem? (i := 2) rfl)) rfl
theorem q_723 : Cond.code ⟨"HillDrums", "isNews", "(I)Z"⟩ prog_1_method_8_code 2 (some .boolean) ∈ wsL_law := wq_in (tq_4 (List.mem_of_getElem? (i := 3) rfl)) rfl
theorem q_726 : Cond.instanceMethod ⟨"HillDrums$World", "knows", "(II)Z"⟩ ∈ wsL_law := wq_in (tq_4 (List.mem_of_getElem? (i := 6) rfl)) rfl
theorem q_727 : Cond.code ⟨"HillDrums$World", "knows", "(II)Z"⟩ prog_12_method_5_code 3 (some .boolean) ∈ wsL_law := wq_in (tq_4 (List.mem_of_getElem? (i := 7) rfl)) rfl
theorem q_728 : Cond.methodLink "HillDrums" 135 ⟨"HillDrums", "pairOf", "(II)I"⟩ ∈ wsL_law := wq_in (tq_4 (List.mem_of_getElem? (i := 8) rfl)) rfl
theorem q_731 : Cond.instanceMethod ⟨"HillDrums$World", "clashing", "()I"⟩ ∈ wsL_law := wq_in (tq_4 (List.mem_of_getElem? (i := 11) rfl)) rfl
theorem q_732 : Cond.code ⟨"HillDrums$World", "clashing", "()I"⟩ prog_12_method_6_code 1 (some .int) ∈ wsL_law := wq_in (tq_4 (List.mem_of_getElem? (i := 12) rfl)) rfl
theorem q_733 : Cond.methodLink "HillDrumsLaw" 41 ⟨"HillDrums", "drum", "(IIZ)I"⟩ ∈ wsL_law := wq_in (tq_4 (List.mem_of_getElem? (i := 13) rfl)) rfl
theorem q_734 : Cond.instanceMethod ⟨"HillDrums", "drum", "(IIZ)I"⟩ ∈ wsL_law := wq_in (tq_4 (List.mem_of_getElem? (i := 14) rfl)) rfl
theorem q_735 : Cond.selects "HillDrums" ⟨"HillDrums", "drum", "(IIZ)I"⟩ ⟨"HillDrums", "drum", "(IIZ)I"⟩ ∈ wsL_law := wq_in (tq_4 (List.mem_of_getElem? (i := 15) rfl)) rfl
theorem q_736 : Cond.code ⟨"HillDrums", "drum", "(IIZ)I"⟩ prog_1_method_11_code 6 (some .int) ∈ wsL_law := wq_in (tq_4 (List.mem_of_getElem? (i := 16) rfl)) rfl
theorem q_737 : Cond.methodLink "HillDrums" 153 ⟨"HillDrums", "may", "(IIZ)I"⟩ ∈ wsL_law := wq_in (tq_4 (List.mem_of_getElem? (i := 17) rfl)) rfl
theorem q_738 : Cond.instanceMethod ⟨"HillDrums", "may", "(IIZ)I"⟩ ∈ wsL_law := wq_in (tq_4 (List.mem_of_getElem? (i := 18) rfl)) rfl
theorem q_739 : Cond.selects "HillDrums" ⟨"HillDrums", "may", "(IIZ)I"⟩ ⟨"HillDrums", "may", "(IIZ)I"⟩ ∈ wsL_law := wq_in (tq_4 (List.mem_of_getElem? (i := 19) rfl)) rfl
theorem q_740 : Cond.code ⟨"HillDrums", "may", "(IIZ)I"⟩ prog_1_method_12_code 4 (some .int) ∈ wsL_law := wq_in (tq_4 (List.mem_of_getElem? (i := 20) rfl)) rfl
theorem q_743 : Cond.instanceMethod ⟨"HillDrums$World", "isAble", "(II)Z"⟩ ∈ wsL_law := wq_in (tq_4 (List.mem_of_getElem? (i := 23) rfl)) rfl
theorem q_744 : Cond.code ⟨"HillDrums$World", "isAble", "(II)Z"⟩ prog_12_method_7_code 3 (some .boolean) ∈ wsL_law := wq_in (tq_4 (List.mem_of_getElem? (i := 24) rfl)) rfl
theorem q_745 : Cond.methodLink "HillDrums$World" 71 ⟨"HillDrums$World", "knows", "(II)Z"⟩ ∈ wsL_law := wq_in (tq_4 (List.mem_of_getElem? (i := 25) rfl)) rfl
theorem q_748 : Cond.instanceMethod ⟨"HillDrums$World", "isAnswer", "(IIIZ)Z"⟩ ∈ wsL_law := wq_in (tq_4 (List.mem_of_getElem? (i := 28) rfl)) rfl
theorem q_749 : Cond.code ⟨"HillDrums$World", "isAnswer", "(IIIZ)Z"⟩ prog_12_method_8_code 6 (some .boolean) ∈ wsL_law := wq_in (tq_4 (List.mem_of_getElem? (i := 29) rfl)) rfl
theorem q_750 : Cond.constant "HillDrums$World" 75 (266305 : Int32) ∈ wsL_law := wq_in (tq_4 (List.mem_of_getElem? (i := 30) rfl)) rfl
theorem q_753 : Cond.instanceMethod ⟨"HillDrums$Text", "heardOn", "(I)J"⟩ ∈ wsL_law := wq_in (tq_4 (List.mem_of_getElem? (i := 33) rfl)) rfl
theorem q_754 : Cond.code ⟨"HillDrums$Text", "heardOn", "(I)J"⟩ prog_9_method_5_code 5 (some .long) ∈ wsL_law := wq_in (tq_4 (List.mem_of_getElem? (i := 34) rfl)) rfl
theorem q_755 : Cond.methodLink "HillDrums$Text" 95 ⟨"HillDrums$Text", "lawTells", "(III)Z"⟩ ∈ wsL_law := wq_in (tq_4 (List.mem_of_getElem? (i := 35) rfl)) rfl
theorem q_756 : Cond.methodLink "HillDrums" 164 ⟨"HillDrums", "hearersOf", "(JI)I"⟩ ∈ wsL_law := wq_in (tq_4 (List.mem_of_getElem? (i := 36) rfl)) rfl
theorem q_757 : Cond.static ⟨"HillDrums", "hearersOf", "(JI)I"⟩ ∈ wsL_law := wq_in (tq_4 (List.mem_of_getElem? (i := 37) rfl)) rfl
theorem q_758 : Cond.code ⟨"HillDrums", "hearersOf", "(JI)I"⟩ prog_1_method_39_code 3 (some .int) ∈ wsL_law := wq_in (tq_4 (List.mem_of_getElem? (i := 38) rfl)) rfl
theorem q_761 : Cond.instanceMethod ⟨"HillDrums$Past", "push", "(LHillDrums$World;)V"⟩ ∈ wsL_law := wq_in (tq_4 (List.mem_of_getElem? (i := 41) rfl)) rfl
theorem q_762 : Cond.code ⟨"HillDrums$Past", "push", "(LHillDrums$World;)V"⟩ prog_4_method_2_code 2 none ∈ wsL_law := wq_in (tq_4 (List.mem_of_getElem? (i := 42) rfl)) rfl
theorem q_765 : Cond.instanceMethod ⟨"HillDrums$World", "copy", "(LHillDrums$World;)V"⟩ ∈ wsL_law := wq_in (tq_4 (List.mem_of_getElem? (i := 45) rfl)) rfl
theorem q_766 : Cond.code ⟨"HillDrums$World", "copy", "(LHillDrums$World;)V"⟩ prog_12_method_4_code 2 none ∈ wsL_law := wq_in (tq_4 (List.mem_of_getElem? (i := 46) rfl)) rfl
theorem q_767 : Cond.methodLink "HillDrums$World" 65 ⟨"java/lang/System", "arraycopy", "(Ljava/lang/Object;ILjava/lang/Object;II)V"⟩ ∈ wsL_law := wq_in (tq_4 (List.mem_of_getElem? (i := 47) rfl)) rfl
theorem q_768 : Cond.static ⟨"java/lang/System", "arraycopy", "(Ljava/lang/Object;ILjava/lang/Object;II)V"⟩ ∈ wsL_law := wq_in (tq_4 (List.mem_of_getElem? (i := 48) rfl)) rfl
theorem q_769 : Cond.native ⟨"java/lang/System", "arraycopy", "(Ljava/lang/Object;ILjava/lang/Object;II)V"⟩ ∈ wsL_law := wq_in (tq_4 (List.mem_of_getElem? (i := 49) rfl)) rfl
theorem q_770 : Cond.methodLink "HillDrums$Past" 29 ⟨"java/lang/Math", "min", "(II)I"⟩ ∈ wsL_law := wq_in (tq_4 (List.mem_of_getElem? (i := 50) rfl)) rfl
theorem q_773 : Cond.instanceMethod ⟨"HillDrums$World", "drumByDay", "(IIZI)V"⟩ ∈ wsL_law := wq_in (tq_4 (List.mem_of_getElem? (i := 53) rfl)) rfl
theorem q_774 : Cond.code ⟨"HillDrums$World", "drumByDay", "(IIZI)V"⟩ prog_12_method_9_code 6 none ∈ wsL_law := wq_in (tq_4 (List.mem_of_getElem? (i := 54) rfl)) rfl
theorem q_775 : Cond.methodLink "HillDrums$World" 76 ⟨"HillDrums$World", "sound", "(IIZI)V"⟩ ∈ wsL_law := wq_in (tq_4 (List.mem_of_getElem? (i := 55) rfl)) rfl
theorem q_777 : Cond.instanceMethod ⟨"HillDrums$World", "sound", "(IIZI)V"⟩ ∈ wsL_law := wq_in (tq_4 (List.mem_of_getElem? (i := 57) rfl)) rfl
theorem q_778 : Cond.code ⟨"HillDrums$World", "sound", "(IIZI)V"⟩ prog_12_method_10_code 7 none ∈ wsL_law := wq_in (tq_4 (List.mem_of_getElem? (i := 58) rfl)) rfl
theorem q_779 : Cond.methodLink "HillDrums$World" 80 ⟨"HillDrums$World", "noteOrigin", "(II)V"⟩ ∈ wsL_law := wq_in (tq_4 (List.mem_of_getElem? (i := 59) rfl)) rfl
theorem q_781 : Cond.instanceMethod ⟨"HillDrums$World", "noteOrigin", "(II)V"⟩ ∈ wsL_law := wq_in (tq_4 (List.mem_of_getElem? (i := 61) rfl)) rfl
theorem q_782 : Cond.code ⟨"HillDrums$World", "noteOrigin", "(II)V"⟩ prog_12_method_11_code 4 none ∈ wsL_law := wq_in (tq_4 (List.mem_of_getElem? (i := 62) rfl)) rfl
theorem q_783 : Cond.methodLink "HillDrums" 176 ⟨"java/lang/Integer", "bitCount", "(I)I"⟩ ∈ wsL_law := wq_in (tq_4 (List.mem_of_getElem? (i := 63) rfl)) rfl
theorem q_784 : Cond.static ⟨"java/lang/Integer", "bitCount", "(I)I"⟩ ∈ wsL_law := wq_in (tq_4 (List.mem_of_getElem? (i := 64) rfl)) rfl
theorem q_785 : Cond.code ⟨"java/lang/Integer", "bitCount", "(I)I"⟩ prog_16_method_49_code 1 (some .int) ∈ wsL_law := wq_in (tq_4 (List.mem_of_getElem? (i := 65) rfl)) rfl
theorem q_786 : Cond.constant "java/lang/Integer" 265 (1431655765 : Int32) ∈ wsL_law := wq_in (tq_4 (List.mem_of_getElem? (i := 66) rfl)) rfl
theorem q_787 : Cond.constant "java/lang/Integer" 266 (858993459 : Int32) ∈ wsL_law := wq_in (tq_4 (List.mem_of_getElem? (i := 67) rfl)) rfl
theorem q_788 : Cond.constant "java/lang/Integer" 267 (252645135 : Int32) ∈ wsL_law := wq_in (tq_4 (List.mem_of_getElem? (i := 68) rfl)) rfl
theorem q_789 : Cond.methodLink "HillDrumsLaw" 46 ⟨"HillDrums", "may", "(IIZ)I"⟩ ∈ wsL_law := wq_in (tq_4 (List.mem_of_getElem? (i := 69) rfl)) rfl
theorem q_790 : Cond.methodLink "HillDrumsLaw" 50 ⟨"HillDrums", "drummed", "(II)I"⟩ ∈ wsL_law := wq_in (tq_4 (List.mem_of_getElem? (i := 70) rfl)) rfl
theorem q_791 : Cond.instanceMethod ⟨"HillDrums", "drummed", "(II)I"⟩ ∈ wsL_law := wq_in (tq_4 (List.mem_of_getElem? (i := 71) rfl)) rfl
theorem q_792 : Cond.selects "HillDrums" ⟨"HillDrums", "drummed", "(II)I"⟩ ⟨"HillDrums", "drummed", "(II)I"⟩ ∈ wsL_law := wq_in (tq_4 (List.mem_of_getElem? (i := 72) rfl)) rfl
theorem q_793 : Cond.code ⟨"HillDrums", "drummed", "(II)I"⟩ prog_1_method_13_code 4 (some .int) ∈ wsL_law := wq_in (tq_4 (List.mem_of_getElem? (i := 73) rfl)) rfl
theorem q_794 : Cond.methodLink "HillDrumsLaw" 55 ⟨"HillDrums", "night", "()I"⟩ ∈ wsL_law := wq_in (tq_4 (List.mem_of_getElem? (i := 74) rfl)) rfl
theorem q_795 : Cond.instanceMethod ⟨"HillDrums", "night", "()I"⟩ ∈ wsL_law := wq_in (tq_4 (List.mem_of_getElem? (i := 75) rfl)) rfl
theorem q_796 : Cond.selects "HillDrums" ⟨"HillDrums", "night", "()I"⟩ ⟨"HillDrums", "night", "()I"⟩ ∈ wsL_law := wq_in (tq_4 (List.mem_of_getElem? (i := 76) rfl)) rfl
theorem q_797 : Cond.code ⟨"HillDrums", "night", "()I"⟩ prog_1_method_14_code 1 (some .int) ∈ wsL_law := wq_in (tq_4 (List.mem_of_getElem? (i := 77) rfl)) rfl
theorem q_800 : Cond.instanceMethod ⟨"HillDrums$World", "passNight", "(LHillDrums$Text;I)V"⟩ ∈ wsL_law := wq_in (tq_4 (List.mem_of_getElem? (i := 80) rfl)) rfl
theorem q_801 : Cond.code ⟨"HillDrums$World", "passNight", "(LHillDrums$Text;I)V"⟩ prog_12_method_13_code 7 none ∈ wsL_law := wq_in (tq_4 (List.mem_of_getElem? (i := 81) rfl)) rfl
theorem q_804 : Cond.methodLink "HillDrumsLaw" 59 ⟨"HillDrums", "run", "(I)I"⟩ ∈ wsL_law := wq_in (tq_4 (List.mem_of_getElem? (i := 84) rfl)) rfl
theorem q_805 : Cond.instanceMethod ⟨"HillDrums", "run", "(I)I"⟩ ∈ wsL_law := wq_in (tq_4 (List.mem_of_getElem? (i := 85) rfl)) rfl
theorem q_806 : Cond.selects "HillDrums" ⟨"HillDrums", "run", "(I)I"⟩ ⟨"HillDrums", "run", "(I)I"⟩ ∈ wsL_law := wq_in (tq_4 (List.mem_of_getElem? (i := 86) rfl)) rfl
theorem q_807 : Cond.code ⟨"HillDrums", "run", "(I)I"⟩ prog_1_method_15_code 3 (some .int) ∈ wsL_law := wq_in (tq_4 (List.mem_of_getElem? (i := 87) rfl)) rfl
theorem q_810 : Cond.instanceMethod ⟨"HillDrums$World", "passDay", "(LHillDrums$Text;II)V"⟩ ∈ wsL_law := wq_in (tq_4 (List.mem_of_getElem? (i := 90) rfl)) rfl
theorem q_811 : Cond.code ⟨"HillDrums$World", "passDay", "(LHillDrums$Text;II)V"⟩ prog_12_method_12_code 8 none ∈ wsL_law := wq_in (tq_4 (List.mem_of_getElem? (i := 91) rfl)) rfl
theorem q_812 : Cond.methodLink "HillDrums$World" 90 ⟨"HillDrums$World", "isAble", "(II)Z"⟩ ∈ wsL_law := wq_in (tq_4 (List.mem_of_getElem? (i := 92) rfl)) rfl
theorem q_813 : Cond.methodLink "HillDrums$World" 93 ⟨"HillDrums$World", "isAnswer", "(IIIZ)Z"⟩ ∈ wsL_law := wq_in (tq_4 (List.mem_of_getElem? (i := 93) rfl)) rfl
theorem q_814 : Cond.methodLink "HillDrums$World" 101 ⟨"HillDrums$World", "drumByDay", "(IIZI)V"⟩ ∈ wsL_law := wq_in (tq_4 (List.mem_of_getElem? (i := 94) rfl)) rfl
theorem q_815 : Cond.methodLink "HillDrums$World" 104 ⟨"HillDrums$World", "passNight", "(LHillDrums$Text;I)V"⟩ ∈ wsL_law := wq_in (tq_4 (List.mem_of_getElem? (i := 95) rfl)) rfl
theorem q_816 : Cond.methodLink "HillDrumsLaw" 63 ⟨"HillDrums", "undo", "()Z"⟩ ∈ wsL_law := wq_in (tq_4 (List.mem_of_getElem? (i := 96) rfl)) rfl
theorem q_817 : Cond.instanceMethod ⟨"HillDrums", "undo", "()Z"⟩ ∈ wsL_law := wq_in (tq_4 (List.mem_of_getElem? (i := 97) rfl)) rfl
theorem q_818 : Cond.selects "HillDrums" ⟨"HillDrums", "undo", "()Z"⟩ ⟨"HillDrums", "undo", "()Z"⟩ ∈ wsL_law := wq_in (tq_4 (List.mem_of_getElem? (i := 98) rfl)) rfl
theorem q_819 : Cond.code ⟨"HillDrums", "undo", "()Z"⟩ prog_1_method_16_code 1 (some .boolean) ∈ wsL_law := wq_in (tq_4 (List.mem_of_getElem? (i := 99) rfl)) rfl
theorem q_822 : Cond.instanceMethod ⟨"HillDrums$Past", "pop", "(LHillDrums$World;)Z"⟩ ∈ wsL_law := wq_in (tq_4 (List.mem_of_getElem? (i := 102) rfl)) rfl
theorem q_823 : Cond.code ⟨"HillDrums$Past", "pop", "(LHillDrums$World;)Z"⟩ prog_4_method_3_code 3 (some .boolean) ∈ wsL_law := wq_in (tq_4 (List.mem_of_getElem? (i := 103) rfl)) rfl
theorem q_824 : Cond.methodLink "HillDrumsLaw" 109 ⟨"HillDrums", "clashes", "(I)I"⟩ ∈ wsL_law := wq_in (tq_4 (List.mem_of_getElem? (i := 104) rfl)) rfl
theorem q_825 : Cond.instanceMethod ⟨"HillDrums", "clashes", "(I)I"⟩ ∈ wsL_law := wq_in (tq_4 (List.mem_of_getElem? (i := 105) rfl)) rfl
theorem q_826 : Cond.selects "HillDrums" ⟨"HillDrums", "clashes", "(I)I"⟩ ⟨"HillDrums", "clashes", "(I)I"⟩ ∈ wsL_law := wq_in (tq_4 (List.mem_of_getElem? (i := 106) rfl)) rfl
theorem q_827 : Cond.code ⟨"HillDrums", "clashes", "(I)I"⟩ prog_1_method_17_code 2 (some .int) ∈ wsL_law := wq_in (tq_4 (List.mem_of_getElem? (i := 107) rfl)) rfl
theorem q_828 : Cond.methodLink "HillDrums" 210 ⟨"HillDrums", "rowOf", "(II)I"⟩ ∈ wsL_law := wq_in (tq_4 (List.mem_of_getElem? (i := 108) rfl)) rfl
theorem q_829 : Cond.static ⟨"HillDrums", "rowOf", "(II)I"⟩ ∈ wsL_law := wq_in (tq_4 (List.mem_of_getElem? (i := 109) rfl)) rfl
theorem q_830 : Cond.code ⟨"HillDrums", "rowOf", "(II)I"⟩ prog_1_method_38_code 2 (some .int) ∈ wsL_law := wq_in (tq_4 (List.mem_of_getElem? (i := 110) rfl)) rfl
theorem q_831 : Cond.methodLink "HillDrumsLaw" 68 ⟨"HillDrums", "byRule", "(II)I"⟩ ∈ wsL_law := wq_in (tq_4 (List.mem_of_getElem? (i := 111) rfl)) rfl
theorem q_832 : Cond.instanceMethod ⟨"HillDrums", "byRule", "(II)I"⟩ ∈ wsL_law := wq_in (tq_4 (List.mem_of_getElem? (i := 112) rfl)) rfl
theorem q_833 : Cond.selects "HillDrums" ⟨"HillDrums", "byRule", "(II)I"⟩ ⟨"HillDrums", "byRule", "(II)I"⟩ ∈ wsL_law := wq_in (tq_4 (List.mem_of_getElem? (i := 113) rfl)) rfl
theorem q_834 : Cond.code ⟨"HillDrums", "byRule", "(II)I"⟩ prog_1_method_19_code 3 (some .int) ∈ wsL_law := wq_in (tq_4 (List.mem_of_getElem? (i := 114) rfl)) rfl
theorem q_835 : Cond.methodLink "HillDrums" 219 ⟨"HillDrums", "daysTill", "(III)I"⟩ ∈ wsL_law := wq_in (tq_4 (List.mem_of_getElem? (i := 115) rfl)) rfl
theorem q_837 : Cond.instanceMethod ⟨"HillDrums", "daysTill", "(III)I"⟩ ∈ wsL_law := wq_in (tq_4 (List.mem_of_getElem? (i := 117) rfl)) rfl
theorem q_838 : Cond.code ⟨"HillDrums", "daysTill", "(III)I"⟩ prog_1_method_18_code 5 (some .int) ∈ wsL_law := wq_in (tq_4 (List.mem_of_getElem? (i := 118) rfl)) rfl
theorem q_840 : Cond.methodLink "HillDrumsLaw" 72 ⟨"HillDrums", "agreed", "(IIII)I"⟩ ∈ wsL_law := wq_in (tq_4 (List.mem_of_getElem? (i := 120) rfl)) rfl
theorem q_841 : Cond.instanceMethod ⟨"HillDrums", "agreed", "(IIII)I"⟩ ∈ wsL_law := wq_in (tq_4 (List.mem_of_getElem? (i := 121) rfl)) rfl
theorem q_842 : Cond.selects "HillDrums" ⟨"HillDrums", "agreed", "(IIII)I"⟩ ⟨"HillDrums", "agreed", "(IIII)I"⟩ ∈ wsL_law := wq_in (tq_4 (List.mem_of_getElem? (i := 122) rfl)) rfl
theorem q_843 : Cond.code ⟨"HillDrums", "agreed", "(IIII)I"⟩ prog_1_method_20_code 6 (some .int) ∈ wsL_law := wq_in (tq_4 (List.mem_of_getElem? (i := 123) rfl)) rfl
theorem q_844 : Cond.methodLink "HillDrumsLaw" 77 ⟨"HillDrums", "talk", "(I)I"⟩ ∈ wsL_law := wq_in (tq_4 (List.mem_of_getElem? (i := 124) rfl)) rfl
theorem q_845 : Cond.instanceMethod ⟨"HillDrums", "talk", "(I)I"⟩ ∈ wsL_law := wq_in (tq_4 (List.mem_of_getElem? (i := 125) rfl)) rfl
theorem q_846 : Cond.selects "HillDrums" ⟨"HillDrums", "talk", "(I)I"⟩ ⟨"HillDrums", "talk", "(I)I"⟩ ∈ wsL_law := wq_in (tq_4 (List.mem_of_getElem? (i := 126) rfl)) rfl
theorem q_847 : Cond.code ⟨"HillDrums", "talk", "(I)I"⟩ prog_1_method_21_code 3 (some .int) ∈ wsL_law := wq_in (tq_4 (List.mem_of_getElem? (i := 127) rfl)) rfl
theorem q_848 : Cond.methodLink "HillDrumsLaw" 81 ⟨"HillDrums", "bestOrder", "(II)I"⟩ ∈ wsL_law := wq_in (tq_4 (List.mem_of_getElem? (i := 128) rfl)) rfl
theorem q_849 : Cond.instanceMethod ⟨"HillDrums", "bestOrder", "(II)I"⟩ ∈ wsL_law := wq_in (tq_4 (List.mem_of_getElem? (i := 129) rfl)) rfl
theorem q_850 : Cond.selects "HillDrums" ⟨"HillDrums", "bestOrder", "(II)I"⟩ ⟨"HillDrums", "bestOrder", "(II)I"⟩ ∈ wsL_law := wq_in (tq_4 (List.mem_of_getElem? (i := 130) rfl)) rfl
theorem q_851 : Cond.code ⟨"HillDrums", "bestOrder", "(II)I"⟩ prog_1_method_22_code 8 (some .int) ∈ wsL_law := wq_in (tq_4 (List.mem_of_getElem? (i := 131) rfl)) rfl
theorem q_854 : Cond.instanceMethod ⟨"HillDrums$Text", "allHills", "()I"⟩ ∈ wsL_law := wq_in (tq_4 (List.mem_of_getElem? (i := 134) rfl)) rfl
theorem q_855 : Cond.code ⟨"HillDrums$Text", "allHills", "()I"⟩ prog_9_method_3_code 1 (some .int) ∈ wsL_law := wq_in (tq_4 (List.mem_of_getElem? (i := 135) rfl)) rfl
theorem q_856 : Cond.methodLink "HillDrums" 229 ⟨"HillDrums", "isSooner", "(II)Z"⟩ ∈ wsL_law := wq_in (tq_4 (List.mem_of_getElem? (i := 136) rfl)) rfl
theorem q_857 : Cond.static ⟨"HillDrums", "isSooner", "(II)Z"⟩ ∈ wsL_law := wq_in (tq_4 (List.mem_of_getElem? (i := 137) rfl)) rfl
theorem q_858 : Cond.code ⟨"HillDrums", "isSooner", "(II)Z"⟩ prog_1_method_24_code 2 (some .boolean) ∈ wsL_law := wq_in (tq_4 (List.mem_of_getElem? (i := 138) rfl)) rfl
theorem q_859 : Cond.methodLink "HillDrumsLaw" 85 ⟨"HillDrums", "quiet", "(III)I"⟩ ∈ wsL_law := wq_in (tq_4 (List.mem_of_getElem? (i := 139) rfl)) rfl
theorem q_860 : Cond.instanceMethod ⟨"HillDrums", "quiet", "(III)I"⟩ ∈ wsL_law := wq_in (tq_4 (List.mem_of_getElem? (i := 140) rfl)) rfl
theorem q_861 : Cond.selects "HillDrums" ⟨"HillDrums", "quiet", "(III)I"⟩ ⟨"HillDrums", "quiet", "(III)I"⟩ ∈ wsL_law := wq_in (tq_4 (List.mem_of_getElem? (i := 141) rfl)) rfl
theorem q_862 : Cond.code ⟨"HillDrums", "quiet", "(III)I"⟩ prog_1_method_23_code 9 (some .int) ∈ wsL_law := wq_in (tq_4 (List.mem_of_getElem? (i := 142) rfl)) rfl
theorem q_863 : Cond.methodLink "HillDrumsLaw" 89 ⟨"HillDrums", "soonest", "(II)I"⟩ ∈ wsL_law := wq_in (tq_4 (List.mem_of_getElem? (i := 143) rfl)) rfl
theorem q_864 : Cond.instanceMethod ⟨"HillDrums", "soonest", "(II)I"⟩ ∈ wsL_law := wq_in (tq_4 (List.mem_of_getElem? (i := 144) rfl)) rfl
theorem q_865 : Cond.selects "HillDrums" ⟨"HillDrums", "soonest", "(II)I"⟩ ⟨"HillDrums", "soonest", "(II)I"⟩ ∈ wsL_law := wq_in (tq_4 (List.mem_of_getElem? (i := 145) rfl)) rfl
theorem q_866 : Cond.code ⟨"HillDrums", "soonest", "(II)I"⟩ prog_1_method_25_code 3 (some .int) ∈ wsL_law := wq_in (tq_4 (List.mem_of_getElem? (i := 146) rfl)) rfl
theorem q_869 : Cond.instanceMethod ⟨"HillDrums$Plans", "fewestDays", "(LHillDrums$Text;LHillDrums$World;II)I"⟩ ∈ wsL_law := wq_in (tq_4 (List.mem_of_getElem? (i := 149) rfl)) rfl
theorem q_870 : Cond.code ⟨"HillDrums$Plans", "fewestDays", "(LHillDrums$Text;LHillDrums$World;II)I"⟩ prog_5_method_4_code 9 (some .int) ∈ wsL_law := wq_in (tq_4 (List.mem_of_getElem? (i := 150) rfl)) rfl
theorem q_871 : Cond.methodLink "HillDrums$Plans" 38 ⟨"java/lang/Math", "min", "(II)I"⟩ ∈ wsL_law := wq_in (tq_4 (List.mem_of_getElem? (i := 151) rfl)) rfl
theorem q_873 : Cond.methodLink "HillDrums$Plans" 56 ⟨"HillDrums$Plans", "isReached", "(JII)Z"⟩ ∈ wsL_law := wq_in (tq_4 (List.mem_of_getElem? (i := 153) rfl)) rfl
theorem q_874 : Cond.static ⟨"HillDrums$Plans", "isReached", "(JII)Z"⟩ ∈ wsL_law := wq_in (tq_4 (List.mem_of_getElem? (i := 154) rfl)) rfl
theorem q_875 : Cond.code ⟨"HillDrums$Plans", "isReached", "(JII)Z"⟩ prog_5_method_5_code 5 (some .boolean) ∈ wsL_law := wq_in (tq_4 (List.mem_of_getElem? (i := 155) rfl)) rfl
theorem q_876 : Cond.methodLink "HillDrums$Plans" 63 ⟨"HillDrums$Plans", "setDay", "(LHillDrums$Text;I)V"⟩ ∈ wsL_law := wq_in (tq_4 (List.mem_of_getElem? (i := 156) rfl)) rfl
theorem q_878 : Cond.instanceMethod ⟨"HillDrums$Plans", "setDay", "(LHillDrums$Text;I)V"⟩ ∈ wsL_law := wq_in (tq_4 (List.mem_of_getElem? (i := 158) rfl)) rfl
theorem q_879 : Cond.code ⟨"HillDrums$Plans", "setDay", "(LHillDrums$Text;I)V"⟩ prog_5_method_2_code 10 none ∈ wsL_law := wq_in (tq_4 (List.mem_of_getElem? (i := 159) rfl)) rfl
theorem q_882 : Cond.methodLink "HillDrums$Plans" 67 ⟨"HillDrums$Plans", "reachedNext", "(JI)J"⟩ ∈ wsL_law := wq_in (tq_4 (List.mem_of_getElem? (i := 162) rfl)) rfl
theorem q_884 : Cond.instanceMethod ⟨"HillDrums$Plans", "reachedNext", "(JI)J"⟩ ∈ wsL_law := wq_in (tq_4 (List.mem_of_getElem? (i := 164) rfl)) rfl
theorem q_885 : Cond.code ⟨"HillDrums$Plans", "reachedNext", "(JI)J"⟩ prog_5_method_6_code 8 (some .long) ∈ wsL_law := wq_in (tq_4 (List.mem_of_getElem? (i := 165) rfl)) rfl
theorem q_886 : Cond.methodLink "HillDrums$Plans" 71 ⟨"HillDrums$Plans", "canSay", "(II)Z"⟩ ∈ wsL_law := wq_in (tq_4 (List.mem_of_getElem? (i := 166) rfl)) rfl
theorem q_888 : Cond.instanceMethod ⟨"HillDrums$Plans", "canSay", "(II)Z"⟩ ∈ wsL_law := wq_in (tq_4 (List.mem_of_getElem? (i := 168) rfl)) rfl
theorem q_889 : Cond.code ⟨"HillDrums$Plans", "canSay", "(II)Z"⟩ prog_5_method_3_code 3 (some .boolean) ∈ wsL_law := wq_in (tq_4 (List.mem_of_getElem? (i := 169) rfl)) rfl
theorem q_890 : Cond.methodLink "HillDrumsLaw" 93 ⟨"HillDrums", "all", "(I)I"⟩ ∈ wsL_law := wq_in (tq_4 (List.mem_of_getElem? (i := 170) rfl)) rfl
theorem q_891 : Cond.instanceMethod ⟨"HillDrums", "all", "(I)I"⟩ ∈ wsL_law := wq_in (tq_4 (List.mem_of_getElem? (i := 171) rfl)) rfl
theorem q_892 : Cond.selects "HillDrums" ⟨"HillDrums", "all", "(I)I"⟩ ⟨"HillDrums", "all", "(I)I"⟩ ∈ wsL_law := wq_in (tq_4 (List.mem_of_getElem? (i := 172) rfl)) rfl
theorem q_893 : Cond.code ⟨"HillDrums", "all", "(I)I"⟩ prog_1_method_26_code 2 (some .int) ∈ wsL_law := wq_in (tq_4 (List.mem_of_getElem? (i := 173) rfl)) rfl
theorem q_894 : Cond.methodLink "HillDrumsLaw" 97 ⟨"HillDrums", "drums", "(I)I"⟩ ∈ wsL_law := wq_in (tq_4 (List.mem_of_getElem? (i := 174) rfl)) rfl
theorem q_895 : Cond.instanceMethod ⟨"HillDrums", "drums", "(I)I"⟩ ∈ wsL_law := wq_in (tq_4 (List.mem_of_getElem? (i := 175) rfl)) rfl
theorem q_896 : Cond.selects "HillDrums" ⟨"HillDrums", "drums", "(I)I"⟩ ⟨"HillDrums", "drums", "(I)I"⟩ ∈ wsL_law := wq_in (tq_4 (List.mem_of_getElem? (i := 176) rfl)) rfl
theorem q_897 : Cond.code ⟨"HillDrums", "drums", "(I)I"⟩ prog_1_method_27_code 2 (some .int) ∈ wsL_law := wq_in (tq_4 (List.mem_of_getElem? (i := 177) rfl)) rfl
theorem q_900 : Cond.instanceMethod ⟨"HillDrums$Plans", "fewestDrums", "(LHillDrums$Text;LHillDrums$World;I)I"⟩ ∈ wsL_law := wq_in (tq_4 (List.mem_of_getElem? (i := 180) rfl)) rfl
theorem q_901 : Cond.code ⟨"HillDrums$Plans", "fewestDrums", "(LHillDrums$Text;LHillDrums$World;I)I"⟩ prog_5_method_7_code 6 (some .int) ∈ wsL_law := wq_in (tq_4 (List.mem_of_getElem? (i := 181) rfl)) rfl
theorem q_903 : Cond.constant "HillDrums$Plans" 79 (1000000 : Int32) ∈ wsL_law := wq_in (tq_4 (List.mem_of_getElem? (i := 183) rfl)) rfl
theorem q_904 : Cond.methodLink "HillDrums$Plans" 80 ⟨"java/util/Arrays", "fill", "([II)V"⟩ ∈ wsL_law := wq_in (tq_4 (List.mem_of_getElem? (i := 184) rfl)) rfl
theorem q_905 : Cond.methodLink "HillDrums$Plans" 86 ⟨"HillDrums$Plans", "spreadFewest", "(I)V"⟩ ∈ wsL_law := wq_in (tq_4 (List.mem_of_getElem? (i := 185) rfl)) rfl
theorem q_907 : Cond.instanceMethod ⟨"HillDrums$Plans", "spreadFewest", "(I)V"⟩ ∈ wsL_law := wq_in (tq_4 (List.mem_of_getElem? (i := 187) rfl)) rfl
theorem q_908 : Cond.code ⟨"HillDrums$Plans", "spreadFewest", "(I)V"⟩ prog_5_method_8_code 5 none ∈ wsL_law := wq_in (tq_4 (List.mem_of_getElem? (i := 188) rfl)) rfl
theorem q_909 : Cond.methodLink "HillDrums$Plans" 90 ⟨"java/lang/System", "arraycopy", "(Ljava/lang/Object;ILjava/lang/Object;II)V"⟩ ∈ wsL_law := wq_in (tq_4 (List.mem_of_getElem? (i := 189) rfl)) rfl
theorem q_910 : Cond.methodLink "HillDrums$Plans" 96 ⟨"java/lang/Integer", "bitCount", "(I)I"⟩ ∈ wsL_law := wq_in (tq_4 (List.mem_of_getElem? (i := 190) rfl)) rfl
theorem q_911 : Cond.methodLink "HillDrumsLaw" 101 ⟨"HillDrums", "loophole", "(III)I"⟩ ∈ wsL_law := wq_in (tq_4 (List.mem_of_getElem? (i := 191) rfl)) rfl
theorem q_912 : Cond.instanceMethod ⟨"HillDrums", "loophole", "(III)I"⟩ ∈ wsL_law := wq_in (tq_4 (List.mem_of_getElem? (i := 192) rfl)) rfl
theorem q_913 : Cond.selects "HillDrums" ⟨"HillDrums", "loophole", "(III)I"⟩ ⟨"HillDrums", "loophole", "(III)I"⟩ ∈ wsL_law := wq_in (tq_4 (List.mem_of_getElem? (i := 193) rfl)) rfl
theorem q_914 : Cond.code ⟨"HillDrums", "loophole", "(III)I"⟩ prog_1_method_28_code 4 (some .int) ∈ wsL_law := wq_in (tq_4 (List.mem_of_getElem? (i := 194) rfl)) rfl
theorem q_917 : Cond.instanceMethod ⟨"HillDrums$Loop", "seek", "(LHillDrums$Text;LHillDrums$World;III)V"⟩ ∈ wsL_law := wq_in (tq_4 (List.mem_of_getElem? (i := 197) rfl)) rfl
theorem q_918 : Cond.code ⟨"HillDrums$Loop", "seek", "(LHillDrums$Text;LHillDrums$World;III)V"⟩ prog_3_method_2_code 9 none ∈ wsL_law := wq_in (tq_4 (List.mem_of_getElem? (i := 198) rfl)) rfl
theorem q_925 : Cond.methodLink "HillDrums$Loop" 61 ⟨"HillDrums$Loop", "codeOf", "(IIZ)I"⟩ ∈ wsL_law := wq_in (tq_4 (List.mem_of_getElem? (i := 205) rfl)) rfl
theorem q_926 : Cond.static ⟨"HillDrums$Loop", "codeOf", "(IIZ)I"⟩ ∈ wsL_law := wq_in (tq_4 (List.mem_of_getElem? (i := 206) rfl)) rfl
theorem q_927 : Cond.code ⟨"HillDrums$Loop", "codeOf", "(IIZ)I"⟩ prog_3_method_5_code 3 (some .int) ∈ wsL_law := wq_in (tq_4 (List.mem_of_getElem? (i := 207) rfl)) rfl
theorem q_928 : Cond.methodLink "HillDrums$Loop" 65 ⟨"HillDrums$Loop", "lastDrum", "(LHillDrums$Text;LHillDrums$World;II)I"⟩ ∈ wsL_law := wq_in (tq_4 (List.mem_of_getElem? (i := 208) rfl)) rfl
theorem q_929 : Cond.static ⟨"HillDrums$Loop", "lastDrum", "(LHillDrums$Text;LHillDrums$World;II)I"⟩ ∈ wsL_law := wq_in (tq_4 (List.mem_of_getElem? (i := 209) rfl)) rfl
theorem q_930 : Cond.code ⟨"HillDrums$Loop", "lastDrum", "(LHillDrums$Text;LHillDrums$World;II)I"⟩ prog_3_method_4_code 4 (some .int) ∈ wsL_law := wq_in (tq_4 (List.mem_of_getElem? (i := 210) rfl)) rfl
theorem q_931 : Cond.methodLink "HillDrums$Loop" 69 ⟨"HillDrums$Loop", "seekSecond", "(LHillDrums$Text;IIJ)V"⟩ ∈ wsL_law := wq_in (tq_4 (List.mem_of_getElem? (i := 211) rfl)) rfl
theorem q_933 : Cond.instanceMethod ⟨"HillDrums$Loop", "seekSecond", "(LHillDrums$Text;IIJ)V"⟩ ∈ wsL_law := wq_in (tq_4 (List.mem_of_getElem? (i := 213) rfl)) rfl
theorem q_934 : Cond.code ⟨"HillDrums$Loop", "seekSecond", "(LHillDrums$Text;IIJ)V"⟩ prog_3_method_3_code 10 none ∈ wsL_law := wq_in (tq_4 (List.mem_of_getElem? (i := 214) rfl)) rfl
theorem q_935 : Cond.methodLink "HillDrumsLaw" 105 ⟨"HillDrums", "loopholeAt", "(IIII)I"⟩ ∈ wsL_law := wq_in (tq_4 (List.mem_of_getElem? (i := 215) rfl)) rfl
theorem q_936 : Cond.instanceMethod ⟨"HillDrums", "loopholeAt", "(IIII)I"⟩ ∈ wsL_law := wq_in (tq_4 (List.mem_of_getElem? (i := 216) rfl)) rfl
theorem q_937 : Cond.selects "HillDrums" ⟨"HillDrums", "loopholeAt", "(IIII)I"⟩ ⟨"HillDrums", "loopholeAt", "(IIII)I"⟩ ∈ wsL_law := wq_in (tq_4 (List.mem_of_getElem? (i := 217) rfl)) rfl
theorem q_938 : Cond.code ⟨"HillDrums", "loopholeAt", "(IIII)I"⟩ prog_1_method_29_code 6 (some .int) ∈ wsL_law := wq_in (tq_4 (List.mem_of_getElem? (i := 218) rfl)) rfl
theorem q_939 : Cond.methodLink "HillDrums" 245 ⟨"HillDrums", "loophole", "(III)I"⟩ ∈ wsL_law := wq_in (tq_4 (List.mem_of_getElem? (i := 219) rfl)) rfl
theorem q_940 : Cond.methodLink "HillDrumsLaw" 113 ⟨"HillDrums", "sure", "(IIII)I"⟩ ∈ wsL_law := wq_in (tq_4 (List.mem_of_getElem? (i := 220) rfl)) rfl
theorem q_941 : Cond.instanceMethod ⟨"HillDrums", "sure", "(IIII)I"⟩ ∈ wsL_law := wq_in (tq_4 (List.mem_of_getElem? (i := 221) rfl)) rfl
theorem q_942 : Cond.selects "HillDrums" ⟨"HillDrums", "sure", "(IIII)I"⟩ ⟨"HillDrums", "sure", "(IIII)I"⟩ ∈ wsL_law := wq_in (tq_4 (List.mem_of_getElem? (i := 222) rfl)) rfl
theorem q_943 : Cond.code ⟨"HillDrums", "sure", "(IIII)I"⟩ prog_1_method_30_code 10 (some .int) ∈ wsL_law := wq_in (tq_4 (List.mem_of_getElem? (i := 223) rfl)) rfl
theorem q_944 : Cond.methodLink "HillDrumsLaw" 117 ⟨"HillDrums", "tell", "(III)I"⟩ ∈ wsL_law := wq_in (tq_4 (List.mem_of_getElem? (i := 224) rfl)) rfl
theorem q_945 : Cond.instanceMethod ⟨"HillDrums", "tell", "(III)I"⟩ ∈ wsL_law := wq_in (tq_4 (List.mem_of_getElem? (i := 225) rfl)) rfl
theorem q_946 : Cond.selects "HillDrums" ⟨"HillDrums", "tell", "(III)I"⟩ ⟨"HillDrums", "tell", "(III)I"⟩ ∈ wsL_law := wq_in (tq_4 (List.mem_of_getElem? (i := 226) rfl)) rfl
theorem q_947 : Cond.code ⟨"HillDrums", "tell", "(III)I"⟩ prog_1_method_31_code 4 (some .int) ∈ wsL_law := wq_in (tq_4 (List.mem_of_getElem? (i := 227) rfl)) rfl
theorem q_950 : Cond.instanceMethod ⟨"HillDrums$Told", "add", "(III)I"⟩ ∈ wsL_law := wq_in (tq_4 (List.mem_of_getElem? (i := 230) rfl)) rfl
theorem q_951 : Cond.code ⟨"HillDrums$Told", "add", "(III)I"⟩ prog_11_method_2_code 4 (some .int) ∈ wsL_law := wq_in (tq_4 (List.mem_of_getElem? (i := 231) rfl)) rfl
theorem q_952 : Cond.methodLink "HillDrumsLaw" 121 ⟨"HillDrums", "forget", "()I"⟩ ∈ wsL_law := wq_in (tq_4 (List.mem_of_getElem? (i := 232) rfl)) rfl
theorem q_953 : Cond.instanceMethod ⟨"HillDrums", "forget", "()I"⟩ ∈ wsL_law := wq_in (tq_4 (List.mem_of_getElem? (i := 233) rfl)) rfl
theorem q_954 : Cond.selects "HillDrums" ⟨"HillDrums", "forget", "()I"⟩ ⟨"HillDrums", "forget", "()I"⟩ ∈ wsL_law := wq_in (tq_4 (List.mem_of_getElem? (i := 234) rfl)) rfl
theorem q_955 : Cond.code ⟨"HillDrums", "forget", "()I"⟩ prog_1_method_32_code 2 (some .int) ∈ wsL_law := wq_in (tq_4 (List.mem_of_getElem? (i := 235) rfl)) rfl
theorem q_956 : Cond.methodLink "HillDrumsLaw" 125 ⟨"HillDrums", "beginners", "(II)I"⟩ ∈ wsL_law := wq_in (tq_4 (List.mem_of_getElem? (i := 236) rfl)) rfl
theorem q_957 : Cond.instanceMethod ⟨"HillDrums", "beginners", "(II)I"⟩ ∈ wsL_law := wq_in (tq_4 (List.mem_of_getElem? (i := 237) rfl)) rfl
theorem q_958 : Cond.selects "HillDrums" ⟨"HillDrums", "beginners", "(II)I"⟩ ⟨"HillDrums", "beginners", "(II)I"⟩ ∈ wsL_law := wq_in (tq_4 (List.mem_of_getElem? (i := 238) rfl)) rfl
theorem q_959 : Cond.code ⟨"HillDrums", "beginners", "(II)I"⟩ prog_1_method_33_code 7 (some .int) ∈ wsL_law := wq_in (tq_4 (List.mem_of_getElem? (i := 239) rfl)) rfl
theorem q_962 : Cond.instanceMethod ⟨"HillDrums$Told", "daysNeeded", "(II)I"⟩ ∈ wsL_law := wq_in (tq_5 (List.mem_of_getElem? (i := 2) rfl)) rfl
theorem q_963 : Cond.code ⟨"HillDrums$Told", "daysNeeded", "(II)I"⟩ prog_11_method_3_code 5 (some .int) ∈ wsL_law := wq_in (tq_5 (List.mem_of_getElem? (i := 3) rfl)) rfl
theorem q_964 : Cond.methodLink "HillDrums$Told" 25 ⟨"java/lang/Math", "max", "(II)I"⟩ ∈ wsL_law := wq_in (tq_5 (List.mem_of_getElem? (i := 4) rfl)) rfl
theorem q_968 : Cond.instanceMethod ⟨"HillDrums$Told", "isSo", "(LHillDrums$World;II)Z"⟩ ∈ wsL_law := wq_in (tq_5 (List.mem_of_getElem? (i := 8) rfl)) rfl
theorem q_969 : Cond.code ⟨"HillDrums$Told", "isSo", "(LHillDrums$World;II)Z"⟩ prog_11_method_4_code 6 (some .boolean) ∈ wsL_law := wq_in (tq_5 (List.mem_of_getElem? (i := 9) rfl)) rfl
theorem q_972 : Cond.methodLink "HillDrumsLaw" 129 ⟨"HillDrums", "hold", "(I)Z"⟩ ∈ wsL_law := wq_in (tq_5 (List.mem_of_getElem? (i := 12) rfl)) rfl
theorem q_973 : Cond.instanceMethod ⟨"HillDrums", "hold", "(I)Z"⟩ ∈ wsL_law := wq_in (tq_5 (List.mem_of_getElem? (i := 13) rfl)) rfl
theorem q_974 : Cond.selects "HillDrums" ⟨"HillDrums", "hold", "(I)Z"⟩ ⟨"HillDrums", "hold", "(I)Z"⟩ ∈ wsL_law := wq_in (tq_5 (List.mem_of_getElem? (i := 14) rfl)) rfl
theorem q_975 : Cond.code ⟨"HillDrums", "hold", "(I)Z"⟩ prog_1_method_34_code 2 (some .boolean) ∈ wsL_law := wq_in (tq_5 (List.mem_of_getElem? (i := 15) rfl)) rfl
theorem q_976 : Cond.methodLink "HillDrumsLaw" 134 ⟨"HillDrums", "restore", "(I)Z"⟩ ∈ wsL_law := wq_in (tq_5 (List.mem_of_getElem? (i := 16) rfl)) rfl
theorem q_977 : Cond.instanceMethod ⟨"HillDrums", "restore", "(I)Z"⟩ ∈ wsL_law := wq_in (tq_5 (List.mem_of_getElem? (i := 17) rfl)) rfl
theorem q_978 : Cond.selects "HillDrums" ⟨"HillDrums", "restore", "(I)Z"⟩ ⟨"HillDrums", "restore", "(I)Z"⟩ ∈ wsL_law := wq_in (tq_5 (List.mem_of_getElem? (i := 18) rfl)) rfl
theorem q_979 : Cond.code ⟨"HillDrums", "restore", "(I)Z"⟩ prog_1_method_35_code 2 (some .boolean) ∈ wsL_law := wq_in (tq_5 (List.mem_of_getElem? (i := 19) rfl)) rfl
theorem q_980 : Cond.methodLink "HillDrumsLaw" 138 ⟨"HillDrums", "count", "(I)I"⟩ ∈ wsL_law := wq_in (tq_5 (List.mem_of_getElem? (i := 20) rfl)) rfl
theorem q_981 : Cond.instanceMethod ⟨"HillDrums", "count", "(I)I"⟩ ∈ wsL_law := wq_in (tq_5 (List.mem_of_getElem? (i := 21) rfl)) rfl
theorem q_982 : Cond.selects "HillDrums" ⟨"HillDrums", "count", "(I)I"⟩ ⟨"HillDrums", "count", "(I)I"⟩ ∈ wsL_law := wq_in (tq_5 (List.mem_of_getElem? (i := 22) rfl)) rfl
theorem q_983 : Cond.code ⟨"HillDrums", "count", "(I)I"⟩ prog_1_method_36_code 2 (some .int) ∈ wsL_law := wq_in (tq_5 (List.mem_of_getElem? (i := 23) rfl)) rfl
theorem q_984 : Cond.classLink "HillDrumsLaw" 10 "HillDrumsModel" ∈ wsL_law := wq_in (tq_5 (List.mem_of_getElem? (i := 24) rfl)) rfl
theorem q_985 : Cond.instantiable "HillDrumsModel" 69 ∈ wsL_law := wq_in (tq_5 (List.mem_of_getElem? (i := 25) rfl)) rfl
theorem q_986 : Cond.methodLink "HillDrumsLaw" 12 ⟨"HillDrumsModel", "<init>", "()V"⟩ ∈ wsL_law := wq_in (tq_5 (List.mem_of_getElem? (i := 26) rfl)) rfl
theorem q_987 : Cond.instanceMethod ⟨"HillDrumsModel", "<init>", "()V"⟩ ∈ wsL_law := wq_in (tq_5 (List.mem_of_getElem? (i := 27) rfl)) rfl
theorem q_988 : Cond.code ⟨"HillDrumsModel", "<init>", "()V"⟩ prog_14_method_2_code 1 none ∈ wsL_law := wq_in (tq_5 (List.mem_of_getElem? (i := 28) rfl)) rfl
theorem q_989 : Cond.methodLink "HillDrumsModel" 7 ⟨"java/lang/Object", "<init>", "()V"⟩ ∈ wsL_law := wq_in (tq_5 (List.mem_of_getElem? (i := 29) rfl)) rfl
theorem q_990 : Cond.methodLink "HillDrumsModel" 158 ⟨"HillDrumsModel", "word", "(IIIIIII)J"⟩ ∈ wsL_law := wq_in (tq_5 (List.mem_of_getElem? (i := 30) rfl)) rfl
theorem q_991 : Cond.static ⟨"HillDrumsModel", "word", "(IIIIIII)J"⟩ ∈ wsL_law := wq_in (tq_5 (List.mem_of_getElem? (i := 31) rfl)) rfl
theorem q_992 : Cond.code ⟨"HillDrumsModel", "word", "(IIIIIII)J"⟩ prog_14_method_10_code 7 (some .long) ∈ wsL_law := wq_in (tq_5 (List.mem_of_getElem? (i := 32) rfl)) rfl
theorem q_993 : Cond.methodLink "HillDrumsModel" 180 ⟨"HillDrumsModel", "appends", "(JI)J"⟩ ∈ wsL_law := wq_in (tq_5 (List.mem_of_getElem? (i := 33) rfl)) rfl
theorem q_994 : Cond.static ⟨"HillDrumsModel", "appends", "(JI)J"⟩ ∈ wsL_law := wq_in (tq_5 (List.mem_of_getElem? (i := 34) rfl)) rfl
theorem q_995 : Cond.code ⟨"HillDrumsModel", "appends", "(JI)J"⟩ prog_14_method_9_code 3 (some .long) ∈ wsL_law := wq_in (tq_5 (List.mem_of_getElem? (i := 35) rfl)) rfl
theorem q_996 : Cond.constantLong "HillDrumsModel" 178 (27 : Int64) ∈ wsL_law := wq_in (tq_5 (List.mem_of_getElem? (i := 36) rfl)) rfl
theorem q_997 : Cond.methodLink "HillDrumsModel" 162 ⟨"HillDrumsModel", "begins", "()V"⟩ ∈ wsL_law := wq_in (tq_5 (List.mem_of_getElem? (i := 37) rfl)) rfl
theorem q_999 : Cond.instanceMethod ⟨"HillDrumsModel", "begins", "()V"⟩ ∈ wsL_law := wq_in (tq_5 (List.mem_of_getElem? (i := 39) rfl)) rfl
theorem q_1000 : Cond.code ⟨"HillDrumsModel", "begins", "()V"⟩ prog_14_method_47_code 2 none ∈ wsL_law := wq_in (tq_5 (List.mem_of_getElem? (i := 40) rfl)) rfl
theorem q_1001 : Cond.methodLink "HillDrumsModel" 345 ⟨"HillDrumsModel", "knowsFromBegin", "(II)V"⟩ ∈ wsL_law := wq_in (tq_5 (List.mem_of_getElem? (i := 41) rfl)) rfl
theorem q_1003 : Cond.instanceMethod ⟨"HillDrumsModel", "knowsFromBegin", "(II)V"⟩ ∈ wsL_law := wq_in (tq_5 (List.mem_of_getElem? (i := 43) rfl)) rfl
theorem q_1004 : Cond.code ⟨"HillDrumsModel", "knowsFromBegin", "(II)V"⟩ prog_14_method_48_code 3 none ∈ wsL_law := wq_in (tq_5 (List.mem_of_getElem? (i := 44) rfl)) rfl
theorem q_1005 : Cond.methodLink "HillDrumsModel" 165 ⟨"HillDrumsModel", "keepsRow", "()V"⟩ ∈ wsL_law := wq_in (tq_5 (List.mem_of_getElem? (i := 45) rfl)) rfl
theorem q_1007 : Cond.instanceMethod ⟨"HillDrumsModel", "keepsRow", "()V"⟩ ∈ wsL_law := wq_in (tq_5 (List.mem_of_getElem? (i := 47) rfl)) rfl
theorem q_1008 : Cond.code ⟨"HillDrumsModel", "keepsRow", "()V"⟩ prog_14_method_49_code 2 none ∈ wsL_law := wq_in (tq_5 (List.mem_of_getElem? (i := 48) rfl)) rfl
theorem q_1009 : Cond.fieldLink "HillDrumsModel" 13 "HillDrumsModel" "tape" "[B" ∈ wsL_law := wq_in (tq_5 (List.mem_of_getElem? (i := 49) rfl)) rfl
theorem q_1010 : Cond.fieldLink "HillDrumsModel" 168 "HillDrumsModel" "taped" "I" ∈ wsL_law := wq_in (tq_5 (List.mem_of_getElem? (i := 50) rfl)) rfl
theorem q_1011 : Cond.fieldLink "HillDrumsModel" 17 "HillDrumsModel" "text" "[B" ∈ wsL_law := wq_in (tq_5 (List.mem_of_getElem? (i := 51) rfl)) rfl
theorem q_1012 : Cond.fieldLink "HillDrumsModel" 175 "HillDrumsModel" "size" "I" ∈ wsL_law := wq_in (tq_5 (List.mem_of_getElem? (i := 52) rfl)) rfl
theorem q_1013 : Cond.fieldLink "HillDrumsModel" 20 "HillDrumsModel" "tKind" "[I" ∈ wsL_law := wq_in (tq_5 (List.mem_of_getElem? (i := 53) rfl)) rfl
theorem q_1014 : Cond.fieldLink "HillDrumsModel" 24 "HillDrumsModel" "tPlace" "[I" ∈ wsL_law := wq_in (tq_5 (List.mem_of_getElem? (i := 54) rfl)) rfl
theorem q_1015 : Cond.fieldLink "HillDrumsModel" 27 "HillDrumsModel" "tValue" "[I" ∈ wsL_law := wq_in (tq_5 (List.mem_of_getElem? (i := 55) rfl)) rfl
theorem q_1016 : Cond.fieldLink "HillDrumsModel" 30 "HillDrumsModel" "tName" "[J" ∈ wsL_law := wq_in (tq_5 (List.mem_of_getElem? (i := 56) rfl)) rfl
theorem q_1017 : Cond.fieldLink "HillDrumsModel" 34 "HillDrumsModel" "keys" "[J" ∈ wsL_law := wq_in (tq_5 (List.mem_of_getElem? (i := 57) rfl)) rfl
theorem q_1018 : Cond.fieldLink "HillDrumsModel" 184 "HillDrumsModel" "tokens" "I" ∈ wsL_law := wq_in (tq_5 (List.mem_of_getElem? (i := 58) rfl)) rfl
theorem q_1019 : Cond.fieldLink "HillDrumsModel" 209 "HillDrumsModel" "t" "I" ∈ wsL_law := wq_in (tq_5 (List.mem_of_getElem? (i := 59) rfl)) rfl
theorem q_1020 : Cond.fieldLink "HillDrumsModel" 233 "HillDrumsModel" "open" "I" ∈ wsL_law := wq_in (tq_5 (List.mem_of_getElem? (i := 60) rfl)) rfl
theorem q_1021 : Cond.fieldLink "HillDrumsModel" 206 "HillDrumsModel" "fault" "I" ∈ wsL_law := wq_in (tq_5 (List.mem_of_getElem? (i := 61) rfl)) rfl
theorem q_1022 : Cond.fieldLink "HillDrumsModel" 212 "HillDrumsModel" "faultPlace" "I" ∈ wsL_law := wq_in (tq_5 (List.mem_of_getElem? (i := 62) rfl)) rfl
theorem q_1023 : Cond.fieldLink "HillDrumsModel" 215 "HillDrumsModel" "worst" "I" ∈ wsL_law := wq_in (tq_5 (List.mem_of_getElem? (i := 63) rfl)) rfl
theorem q_1024 : Cond.fieldLink "HillDrumsModel" 218 "HillDrumsModel" "worstPlace" "I" ∈ wsL_law := wq_in (tq_5 (List.mem_of_getElem? (i := 64) rfl)) rfl
theorem q_1025 : Cond.fieldLink "HillDrumsModel" 37 "HillDrumsModel" "place" "I" ∈ wsL_law := wq_in (tq_5 (List.mem_of_getElem? (i := 65) rfl)) rfl
theorem q_1026 : Cond.fieldLink "HillDrumsModel" 236 "HillDrumsModel" "live" "I" ∈ wsL_law := wq_in (tq_5 (List.mem_of_getElem? (i := 66) rfl)) rfl
theorem q_1027 : Cond.fieldLink "HillDrumsModel" 239 "HillDrumsModel" "side" "I" ∈ wsL_law := wq_in (tq_5 (List.mem_of_getElem? (i := 67) rfl)) rfl
theorem q_1028 : Cond.fieldLink "HillDrumsModel" 242 "HillDrumsModel" "names" "I" ∈ wsL_law := wq_in (tq_5 (List.mem_of_getElem? (i := 68) rfl)) rfl
theorem q_1029 : Cond.fieldLink "HillDrumsModel" 40 "HillDrumsModel" "nameOf" "[J" ∈ wsL_law := wq_in (tq_5 (List.mem_of_getElem? (i := 69) rfl)) rfl
theorem q_1030 : Cond.fieldLink "HillDrumsModel" 43 "HillDrumsModel" "nameSort" "[I" ∈ wsL_law := wq_in (tq_5 (List.mem_of_getElem? (i := 70) rfl)) rfl
theorem q_1031 : Cond.fieldLink "HillDrumsModel" 46 "HillDrumsModel" "nameAt" "[I" ∈ wsL_law := wq_in (tq_5 (List.mem_of_getElem? (i := 71) rfl)) rfl
theorem q_1032 : Cond.fieldLink "HillDrumsModel" 49 "HillDrumsModel" "hills" "[I" ∈ wsL_law := wq_in (tq_5 (List.mem_of_getElem? (i := 72) rfl)) rfl
theorem q_1033 : Cond.fieldLink "HillDrumsModel" 52 "HillDrumsModel" "hillX" "[I" ∈ wsL_law := wq_in (tq_5 (List.mem_of_getElem? (i := 73) rfl)) rfl
theorem q_1034 : Cond.fieldLink "HillDrumsModel" 55 "HillDrumsModel" "hillY" "[I" ∈ wsL_law := wq_in (tq_5 (List.mem_of_getElem? (i := 74) rfl)) rfl
theorem q_1035 : Cond.fieldLink "HillDrumsModel" 58 "HillDrumsModel" "newsMany" "[I" ∈ wsL_law := wq_in (tq_5 (List.mem_of_getElem? (i := 75) rfl)) rfl
theorem q_1036 : Cond.fieldLink "HillDrumsModel" 61 "HillDrumsModel" "newsAt" "[I" ∈ wsL_law := wq_in (tq_5 (List.mem_of_getElem? (i := 76) rfl)) rfl
theorem q_1037 : Cond.fieldLink "HillDrumsModel" 64 "HillDrumsModel" "many" "[I" ∈ wsL_law := wq_in (tq_5 (List.mem_of_getElem? (i := 77) rfl)) rfl
theorem q_1038 : Cond.fieldLink "HillDrumsModel" 67 "HillDrumsModel" "weather" "[I" ∈ wsL_law := wq_in (tq_5 (List.mem_of_getElem? (i := 78) rfl)) rfl
theorem q_1039 : Cond.fieldLink "HillDrumsModel" 70 "HillDrumsModel" "order" "[I" ∈ wsL_law := wq_in (tq_5 (List.mem_of_getElem? (i := 79) rfl)) rfl
theorem q_1040 : Cond.fieldLink "HillDrumsModel" 73 "HillDrumsModel" "sleepers" "[I" ∈ wsL_law := wq_in (tq_5 (List.mem_of_getElem? (i := 80) rfl)) rfl
theorem q_1041 : Cond.fieldLink "HillDrumsModel" 76 "HillDrumsModel" "sleepHill" "[I" ∈ wsL_law := wq_in (tq_5 (List.mem_of_getElem? (i := 81) rfl)) rfl
theorem q_1042 : Cond.fieldLink "HillDrumsModel" 79 "HillDrumsModel" "sleepNews" "[I" ∈ wsL_law := wq_in (tq_5 (List.mem_of_getElem? (i := 82) rfl)) rfl
theorem q_1043 : Cond.fieldLink "HillDrumsModel" 82 "HillDrumsModel" "sleepDays" "[I" ∈ wsL_law := wq_in (tq_5 (List.mem_of_getElem? (i := 83) rfl)) rfl
theorem q_1044 : Cond.fieldLink "HillDrumsModel" 85 "HillDrumsModel" "lawFirst" "[I" ∈ wsL_law := wq_in (tq_5 (List.mem_of_getElem? (i := 84) rfl)) rfl
theorem q_1045 : Cond.fieldLink "HillDrumsModel" 88 "HillDrumsModel" "lawLast" "[I" ∈ wsL_law := wq_in (tq_5 (List.mem_of_getElem? (i := 85) rfl)) rfl
theorem q_1046 : Cond.fieldLink "HillDrumsModel" 245 "HillDrumsModel" "branches" "I" ∈ wsL_law := wq_in (tq_5 (List.mem_of_getElem? (i := 86) rfl)) rfl
theorem q_1047 : Cond.fieldLink "HillDrumsModel" 91 "HillDrumsModel" "hasTest" "[Z" ∈ wsL_law := wq_in (tq_5 (List.mem_of_getElem? (i := 87) rfl)) rfl
theorem q_1048 : Cond.fieldLink "HillDrumsModel" 95 "HillDrumsModel" "testFrom" "[I" ∈ wsL_law := wq_in (tq_5 (List.mem_of_getElem? (i := 88) rfl)) rfl
theorem q_1049 : Cond.fieldLink "HillDrumsModel" 98 "HillDrumsModel" "testMid" "[I" ∈ wsL_law := wq_in (tq_5 (List.mem_of_getElem? (i := 89) rfl)) rfl
theorem q_1050 : Cond.fieldLink "HillDrumsModel" 101 "HillDrumsModel" "testTo" "[I" ∈ wsL_law := wq_in (tq_5 (List.mem_of_getElem? (i := 90) rfl)) rfl
theorem q_1051 : Cond.fieldLink "HillDrumsModel" 104 "HillDrumsModel" "termTo" "[I" ∈ wsL_law := wq_in (tq_5 (List.mem_of_getElem? (i := 91) rfl)) rfl
theorem q_1052 : Cond.fieldLink "HillDrumsModel" 248 "HillDrumsModel" "codes" "I" ∈ wsL_law := wq_in (tq_5 (List.mem_of_getElem? (i := 92) rfl)) rfl
theorem q_1053 : Cond.fieldLink "HillDrumsModel" 107 "HillDrumsModel" "code" "[I" ∈ wsL_law := wq_in (tq_5 (List.mem_of_getElem? (i := 93) rfl)) rfl
theorem q_1054 : Cond.fieldLink "HillDrumsModel" 110 "HillDrumsModel" "codeInt" "[I" ∈ wsL_law := wq_in (tq_5 (List.mem_of_getElem? (i := 94) rfl)) rfl
theorem q_1055 : Cond.fieldLink "HillDrumsModel" 113 "HillDrumsModel" "waits" "[I" ∈ wsL_law := wq_in (tq_5 (List.mem_of_getElem? (i := 95) rfl)) rfl
theorem q_1056 : Cond.fieldLink "HillDrumsModel" 306 "HillDrumsModel" "waiting" "I" ∈ wsL_law := wq_in (tq_5 (List.mem_of_getElem? (i := 96) rfl)) rfl
theorem q_1057 : Cond.fieldLink "HillDrumsModel" 116 "HillDrumsModel" "variables" "[I" ∈ wsL_law := wq_in (tq_5 (List.mem_of_getElem? (i := 97) rfl)) rfl
theorem q_1058 : Cond.fieldLink "HillDrumsModel" 119 "HillDrumsModel" "pile" "[I" ∈ wsL_law := wq_in (tq_5 (List.mem_of_getElem? (i := 98) rfl)) rfl
theorem q_1059 : Cond.fieldLink "HillDrumsModel" 319 "HillDrumsModel" "isBroken" "Z" ∈ wsL_law := wq_in (tq_5 (List.mem_of_getElem? (i := 99) rfl)) rfl
theorem q_1060 : Cond.fieldLink "HillDrumsModel" 122 "HillDrumsModel" "hearers" "[I" ∈ wsL_law := wq_in (tq_5 (List.mem_of_getElem? (i := 100) rfl)) rfl
theorem q_1061 : Cond.fieldLink "HillDrumsModel" 125 "HillDrumsModel" "now" "[I" ∈ wsL_law := wq_in (tq_5 (List.mem_of_getElem? (i := 101) rfl)) rfl
theorem q_1062 : Cond.fieldLink "HillDrumsModel" 128 "HillDrumsModel" "row" "[I" ∈ wsL_law := wq_in (tq_5 (List.mem_of_getElem? (i := 102) rfl)) rfl
theorem q_1063 : Cond.fieldLink "HillDrumsModel" 348 "HillDrumsModel" "how" "I" ∈ wsL_law := wq_in (tq_5 (List.mem_of_getElem? (i := 103) rfl)) rfl
theorem q_1064 : Cond.fieldLink "HillDrumsModel" 351 "HillDrumsModel" "silent" "I" ∈ wsL_law := wq_in (tq_5 (List.mem_of_getElem? (i := 104) rfl)) rfl
theorem q_1065 : Cond.fieldLink "HillDrumsModel" 254 "HillDrumsModel" "undos" "I" ∈ wsL_law := wq_in (tq_5 (List.mem_of_getElem? (i := 105) rfl)) rfl
theorem q_1066 : Cond.fieldLink "HillDrumsModel" 131 "HillDrumsModel" "history" "[I" ∈ wsL_law := wq_in (tq_5 (List.mem_of_getElem? (i := 106) rfl)) rfl
theorem q_1067 : Cond.fieldLink "HillDrumsModel" 134 "HillDrumsModel" "drumsBy" "[I" ∈ wsL_law := wq_in (tq_5 (List.mem_of_getElem? (i := 107) rfl)) rfl
theorem q_1068 : Cond.fieldLink "HillDrumsModel" 137 "HillDrumsModel" "drumsThen" "[I" ∈ wsL_law := wq_in (tq_5 (List.mem_of_getElem? (i := 108) rfl)) rfl
theorem q_1069 : Cond.fieldLink "HillDrumsModel" 140 "HillDrumsModel" "hole" "[I" ∈ wsL_law := wq_in (tq_5 (List.mem_of_getElem? (i := 109) rfl)) rfl
theorem q_1070 : Cond.fieldLink "HillDrumsModel" 420 "HillDrumsModel" "holeLong" "I" ∈ wsL_law := wq_in (tq_5 (List.mem_of_getElem? (i := 110) rfl)) rfl
theorem q_1071 : Cond.fieldLink "HillDrumsModel" 257 "HillDrumsModel" "told" "I" ∈ wsL_law := wq_in (tq_5 (List.mem_of_getElem? (i := 111) rfl)) rfl
theorem q_1072 : Cond.fieldLink "HillDrumsModel" 143 "HillDrumsModel" "toldHill" "[I" ∈ wsL_law := wq_in (tq_5 (List.mem_of_getElem? (i := 112) rfl)) rfl
theorem q_1073 : Cond.fieldLink "HillDrumsModel" 146 "HillDrumsModel" "toldNews" "[I" ∈ wsL_law := wq_in (tq_5 (List.mem_of_getElem? (i := 113) rfl)) rfl
theorem q_1074 : Cond.fieldLink "HillDrumsModel" 149 "HillDrumsModel" "toldDay" "[I" ∈ wsL_law := wq_in (tq_5 (List.mem_of_getElem? (i := 114) rfl)) rfl
theorem q_1075 : Cond.fieldLink "HillDrumsModel" 152 "HillDrumsModel" "isHeld" "[Z" ∈ wsL_law := wq_in (tq_5 (List.mem_of_getElem? (i := 115) rfl)) rfl
theorem q_1076 : Cond.fieldLink "HillDrumsModel" 155 "HillDrumsModel" "held" "[I" ∈ wsL_law := wq_in (tq_5 (List.mem_of_getElem? (i := 116) rfl)) rfl
theorem q_1216 : Cond.methodLink "HillDrumsLaw" 17 ⟨"HillDrumsModel", "feed", "(IIIII)I"⟩ ∈ wsL_law := wq_in (tq_6 (List.mem_of_getElem? (i := 16) rfl)) rfl
theorem q_1217 : Cond.instanceMethod ⟨"HillDrumsModel", "feed", "(IIIII)I"⟩ ∈ wsL_law := wq_in (tq_6 (List.mem_of_getElem? (i := 17) rfl)) rfl
theorem q_1218 : Cond.selects "HillDrumsModel" ⟨"HillDrumsModel", "feed", "(IIIII)I"⟩ ⟨"HillDrumsModel", "feed", "(IIIII)I"⟩ ∈ wsL_law := wq_in (tq_6 (List.mem_of_getElem? (i := 18) rfl)) rfl
theorem q_1219 : Cond.code ⟨"HillDrumsModel", "feed", "(IIIII)I"⟩ prog_14_method_3_code 6 (some .int) ∈ wsL_law := wq_in (tq_6 (List.mem_of_getElem? (i := 19) rfl)) rfl
theorem q_1220 : Cond.methodLink "HillDrumsModel" 171 ⟨"HillDrumsModel", "put", "(I)V"⟩ ∈ wsL_law := wq_in (tq_6 (List.mem_of_getElem? (i := 20) rfl)) rfl
theorem q_1222 : Cond.instanceMethod ⟨"HillDrumsModel", "put", "(I)V"⟩ ∈ wsL_law := wq_in (tq_6 (List.mem_of_getElem? (i := 22) rfl)) rfl
theorem q_1223 : Cond.code ⟨"HillDrumsModel", "put", "(I)V"⟩ prog_14_method_4_code 3 none ∈ wsL_law := wq_in (tq_6 (List.mem_of_getElem? (i := 23) rfl)) rfl
theorem q_1224 : Cond.methodLink "HillDrumsLaw" 22 ⟨"HillDrumsModel", "back", "(I)I"⟩ ∈ wsL_law := wq_in (tq_6 (List.mem_of_getElem? (i := 24) rfl)) rfl
theorem q_1225 : Cond.instanceMethod ⟨"HillDrumsModel", "back", "(I)I"⟩ ∈ wsL_law := wq_in (tq_6 (List.mem_of_getElem? (i := 25) rfl)) rfl
theorem q_1226 : Cond.selects "HillDrumsModel" ⟨"HillDrumsModel", "back", "(I)I"⟩ ⟨"HillDrumsModel", "back", "(I)I"⟩ ∈ wsL_law := wq_in (tq_6 (List.mem_of_getElem? (i := 26) rfl)) rfl
theorem q_1227 : Cond.code ⟨"HillDrumsModel", "back", "(I)I"⟩ prog_14_method_5_code 2 (some .int) ∈ wsL_law := wq_in (tq_6 (List.mem_of_getElem? (i := 27) rfl)) rfl
theorem q_1228 : Cond.methodLink "HillDrumsLaw" 27 ⟨"HillDrumsModel", "read", "()I"⟩ ∈ wsL_law := wq_in (tq_6 (List.mem_of_getElem? (i := 28) rfl)) rfl
theorem q_1229 : Cond.instanceMethod ⟨"HillDrumsModel", "read", "()I"⟩ ∈ wsL_law := wq_in (tq_6 (List.mem_of_getElem? (i := 29) rfl)) rfl
theorem q_1230 : Cond.selects "HillDrumsModel" ⟨"HillDrumsModel", "read", "()I"⟩ ⟨"HillDrumsModel", "read", "()I"⟩ ∈ wsL_law := wq_in (tq_6 (List.mem_of_getElem? (i := 30) rfl)) rfl
theorem q_1231 : Cond.code ⟨"HillDrumsModel", "read", "()I"⟩ prog_14_method_19_code 2 (some .int) ∈ wsL_law := wq_in (tq_6 (List.mem_of_getElem? (i := 31) rfl)) rfl
theorem q_1232 : Cond.methodLink "HillDrumsModel" 230 ⟨"HillDrumsModel", "cut", "()V"⟩ ∈ wsL_law := wq_in (tq_6 (List.mem_of_getElem? (i := 32) rfl)) rfl
theorem q_1234 : Cond.instanceMethod ⟨"HillDrumsModel", "cut", "()V"⟩ ∈ wsL_law := wq_in (tq_6 (List.mem_of_getElem? (i := 34) rfl)) rfl
theorem q_1235 : Cond.code ⟨"HillDrumsModel", "cut", "()V"⟩ prog_14_method_12_code 8 none ∈ wsL_law := wq_in (tq_6 (List.mem_of_getElem? (i := 35) rfl)) rfl
theorem q_1236 : Cond.methodLink "HillDrumsModel" 187 ⟨"HillDrumsModel", "byteAt", "(I)I"⟩ ∈ wsL_law := wq_in (tq_6 (List.mem_of_getElem? (i := 36) rfl)) rfl
theorem q_1238 : Cond.instanceMethod ⟨"HillDrumsModel", "byteAt", "(I)I"⟩ ∈ wsL_law := wq_in (tq_6 (List.mem_of_getElem? (i := 38) rfl)) rfl
theorem q_1239 : Cond.code ⟨"HillDrumsModel", "byteAt", "(I)I"⟩ prog_14_method_6_code 2 (some .int) ∈ wsL_law := wq_in (tq_6 (List.mem_of_getElem? (i := 39) rfl)) rfl
theorem q_1240 : Cond.methodLink "HillDrumsModel" 191 ⟨"HillDrumsModel", "token", "(IIIJ)V"⟩ ∈ wsL_law := wq_in (tq_6 (List.mem_of_getElem? (i := 40) rfl)) rfl
theorem q_1242 : Cond.instanceMethod ⟨"HillDrumsModel", "token", "(IIIJ)V"⟩ ∈ wsL_law := wq_in (tq_6 (List.mem_of_getElem? (i := 42) rfl)) rfl
theorem q_1243 : Cond.code ⟨"HillDrumsModel", "token", "(IIIJ)V"⟩ prog_14_method_11_code 6 none ∈ wsL_law := wq_in (tq_6 (List.mem_of_getElem? (i := 43) rfl)) rfl
theorem q_1244 : Cond.methodLink "HillDrumsModel" 195 ⟨"HillDrumsModel", "isLetter", "(I)Z"⟩ ∈ wsL_law := wq_in (tq_6 (List.mem_of_getElem? (i := 44) rfl)) rfl
theorem q_1245 : Cond.static ⟨"HillDrumsModel", "isLetter", "(I)Z"⟩ ∈ wsL_law := wq_in (tq_6 (List.mem_of_getElem? (i := 45) rfl)) rfl
theorem q_1246 : Cond.code ⟨"HillDrumsModel", "isLetter", "(I)Z"⟩ prog_14_method_8_code 1 (some .boolean) ∈ wsL_law := wq_in (tq_6 (List.mem_of_getElem? (i := 46) rfl)) rfl
theorem q_1247 : Cond.methodLink "HillDrumsModel" 199 ⟨"HillDrumsModel", "isDigit", "(I)Z"⟩ ∈ wsL_law := wq_in (tq_6 (List.mem_of_getElem? (i := 47) rfl)) rfl
theorem q_1248 : Cond.static ⟨"HillDrumsModel", "isDigit", "(I)Z"⟩ ∈ wsL_law := wq_in (tq_6 (List.mem_of_getElem? (i := 48) rfl)) rfl
theorem q_1249 : Cond.code ⟨"HillDrumsModel", "isDigit", "(I)Z"⟩ prog_14_method_7_code 1 (some .boolean) ∈ wsL_law := wq_in (tq_6 (List.mem_of_getElem? (i := 49) rfl)) rfl
theorem q_1250 : Cond.methodLink "HillDrumsModel" 202 ⟨"HillDrumsModel", "sign", "(III)I"⟩ ∈ wsL_law := wq_in (tq_6 (List.mem_of_getElem? (i := 50) rfl)) rfl
theorem q_1252 : Cond.instanceMethod ⟨"HillDrumsModel", "sign", "(III)I"⟩ ∈ wsL_law := wq_in (tq_6 (List.mem_of_getElem? (i := 52) rfl)) rfl
theorem q_1253 : Cond.code ⟨"HillDrumsModel", "sign", "(III)I"⟩ prog_14_method_13_code 5 (some .int) ∈ wsL_law := wq_in (tq_6 (List.mem_of_getElem? (i := 53) rfl)) rfl
theorem q_1254 : Cond.methodLink "HillDrumsModel" 224 ⟨"HillDrumsModel", "is", "(I)Z"⟩ ∈ wsL_law := wq_in (tq_6 (List.mem_of_getElem? (i := 54) rfl)) rfl
theorem q_1256 : Cond.instanceMethod ⟨"HillDrumsModel", "is", "(I)Z"⟩ ∈ wsL_law := wq_in (tq_6 (List.mem_of_getElem? (i := 56) rfl)) rfl
theorem q_1257 : Cond.code ⟨"HillDrumsModel", "is", "(I)Z"⟩ prog_14_method_14_code 2 (some .boolean) ∈ wsL_law := wq_in (tq_6 (List.mem_of_getElem? (i := 57) rfl)) rfl
theorem q_1258 : Cond.methodLink "HillDrumsModel" 251 ⟨"HillDrumsModel", "tell", "()V"⟩ ∈ wsL_law := wq_in (tq_6 (List.mem_of_getElem? (i := 58) rfl)) rfl
theorem q_1260 : Cond.instanceMethod ⟨"HillDrumsModel", "tell", "()V"⟩ ∈ wsL_law := wq_in (tq_6 (List.mem_of_getElem? (i := 60) rfl)) rfl
theorem q_1261 : Cond.code ⟨"HillDrumsModel", "tell", "()V"⟩ prog_14_method_22_code 2 none ∈ wsL_law := wq_in (tq_6 (List.mem_of_getElem? (i := 61) rfl)) rfl
theorem q_1262 : Cond.methodLink "HillDrumsModel" 260 ⟨"HillDrumsModel", "roomFor", "(II)V"⟩ ∈ wsL_law := wq_in (tq_6 (List.mem_of_getElem? (i := 62) rfl)) rfl
theorem q_1264 : Cond.instanceMethod ⟨"HillDrumsModel", "roomFor", "(II)V"⟩ ∈ wsL_law := wq_in (tq_6 (List.mem_of_getElem? (i := 64) rfl)) rfl
theorem q_1265 : Cond.code ⟨"HillDrumsModel", "roomFor", "(II)V"⟩ prog_14_method_21_code 3 none ∈ wsL_law := wq_in (tq_6 (List.mem_of_getElem? (i := 65) rfl)) rfl
theorem q_1266 : Cond.methodLink "HillDrumsModel" 221 ⟨"HillDrumsModel", "fail", "(I)V"⟩ ∈ wsL_law := wq_in (tq_6 (List.mem_of_getElem? (i := 66) rfl)) rfl
theorem q_1268 : Cond.instanceMethod ⟨"HillDrumsModel", "fail", "(I)V"⟩ ∈ wsL_law := wq_in (tq_6 (List.mem_of_getElem? (i := 68) rfl)) rfl
theorem q_1269 : Cond.code ⟨"HillDrumsModel", "fail", "(I)V"⟩ prog_14_method_15_code 2 none ∈ wsL_law := wq_in (tq_6 (List.mem_of_getElem? (i := 69) rfl)) rfl
theorem q_1270 : Cond.methodLink "HillDrumsModel" 227 ⟨"HillDrumsModel", "goesOn", "()V"⟩ ∈ wsL_law := wq_in (tq_6 (List.mem_of_getElem? (i := 70) rfl)) rfl
theorem q_1272 : Cond.instanceMethod ⟨"HillDrumsModel", "goesOn", "()V"⟩ ∈ wsL_law := wq_in (tq_6 (List.mem_of_getElem? (i := 72) rfl)) rfl
theorem q_1273 : Cond.code ⟨"HillDrumsModel", "goesOn", "()V"⟩ prog_14_method_17_code 1 none ∈ wsL_law := wq_in (tq_6 (List.mem_of_getElem? (i := 73) rfl)) rfl
theorem q_1274 : Cond.methodLink "HillDrumsModel" 264 ⟨"HillDrumsModel", "tellHill", "()V"⟩ ∈ wsL_law := wq_in (tq_6 (List.mem_of_getElem? (i := 74) rfl)) rfl
theorem q_1276 : Cond.instanceMethod ⟨"HillDrumsModel", "tellHill", "()V"⟩ ∈ wsL_law := wq_in (tq_6 (List.mem_of_getElem? (i := 76) rfl)) rfl
theorem q_1277 : Cond.code ⟨"HillDrumsModel", "tellHill", "()V"⟩ prog_14_method_27_code 3 none ∈ wsL_law := wq_in (tq_6 (List.mem_of_getElem? (i := 77) rfl)) rfl
theorem q_1278 : Cond.methodLink "HillDrumsModel" 285 ⟨"HillDrumsModel", "named", "()I"⟩ ∈ wsL_law := wq_in (tq_6 (List.mem_of_getElem? (i := 78) rfl)) rfl
theorem q_1280 : Cond.instanceMethod ⟨"HillDrumsModel", "named", "()I"⟩ ∈ wsL_law := wq_in (tq_6 (List.mem_of_getElem? (i := 80) rfl)) rfl
theorem q_1281 : Cond.code ⟨"HillDrumsModel", "named", "()I"⟩ prog_14_method_23_code 3 (some .int) ∈ wsL_law := wq_in (tq_6 (List.mem_of_getElem? (i := 81) rfl)) rfl
theorem q_1282 : Cond.methodLink "HillDrumsModel" 270 ⟨"HillDrumsModel", "must", "(I)V"⟩ ∈ wsL_law := wq_in (tq_6 (List.mem_of_getElem? (i := 82) rfl)) rfl
theorem q_1284 : Cond.instanceMethod ⟨"HillDrumsModel", "must", "(I)V"⟩ ∈ wsL_law := wq_in (tq_6 (List.mem_of_getElem? (i := 84) rfl)) rfl
theorem q_1285 : Cond.code ⟨"HillDrumsModel", "must", "(I)V"⟩ prog_14_method_18_code 2 none ∈ wsL_law := wq_in (tq_6 (List.mem_of_getElem? (i := 85) rfl)) rfl
theorem q_1286 : Cond.methodLink "HillDrumsModel" 282 ⟨"HillDrumsModel", "wrong", "(II)V"⟩ ∈ wsL_law := wq_in (tq_6 (List.mem_of_getElem? (i := 86) rfl)) rfl
theorem q_1288 : Cond.instanceMethod ⟨"HillDrumsModel", "wrong", "(II)V"⟩ ∈ wsL_law := wq_in (tq_6 (List.mem_of_getElem? (i := 88) rfl)) rfl
theorem q_1289 : Cond.code ⟨"HillDrumsModel", "wrong", "(II)V"⟩ prog_14_method_16_code 4 none ∈ wsL_law := wq_in (tq_6 (List.mem_of_getElem? (i := 89) rfl)) rfl
theorem q_1290 : Cond.methodLink "HillDrumsModel" 289 ⟨"HillDrumsModel", "bounded", "(II)I"⟩ ∈ wsL_law := wq_in (tq_6 (List.mem_of_getElem? (i := 90) rfl)) rfl
theorem q_1292 : Cond.instanceMethod ⟨"HillDrumsModel", "bounded", "(II)I"⟩ ∈ wsL_law := wq_in (tq_6 (List.mem_of_getElem? (i := 92) rfl)) rfl
theorem q_1293 : Cond.code ⟨"HillDrumsModel", "bounded", "(II)I"⟩ prog_14_method_26_code 4 (some .int) ∈ wsL_law := wq_in (tq_6 (List.mem_of_getElem? (i := 93) rfl)) rfl
theorem q_1294 : Cond.methodLink "HillDrumsModel" 293 ⟨"HillDrumsModel", "notes", "(III)V"⟩ ∈ wsL_law := wq_in (tq_6 (List.mem_of_getElem? (i := 94) rfl)) rfl
theorem q_1296 : Cond.instanceMethod ⟨"HillDrumsModel", "notes", "(III)V"⟩ ∈ wsL_law := wq_in (tq_6 (List.mem_of_getElem? (i := 96) rfl)) rfl
theorem q_1297 : Cond.code ⟨"HillDrumsModel", "notes", "(III)V"⟩ prog_14_method_24_code 4 none ∈ wsL_law := wq_in (tq_6 (List.mem_of_getElem? (i := 97) rfl)) rfl
theorem q_1298 : Cond.methodLink "HillDrumsModel" 267 ⟨"HillDrumsModel", "tellNews", "()V"⟩ ∈ wsL_law := wq_in (tq_6 (List.mem_of_getElem? (i := 98) rfl)) rfl
theorem q_1300 : Cond.instanceMethod ⟨"HillDrumsModel", "tellNews", "()V"⟩ ∈ wsL_law := wq_in (tq_6 (List.mem_of_getElem? (i := 100) rfl)) rfl
theorem q_1301 : Cond.code ⟨"HillDrumsModel", "tellNews", "()V"⟩ prog_14_method_28_code 3 none ∈ wsL_law := wq_in (tq_6 (List.mem_of_getElem? (i := 101) rfl)) rfl
theorem q_1302 : Cond.methodLink "HillDrumsModel" 297 ⟨"HillDrumsModel", "known", "(I)I"⟩ ∈ wsL_law := wq_in (tq_6 (List.mem_of_getElem? (i := 102) rfl)) rfl
theorem q_1304 : Cond.instanceMethod ⟨"HillDrumsModel", "known", "(I)I"⟩ ∈ wsL_law := wq_in (tq_6 (List.mem_of_getElem? (i := 104) rfl)) rfl
theorem q_1305 : Cond.code ⟨"HillDrumsModel", "known", "(I)I"⟩ prog_14_method_25_code 4 (some .int) ∈ wsL_law := wq_in (tq_6 (List.mem_of_getElem? (i := 105) rfl)) rfl
theorem q_1306 : Cond.methodLink "HillDrumsModel" 273 ⟨"HillDrumsModel", "tellLaw", "()V"⟩ ∈ wsL_law := wq_in (tq_6 (List.mem_of_getElem? (i := 106) rfl)) rfl
theorem q_1308 : Cond.instanceMethod ⟨"HillDrumsModel", "tellLaw", "()V"⟩ ∈ wsL_law := wq_in (tq_6 (List.mem_of_getElem? (i := 108) rfl)) rfl
theorem q_1309 : Cond.code ⟨"HillDrumsModel", "tellLaw", "()V"⟩ prog_14_method_31_code 3 none ∈ wsL_law := wq_in (tq_6 (List.mem_of_getElem? (i := 109) rfl)) rfl
theorem q_1310 : Cond.methodLink "HillDrumsModel" 300 ⟨"HillDrumsModel", "expression", "()V"⟩ ∈ wsL_law := wq_in (tq_6 (List.mem_of_getElem? (i := 110) rfl)) rfl
theorem q_1312 : Cond.instanceMethod ⟨"HillDrumsModel", "expression", "()V"⟩ ∈ wsL_law := wq_in (tq_6 (List.mem_of_getElem? (i := 112) rfl)) rfl
theorem q_1313 : Cond.code ⟨"HillDrumsModel", "expression", "()V"⟩ prog_14_method_35_code 3 none ∈ wsL_law := wq_in (tq_6 (List.mem_of_getElem? (i := 113) rfl)) rfl
theorem q_1314 : Cond.methodLink "HillDrumsModel" 312 ⟨"HillDrumsModel", "unit", "()V"⟩ ∈ wsL_law := wq_in (tq_6 (List.mem_of_getElem? (i := 114) rfl)) rfl
theorem q_1316 : Cond.instanceMethod ⟨"HillDrumsModel", "unit", "()V"⟩ ∈ wsL_law := wq_in (tq_6 (List.mem_of_getElem? (i := 116) rfl)) rfl
theorem q_1317 : Cond.code ⟨"HillDrumsModel", "unit", "()V"⟩ prog_14_method_36_code 1 none ∈ wsL_law := wq_in (tq_6 (List.mem_of_getElem? (i := 117) rfl)) rfl
theorem q_1318 : Cond.methodLink "HillDrumsModel" 309 ⟨"HillDrumsModel", "emit", "(II)V"⟩ ∈ wsL_law := wq_in (tq_6 (List.mem_of_getElem? (i := 118) rfl)) rfl
theorem q_1320 : Cond.instanceMethod ⟨"HillDrumsModel", "emit", "(II)V"⟩ ∈ wsL_law := wq_in (tq_6 (List.mem_of_getElem? (i := 120) rfl)) rfl
theorem q_1321 : Cond.code ⟨"HillDrumsModel", "emit", "(II)V"⟩ prog_14_method_33_code 3 none ∈ wsL_law := wq_in (tq_6 (List.mem_of_getElem? (i := 121) rfl)) rfl
theorem q_1322 : Cond.methodLink "HillDrumsModel" 315 ⟨"HillDrumsModel", "comesOut", "(Z)V"⟩ ∈ wsL_law := wq_in (tq_6 (List.mem_of_getElem? (i := 122) rfl)) rfl
theorem q_1324 : Cond.instanceMethod ⟨"HillDrumsModel", "comesOut", "(Z)V"⟩ ∈ wsL_law := wq_in (tq_6 (List.mem_of_getElem? (i := 124) rfl)) rfl
theorem q_1325 : Cond.code ⟨"HillDrumsModel", "comesOut", "(Z)V"⟩ prog_14_method_34_code 3 none ∈ wsL_law := wq_in (tq_6 (List.mem_of_getElem? (i := 125) rfl)) rfl
theorem q_1326 : Cond.methodLink "HillDrumsModel" 303 ⟨"HillDrumsModel", "term", "()V"⟩ ∈ wsL_law := wq_in (tq_6 (List.mem_of_getElem? (i := 126) rfl)) rfl
theorem q_1328 : Cond.instanceMethod ⟨"HillDrumsModel", "term", "()V"⟩ ∈ wsL_law := wq_in (tq_6 (List.mem_of_getElem? (i := 128) rfl)) rfl
theorem q_1329 : Cond.code ⟨"HillDrumsModel", "term", "()V"⟩ prog_14_method_32_code 1 none ∈ wsL_law := wq_in (tq_6 (List.mem_of_getElem? (i := 129) rfl)) rfl
theorem q_1330 : Cond.methodLink "HillDrumsModel" 276 ⟨"HillDrumsModel", "tellWeather", "(I)V"⟩ ∈ wsL_law := wq_in (tq_6 (List.mem_of_getElem? (i := 130) rfl)) rfl
theorem q_1332 : Cond.instanceMethod ⟨"HillDrumsModel", "tellWeather", "(I)V"⟩ ∈ wsL_law := wq_in (tq_6 (List.mem_of_getElem? (i := 132) rfl)) rfl
theorem q_1333 : Cond.code ⟨"HillDrumsModel", "tellWeather", "(I)V"⟩ prog_14_method_29_code 3 none ∈ wsL_law := wq_in (tq_6 (List.mem_of_getElem? (i := 133) rfl)) rfl
theorem q_1334 : Cond.methodLink "HillDrumsModel" 279 ⟨"HillDrumsModel", "tellSleeper", "()V"⟩ ∈ wsL_law := wq_in (tq_6 (List.mem_of_getElem? (i := 134) rfl)) rfl
theorem q_1336 : Cond.instanceMethod ⟨"HillDrumsModel", "tellSleeper", "()V"⟩ ∈ wsL_law := wq_in (tq_6 (List.mem_of_getElem? (i := 136) rfl)) rfl
theorem q_1337 : Cond.code ⟨"HillDrumsModel", "tellSleeper", "()V"⟩ prog_14_method_30_code 2 none ∈ wsL_law := wq_in (tq_6 (List.mem_of_getElem? (i := 137) rfl)) rfl
theorem q_1338 : Cond.methodLink "HillDrumsLaw" 31 ⟨"HillDrumsModel", "place", "()I"⟩ ∈ wsL_law := wq_in (tq_6 (List.mem_of_getElem? (i := 138) rfl)) rfl
theorem q_1339 : Cond.instanceMethod ⟨"HillDrumsModel", "place", "()I"⟩ ∈ wsL_law := wq_in (tq_6 (List.mem_of_getElem? (i := 139) rfl)) rfl
theorem q_1340 : Cond.selects "HillDrumsModel" ⟨"HillDrumsModel", "place", "()I"⟩ ⟨"HillDrumsModel", "place", "()I"⟩ ∈ wsL_law := wq_in (tq_6 (List.mem_of_getElem? (i := 140) rfl)) rfl
theorem q_1341 : Cond.code ⟨"HillDrumsModel", "place", "()I"⟩ prog_14_method_20_code 1 (some .int) ∈ wsL_law := wq_in (tq_6 (List.mem_of_getElem? (i := 141) rfl)) rfl
theorem q_1342 : Cond.methodLink "HillDrumsLaw" 36 ⟨"HillDrumsModel", "hears", "(III)I"⟩ ∈ wsL_law := wq_in (tq_6 (List.mem_of_getElem? (i := 142) rfl)) rfl
theorem q_1343 : Cond.instanceMethod ⟨"HillDrumsModel", "hears", "(III)I"⟩ ∈ wsL_law := wq_in (tq_6 (List.mem_of_getElem? (i := 143) rfl)) rfl
theorem q_1344 : Cond.selects "HillDrumsModel" ⟨"HillDrumsModel", "hears", "(III)I"⟩ ⟨"HillDrumsModel", "hears", "(III)I"⟩ ∈ wsL_law := wq_in (tq_6 (List.mem_of_getElem? (i := 144) rfl)) rfl
theorem q_1345 : Cond.code ⟨"HillDrumsModel", "hears", "(III)I"⟩ prog_14_method_46_code 4 (some .int) ∈ wsL_law := wq_in (tq_6 (List.mem_of_getElem? (i := 145) rfl)) rfl
theorem q_1346 : Cond.methodLink "HillDrumsModel" 342 ⟨"HillDrumsModel", "isHill", "(I)Z"⟩ ∈ wsL_law := wq_in (tq_6 (List.mem_of_getElem? (i := 146) rfl)) rfl
theorem q_1348 : Cond.instanceMethod ⟨"HillDrumsModel", "isHill", "(I)Z"⟩ ∈ wsL_law := wq_in (tq_6 (List.mem_of_getElem? (i := 148) rfl)) rfl
theorem q_1349 : Cond.code ⟨"HillDrumsModel", "isHill", "(I)Z"⟩ prog_14_method_39_code 2 (some .boolean) ∈ wsL_law := wq_in (tq_6 (List.mem_of_getElem? (i := 149) rfl)) rfl
theorem q_1350 : Cond.methodLink "HillDrumsModel" 323 ⟨"HillDrumsModel", "in", "(III)Z"⟩ ∈ wsL_law := wq_in (tq_6 (List.mem_of_getElem? (i := 150) rfl)) rfl
theorem q_1351 : Cond.static ⟨"HillDrumsModel", "in", "(III)Z"⟩ ∈ wsL_law := wq_in (tq_6 (List.mem_of_getElem? (i := 151) rfl)) rfl
theorem q_1352 : Cond.code ⟨"HillDrumsModel", "in", "(III)Z"⟩ prog_14_method_38_code 3 (some .boolean) ∈ wsL_law := wq_in (tq_6 (List.mem_of_getElem? (i := 152) rfl)) rfl
theorem q_1353 : Cond.methodLink "HillDrumsModel" 339 ⟨"HillDrumsModel", "isHeardBy", "(III)Z"⟩ ∈ wsL_law := wq_in (tq_6 (List.mem_of_getElem? (i := 153) rfl)) rfl
theorem q_1355 : Cond.instanceMethod ⟨"HillDrumsModel", "isHeardBy", "(III)Z"⟩ ∈ wsL_law := wq_in (tq_6 (List.mem_of_getElem? (i := 155) rfl)) rfl
theorem q_1356 : Cond.code ⟨"HillDrumsModel", "isHeardBy", "(III)Z"⟩ prog_14_method_44_code 4 (some .boolean) ∈ wsL_law := wq_in (tq_6 (List.mem_of_getElem? (i := 156) rfl)) rfl
theorem q_1357 : Cond.methodLink "HillDrumsModel" 336 ⟨"HillDrumsModel", "tellsOf", "(III)I"⟩ ∈ wsL_law := wq_in (tq_6 (List.mem_of_getElem? (i := 157) rfl)) rfl
theorem q_1359 : Cond.instanceMethod ⟨"HillDrumsModel", "tellsOf", "(III)I"⟩ ∈ wsL_law := wq_in (tq_6 (List.mem_of_getElem? (i := 159) rfl)) rfl
theorem q_1360 : Cond.code ⟨"HillDrumsModel", "tellsOf", "(III)I"⟩ prog_14_method_43_code 10 (some .int) ∈ wsL_law := wq_in (tq_6 (List.mem_of_getElem? (i := 160) rfl)) rfl
theorem q_1361 : Cond.methodLink "HillDrumsModel" 327 ⟨"HillDrumsModel", "apart", "(II)I"⟩ ∈ wsL_law := wq_in (tq_6 (List.mem_of_getElem? (i := 161) rfl)) rfl
theorem q_1362 : Cond.static ⟨"HillDrumsModel", "apart", "(II)I"⟩ ∈ wsL_law := wq_in (tq_6 (List.mem_of_getElem? (i := 162) rfl)) rfl
theorem q_1363 : Cond.code ⟨"HillDrumsModel", "apart", "(II)I"⟩ prog_14_method_42_code 2 (some .int) ∈ wsL_law := wq_in (tq_6 (List.mem_of_getElem? (i := 163) rfl)) rfl
theorem q_1364 : Cond.methodLink "HillDrumsModel" 330 ⟨"HillDrumsModel", "weatherOn", "(II)I"⟩ ∈ wsL_law := wq_in (tq_6 (List.mem_of_getElem? (i := 164) rfl)) rfl
theorem q_1366 : Cond.instanceMethod ⟨"HillDrumsModel", "weatherOn", "(II)I"⟩ ∈ wsL_law := wq_in (tq_6 (List.mem_of_getElem? (i := 166) rfl)) rfl
theorem q_1367 : Cond.code ⟨"HillDrumsModel", "weatherOn", "(II)I"⟩ prog_14_method_41_code 4 (some .int) ∈ wsL_law := wq_in (tq_6 (List.mem_of_getElem? (i := 167) rfl)) rfl
theorem q_1368 : Cond.methodLink "HillDrumsModel" 333 ⟨"HillDrumsModel", "termOf", "(II)I"⟩ ∈ wsL_law := wq_in (tq_6 (List.mem_of_getElem? (i := 168) rfl)) rfl
theorem q_1370 : Cond.instanceMethod ⟨"HillDrumsModel", "termOf", "(II)I"⟩ ∈ wsL_law := wq_in (tq_6 (List.mem_of_getElem? (i := 170) rfl)) rfl
theorem q_1371 : Cond.code ⟨"HillDrumsModel", "termOf", "(II)I"⟩ prog_14_method_37_code 8 (some .int) ∈ wsL_law := wq_in (tq_6 (List.mem_of_getElem? (i := 171) rfl)) rfl
theorem q_1372 : Cond.methodLink "HillDrumsLaw" 40 ⟨"HillDrumsModel", "news", "(III)I"⟩ ∈ wsL_law := wq_in (tq_6 (List.mem_of_getElem? (i := 172) rfl)) rfl
theorem q_1373 : Cond.instanceMethod ⟨"HillDrumsModel", "news", "(III)I"⟩ ∈ wsL_law := wq_in (tq_6 (List.mem_of_getElem? (i := 173) rfl)) rfl
theorem q_1374 : Cond.selects "HillDrumsModel" ⟨"HillDrumsModel", "news", "(III)I"⟩ ⟨"HillDrumsModel", "news", "(III)I"⟩ ∈ wsL_law := wq_in (tq_6 (List.mem_of_getElem? (i := 174) rfl)) rfl
theorem q_1375 : Cond.code ⟨"HillDrumsModel", "news", "(III)I"⟩ prog_14_method_58_code 5 (some .int) ∈ wsL_law := wq_in (tq_6 (List.mem_of_getElem? (i := 175) rfl)) rfl
theorem q_1376 : Cond.methodLink "HillDrumsModel" 377 ⟨"HillDrumsModel", "isNews", "(I)Z"⟩ ∈ wsL_law := wq_in (tq_6 (List.mem_of_getElem? (i := 176) rfl)) rfl
theorem q_1378 : Cond.instanceMethod ⟨"HillDrumsModel", "isNews", "(I)Z"⟩ ∈ wsL_law := wq_in (tq_6 (List.mem_of_getElem? (i := 178) rfl)) rfl
theorem q_1379 : Cond.code ⟨"HillDrumsModel", "isNews", "(I)Z"⟩ prog_14_method_40_code 2 (some .boolean) ∈ wsL_law := wq_in (tq_6 (List.mem_of_getElem? (i := 179) rfl)) rfl
theorem q_1380 : Cond.methodLink "HillDrumsLaw" 45 ⟨"HillDrumsModel", "drum", "(IIZ)I"⟩ ∈ wsL_law := wq_in (tq_6 (List.mem_of_getElem? (i := 180) rfl)) rfl
theorem q_1381 : Cond.instanceMethod ⟨"HillDrumsModel", "drum", "(IIZ)I"⟩ ∈ wsL_law := wq_in (tq_6 (List.mem_of_getElem? (i := 181) rfl)) rfl
theorem q_1382 : Cond.selects "HillDrumsModel" ⟨"HillDrumsModel", "drum", "(IIZ)I"⟩ ⟨"HillDrumsModel", "drum", "(IIZ)I"⟩ ∈ wsL_law := wq_in (tq_6 (List.mem_of_getElem? (i := 182) rfl)) rfl
theorem q_1383 : Cond.code ⟨"HillDrumsModel", "drum", "(IIZ)I"⟩ prog_14_method_61_code 6 (some .int) ∈ wsL_law := wq_in (tq_6 (List.mem_of_getElem? (i := 183) rfl)) rfl
theorem q_1384 : Cond.methodLink "HillDrumsModel" 383 ⟨"HillDrumsModel", "mayNow", "(IIZ)I"⟩ ∈ wsL_law := wq_in (tq_6 (List.mem_of_getElem? (i := 184) rfl)) rfl
theorem q_1386 : Cond.instanceMethod ⟨"HillDrumsModel", "mayNow", "(IIZ)I"⟩ ∈ wsL_law := wq_in (tq_6 (List.mem_of_getElem? (i := 186) rfl)) rfl
theorem q_1387 : Cond.code ⟨"HillDrumsModel", "mayNow", "(IIZ)I"⟩ prog_14_method_60_code 4 (some .int) ∈ wsL_law := wq_in (tq_6 (List.mem_of_getElem? (i := 187) rfl)) rfl
theorem q_1388 : Cond.methodLink "HillDrumsModel" 380 ⟨"HillDrumsModel", "copies", "()V"⟩ ∈ wsL_law := wq_in (tq_6 (List.mem_of_getElem? (i := 188) rfl)) rfl
theorem q_1390 : Cond.instanceMethod ⟨"HillDrumsModel", "copies", "()V"⟩ ∈ wsL_law := wq_in (tq_6 (List.mem_of_getElem? (i := 190) rfl)) rfl
theorem q_1391 : Cond.code ⟨"HillDrumsModel", "copies", "()V"⟩ prog_14_method_50_code 2 none ∈ wsL_law := wq_in (tq_6 (List.mem_of_getElem? (i := 191) rfl)) rfl
theorem q_1392 : Cond.methodLink "HillDrumsModel" 354 ⟨"HillDrumsModel", "knows", "(II)Z"⟩ ∈ wsL_law := wq_in (tq_6 (List.mem_of_getElem? (i := 192) rfl)) rfl
theorem q_1394 : Cond.instanceMethod ⟨"HillDrumsModel", "knows", "(II)Z"⟩ ∈ wsL_law := wq_in (tq_6 (List.mem_of_getElem? (i := 194) rfl)) rfl
theorem q_1395 : Cond.code ⟨"HillDrumsModel", "knows", "(II)Z"⟩ prog_14_method_51_code 3 (some .boolean) ∈ wsL_law := wq_in (tq_6 (List.mem_of_getElem? (i := 195) rfl)) rfl
theorem q_1396 : Cond.methodLink "HillDrumsModel" 358 ⟨"HillDrumsModel", "isAnswer", "(III)Z"⟩ ∈ wsL_law := wq_in (tq_6 (List.mem_of_getElem? (i := 196) rfl)) rfl
theorem q_1398 : Cond.instanceMethod ⟨"HillDrumsModel", "isAnswer", "(III)Z"⟩ ∈ wsL_law := wq_in (tq_6 (List.mem_of_getElem? (i := 198) rfl)) rfl
theorem q_1399 : Cond.code ⟨"HillDrumsModel", "isAnswer", "(III)Z"⟩ prog_14_method_53_code 7 (some .boolean) ∈ wsL_law := wq_in (tq_6 (List.mem_of_getElem? (i := 199) rfl)) rfl
theorem q_1400 : Cond.methodLink "HillDrumsModel" 365 ⟨"HillDrumsModel", "fillsHearers", "(I)V"⟩ ∈ wsL_law := wq_in (tq_6 (List.mem_of_getElem? (i := 200) rfl)) rfl
theorem q_1402 : Cond.instanceMethod ⟨"HillDrumsModel", "fillsHearers", "(I)V"⟩ ∈ wsL_law := wq_in (tq_6 (List.mem_of_getElem? (i := 202) rfl)) rfl
theorem q_1403 : Cond.code ⟨"HillDrumsModel", "fillsHearers", "(I)V"⟩ prog_14_method_45_code 4 none ∈ wsL_law := wq_in (tq_6 (List.mem_of_getElem? (i := 203) rfl)) rfl
theorem q_1404 : Cond.methodLink "HillDrumsModel" 371 ⟨"HillDrumsModel", "drumsNow", "(III)I"⟩ ∈ wsL_law := wq_in (tq_6 (List.mem_of_getElem? (i := 204) rfl)) rfl
theorem q_1406 : Cond.instanceMethod ⟨"HillDrumsModel", "drumsNow", "(III)I"⟩ ∈ wsL_law := wq_in (tq_6 (List.mem_of_getElem? (i := 206) rfl)) rfl
theorem q_1407 : Cond.code ⟨"HillDrumsModel", "drumsNow", "(III)I"⟩ prog_14_method_55_code 5 (some .int) ∈ wsL_law := wq_in (tq_6 (List.mem_of_getElem? (i := 207) rfl)) rfl
theorem q_1408 : Cond.methodLink "HillDrumsModel" 361 ⟨"HillDrumsModel", "spreads", "(IIII)I"⟩ ∈ wsL_law := wq_in (tq_6 (List.mem_of_getElem? (i := 208) rfl)) rfl
theorem q_1410 : Cond.instanceMethod ⟨"HillDrumsModel", "spreads", "(IIII)I"⟩ ∈ wsL_law := wq_in (tq_6 (List.mem_of_getElem? (i := 210) rfl)) rfl
theorem q_1411 : Cond.code ⟨"HillDrumsModel", "spreads", "(IIII)I"⟩ prog_14_method_52_code 8 (some .int) ∈ wsL_law := wq_in (tq_6 (List.mem_of_getElem? (i := 211) rfl)) rfl
theorem q_1412 : Cond.methodLink "HillDrumsModel" 387 ⟨"HillDrumsModel", "keeps", "()V"⟩ ∈ wsL_law := wq_in (tq_6 (List.mem_of_getElem? (i := 212) rfl)) rfl
theorem q_1414 : Cond.instanceMethod ⟨"HillDrumsModel", "keeps", "()V"⟩ ∈ wsL_law := wq_in (tq_6 (List.mem_of_getElem? (i := 214) rfl)) rfl
theorem q_1415 : Cond.code ⟨"HillDrumsModel", "keeps", "()V"⟩ prog_14_method_59_code 2 none ∈ wsL_law := wq_in (tq_6 (List.mem_of_getElem? (i := 215) rfl)) rfl
theorem q_1416 : Cond.methodLink "HillDrumsLaw" 49 ⟨"HillDrumsModel", "may", "(IIZ)I"⟩ ∈ wsL_law := wq_in (tq_6 (List.mem_of_getElem? (i := 216) rfl)) rfl
theorem q_1417 : Cond.instanceMethod ⟨"HillDrumsModel", "may", "(IIZ)I"⟩ ∈ wsL_law := wq_in (tq_6 (List.mem_of_getElem? (i := 217) rfl)) rfl
theorem q_1418 : Cond.selects "HillDrumsModel" ⟨"HillDrumsModel", "may", "(IIZ)I"⟩ ⟨"HillDrumsModel", "may", "(IIZ)I"⟩ ∈ wsL_law := wq_in (tq_6 (List.mem_of_getElem? (i := 218) rfl)) rfl
theorem q_1419 : Cond.code ⟨"HillDrumsModel", "may", "(IIZ)I"⟩ prog_14_method_62_code 4 (some .int) ∈ wsL_law := wq_in (tq_6 (List.mem_of_getElem? (i := 219) rfl)) rfl
theorem q_1420 : Cond.methodLink "HillDrumsLaw" 54 ⟨"HillDrumsModel", "drummed", "(II)I"⟩ ∈ wsL_law := wq_in (tq_6 (List.mem_of_getElem? (i := 220) rfl)) rfl
theorem q_1421 : Cond.instanceMethod ⟨"HillDrumsModel", "drummed", "(II)I"⟩ ∈ wsL_law := wq_in (tq_6 (List.mem_of_getElem? (i := 221) rfl)) rfl
theorem q_1422 : Cond.selects "HillDrumsModel" ⟨"HillDrumsModel", "drummed", "(II)I"⟩ ⟨"HillDrumsModel", "drummed", "(II)I"⟩ ∈ wsL_law := wq_in (tq_6 (List.mem_of_getElem? (i := 222) rfl)) rfl
theorem q_1423 : Cond.code ⟨"HillDrumsModel", "drummed", "(II)I"⟩ prog_14_method_63_code 3 (some .int) ∈ wsL_law := wq_in (tq_6 (List.mem_of_getElem? (i := 223) rfl)) rfl
theorem q_1424 : Cond.methodLink "HillDrumsLaw" 58 ⟨"HillDrumsModel", "night", "()I"⟩ ∈ wsL_law := wq_in (tq_6 (List.mem_of_getElem? (i := 224) rfl)) rfl
theorem q_1425 : Cond.instanceMethod ⟨"HillDrumsModel", "night", "()I"⟩ ∈ wsL_law := wq_in (tq_6 (List.mem_of_getElem? (i := 225) rfl)) rfl
theorem q_1426 : Cond.selects "HillDrumsModel" ⟨"HillDrumsModel", "night", "()I"⟩ ⟨"HillDrumsModel", "night", "()I"⟩ ∈ wsL_law := wq_in (tq_6 (List.mem_of_getElem? (i := 226) rfl)) rfl
theorem q_1427 : Cond.code ⟨"HillDrumsModel", "night", "()I"⟩ prog_14_method_64_code 1 (some .int) ∈ wsL_law := wq_in (tq_6 (List.mem_of_getElem? (i := 227) rfl)) rfl
theorem q_1428 : Cond.methodLink "HillDrumsModel" 374 ⟨"HillDrumsModel", "nightGoes", "()V"⟩ ∈ wsL_law := wq_in (tq_6 (List.mem_of_getElem? (i := 228) rfl)) rfl
theorem q_1430 : Cond.instanceMethod ⟨"HillDrumsModel", "nightGoes", "()V"⟩ ∈ wsL_law := wq_in (tq_6 (List.mem_of_getElem? (i := 230) rfl)) rfl
theorem q_1431 : Cond.code ⟨"HillDrumsModel", "nightGoes", "()V"⟩ prog_14_method_56_code 4 none ∈ wsL_law := wq_in (tq_6 (List.mem_of_getElem? (i := 231) rfl)) rfl
theorem q_1432 : Cond.methodLink "HillDrumsLaw" 62 ⟨"HillDrumsModel", "run", "(I)I"⟩ ∈ wsL_law := wq_in (tq_6 (List.mem_of_getElem? (i := 232) rfl)) rfl
theorem q_1433 : Cond.instanceMethod ⟨"HillDrumsModel", "run", "(I)I"⟩ ∈ wsL_law := wq_in (tq_6 (List.mem_of_getElem? (i := 233) rfl)) rfl
theorem q_1434 : Cond.selects "HillDrumsModel" ⟨"HillDrumsModel", "run", "(I)I"⟩ ⟨"HillDrumsModel", "run", "(I)I"⟩ ∈ wsL_law := wq_in (tq_6 (List.mem_of_getElem? (i := 234) rfl)) rfl
theorem q_1435 : Cond.code ⟨"HillDrumsModel", "run", "(I)I"⟩ prog_14_method_65_code 3 (some .int) ∈ wsL_law := wq_in (tq_6 (List.mem_of_getElem? (i := 235) rfl)) rfl
theorem q_1436 : Cond.methodLink "HillDrumsModel" 390 ⟨"HillDrumsModel", "dayByRule", "()V"⟩ ∈ wsL_law := wq_in (tq_6 (List.mem_of_getElem? (i := 236) rfl)) rfl
theorem q_1438 : Cond.instanceMethod ⟨"HillDrumsModel", "dayByRule", "()V"⟩ ∈ wsL_law := wq_in (tq_6 (List.mem_of_getElem? (i := 238) rfl)) rfl
theorem q_1439 : Cond.code ⟨"HillDrumsModel", "dayByRule", "()V"⟩ prog_14_method_57_code 3 none ∈ wsL_law := wq_in (tq_6 (List.mem_of_getElem? (i := 239) rfl)) rfl
theorem q_1440 : Cond.methodLink "HillDrumsModel" 368 ⟨"HillDrumsModel", "isLawful", "(III)Z"⟩ ∈ wsL_law := wq_in (tq_7 (List.mem_of_getElem? (i := 0) rfl)) rfl
theorem q_1442 : Cond.instanceMethod ⟨"HillDrumsModel", "isLawful", "(III)Z"⟩ ∈ wsL_law := wq_in (tq_7 (List.mem_of_getElem? (i := 2) rfl)) rfl
theorem q_1443 : Cond.code ⟨"HillDrumsModel", "isLawful", "(III)Z"⟩ prog_14_method_54_code 4 (some .boolean) ∈ wsL_law := wq_in (tq_7 (List.mem_of_getElem? (i := 3) rfl)) rfl
theorem q_1444 : Cond.methodLink "HillDrumsLaw" 67 ⟨"HillDrumsModel", "undo", "()Z"⟩ ∈ wsL_law := wq_in (tq_7 (List.mem_of_getElem? (i := 4) rfl)) rfl
theorem q_1445 : Cond.instanceMethod ⟨"HillDrumsModel", "undo", "()Z"⟩ ∈ wsL_law := wq_in (tq_7 (List.mem_of_getElem? (i := 5) rfl)) rfl
theorem q_1446 : Cond.selects "HillDrumsModel" ⟨"HillDrumsModel", "undo", "()Z"⟩ ⟨"HillDrumsModel", "undo", "()Z"⟩ ∈ wsL_law := wq_in (tq_7 (List.mem_of_getElem? (i := 6) rfl)) rfl
theorem q_1447 : Cond.code ⟨"HillDrumsModel", "undo", "()Z"⟩ prog_14_method_66_code 2 (some .boolean) ∈ wsL_law := wq_in (tq_7 (List.mem_of_getElem? (i := 7) rfl)) rfl
theorem q_1448 : Cond.methodLink "HillDrumsLaw" 71 ⟨"HillDrumsModel", "byRule", "(II)I"⟩ ∈ wsL_law := wq_in (tq_7 (List.mem_of_getElem? (i := 8) rfl)) rfl
theorem q_1449 : Cond.instanceMethod ⟨"HillDrumsModel", "byRule", "(II)I"⟩ ∈ wsL_law := wq_in (tq_7 (List.mem_of_getElem? (i := 9) rfl)) rfl
theorem q_1450 : Cond.selects "HillDrumsModel" ⟨"HillDrumsModel", "byRule", "(II)I"⟩ ⟨"HillDrumsModel", "byRule", "(II)I"⟩ ∈ wsL_law := wq_in (tq_7 (List.mem_of_getElem? (i := 10) rfl)) rfl
theorem q_1451 : Cond.code ⟨"HillDrumsModel", "byRule", "(II)I"⟩ prog_14_method_68_code 3 (some .int) ∈ wsL_law := wq_in (tq_7 (List.mem_of_getElem? (i := 11) rfl)) rfl
theorem q_1452 : Cond.methodLink "HillDrumsModel" 393 ⟨"HillDrumsModel", "knownBy", "(II)I"⟩ ∈ wsL_law := wq_in (tq_7 (List.mem_of_getElem? (i := 12) rfl)) rfl
theorem q_1454 : Cond.instanceMethod ⟨"HillDrumsModel", "knownBy", "(II)I"⟩ ∈ wsL_law := wq_in (tq_7 (List.mem_of_getElem? (i := 14) rfl)) rfl
theorem q_1455 : Cond.code ⟨"HillDrumsModel", "knownBy", "(II)I"⟩ prog_14_method_67_code 4 (some .int) ∈ wsL_law := wq_in (tq_7 (List.mem_of_getElem? (i := 15) rfl)) rfl
theorem q_1456 : Cond.methodLink "HillDrumsLaw" 76 ⟨"HillDrumsModel", "agreed", "(IIII)I"⟩ ∈ wsL_law := wq_in (tq_7 (List.mem_of_getElem? (i := 16) rfl)) rfl
theorem q_1457 : Cond.instanceMethod ⟨"HillDrumsModel", "agreed", "(IIII)I"⟩ ∈ wsL_law := wq_in (tq_7 (List.mem_of_getElem? (i := 17) rfl)) rfl
theorem q_1458 : Cond.selects "HillDrumsModel" ⟨"HillDrumsModel", "agreed", "(IIII)I"⟩ ⟨"HillDrumsModel", "agreed", "(IIII)I"⟩ ∈ wsL_law := wq_in (tq_7 (List.mem_of_getElem? (i := 18) rfl)) rfl
theorem q_1459 : Cond.code ⟨"HillDrumsModel", "agreed", "(IIII)I"⟩ prog_14_method_69_code 6 (some .int) ∈ wsL_law := wq_in (tq_7 (List.mem_of_getElem? (i := 19) rfl)) rfl
theorem q_1460 : Cond.methodLink "HillDrumsLaw" 80 ⟨"HillDrumsModel", "talk", "(I)I"⟩ ∈ wsL_law := wq_in (tq_7 (List.mem_of_getElem? (i := 20) rfl)) rfl
theorem q_1461 : Cond.instanceMethod ⟨"HillDrumsModel", "talk", "(I)I"⟩ ∈ wsL_law := wq_in (tq_7 (List.mem_of_getElem? (i := 21) rfl)) rfl
theorem q_1462 : Cond.selects "HillDrumsModel" ⟨"HillDrumsModel", "talk", "(I)I"⟩ ⟨"HillDrumsModel", "talk", "(I)I"⟩ ∈ wsL_law := wq_in (tq_7 (List.mem_of_getElem? (i := 22) rfl)) rfl
theorem q_1463 : Cond.code ⟨"HillDrumsModel", "talk", "(I)I"⟩ prog_14_method_70_code 4 (some .int) ∈ wsL_law := wq_in (tq_7 (List.mem_of_getElem? (i := 23) rfl)) rfl
theorem q_1464 : Cond.methodLink "HillDrumsLaw" 84 ⟨"HillDrumsModel", "bestOrder", "(II)I"⟩ ∈ wsL_law := wq_in (tq_7 (List.mem_of_getElem? (i := 24) rfl)) rfl
theorem q_1465 : Cond.instanceMethod ⟨"HillDrumsModel", "bestOrder", "(II)I"⟩ ∈ wsL_law := wq_in (tq_7 (List.mem_of_getElem? (i := 25) rfl)) rfl
theorem q_1466 : Cond.selects "HillDrumsModel" ⟨"HillDrumsModel", "bestOrder", "(II)I"⟩ ⟨"HillDrumsModel", "bestOrder", "(II)I"⟩ ∈ wsL_law := wq_in (tq_7 (List.mem_of_getElem? (i := 26) rfl)) rfl
theorem q_1467 : Cond.code ⟨"HillDrumsModel", "bestOrder", "(II)I"⟩ prog_14_method_72_code 7 (some .int) ∈ wsL_law := wq_in (tq_7 (List.mem_of_getElem? (i := 27) rfl)) rfl
theorem q_1468 : Cond.methodLink "HillDrumsModel" 396 ⟨"HillDrumsModel", "allKnow", "(I)Z"⟩ ∈ wsL_law := wq_in (tq_7 (List.mem_of_getElem? (i := 28) rfl)) rfl
theorem q_1470 : Cond.instanceMethod ⟨"HillDrumsModel", "allKnow", "(I)Z"⟩ ∈ wsL_law := wq_in (tq_7 (List.mem_of_getElem? (i := 30) rfl)) rfl
theorem q_1471 : Cond.code ⟨"HillDrumsModel", "allKnow", "(I)Z"⟩ prog_14_method_71_code 3 (some .boolean) ∈ wsL_law := wq_in (tq_7 (List.mem_of_getElem? (i := 31) rfl)) rfl
theorem q_1472 : Cond.methodLink "HillDrumsLaw" 88 ⟨"HillDrumsModel", "quiet", "(III)I"⟩ ∈ wsL_law := wq_in (tq_7 (List.mem_of_getElem? (i := 32) rfl)) rfl
theorem q_1473 : Cond.instanceMethod ⟨"HillDrumsModel", "quiet", "(III)I"⟩ ∈ wsL_law := wq_in (tq_7 (List.mem_of_getElem? (i := 33) rfl)) rfl
theorem q_1474 : Cond.selects "HillDrumsModel" ⟨"HillDrumsModel", "quiet", "(III)I"⟩ ⟨"HillDrumsModel", "quiet", "(III)I"⟩ ∈ wsL_law := wq_in (tq_7 (List.mem_of_getElem? (i := 34) rfl)) rfl
theorem q_1475 : Cond.code ⟨"HillDrumsModel", "quiet", "(III)I"⟩ prog_14_method_73_code 8 (some .int) ∈ wsL_law := wq_in (tq_7 (List.mem_of_getElem? (i := 35) rfl)) rfl
theorem q_1476 : Cond.methodLink "HillDrumsLaw" 92 ⟨"HillDrumsModel", "soonest", "(II)I"⟩ ∈ wsL_law := wq_in (tq_7 (List.mem_of_getElem? (i := 36) rfl)) rfl
theorem q_1477 : Cond.instanceMethod ⟨"HillDrumsModel", "soonest", "(II)I"⟩ ∈ wsL_law := wq_in (tq_7 (List.mem_of_getElem? (i := 37) rfl)) rfl
theorem q_1478 : Cond.selects "HillDrumsModel" ⟨"HillDrumsModel", "soonest", "(II)I"⟩ ⟨"HillDrumsModel", "soonest", "(II)I"⟩ ∈ wsL_law := wq_in (tq_7 (List.mem_of_getElem? (i := 38) rfl)) rfl
theorem q_1479 : Cond.code ⟨"HillDrumsModel", "soonest", "(II)I"⟩ prog_14_method_81_code 3 (some .int) ∈ wsL_law := wq_in (tq_7 (List.mem_of_getElem? (i := 39) rfl)) rfl
theorem q_1480 : Cond.methodLink "HillDrumsModel" 417 ⟨"HillDrumsModel", "daysTo", "(II)I"⟩ ∈ wsL_law := wq_in (tq_7 (List.mem_of_getElem? (i := 40) rfl)) rfl
theorem q_1482 : Cond.instanceMethod ⟨"HillDrumsModel", "daysTo", "(II)I"⟩ ∈ wsL_law := wq_in (tq_7 (List.mem_of_getElem? (i := 42) rfl)) rfl
theorem q_1483 : Cond.code ⟨"HillDrumsModel", "daysTo", "(II)I"⟩ prog_14_method_80_code 4 (some .int) ∈ wsL_law := wq_in (tq_7 (List.mem_of_getElem? (i := 43) rfl)) rfl
theorem q_1484 : Cond.methodLink "HillDrumsModel" 408 ⟨"HillDrumsModel", "startsPlan", "(I)V"⟩ ∈ wsL_law := wq_in (tq_7 (List.mem_of_getElem? (i := 44) rfl)) rfl
theorem q_1486 : Cond.instanceMethod ⟨"HillDrumsModel", "startsPlan", "(I)V"⟩ ∈ wsL_law := wq_in (tq_7 (List.mem_of_getElem? (i := 46) rfl)) rfl
theorem q_1487 : Cond.code ⟨"HillDrumsModel", "startsPlan", "(I)V"⟩ prog_14_method_77_code 4 none ∈ wsL_law := wq_in (tq_7 (List.mem_of_getElem? (i := 47) rfl)) rfl
theorem q_1488 : Cond.methodLink "HillDrumsModel" 411 ⟨"HillDrumsModel", "isReached", "(I)Z"⟩ ∈ wsL_law := wq_in (tq_7 (List.mem_of_getElem? (i := 48) rfl)) rfl
theorem q_1490 : Cond.instanceMethod ⟨"HillDrumsModel", "isReached", "(I)Z"⟩ ∈ wsL_law := wq_in (tq_7 (List.mem_of_getElem? (i := 50) rfl)) rfl
theorem q_1491 : Cond.code ⟨"HillDrumsModel", "isReached", "(I)Z"⟩ prog_14_method_79_code 3 (some .boolean) ∈ wsL_law := wq_in (tq_7 (List.mem_of_getElem? (i := 51) rfl)) rfl
theorem q_1492 : Cond.methodLink "HillDrumsModel" 414 ⟨"HillDrumsModel", "planDay", "(I)V"⟩ ∈ wsL_law := wq_in (tq_7 (List.mem_of_getElem? (i := 52) rfl)) rfl
theorem q_1494 : Cond.instanceMethod ⟨"HillDrumsModel", "planDay", "(I)V"⟩ ∈ wsL_law := wq_in (tq_7 (List.mem_of_getElem? (i := 54) rfl)) rfl
theorem q_1495 : Cond.code ⟨"HillDrumsModel", "planDay", "(I)V"⟩ prog_14_method_78_code 7 none ∈ wsL_law := wq_in (tq_7 (List.mem_of_getElem? (i := 55) rfl)) rfl
theorem q_1496 : Cond.methodLink "HillDrumsModel" 399 ⟨"HillDrumsModel", "canDrum", "(I)Z"⟩ ∈ wsL_law := wq_in (tq_7 (List.mem_of_getElem? (i := 56) rfl)) rfl
theorem q_1498 : Cond.instanceMethod ⟨"HillDrumsModel", "canDrum", "(I)Z"⟩ ∈ wsL_law := wq_in (tq_7 (List.mem_of_getElem? (i := 58) rfl)) rfl
theorem q_1499 : Cond.code ⟨"HillDrumsModel", "canDrum", "(I)Z"⟩ prog_14_method_75_code 5 (some .boolean) ∈ wsL_law := wq_in (tq_7 (List.mem_of_getElem? (i := 59) rfl)) rfl
theorem q_1500 : Cond.methodLink "HillDrumsModel" 402 ⟨"HillDrumsModel", "heardOf", "(I)I"⟩ ∈ wsL_law := wq_in (tq_7 (List.mem_of_getElem? (i := 60) rfl)) rfl
theorem q_1502 : Cond.instanceMethod ⟨"HillDrumsModel", "heardOf", "(I)I"⟩ ∈ wsL_law := wq_in (tq_7 (List.mem_of_getElem? (i := 62) rfl)) rfl
theorem q_1503 : Cond.code ⟨"HillDrumsModel", "heardOf", "(I)I"⟩ prog_14_method_76_code 4 (some .int) ∈ wsL_law := wq_in (tq_7 (List.mem_of_getElem? (i := 63) rfl)) rfl
theorem q_1504 : Cond.methodLink "HillDrumsModel" 405 ⟨"HillDrumsModel", "bits", "(I)I"⟩ ∈ wsL_law := wq_in (tq_7 (List.mem_of_getElem? (i := 64) rfl)) rfl
theorem q_1505 : Cond.static ⟨"HillDrumsModel", "bits", "(I)I"⟩ ∈ wsL_law := wq_in (tq_7 (List.mem_of_getElem? (i := 65) rfl)) rfl
theorem q_1506 : Cond.code ⟨"HillDrumsModel", "bits", "(I)I"⟩ prog_14_method_74_code 3 (some .int) ∈ wsL_law := wq_in (tq_7 (List.mem_of_getElem? (i := 66) rfl)) rfl
theorem q_1507 : Cond.methodLink "HillDrumsLaw" 96 ⟨"HillDrumsModel", "all", "(I)I"⟩ ∈ wsL_law := wq_in (tq_7 (List.mem_of_getElem? (i := 67) rfl)) rfl
theorem q_1508 : Cond.instanceMethod ⟨"HillDrumsModel", "all", "(I)I"⟩ ∈ wsL_law := wq_in (tq_7 (List.mem_of_getElem? (i := 68) rfl)) rfl
theorem q_1509 : Cond.selects "HillDrumsModel" ⟨"HillDrumsModel", "all", "(I)I"⟩ ⟨"HillDrumsModel", "all", "(I)I"⟩ ∈ wsL_law := wq_in (tq_7 (List.mem_of_getElem? (i := 69) rfl)) rfl
theorem q_1510 : Cond.code ⟨"HillDrumsModel", "all", "(I)I"⟩ prog_14_method_82_code 2 (some .int) ∈ wsL_law := wq_in (tq_7 (List.mem_of_getElem? (i := 70) rfl)) rfl
theorem q_1511 : Cond.methodLink "HillDrumsLaw" 100 ⟨"HillDrumsModel", "drums", "(I)I"⟩ ∈ wsL_law := wq_in (tq_7 (List.mem_of_getElem? (i := 71) rfl)) rfl
theorem q_1512 : Cond.instanceMethod ⟨"HillDrumsModel", "drums", "(I)I"⟩ ∈ wsL_law := wq_in (tq_7 (List.mem_of_getElem? (i := 72) rfl)) rfl
theorem q_1513 : Cond.selects "HillDrumsModel" ⟨"HillDrumsModel", "drums", "(I)I"⟩ ⟨"HillDrumsModel", "drums", "(I)I"⟩ ∈ wsL_law := wq_in (tq_7 (List.mem_of_getElem? (i := 73) rfl)) rfl
theorem q_1514 : Cond.code ⟨"HillDrumsModel", "drums", "(I)I"⟩ prog_14_method_83_code 3 (some .int) ∈ wsL_law := wq_in (tq_7 (List.mem_of_getElem? (i := 74) rfl)) rfl
theorem q_1515 : Cond.methodLink "HillDrumsLaw" 104 ⟨"HillDrumsModel", "loophole", "(III)I"⟩ ∈ wsL_law := wq_in (tq_7 (List.mem_of_getElem? (i := 75) rfl)) rfl
theorem q_1516 : Cond.instanceMethod ⟨"HillDrumsModel", "loophole", "(III)I"⟩ ∈ wsL_law := wq_in (tq_7 (List.mem_of_getElem? (i := 76) rfl)) rfl
theorem q_1517 : Cond.selects "HillDrumsModel" ⟨"HillDrumsModel", "loophole", "(III)I"⟩ ⟨"HillDrumsModel", "loophole", "(III)I"⟩ ∈ wsL_law := wq_in (tq_7 (List.mem_of_getElem? (i := 77) rfl)) rfl
theorem q_1518 : Cond.code ⟨"HillDrumsModel", "loophole", "(III)I"⟩ prog_14_method_88_code 4 (some .int) ∈ wsL_law := wq_in (tq_7 (List.mem_of_getElem? (i := 78) rfl)) rfl
theorem q_1519 : Cond.methodLink "HillDrumsModel" 430 ⟨"HillDrumsModel", "canHole", "(III)Z"⟩ ∈ wsL_law := wq_in (tq_7 (List.mem_of_getElem? (i := 79) rfl)) rfl
theorem q_1521 : Cond.instanceMethod ⟨"HillDrumsModel", "canHole", "(III)Z"⟩ ∈ wsL_law := wq_in (tq_7 (List.mem_of_getElem? (i := 81) rfl)) rfl
theorem q_1522 : Cond.code ⟨"HillDrumsModel", "canHole", "(III)Z"⟩ prog_14_method_87_code 4 (some .boolean) ∈ wsL_law := wq_in (tq_7 (List.mem_of_getElem? (i := 82) rfl)) rfl
theorem q_1523 : Cond.methodLink "HillDrumsModel" 433 ⟨"HillDrumsModel", "findsHole", "(III)Z"⟩ ∈ wsL_law := wq_in (tq_7 (List.mem_of_getElem? (i := 83) rfl)) rfl
theorem q_1525 : Cond.instanceMethod ⟨"HillDrumsModel", "findsHole", "(III)Z"⟩ ∈ wsL_law := wq_in (tq_7 (List.mem_of_getElem? (i := 85) rfl)) rfl
theorem q_1526 : Cond.code ⟨"HillDrumsModel", "findsHole", "(III)Z"⟩ prog_14_method_86_code 7 (some .boolean) ∈ wsL_law := wq_in (tq_7 (List.mem_of_getElem? (i := 86) rfl)) rfl
theorem q_1527 : Cond.methodLink "HillDrumsModel" 423 ⟨"HillDrumsModel", "beginsHole", "(II)Z"⟩ ∈ wsL_law := wq_in (tq_7 (List.mem_of_getElem? (i := 87) rfl)) rfl
theorem q_1529 : Cond.instanceMethod ⟨"HillDrumsModel", "beginsHole", "(II)Z"⟩ ∈ wsL_law := wq_in (tq_7 (List.mem_of_getElem? (i := 89) rfl)) rfl
theorem q_1530 : Cond.code ⟨"HillDrumsModel", "beginsHole", "(II)Z"⟩ prog_14_method_85_code 3 (some .boolean) ∈ wsL_law := wq_in (tq_7 (List.mem_of_getElem? (i := 90) rfl)) rfl
theorem q_1531 : Cond.methodLink "HillDrumsModel" 426 ⟨"HillDrumsModel", "endsBy", "(IIII)Z"⟩ ∈ wsL_law := wq_in (tq_7 (List.mem_of_getElem? (i := 91) rfl)) rfl
theorem q_1533 : Cond.instanceMethod ⟨"HillDrumsModel", "endsBy", "(IIII)Z"⟩ ∈ wsL_law := wq_in (tq_7 (List.mem_of_getElem? (i := 93) rfl)) rfl
theorem q_1534 : Cond.code ⟨"HillDrumsModel", "endsBy", "(IIII)Z"⟩ prog_14_method_84_code 6 (some .boolean) ∈ wsL_law := wq_in (tq_7 (List.mem_of_getElem? (i := 94) rfl)) rfl
theorem q_1535 : Cond.methodLink "HillDrumsLaw" 108 ⟨"HillDrumsModel", "loopholeAt", "(IIII)I"⟩ ∈ wsL_law := wq_in (tq_7 (List.mem_of_getElem? (i := 95) rfl)) rfl
theorem q_1536 : Cond.instanceMethod ⟨"HillDrumsModel", "loopholeAt", "(IIII)I"⟩ ∈ wsL_law := wq_in (tq_7 (List.mem_of_getElem? (i := 96) rfl)) rfl
theorem q_1537 : Cond.selects "HillDrumsModel" ⟨"HillDrumsModel", "loopholeAt", "(IIII)I"⟩ ⟨"HillDrumsModel", "loopholeAt", "(IIII)I"⟩ ∈ wsL_law := wq_in (tq_7 (List.mem_of_getElem? (i := 97) rfl)) rfl
theorem q_1538 : Cond.code ⟨"HillDrumsModel", "loopholeAt", "(IIII)I"⟩ prog_14_method_89_code 5 (some .int) ∈ wsL_law := wq_in (tq_7 (List.mem_of_getElem? (i := 98) rfl)) rfl
theorem q_1539 : Cond.methodLink "HillDrumsLaw" 112 ⟨"HillDrumsModel", "clashes", "(I)I"⟩ ∈ wsL_law := wq_in (tq_7 (List.mem_of_getElem? (i := 99) rfl)) rfl
theorem q_1540 : Cond.instanceMethod ⟨"HillDrumsModel", "clashes", "(I)I"⟩ ∈ wsL_law := wq_in (tq_7 (List.mem_of_getElem? (i := 100) rfl)) rfl
theorem q_1541 : Cond.selects "HillDrumsModel" ⟨"HillDrumsModel", "clashes", "(I)I"⟩ ⟨"HillDrumsModel", "clashes", "(I)I"⟩ ∈ wsL_law := wq_in (tq_7 (List.mem_of_getElem? (i := 101) rfl)) rfl
theorem q_1542 : Cond.code ⟨"HillDrumsModel", "clashes", "(I)I"⟩ prog_14_method_90_code 4 (some .int) ∈ wsL_law := wq_in (tq_7 (List.mem_of_getElem? (i := 102) rfl)) rfl
theorem q_1543 : Cond.methodLink "HillDrumsLaw" 116 ⟨"HillDrumsModel", "sure", "(IIII)I"⟩ ∈ wsL_law := wq_in (tq_7 (List.mem_of_getElem? (i := 103) rfl)) rfl
theorem q_1544 : Cond.instanceMethod ⟨"HillDrumsModel", "sure", "(IIII)I"⟩ ∈ wsL_law := wq_in (tq_7 (List.mem_of_getElem? (i := 104) rfl)) rfl
theorem q_1545 : Cond.selects "HillDrumsModel" ⟨"HillDrumsModel", "sure", "(IIII)I"⟩ ⟨"HillDrumsModel", "sure", "(IIII)I"⟩ ∈ wsL_law := wq_in (tq_7 (List.mem_of_getElem? (i := 105) rfl)) rfl
theorem q_1546 : Cond.code ⟨"HillDrumsModel", "sure", "(IIII)I"⟩ prog_14_method_91_code 10 (some .int) ∈ wsL_law := wq_in (tq_7 (List.mem_of_getElem? (i := 106) rfl)) rfl
theorem q_1547 : Cond.methodLink "HillDrumsLaw" 120 ⟨"HillDrumsModel", "tell", "(III)I"⟩ ∈ wsL_law := wq_in (tq_7 (List.mem_of_getElem? (i := 107) rfl)) rfl
theorem q_1548 : Cond.instanceMethod ⟨"HillDrumsModel", "tell", "(III)I"⟩ ∈ wsL_law := wq_in (tq_7 (List.mem_of_getElem? (i := 108) rfl)) rfl
theorem q_1549 : Cond.selects "HillDrumsModel" ⟨"HillDrumsModel", "tell", "(III)I"⟩ ⟨"HillDrumsModel", "tell", "(III)I"⟩ ∈ wsL_law := wq_in (tq_7 (List.mem_of_getElem? (i := 109) rfl)) rfl
theorem q_1550 : Cond.code ⟨"HillDrumsModel", "tell", "(III)I"⟩ prog_14_method_92_code 4 (some .int) ∈ wsL_law := wq_in (tq_7 (List.mem_of_getElem? (i := 110) rfl)) rfl
theorem q_1551 : Cond.methodLink "HillDrumsLaw" 124 ⟨"HillDrumsModel", "forget", "()I"⟩ ∈ wsL_law := wq_in (tq_7 (List.mem_of_getElem? (i := 111) rfl)) rfl
theorem q_1552 : Cond.instanceMethod ⟨"HillDrumsModel", "forget", "()I"⟩ ∈ wsL_law := wq_in (tq_7 (List.mem_of_getElem? (i := 112) rfl)) rfl
theorem q_1553 : Cond.selects "HillDrumsModel" ⟨"HillDrumsModel", "forget", "()I"⟩ ⟨"HillDrumsModel", "forget", "()I"⟩ ∈ wsL_law := wq_in (tq_7 (List.mem_of_getElem? (i := 113) rfl)) rfl
theorem q_1554 : Cond.code ⟨"HillDrumsModel", "forget", "()I"⟩ prog_14_method_93_code 2 (some .int) ∈ wsL_law := wq_in (tq_7 (List.mem_of_getElem? (i := 114) rfl)) rfl
theorem q_1555 : Cond.methodLink "HillDrumsLaw" 128 ⟨"HillDrumsModel", "beginners", "(II)I"⟩ ∈ wsL_law := wq_in (tq_7 (List.mem_of_getElem? (i := 115) rfl)) rfl
theorem q_1556 : Cond.instanceMethod ⟨"HillDrumsModel", "beginners", "(II)I"⟩ ∈ wsL_law := wq_in (tq_7 (List.mem_of_getElem? (i := 116) rfl)) rfl
theorem q_1557 : Cond.selects "HillDrumsModel" ⟨"HillDrumsModel", "beginners", "(II)I"⟩ ⟨"HillDrumsModel", "beginners", "(II)I"⟩ ∈ wsL_law := wq_in (tq_7 (List.mem_of_getElem? (i := 117) rfl)) rfl
theorem q_1558 : Cond.code ⟨"HillDrumsModel", "beginners", "(II)I"⟩ prog_14_method_95_code 5 (some .int) ∈ wsL_law := wq_in (tq_7 (List.mem_of_getElem? (i := 118) rfl)) rfl
theorem q_1559 : Cond.methodLink "HillDrumsModel" 436 ⟨"HillDrumsModel", "isSo", "(III)Z"⟩ ∈ wsL_law := wq_in (tq_7 (List.mem_of_getElem? (i := 119) rfl)) rfl
theorem q_1561 : Cond.instanceMethod ⟨"HillDrumsModel", "isSo", "(III)Z"⟩ ∈ wsL_law := wq_in (tq_7 (List.mem_of_getElem? (i := 121) rfl)) rfl
theorem q_1562 : Cond.code ⟨"HillDrumsModel", "isSo", "(III)Z"⟩ prog_14_method_94_code 7 (some .boolean) ∈ wsL_law := wq_in (tq_7 (List.mem_of_getElem? (i := 122) rfl)) rfl
theorem q_1563 : Cond.methodLink "HillDrumsLaw" 133 ⟨"HillDrumsModel", "hold", "(I)Z"⟩ ∈ wsL_law := wq_in (tq_7 (List.mem_of_getElem? (i := 123) rfl)) rfl
theorem q_1564 : Cond.instanceMethod ⟨"HillDrumsModel", "hold", "(I)Z"⟩ ∈ wsL_law := wq_in (tq_7 (List.mem_of_getElem? (i := 124) rfl)) rfl
theorem q_1565 : Cond.selects "HillDrumsModel" ⟨"HillDrumsModel", "hold", "(I)Z"⟩ ⟨"HillDrumsModel", "hold", "(I)Z"⟩ ∈ wsL_law := wq_in (tq_7 (List.mem_of_getElem? (i := 125) rfl)) rfl
theorem q_1566 : Cond.code ⟨"HillDrumsModel", "hold", "(I)Z"⟩ prog_14_method_96_code 3 (some .boolean) ∈ wsL_law := wq_in (tq_7 (List.mem_of_getElem? (i := 126) rfl)) rfl
theorem q_1567 : Cond.methodLink "HillDrumsLaw" 137 ⟨"HillDrumsModel", "restore", "(I)Z"⟩ ∈ wsL_law := wq_in (tq_7 (List.mem_of_getElem? (i := 127) rfl)) rfl
theorem q_1568 : Cond.instanceMethod ⟨"HillDrumsModel", "restore", "(I)Z"⟩ ∈ wsL_law := wq_in (tq_7 (List.mem_of_getElem? (i := 128) rfl)) rfl
theorem q_1569 : Cond.selects "HillDrumsModel" ⟨"HillDrumsModel", "restore", "(I)Z"⟩ ⟨"HillDrumsModel", "restore", "(I)Z"⟩ ∈ wsL_law := wq_in (tq_7 (List.mem_of_getElem? (i := 129) rfl)) rfl
theorem q_1570 : Cond.code ⟨"HillDrumsModel", "restore", "(I)Z"⟩ prog_14_method_97_code 3 (some .boolean) ∈ wsL_law := wq_in (tq_7 (List.mem_of_getElem? (i := 130) rfl)) rfl
theorem q_1571 : Cond.methodLink "HillDrumsLaw" 141 ⟨"HillDrumsModel", "count", "(I)I"⟩ ∈ wsL_law := wq_in (tq_7 (List.mem_of_getElem? (i := 131) rfl)) rfl
theorem q_1572 : Cond.instanceMethod ⟨"HillDrumsModel", "count", "(I)I"⟩ ∈ wsL_law := wq_in (tq_7 (List.mem_of_getElem? (i := 132) rfl)) rfl
theorem q_1573 : Cond.selects "HillDrumsModel" ⟨"HillDrumsModel", "count", "(I)I"⟩ ⟨"HillDrumsModel", "count", "(I)I"⟩ ∈ wsL_law := wq_in (tq_7 (List.mem_of_getElem? (i := 133) rfl)) rfl
theorem q_1574 : Cond.code ⟨"HillDrumsModel", "count", "(I)I"⟩ prog_14_method_98_code 4 (some .int) ∈ wsL_law := wq_in (tq_7 (List.mem_of_getElem? (i := 134) rfl)) rfl
theorem q_1575 : Cond.fieldLink "java/lang/String" 15 "java/lang/String" "coder" "B" ∈ wsL_law := wq_in (tq_7 (List.mem_of_getElem? (i := 135) rfl)) rfl
theorem q_1576 : Cond.fieldLink "java/lang/String" 9 "java/lang/String" "value" "[B" ∈ wsL_law := wq_in (tq_7 (List.mem_of_getElem? (i := 136) rfl)) rfl
theorem ts_1 {w : MethodName × Nat} (h : w ∈ lw_privs_1) : Cond.selects w.1.cls w.1 w.1 ∈ lw_tbl := List.mem_append_left _ (List.mem_map.mpr ⟨w, (List.mem_append_left _ h), rfl⟩)
theorem ts_2 {w : MethodName × Nat} (h : w ∈ lw_privs_2) : Cond.selects w.1.cls w.1 w.1 ∈ lw_tbl := List.mem_append_left _ (List.mem_map.mpr ⟨w, (List.mem_append_right _ (List.mem_append_left _ h)), rfl⟩)
theorem ts_3 {w : MethodName × Nat} (h : w ∈ lw_privs_3) : Cond.selects w.1.cls w.1 w.1 ∈ lw_tbl := List.mem_append_left _ (List.mem_map.mpr ⟨w, (List.mem_append_right _ (List.mem_append_right _ (List.mem_append_left _ h))), rfl⟩)
theorem ts_4 {w : MethodName × Nat} (h : w ∈ lw_privs_4) : Cond.selects w.1.cls w.1 w.1 ∈ lw_tbl := List.mem_append_left _ (List.mem_map.mpr ⟨w, (List.mem_append_right _ (List.mem_append_right _ (List.mem_append_right _ (List.mem_append_left _ h)))), rfl⟩)
theorem ts_5 {w : MethodName × Nat} (h : w ∈ lw_privs_5) : Cond.selects w.1.cls w.1 w.1 ∈ lw_tbl := List.mem_append_left _ (List.mem_map.mpr ⟨w, (List.mem_append_right _ (List.mem_append_right _ (List.mem_append_right _ (List.mem_append_right _ (List.mem_append_left _ h))))), rfl⟩)
theorem ts_6 {w : MethodName × Nat} (h : w ∈ lw_privs_6) : Cond.selects w.1.cls w.1 w.1 ∈ lw_tbl := List.mem_append_left _ (List.mem_map.mpr ⟨w, (List.mem_append_right _ (List.mem_append_right _ (List.mem_append_right _ (List.mem_append_right _ (List.mem_append_right _ (List.mem_append_left _ h)))))), rfl⟩)
theorem ts_7 {w : MethodName × Nat} (h : w ∈ lw_privs_7) : Cond.selects w.1.cls w.1 w.1 ∈ lw_tbl := List.mem_append_left _ (List.mem_map.mpr ⟨w, (List.mem_append_right _ (List.mem_append_right _ (List.mem_append_right _ (List.mem_append_right _ (List.mem_append_right _ (List.mem_append_right _ (List.mem_append_left _ h))))))), rfl⟩)
theorem ts_8 {w : MethodName × Nat} (h : w ∈ lw_privs_8) : Cond.selects w.1.cls w.1 w.1 ∈ lw_tbl := List.mem_append_left _ (List.mem_map.mpr ⟨w, (List.mem_append_right _ (List.mem_append_right _ (List.mem_append_right _ (List.mem_append_right _ (List.mem_append_right _ (List.mem_append_right _ (List.mem_append_right _ (h)))))))), rfl⟩)
theorem qs_0 : Cond.selects "HillDrums$Text" ⟨"HillDrums$Text", "clear", "()V"⟩ ⟨"HillDrums$Text", "clear", "()V"⟩ ∈ wsL_law := wq_in (ts_1 (List.getElem_mem (l := lw_privs_1) (n := 0) (by decide))) rfl
theorem qs_1 : Cond.selects "HillDrums$Law" ⟨"HillDrums$Law", "setUsual", "()V"⟩ ⟨"HillDrums$Law", "setUsual", "()V"⟩ ∈ wsL_law := wq_in (ts_1 (List.getElem_mem (l := lw_privs_1) (n := 1) (by decide))) rfl
theorem qs_2 : Cond.selects "HillDrums$Law" ⟨"HillDrums$Law", "add", "(I)I"⟩ ⟨"HillDrums$Law", "add", "(I)I"⟩ ∈ wsL_law := wq_in (ts_1 (List.getElem_mem (l := lw_privs_1) (n := 2) (by decide))) rfl
theorem qs_3 : Cond.selects "HillDrums$World" ⟨"HillDrums$World", "begin", "(LHillDrums$Text;)V"⟩ ⟨"HillDrums$World", "begin", "(LHillDrums$Text;)V"⟩ ∈ wsL_law := wq_in (ts_1 (List.getElem_mem (l := lw_privs_1) (n := 3) (by decide))) rfl
theorem qs_4 : Cond.selects "HillDrums$World" ⟨"HillDrums$World", "beginAt", "(II)V"⟩ ⟨"HillDrums$World", "beginAt", "(II)V"⟩ ∈ wsL_law := wq_in (ts_1 (List.getElem_mem (l := lw_privs_1) (n := 4) (by decide))) rfl
theorem qs_5 : Cond.selects "HillDrums$Tape" ⟨"HillDrums$Tape", "add", "(I)V"⟩ ⟨"HillDrums$Tape", "add", "(I)V"⟩ ∈ wsL_law := wq_in (ts_1 (List.getElem_mem (l := lw_privs_1) (n := 5) (by decide))) rfl
theorem qs_6 : Cond.selects "HillDrums$Reader" ⟨"HillDrums$Reader", "parse", "(LHillDrums$Tape;LHillDrums$Text;)V"⟩ ⟨"HillDrums$Reader", "parse", "(LHillDrums$Tape;LHillDrums$Text;)V"⟩ ∈ wsL_law := wq_in (ts_1 (List.getElem_mem (l := lw_privs_1) (n := 6) (by decide))) rfl
theorem qs_7 : Cond.selects "HillDrums$Tokens" ⟨"HillDrums$Tokens", "split", "(LHillDrums$Tape;)V"⟩ ⟨"HillDrums$Tokens", "split", "(LHillDrums$Tape;)V"⟩ ∈ wsL_law := wq_in (ts_1 (List.getElem_mem (l := lw_privs_1) (n := 7) (by decide))) rfl
theorem qs_8 : Cond.selects "HillDrums$Tape" ⟨"HillDrums$Tape", "byteAt", "(I)I"⟩ ⟨"HillDrums$Tape", "byteAt", "(I)I"⟩ ∈ wsL_law := wq_in (ts_1 (List.getElem_mem (l := lw_privs_1) (n := 8) (by decide))) rfl
theorem qs_9 : Cond.selects "HillDrums$Tokens" ⟨"HillDrums$Tokens", "keep", "(LHillDrums$Tape;II)I"⟩ ⟨"HillDrums$Tokens", "keep", "(LHillDrums$Tape;II)I"⟩ ∈ wsL_law := wq_in (ts_1 (List.getElem_mem (l := lw_privs_1) (n := 9) (by decide))) rfl
theorem qs_10 : Cond.selects "HillDrums$Tokens" ⟨"HillDrums$Tokens", "keepLetters", "(LHillDrums$Tape;II)I"⟩ ⟨"HillDrums$Tokens", "keepLetters", "(LHillDrums$Tape;II)I"⟩ ∈ wsL_law := wq_in (ts_1 (List.getElem_mem (l := lw_privs_1) (n := 10) (by decide))) rfl
theorem qs_11 : Cond.selects "HillDrums$Tokens" ⟨"HillDrums$Tokens", "keepDigits", "(LHillDrums$Tape;II)I"⟩ ⟨"HillDrums$Tokens", "keepDigits", "(LHillDrums$Tape;II)I"⟩ ∈ wsL_law := wq_in (ts_1 (List.getElem_mem (l := lw_privs_1) (n := 11) (by decide))) rfl
theorem qs_12 : Cond.selects "HillDrums$Reader" ⟨"HillDrums$Reader", "kind", "()I"⟩ ⟨"HillDrums$Reader", "kind", "()I"⟩ ∈ wsL_law := wq_in (ts_1 (List.getElem_mem (l := lw_privs_1) (n := 12) (by decide))) rfl
theorem qs_13 : Cond.selects "HillDrums$Reader" ⟨"HillDrums$Reader", "parseTell", "()V"⟩ ⟨"HillDrums$Reader", "parseTell", "()V"⟩ ∈ wsL_law := wq_in (ts_1 (List.getElem_mem (l := lw_privs_1) (n := 13) (by decide))) rfl
theorem qs_14 : Cond.selects "HillDrums$Reader" ⟨"HillDrums$Reader", "parseHill", "()V"⟩ ⟨"HillDrums$Reader", "parseHill", "()V"⟩ ∈ wsL_law := wq_in (ts_1 (List.getElem_mem (l := lw_privs_1) (n := 14) (by decide))) rfl
theorem qs_15 : Cond.selects "HillDrums$Reader" ⟨"HillDrums$Reader", "fail", "(I)V"⟩ ⟨"HillDrums$Reader", "fail", "(I)V"⟩ ∈ wsL_law := wq_in (ts_1 (List.getElem_mem (l := lw_privs_1) (n := 15) (by decide))) rfl
theorem qs_16 : Cond.selects "HillDrums$Reader" ⟨"HillDrums$Reader", "take", "(I)J"⟩ ⟨"HillDrums$Reader", "take", "(I)J"⟩ ∈ wsL_law := wq_in (ts_2 (List.getElem_mem (l := lw_privs_2) (n := 0) (by decide))) rfl
theorem qs_17 : Cond.selects "HillDrums$Reader" ⟨"HillDrums$Reader", "takeNewName", "()J"⟩ ⟨"HillDrums$Reader", "takeNewName", "()J"⟩ ∈ wsL_law := wq_in (ts_2 (List.getElem_mem (l := lw_privs_2) (n := 1) (by decide))) rfl
theorem qs_18 : Cond.selects "HillDrums$Reader" ⟨"HillDrums$Reader", "mean", "(II)V"⟩ ⟨"HillDrums$Reader", "mean", "(II)V"⟩ ∈ wsL_law := wq_in (ts_2 (List.getElem_mem (l := lw_privs_2) (n := 2) (by decide))) rfl
theorem qs_19 : Cond.selects "HillDrums$Reader" ⟨"HillDrums$Reader", "takeNumber", "(II)I"⟩ ⟨"HillDrums$Reader", "takeNumber", "(II)I"⟩ ∈ wsL_law := wq_in (ts_2 (List.getElem_mem (l := lw_privs_2) (n := 3) (by decide))) rfl
theorem qs_20 : Cond.selects "HillDrums$Reader" ⟨"HillDrums$Reader", "parseNews", "()V"⟩ ⟨"HillDrums$Reader", "parseNews", "()V"⟩ ∈ wsL_law := wq_in (ts_2 (List.getElem_mem (l := lw_privs_2) (n := 4) (by decide))) rfl
theorem qs_21 : Cond.selects "HillDrums$Reader" ⟨"HillDrums$Reader", "takeOneOf", "([JI)I"⟩ ⟨"HillDrums$Reader", "takeOneOf", "([JI)I"⟩ ∈ wsL_law := wq_in (ts_2 (List.getElem_mem (l := lw_privs_2) (n := 5) (by decide))) rfl
theorem qs_22 : Cond.selects "HillDrums$Reader" ⟨"HillDrums$Reader", "parseLaw", "()V"⟩ ⟨"HillDrums$Reader", "parseLaw", "()V"⟩ ∈ wsL_law := wq_in (ts_2 (List.getElem_mem (l := lw_privs_2) (n := 6) (by decide))) rfl
theorem qs_23 : Cond.selects "HillDrums$Reader" ⟨"HillDrums$Reader", "parseSum", "(I)V"⟩ ⟨"HillDrums$Reader", "parseSum", "(I)V"⟩ ∈ wsL_law := wq_in (ts_2 (List.getElem_mem (l := lw_privs_2) (n := 7) (by decide))) rfl
theorem qs_24 : Cond.selects "HillDrums$Reader" ⟨"HillDrums$Reader", "parseProduct", "(I)V"⟩ ⟨"HillDrums$Reader", "parseProduct", "(I)V"⟩ ∈ wsL_law := wq_in (ts_2 (List.getElem_mem (l := lw_privs_2) (n := 8) (by decide))) rfl
theorem qs_25 : Cond.selects "HillDrums$Reader" ⟨"HillDrums$Reader", "parseUnit", "(I)V"⟩ ⟨"HillDrums$Reader", "parseUnit", "(I)V"⟩ ∈ wsL_law := wq_in (ts_2 (List.getElem_mem (l := lw_privs_2) (n := 9) (by decide))) rfl
theorem qs_26 : Cond.selects "HillDrums$Law" ⟨"HillDrums$Law", "aimHere", "(I)V"⟩ ⟨"HillDrums$Law", "aimHere", "(I)V"⟩ ∈ wsL_law := wq_in (ts_2 (List.getElem_mem (l := lw_privs_2) (n := 10) (by decide))) rfl
theorem qs_27 : Cond.selects "HillDrums$Reader" ⟨"HillDrums$Reader", "parseRow", "(ILHillDrums$Row;)V"⟩ ⟨"HillDrums$Reader", "parseRow", "(ILHillDrums$Row;)V"⟩ ∈ wsL_law := wq_in (ts_2 (List.getElem_mem (l := lw_privs_2) (n := 11) (by decide))) rfl
theorem qs_28 : Cond.selects "HillDrums$Reader" ⟨"HillDrums$Reader", "parseOrder", "()V"⟩ ⟨"HillDrums$Reader", "parseOrder", "()V"⟩ ∈ wsL_law := wq_in (ts_2 (List.getElem_mem (l := lw_privs_2) (n := 12) (by decide))) rfl
theorem qs_29 : Cond.selects "HillDrums$Reader" ⟨"HillDrums$Reader", "parseSleeper", "()V"⟩ ⟨"HillDrums$Reader", "parseSleeper", "()V"⟩ ∈ wsL_law := wq_in (ts_2 (List.getElem_mem (l := lw_privs_2) (n := 13) (by decide))) rfl
theorem qs_30 : Cond.selects "HillDrums" ⟨"HillDrums", "takeSpareText", "()V"⟩ ⟨"HillDrums", "takeSpareText", "()V"⟩ ∈ wsL_law := wq_in (ts_2 (List.getElem_mem (l := lw_privs_2) (n := 14) (by decide))) rfl
theorem qs_31 : Cond.selects "HillDrums" ⟨"HillDrums", "isHill", "(I)Z"⟩ ⟨"HillDrums", "isHill", "(I)Z"⟩ ∈ wsL_law := wq_in (ts_2 (List.getElem_mem (l := lw_privs_2) (n := 15) (by decide))) rfl
theorem qs_32 : Cond.selects "HillDrums$Text" ⟨"HillDrums$Text", "lawTells", "(III)Z"⟩ ⟨"HillDrums$Text", "lawTells", "(III)Z"⟩ ∈ wsL_law := wq_in (ts_3 (List.getElem_mem (l := lw_privs_3) (n := 0) (by decide))) rfl
theorem qs_33 : Cond.selects "HillDrums$Row" ⟨"HillDrums$Row", "on", "(I)I"⟩ ⟨"HillDrums$Row", "on", "(I)I"⟩ ∈ wsL_law := wq_in (ts_3 (List.getElem_mem (l := lw_privs_3) (n := 1) (by decide))) rfl
theorem qs_34 : Cond.selects "HillDrums$Law" ⟨"HillDrums$Law", "value", "([I)I"⟩ ⟨"HillDrums$Law", "value", "([I)I"⟩ ∈ wsL_law := wq_in (ts_3 (List.getElem_mem (l := lw_privs_3) (n := 2) (by decide))) rfl
theorem qs_35 : Cond.selects "HillDrums$Law" ⟨"HillDrums$Law", "push", "(I)V"⟩ ⟨"HillDrums$Law", "push", "(I)V"⟩ ∈ wsL_law := wq_in (ts_3 (List.getElem_mem (l := lw_privs_3) (n := 3) (by decide))) rfl
theorem qs_36 : Cond.selects "HillDrums$Law" ⟨"HillDrums$Law", "pop", "()I"⟩ ⟨"HillDrums$Law", "pop", "()I"⟩ ∈ wsL_law := wq_in (ts_3 (List.getElem_mem (l := lw_privs_3) (n := 4) (by decide))) rfl
theorem qs_37 : Cond.selects "HillDrums" ⟨"HillDrums", "isNews", "(I)Z"⟩ ⟨"HillDrums", "isNews", "(I)Z"⟩ ∈ wsL_law := wq_in (ts_3 (List.getElem_mem (l := lw_privs_3) (n := 5) (by decide))) rfl
theorem qs_38 : Cond.selects "HillDrums$World" ⟨"HillDrums$World", "knows", "(II)Z"⟩ ⟨"HillDrums$World", "knows", "(II)Z"⟩ ∈ wsL_law := wq_in (ts_3 (List.getElem_mem (l := lw_privs_3) (n := 6) (by decide))) rfl
theorem qs_39 : Cond.selects "HillDrums$World" ⟨"HillDrums$World", "clashing", "()I"⟩ ⟨"HillDrums$World", "clashing", "()I"⟩ ∈ wsL_law := wq_in (ts_3 (List.getElem_mem (l := lw_privs_3) (n := 7) (by decide))) rfl
theorem qs_40 : Cond.selects "HillDrums$World" ⟨"HillDrums$World", "isAble", "(II)Z"⟩ ⟨"HillDrums$World", "isAble", "(II)Z"⟩ ∈ wsL_law := wq_in (ts_3 (List.getElem_mem (l := lw_privs_3) (n := 8) (by decide))) rfl
theorem qs_41 : Cond.selects "HillDrums$World" ⟨"HillDrums$World", "isAnswer", "(IIIZ)Z"⟩ ⟨"HillDrums$World", "isAnswer", "(IIIZ)Z"⟩ ∈ wsL_law := wq_in (ts_3 (List.getElem_mem (l := lw_privs_3) (n := 9) (by decide))) rfl
theorem qs_42 : Cond.selects "HillDrums$Text" ⟨"HillDrums$Text", "heardOn", "(I)J"⟩ ⟨"HillDrums$Text", "heardOn", "(I)J"⟩ ∈ wsL_law := wq_in (ts_3 (List.getElem_mem (l := lw_privs_3) (n := 10) (by decide))) rfl
theorem qs_43 : Cond.selects "HillDrums$Past" ⟨"HillDrums$Past", "push", "(LHillDrums$World;)V"⟩ ⟨"HillDrums$Past", "push", "(LHillDrums$World;)V"⟩ ∈ wsL_law := wq_in (ts_3 (List.getElem_mem (l := lw_privs_3) (n := 11) (by decide))) rfl
theorem qs_44 : Cond.selects "HillDrums$World" ⟨"HillDrums$World", "copy", "(LHillDrums$World;)V"⟩ ⟨"HillDrums$World", "copy", "(LHillDrums$World;)V"⟩ ∈ wsL_law := wq_in (ts_3 (List.getElem_mem (l := lw_privs_3) (n := 12) (by decide))) rfl
theorem qs_45 : Cond.selects "HillDrums$World" ⟨"HillDrums$World", "drumByDay", "(IIZI)V"⟩ ⟨"HillDrums$World", "drumByDay", "(IIZI)V"⟩ ∈ wsL_law := wq_in (ts_3 (List.getElem_mem (l := lw_privs_3) (n := 13) (by decide))) rfl
theorem qs_46 : Cond.selects "HillDrums$World" ⟨"HillDrums$World", "sound", "(IIZI)V"⟩ ⟨"HillDrums$World", "sound", "(IIZI)V"⟩ ∈ wsL_law := wq_in (ts_3 (List.getElem_mem (l := lw_privs_3) (n := 14) (by decide))) rfl
theorem qs_47 : Cond.selects "HillDrums$World" ⟨"HillDrums$World", "noteOrigin", "(II)V"⟩ ⟨"HillDrums$World", "noteOrigin", "(II)V"⟩ ∈ wsL_law := wq_in (ts_3 (List.getElem_mem (l := lw_privs_3) (n := 15) (by decide))) rfl
theorem qs_48 : Cond.selects "HillDrums$World" ⟨"HillDrums$World", "passNight", "(LHillDrums$Text;I)V"⟩ ⟨"HillDrums$World", "passNight", "(LHillDrums$Text;I)V"⟩ ∈ wsL_law := wq_in (ts_4 (List.getElem_mem (l := lw_privs_4) (n := 0) (by decide))) rfl
theorem qs_49 : Cond.selects "HillDrums$World" ⟨"HillDrums$World", "passDay", "(LHillDrums$Text;II)V"⟩ ⟨"HillDrums$World", "passDay", "(LHillDrums$Text;II)V"⟩ ∈ wsL_law := wq_in (ts_4 (List.getElem_mem (l := lw_privs_4) (n := 1) (by decide))) rfl
theorem qs_50 : Cond.selects "HillDrums$Past" ⟨"HillDrums$Past", "pop", "(LHillDrums$World;)Z"⟩ ⟨"HillDrums$Past", "pop", "(LHillDrums$World;)Z"⟩ ∈ wsL_law := wq_in (ts_4 (List.getElem_mem (l := lw_privs_4) (n := 2) (by decide))) rfl
theorem qs_51 : Cond.selects "HillDrums" ⟨"HillDrums", "daysTill", "(III)I"⟩ ⟨"HillDrums", "daysTill", "(III)I"⟩ ∈ wsL_law := wq_in (ts_4 (List.getElem_mem (l := lw_privs_4) (n := 3) (by decide))) rfl
theorem qs_52 : Cond.selects "HillDrums$Text" ⟨"HillDrums$Text", "allHills", "()I"⟩ ⟨"HillDrums$Text", "allHills", "()I"⟩ ∈ wsL_law := wq_in (ts_4 (List.getElem_mem (l := lw_privs_4) (n := 4) (by decide))) rfl
theorem qs_53 : Cond.selects "HillDrums$Plans" ⟨"HillDrums$Plans", "fewestDays", "(LHillDrums$Text;LHillDrums$World;II)I"⟩ ⟨"HillDrums$Plans", "fewestDays", "(LHillDrums$Text;LHillDrums$World;II)I"⟩ ∈ wsL_law := wq_in (ts_4 (List.getElem_mem (l := lw_privs_4) (n := 5) (by decide))) rfl
theorem qs_54 : Cond.selects "HillDrums$Plans" ⟨"HillDrums$Plans", "setDay", "(LHillDrums$Text;I)V"⟩ ⟨"HillDrums$Plans", "setDay", "(LHillDrums$Text;I)V"⟩ ∈ wsL_law := wq_in (ts_4 (List.getElem_mem (l := lw_privs_4) (n := 6) (by decide))) rfl
theorem qs_55 : Cond.selects "HillDrums$Plans" ⟨"HillDrums$Plans", "reachedNext", "(JI)J"⟩ ⟨"HillDrums$Plans", "reachedNext", "(JI)J"⟩ ∈ wsL_law := wq_in (ts_4 (List.getElem_mem (l := lw_privs_4) (n := 7) (by decide))) rfl
theorem qs_56 : Cond.selects "HillDrums$Plans" ⟨"HillDrums$Plans", "canSay", "(II)Z"⟩ ⟨"HillDrums$Plans", "canSay", "(II)Z"⟩ ∈ wsL_law := wq_in (ts_4 (List.getElem_mem (l := lw_privs_4) (n := 8) (by decide))) rfl
theorem qs_57 : Cond.selects "HillDrums$Plans" ⟨"HillDrums$Plans", "fewestDrums", "(LHillDrums$Text;LHillDrums$World;I)I"⟩ ⟨"HillDrums$Plans", "fewestDrums", "(LHillDrums$Text;LHillDrums$World;I)I"⟩ ∈ wsL_law := wq_in (ts_4 (List.getElem_mem (l := lw_privs_4) (n := 9) (by decide))) rfl
theorem qs_58 : Cond.selects "HillDrums$Plans" ⟨"HillDrums$Plans", "spreadFewest", "(I)V"⟩ ⟨"HillDrums$Plans", "spreadFewest", "(I)V"⟩ ∈ wsL_law := wq_in (ts_4 (List.getElem_mem (l := lw_privs_4) (n := 10) (by decide))) rfl
theorem qs_59 : Cond.selects "HillDrums$Loop" ⟨"HillDrums$Loop", "seek", "(LHillDrums$Text;LHillDrums$World;III)V"⟩ ⟨"HillDrums$Loop", "seek", "(LHillDrums$Text;LHillDrums$World;III)V"⟩ ∈ wsL_law := wq_in (ts_4 (List.getElem_mem (l := lw_privs_4) (n := 11) (by decide))) rfl
theorem qs_60 : Cond.selects "HillDrums$Loop" ⟨"HillDrums$Loop", "seekSecond", "(LHillDrums$Text;IIJ)V"⟩ ⟨"HillDrums$Loop", "seekSecond", "(LHillDrums$Text;IIJ)V"⟩ ∈ wsL_law := wq_in (ts_4 (List.getElem_mem (l := lw_privs_4) (n := 12) (by decide))) rfl
theorem qs_61 : Cond.selects "HillDrums$Told" ⟨"HillDrums$Told", "add", "(III)I"⟩ ⟨"HillDrums$Told", "add", "(III)I"⟩ ∈ wsL_law := wq_in (ts_4 (List.getElem_mem (l := lw_privs_4) (n := 13) (by decide))) rfl
theorem qs_62 : Cond.selects "HillDrums$Told" ⟨"HillDrums$Told", "daysNeeded", "(II)I"⟩ ⟨"HillDrums$Told", "daysNeeded", "(II)I"⟩ ∈ wsL_law := wq_in (ts_4 (List.getElem_mem (l := lw_privs_4) (n := 14) (by decide))) rfl
theorem qs_63 : Cond.selects "HillDrums$Told" ⟨"HillDrums$Told", "isSo", "(LHillDrums$World;II)Z"⟩ ⟨"HillDrums$Told", "isSo", "(LHillDrums$World;II)Z"⟩ ∈ wsL_law := wq_in (ts_4 (List.getElem_mem (l := lw_privs_4) (n := 15) (by decide))) rfl
theorem qs_64 : Cond.selects "HillDrumsModel" ⟨"HillDrumsModel", "begins", "()V"⟩ ⟨"HillDrumsModel", "begins", "()V"⟩ ∈ wsL_law := wq_in (ts_5 (List.getElem_mem (l := lw_privs_5) (n := 0) (by decide))) rfl
theorem qs_65 : Cond.selects "HillDrumsModel" ⟨"HillDrumsModel", "knowsFromBegin", "(II)V"⟩ ⟨"HillDrumsModel", "knowsFromBegin", "(II)V"⟩ ∈ wsL_law := wq_in (ts_5 (List.getElem_mem (l := lw_privs_5) (n := 1) (by decide))) rfl
theorem qs_66 : Cond.selects "HillDrumsModel" ⟨"HillDrumsModel", "keepsRow", "()V"⟩ ⟨"HillDrumsModel", "keepsRow", "()V"⟩ ∈ wsL_law := wq_in (ts_5 (List.getElem_mem (l := lw_privs_5) (n := 2) (by decide))) rfl
theorem qs_67 : Cond.selects "HillDrumsModel" ⟨"HillDrumsModel", "put", "(I)V"⟩ ⟨"HillDrumsModel", "put", "(I)V"⟩ ∈ wsL_law := wq_in (ts_5 (List.getElem_mem (l := lw_privs_5) (n := 3) (by decide))) rfl
theorem qs_68 : Cond.selects "HillDrumsModel" ⟨"HillDrumsModel", "cut", "()V"⟩ ⟨"HillDrumsModel", "cut", "()V"⟩ ∈ wsL_law := wq_in (ts_5 (List.getElem_mem (l := lw_privs_5) (n := 4) (by decide))) rfl
theorem qs_69 : Cond.selects "HillDrumsModel" ⟨"HillDrumsModel", "byteAt", "(I)I"⟩ ⟨"HillDrumsModel", "byteAt", "(I)I"⟩ ∈ wsL_law := wq_in (ts_5 (List.getElem_mem (l := lw_privs_5) (n := 5) (by decide))) rfl
theorem qs_70 : Cond.selects "HillDrumsModel" ⟨"HillDrumsModel", "token", "(IIIJ)V"⟩ ⟨"HillDrumsModel", "token", "(IIIJ)V"⟩ ∈ wsL_law := wq_in (ts_5 (List.getElem_mem (l := lw_privs_5) (n := 6) (by decide))) rfl
theorem qs_71 : Cond.selects "HillDrumsModel" ⟨"HillDrumsModel", "sign", "(III)I"⟩ ⟨"HillDrumsModel", "sign", "(III)I"⟩ ∈ wsL_law := wq_in (ts_5 (List.getElem_mem (l := lw_privs_5) (n := 7) (by decide))) rfl
theorem qs_72 : Cond.selects "HillDrumsModel" ⟨"HillDrumsModel", "is", "(I)Z"⟩ ⟨"HillDrumsModel", "is", "(I)Z"⟩ ∈ wsL_law := wq_in (ts_5 (List.getElem_mem (l := lw_privs_5) (n := 8) (by decide))) rfl
theorem qs_73 : Cond.selects "HillDrumsModel" ⟨"HillDrumsModel", "tell", "()V"⟩ ⟨"HillDrumsModel", "tell", "()V"⟩ ∈ wsL_law := wq_in (ts_5 (List.getElem_mem (l := lw_privs_5) (n := 9) (by decide))) rfl
theorem qs_74 : Cond.selects "HillDrumsModel" ⟨"HillDrumsModel", "roomFor", "(II)V"⟩ ⟨"HillDrumsModel", "roomFor", "(II)V"⟩ ∈ wsL_law := wq_in (ts_5 (List.getElem_mem (l := lw_privs_5) (n := 10) (by decide))) rfl
theorem qs_75 : Cond.selects "HillDrumsModel" ⟨"HillDrumsModel", "fail", "(I)V"⟩ ⟨"HillDrumsModel", "fail", "(I)V"⟩ ∈ wsL_law := wq_in (ts_5 (List.getElem_mem (l := lw_privs_5) (n := 11) (by decide))) rfl
theorem qs_76 : Cond.selects "HillDrumsModel" ⟨"HillDrumsModel", "goesOn", "()V"⟩ ⟨"HillDrumsModel", "goesOn", "()V"⟩ ∈ wsL_law := wq_in (ts_5 (List.getElem_mem (l := lw_privs_5) (n := 12) (by decide))) rfl
theorem qs_77 : Cond.selects "HillDrumsModel" ⟨"HillDrumsModel", "tellHill", "()V"⟩ ⟨"HillDrumsModel", "tellHill", "()V"⟩ ∈ wsL_law := wq_in (ts_5 (List.getElem_mem (l := lw_privs_5) (n := 13) (by decide))) rfl
theorem qs_78 : Cond.selects "HillDrumsModel" ⟨"HillDrumsModel", "named", "()I"⟩ ⟨"HillDrumsModel", "named", "()I"⟩ ∈ wsL_law := wq_in (ts_5 (List.getElem_mem (l := lw_privs_5) (n := 14) (by decide))) rfl
theorem qs_79 : Cond.selects "HillDrumsModel" ⟨"HillDrumsModel", "must", "(I)V"⟩ ⟨"HillDrumsModel", "must", "(I)V"⟩ ∈ wsL_law := wq_in (ts_5 (List.getElem_mem (l := lw_privs_5) (n := 15) (by decide))) rfl
theorem qs_80 : Cond.selects "HillDrumsModel" ⟨"HillDrumsModel", "wrong", "(II)V"⟩ ⟨"HillDrumsModel", "wrong", "(II)V"⟩ ∈ wsL_law := wq_in (ts_6 (List.getElem_mem (l := lw_privs_6) (n := 0) (by decide))) rfl
theorem qs_81 : Cond.selects "HillDrumsModel" ⟨"HillDrumsModel", "bounded", "(II)I"⟩ ⟨"HillDrumsModel", "bounded", "(II)I"⟩ ∈ wsL_law := wq_in (ts_6 (List.getElem_mem (l := lw_privs_6) (n := 1) (by decide))) rfl
theorem qs_82 : Cond.selects "HillDrumsModel" ⟨"HillDrumsModel", "notes", "(III)V"⟩ ⟨"HillDrumsModel", "notes", "(III)V"⟩ ∈ wsL_law := wq_in (ts_6 (List.getElem_mem (l := lw_privs_6) (n := 2) (by decide))) rfl
theorem qs_83 : Cond.selects "HillDrumsModel" ⟨"HillDrumsModel", "tellNews", "()V"⟩ ⟨"HillDrumsModel", "tellNews", "()V"⟩ ∈ wsL_law := wq_in (ts_6 (List.getElem_mem (l := lw_privs_6) (n := 3) (by decide))) rfl
theorem qs_84 : Cond.selects "HillDrumsModel" ⟨"HillDrumsModel", "known", "(I)I"⟩ ⟨"HillDrumsModel", "known", "(I)I"⟩ ∈ wsL_law := wq_in (ts_6 (List.getElem_mem (l := lw_privs_6) (n := 4) (by decide))) rfl
theorem qs_85 : Cond.selects "HillDrumsModel" ⟨"HillDrumsModel", "tellLaw", "()V"⟩ ⟨"HillDrumsModel", "tellLaw", "()V"⟩ ∈ wsL_law := wq_in (ts_6 (List.getElem_mem (l := lw_privs_6) (n := 5) (by decide))) rfl
theorem qs_86 : Cond.selects "HillDrumsModel" ⟨"HillDrumsModel", "expression", "()V"⟩ ⟨"HillDrumsModel", "expression", "()V"⟩ ∈ wsL_law := wq_in (ts_6 (List.getElem_mem (l := lw_privs_6) (n := 6) (by decide))) rfl
theorem qs_87 : Cond.selects "HillDrumsModel" ⟨"HillDrumsModel", "unit", "()V"⟩ ⟨"HillDrumsModel", "unit", "()V"⟩ ∈ wsL_law := wq_in (ts_6 (List.getElem_mem (l := lw_privs_6) (n := 7) (by decide))) rfl
theorem qs_88 : Cond.selects "HillDrumsModel" ⟨"HillDrumsModel", "emit", "(II)V"⟩ ⟨"HillDrumsModel", "emit", "(II)V"⟩ ∈ wsL_law := wq_in (ts_6 (List.getElem_mem (l := lw_privs_6) (n := 8) (by decide))) rfl
theorem qs_89 : Cond.selects "HillDrumsModel" ⟨"HillDrumsModel", "comesOut", "(Z)V"⟩ ⟨"HillDrumsModel", "comesOut", "(Z)V"⟩ ∈ wsL_law := wq_in (ts_6 (List.getElem_mem (l := lw_privs_6) (n := 9) (by decide))) rfl
theorem qs_90 : Cond.selects "HillDrumsModel" ⟨"HillDrumsModel", "term", "()V"⟩ ⟨"HillDrumsModel", "term", "()V"⟩ ∈ wsL_law := wq_in (ts_6 (List.getElem_mem (l := lw_privs_6) (n := 10) (by decide))) rfl
theorem qs_91 : Cond.selects "HillDrumsModel" ⟨"HillDrumsModel", "tellWeather", "(I)V"⟩ ⟨"HillDrumsModel", "tellWeather", "(I)V"⟩ ∈ wsL_law := wq_in (ts_6 (List.getElem_mem (l := lw_privs_6) (n := 11) (by decide))) rfl
theorem qs_92 : Cond.selects "HillDrumsModel" ⟨"HillDrumsModel", "tellSleeper", "()V"⟩ ⟨"HillDrumsModel", "tellSleeper", "()V"⟩ ∈ wsL_law := wq_in (ts_6 (List.getElem_mem (l := lw_privs_6) (n := 12) (by decide))) rfl
theorem qs_93 : Cond.selects "HillDrumsModel" ⟨"HillDrumsModel", "isHill", "(I)Z"⟩ ⟨"HillDrumsModel", "isHill", "(I)Z"⟩ ∈ wsL_law := wq_in (ts_6 (List.getElem_mem (l := lw_privs_6) (n := 13) (by decide))) rfl
theorem qs_94 : Cond.selects "HillDrumsModel" ⟨"HillDrumsModel", "isHeardBy", "(III)Z"⟩ ⟨"HillDrumsModel", "isHeardBy", "(III)Z"⟩ ∈ wsL_law := wq_in (ts_6 (List.getElem_mem (l := lw_privs_6) (n := 14) (by decide))) rfl
theorem qs_95 : Cond.selects "HillDrumsModel" ⟨"HillDrumsModel", "tellsOf", "(III)I"⟩ ⟨"HillDrumsModel", "tellsOf", "(III)I"⟩ ∈ wsL_law := wq_in (ts_6 (List.getElem_mem (l := lw_privs_6) (n := 15) (by decide))) rfl
theorem qs_96 : Cond.selects "HillDrumsModel" ⟨"HillDrumsModel", "weatherOn", "(II)I"⟩ ⟨"HillDrumsModel", "weatherOn", "(II)I"⟩ ∈ wsL_law := wq_in (ts_7 (List.getElem_mem (l := lw_privs_7) (n := 0) (by decide))) rfl
theorem qs_97 : Cond.selects "HillDrumsModel" ⟨"HillDrumsModel", "termOf", "(II)I"⟩ ⟨"HillDrumsModel", "termOf", "(II)I"⟩ ∈ wsL_law := wq_in (ts_7 (List.getElem_mem (l := lw_privs_7) (n := 1) (by decide))) rfl
theorem qs_98 : Cond.selects "HillDrumsModel" ⟨"HillDrumsModel", "isNews", "(I)Z"⟩ ⟨"HillDrumsModel", "isNews", "(I)Z"⟩ ∈ wsL_law := wq_in (ts_7 (List.getElem_mem (l := lw_privs_7) (n := 2) (by decide))) rfl
theorem qs_99 : Cond.selects "HillDrumsModel" ⟨"HillDrumsModel", "mayNow", "(IIZ)I"⟩ ⟨"HillDrumsModel", "mayNow", "(IIZ)I"⟩ ∈ wsL_law := wq_in (ts_7 (List.getElem_mem (l := lw_privs_7) (n := 3) (by decide))) rfl
theorem qs_100 : Cond.selects "HillDrumsModel" ⟨"HillDrumsModel", "copies", "()V"⟩ ⟨"HillDrumsModel", "copies", "()V"⟩ ∈ wsL_law := wq_in (ts_7 (List.getElem_mem (l := lw_privs_7) (n := 4) (by decide))) rfl
theorem qs_101 : Cond.selects "HillDrumsModel" ⟨"HillDrumsModel", "knows", "(II)Z"⟩ ⟨"HillDrumsModel", "knows", "(II)Z"⟩ ∈ wsL_law := wq_in (ts_7 (List.getElem_mem (l := lw_privs_7) (n := 5) (by decide))) rfl
theorem qs_102 : Cond.selects "HillDrumsModel" ⟨"HillDrumsModel", "isAnswer", "(III)Z"⟩ ⟨"HillDrumsModel", "isAnswer", "(III)Z"⟩ ∈ wsL_law := wq_in (ts_7 (List.getElem_mem (l := lw_privs_7) (n := 6) (by decide))) rfl
theorem qs_103 : Cond.selects "HillDrumsModel" ⟨"HillDrumsModel", "fillsHearers", "(I)V"⟩ ⟨"HillDrumsModel", "fillsHearers", "(I)V"⟩ ∈ wsL_law := wq_in (ts_7 (List.getElem_mem (l := lw_privs_7) (n := 7) (by decide))) rfl
theorem qs_104 : Cond.selects "HillDrumsModel" ⟨"HillDrumsModel", "drumsNow", "(III)I"⟩ ⟨"HillDrumsModel", "drumsNow", "(III)I"⟩ ∈ wsL_law := wq_in (ts_7 (List.getElem_mem (l := lw_privs_7) (n := 8) (by decide))) rfl
theorem qs_105 : Cond.selects "HillDrumsModel" ⟨"HillDrumsModel", "spreads", "(IIII)I"⟩ ⟨"HillDrumsModel", "spreads", "(IIII)I"⟩ ∈ wsL_law := wq_in (ts_7 (List.getElem_mem (l := lw_privs_7) (n := 9) (by decide))) rfl
theorem qs_106 : Cond.selects "HillDrumsModel" ⟨"HillDrumsModel", "keeps", "()V"⟩ ⟨"HillDrumsModel", "keeps", "()V"⟩ ∈ wsL_law := wq_in (ts_7 (List.getElem_mem (l := lw_privs_7) (n := 10) (by decide))) rfl
theorem qs_107 : Cond.selects "HillDrumsModel" ⟨"HillDrumsModel", "nightGoes", "()V"⟩ ⟨"HillDrumsModel", "nightGoes", "()V"⟩ ∈ wsL_law := wq_in (ts_7 (List.getElem_mem (l := lw_privs_7) (n := 11) (by decide))) rfl
theorem qs_108 : Cond.selects "HillDrumsModel" ⟨"HillDrumsModel", "dayByRule", "()V"⟩ ⟨"HillDrumsModel", "dayByRule", "()V"⟩ ∈ wsL_law := wq_in (ts_7 (List.getElem_mem (l := lw_privs_7) (n := 12) (by decide))) rfl
theorem qs_109 : Cond.selects "HillDrumsModel" ⟨"HillDrumsModel", "isLawful", "(III)Z"⟩ ⟨"HillDrumsModel", "isLawful", "(III)Z"⟩ ∈ wsL_law := wq_in (ts_7 (List.getElem_mem (l := lw_privs_7) (n := 13) (by decide))) rfl
theorem qs_110 : Cond.selects "HillDrumsModel" ⟨"HillDrumsModel", "knownBy", "(II)I"⟩ ⟨"HillDrumsModel", "knownBy", "(II)I"⟩ ∈ wsL_law := wq_in (ts_7 (List.getElem_mem (l := lw_privs_7) (n := 14) (by decide))) rfl
theorem qs_111 : Cond.selects "HillDrumsModel" ⟨"HillDrumsModel", "allKnow", "(I)Z"⟩ ⟨"HillDrumsModel", "allKnow", "(I)Z"⟩ ∈ wsL_law := wq_in (ts_7 (List.getElem_mem (l := lw_privs_7) (n := 15) (by decide))) rfl
theorem qs_112 : Cond.selects "HillDrumsModel" ⟨"HillDrumsModel", "daysTo", "(II)I"⟩ ⟨"HillDrumsModel", "daysTo", "(II)I"⟩ ∈ wsL_law := wq_in (ts_8 (List.getElem_mem (l := lw_privs_8) (n := 0) (by decide))) rfl
theorem qs_113 : Cond.selects "HillDrumsModel" ⟨"HillDrumsModel", "startsPlan", "(I)V"⟩ ⟨"HillDrumsModel", "startsPlan", "(I)V"⟩ ∈ wsL_law := wq_in (ts_8 (List.getElem_mem (l := lw_privs_8) (n := 1) (by decide))) rfl
theorem qs_114 : Cond.selects "HillDrumsModel" ⟨"HillDrumsModel", "isReached", "(I)Z"⟩ ⟨"HillDrumsModel", "isReached", "(I)Z"⟩ ∈ wsL_law := wq_in (ts_8 (List.getElem_mem (l := lw_privs_8) (n := 2) (by decide))) rfl
theorem qs_115 : Cond.selects "HillDrumsModel" ⟨"HillDrumsModel", "planDay", "(I)V"⟩ ⟨"HillDrumsModel", "planDay", "(I)V"⟩ ∈ wsL_law := wq_in (ts_8 (List.getElem_mem (l := lw_privs_8) (n := 3) (by decide))) rfl
theorem qs_116 : Cond.selects "HillDrumsModel" ⟨"HillDrumsModel", "canDrum", "(I)Z"⟩ ⟨"HillDrumsModel", "canDrum", "(I)Z"⟩ ∈ wsL_law := wq_in (ts_8 (List.getElem_mem (l := lw_privs_8) (n := 4) (by decide))) rfl
theorem qs_117 : Cond.selects "HillDrumsModel" ⟨"HillDrumsModel", "heardOf", "(I)I"⟩ ⟨"HillDrumsModel", "heardOf", "(I)I"⟩ ∈ wsL_law := wq_in (ts_8 (List.getElem_mem (l := lw_privs_8) (n := 5) (by decide))) rfl
theorem qs_118 : Cond.selects "HillDrumsModel" ⟨"HillDrumsModel", "canHole", "(III)Z"⟩ ⟨"HillDrumsModel", "canHole", "(III)Z"⟩ ∈ wsL_law := wq_in (ts_8 (List.getElem_mem (l := lw_privs_8) (n := 6) (by decide))) rfl
theorem qs_119 : Cond.selects "HillDrumsModel" ⟨"HillDrumsModel", "findsHole", "(III)Z"⟩ ⟨"HillDrumsModel", "findsHole", "(III)Z"⟩ ∈ wsL_law := wq_in (ts_8 (List.getElem_mem (l := lw_privs_8) (n := 7) (by decide))) rfl
theorem qs_120 : Cond.selects "HillDrumsModel" ⟨"HillDrumsModel", "beginsHole", "(II)Z"⟩ ⟨"HillDrumsModel", "beginsHole", "(II)Z"⟩ ∈ wsL_law := wq_in (ts_8 (List.getElem_mem (l := lw_privs_8) (n := 8) (by decide))) rfl
theorem qs_121 : Cond.selects "HillDrumsModel" ⟨"HillDrumsModel", "endsBy", "(IIII)Z"⟩ ⟨"HillDrumsModel", "endsBy", "(IIII)Z"⟩ ∈ wsL_law := wq_in (ts_8 (List.getElem_mem (l := lw_privs_8) (n := 9) (by decide))) rfl
theorem qs_122 : Cond.selects "HillDrumsModel" ⟨"HillDrumsModel", "isSo", "(III)Z"⟩ ⟨"HillDrumsModel", "isSo", "(III)Z"⟩ ∈ wsL_law := wq_in (ts_8 (List.getElem_mem (l := lw_privs_8) (n := 10) (by decide))) rfl
def nestF : List (String × Nat × String × String × String × String) := [("HillDrums", 90, "HillDrums$Tape", "length", "I", "HillDrums"), ("HillDrums$Tokens", 30, "HillDrums$Tape", "length", "I", "HillDrums"), ("HillDrums$Reader", 172, "HillDrums$Law", "length", "I", "HillDrums"), ("HillDrums$Reader", 150, "HillDrums$Row", "numbers", "[I", "HillDrums"), ("HillDrums$Text", 73, "HillDrums$Row", "size", "I", "HillDrums"), ("HillDrums$Reader", 145, "HillDrums$Row", "size", "I", "HillDrums"), ("HillDrums", 271, "HillDrums$Row", "size", "I", "HillDrums"), ("HillDrums$Plans", 35, "HillDrums$Text", "hills", "I", "HillDrums"), ("HillDrums$Loop", 73, "HillDrums$Text", "hills", "I", "HillDrums"), ("HillDrums", 114, "HillDrums$Text", "hills", "I", "HillDrums"), ("HillDrums$Reader", 79, "HillDrums$Text", "hills", "I", "HillDrums"), ("HillDrums$World", 87, "HillDrums$Text", "hills", "I", "HillDrums"), ("HillDrums$Reader", 129, "HillDrums$Text", "x", "[I", "HillDrums"), ("HillDrums$Reader", 135, "HillDrums$Text", "y", "[I", "HillDrums"), ("HillDrums$World", 49, "HillDrums$Text", "newsTold", "I", "HillDrums"), ("HillDrums$Loop", 76, "HillDrums$Text", "newsTold", "I", "HillDrums"), ("HillDrums", 117, "HillDrums$Text", "newsTold", "I", "HillDrums"), ("HillDrums$Reader", 86, "HillDrums$Text", "newsTold", "I", "HillDrums"), ("HillDrums$World", 54, "HillDrums$Text", "home", "[I", "HillDrums"), ("HillDrums$Reader", 138, "HillDrums$Text", "home", "[I", "HillDrums"), ("HillDrums$Reader", 168, "HillDrums$Text", "law", "LHillDrums$Law;", "HillDrums"), ("HillDrums$Reader", 104, "HillDrums$Text", "wind", "LHillDrums$Row;", "HillDrums"), ("HillDrums", 267, "HillDrums$Text", "wind", "LHillDrums$Row;", "HillDrums"), ("HillDrums$Reader", 112, "HillDrums$Text", "fog", "LHillDrums$Row;", "HillDrums"), ("HillDrums", 274, "HillDrums$Text", "fog", "LHillDrums$Row;", "HillDrums"), ("HillDrums$Plans", 31, "HillDrums$Text", "order", "I", "HillDrums"), ("HillDrums$Loop", 46, "HillDrums$Text", "order", "I", "HillDrums"), ("HillDrums", 185, "HillDrums$Text", "order", "I", "HillDrums"), ("HillDrums$Reader", 153, "HillDrums$Text", "order", "I", "HillDrums"), ("HillDrums$World", 108, "HillDrums$Text", "sleepers", "I", "HillDrums"), ("HillDrums$Reader", 156, "HillDrums$Text", "sleepers", "I", "HillDrums"), ("HillDrums", 264, "HillDrums$Text", "sleepers", "I", "HillDrums"), ("HillDrums$World", 111, "HillDrums$Text", "sleeperHill", "[I", "HillDrums"), ("HillDrums$Reader", 159, "HillDrums$Text", "sleeperHill", "[I", "HillDrums"), ("HillDrums$World", 114, "HillDrums$Text", "sleeperNews", "[I", "HillDrums"), ("HillDrums$Reader", 162, "HillDrums$Text", "sleeperNews", "[I", "HillDrums"), ("HillDrums$World", 117, "HillDrums$Text", "sleeperDays", "[I", "HillDrums"), ("HillDrums$Reader", 165, "HillDrums$Text", "sleeperDays", "[I", "HillDrums"), ("HillDrums$Reader", 61, "HillDrums$Tokens", "kinds", "[I", "HillDrums"), ("HillDrums$Reader", 65, "HillDrums$Tokens", "places", "[I", "HillDrums"), ("HillDrums$Reader", 68, "HillDrums$Tokens", "values", "[J", "HillDrums"), ("HillDrums", 104, "HillDrums$Reader", "fault", "I", "HillDrums"), ("HillDrums", 101, "HillDrums$Reader", "place", "I", "HillDrums"), ("HillDrums$Loop", 29, "HillDrums$World", "day", "I", "HillDrums"), ("HillDrums$Plans", 60, "HillDrums$World", "day", "I", "HillDrums"), ("HillDrums", 157, "HillDrums$World", "day", "I", "HillDrums"), ("HillDrums$Plans", 48, "HillDrums$World", "known", "I", "HillDrums"), ("HillDrums", 216, "HillDrums$World", "known", "I", "HillDrums"), ("HillDrums", 150, "HillDrums$World", "deniedFirst", "I", "HillDrums"), ("HillDrums", 192, "HillDrums$World", "today", "I", "HillDrums"), ("HillDrums", 223, "HillDrums$World", "inAll", "I", "HillDrums"), ("HillDrums$Told", 40, "HillDrums$World", "since", "[I", "HillDrums"), ("HillDrums", 143, "HillDrums$World", "since", "[I", "HillDrums"), ("HillDrums", 147, "HillDrums$World", "from", "[I", "HillDrums"), ("HillDrums", 195, "HillDrums$World", "drumsOfDay", "[I", "HillDrums"), ("HillDrums", 110, "HillDrums$Past", "size", "I", "HillDrums"), ("HillDrums", 113, "HillDrums$Told", "size", "I", "HillDrums"), ("HillDrums", 248, "HillDrums$Loop", "found", "[I", "HillDrums"), ("HillDrums", 244, "HillDrums$Loop", "length", "I", "HillDrums")]
def nestM : List (String × Nat × MethodName × String) := [("HillDrums", 9, ⟨"HillDrums$Tape", "<init>", "()V"⟩, "HillDrums"), ("HillDrums", 18, ⟨"HillDrums$Text", "<init>", "()V"⟩, "HillDrums"), ("HillDrums$Text", 30, ⟨"HillDrums$Law", "<init>", "()V"⟩, "HillDrums"), ("HillDrums$Text", 37, ⟨"HillDrums$Row", "<init>", "()V"⟩, "HillDrums"), ("HillDrums", 28, ⟨"HillDrums$Reader", "<init>", "(LHillDrums$Text;)V"⟩, "HillDrums"), ("HillDrums$Reader", 11, ⟨"HillDrums$Tokens", "<init>", "()V"⟩, "HillDrums"), ("HillDrums", 41, ⟨"HillDrums$World", "<init>", "()V"⟩, "HillDrums"), ("HillDrums", 51, ⟨"HillDrums$Past", "<init>", "()V"⟩, "HillDrums"), ("HillDrums$Past", 24, ⟨"HillDrums$World", "<init>", "()V"⟩, "HillDrums"), ("HillDrums", 65, ⟨"HillDrums$Told", "<init>", "()V"⟩, "HillDrums"), ("HillDrums", 72, ⟨"HillDrums$Plans", "<init>", "()V"⟩, "HillDrums"), ("HillDrums", 79, ⟨"HillDrums$Loop", "<init>", "()V"⟩, "HillDrums"), ("HillDrums$Loop", 21, ⟨"HillDrums$World", "<init>", "()V"⟩, "HillDrums"), ("HillDrums", 84, ⟨"HillDrums$Text", "clear", "()V"⟩, "HillDrums"), ("HillDrums$Text", 70, ⟨"HillDrums$Law", "setUsual", "()V"⟩, "HillDrums"), ("HillDrums", 87, ⟨"HillDrums$World", "begin", "(LHillDrums$Text;)V"⟩, "HillDrums"), ("HillDrums$World", 61, ⟨"HillDrums", "pairOf", "(II)I"⟩, "HillDrums"), ("HillDrums", 93, ⟨"HillDrums$Tape", "add", "(I)V"⟩, "HillDrums"), ("HillDrums", 97, ⟨"HillDrums$Reader", "parse", "(LHillDrums$Tape;LHillDrums$Text;)V"⟩, "HillDrums"), ("HillDrums$Reader", 45, ⟨"HillDrums$Text", "clear", "()V"⟩, "HillDrums"), ("HillDrums$Reader", 50, ⟨"HillDrums$Tokens", "split", "(LHillDrums$Tape;)V"⟩, "HillDrums"), ("HillDrums$Tokens", 36, ⟨"HillDrums$Tape", "byteAt", "(I)I"⟩, "HillDrums"), ("HillDrums$Reader", 180, ⟨"HillDrums$Law", "add", "(I)I"⟩, "HillDrums"), ("HillDrums$Reader", 184, ⟨"HillDrums$Law", "aimHere", "(I)V"⟩, "HillDrums"), ("HillDrums", 124, ⟨"HillDrums$Text", "lawTells", "(III)Z"⟩, "HillDrums"), ("HillDrums$Text", 88, ⟨"HillDrums$Row", "on", "(I)I"⟩, "HillDrums"), ("HillDrums$Text", 91, ⟨"HillDrums$Law", "value", "([I)I"⟩, "HillDrums"), ("HillDrums", 131, ⟨"HillDrums$World", "knows", "(II)Z"⟩, "HillDrums"), ("HillDrums", 139, ⟨"HillDrums$World", "clashing", "()I"⟩, "HillDrums"), ("HillDrums", 182, ⟨"HillDrums$World", "isAble", "(II)Z"⟩, "HillDrums"), ("HillDrums", 188, ⟨"HillDrums$World", "isAnswer", "(IIIZ)Z"⟩, "HillDrums"), ("HillDrums", 160, ⟨"HillDrums$Text", "heardOn", "(I)J"⟩, "HillDrums"), ("HillDrums", 168, ⟨"HillDrums$Past", "push", "(LHillDrums$World;)V"⟩, "HillDrums"), ("HillDrums$Past", 25, ⟨"HillDrums$World", "copy", "(LHillDrums$World;)V"⟩, "HillDrums"), ("HillDrums", 172, ⟨"HillDrums$World", "drumByDay", "(IIZI)V"⟩, "HillDrums"), ("HillDrums", 198, ⟨"HillDrums$World", "passNight", "(LHillDrums$Text;I)V"⟩, "HillDrums"), ("HillDrums$World", 83, ⟨"HillDrums$Text", "heardOn", "(I)J"⟩, "HillDrums"), ("HillDrums$World", 97, ⟨"HillDrums", "hearersOf", "(JI)I"⟩, "HillDrums"), ("HillDrums", 202, ⟨"HillDrums$World", "passDay", "(LHillDrums$Text;II)V"⟩, "HillDrums"), ("HillDrums", 206, ⟨"HillDrums$Past", "pop", "(LHillDrums$World;)Z"⟩, "HillDrums"), ("HillDrums", 213, ⟨"HillDrums$World", "copy", "(LHillDrums$World;)V"⟩, "HillDrums"), ("HillDrums", 226, ⟨"HillDrums$Text", "allHills", "()I"⟩, "HillDrums"), ("HillDrums", 232, ⟨"HillDrums$Plans", "fewestDays", "(LHillDrums$Text;LHillDrums$World;II)I"⟩, "HillDrums"), ("HillDrums$Plans", 53, ⟨"HillDrums", "rowOf", "(II)I"⟩, "HillDrums"), ("HillDrums$Plans", 25, ⟨"HillDrums$Text", "heardOn", "(I)J"⟩, "HillDrums"), ("HillDrums$Plans", 44, ⟨"HillDrums", "hearersOf", "(JI)I"⟩, "HillDrums"), ("HillDrums", 236, ⟨"HillDrums$Plans", "fewestDrums", "(LHillDrums$Text;LHillDrums$World;I)I"⟩, "HillDrums"), ("HillDrums$Plans", 75, ⟨"HillDrums$Text", "allHills", "()I"⟩, "HillDrums"), ("HillDrums", 240, ⟨"HillDrums$Loop", "seek", "(LHillDrums$Text;LHillDrums$World;III)V"⟩, "HillDrums"), ("HillDrums$Loop", 32, ⟨"HillDrums$Text", "heardOn", "(I)J"⟩, "HillDrums"), ("HillDrums$Loop", 38, ⟨"HillDrums", "hearersOf", "(JI)I"⟩, "HillDrums"), ("HillDrums$Loop", 42, ⟨"HillDrums$World", "isAble", "(II)Z"⟩, "HillDrums"), ("HillDrums$Loop", 49, ⟨"HillDrums$World", "isAnswer", "(IIIZ)Z"⟩, "HillDrums"), ("HillDrums$Loop", 53, ⟨"HillDrums$World", "copy", "(LHillDrums$World;)V"⟩, "HillDrums"), ("HillDrums$Loop", 57, ⟨"HillDrums$World", "drumByDay", "(IIZI)V"⟩, "HillDrums"), ("HillDrums", 251, ⟨"HillDrums$Told", "add", "(III)I"⟩, "HillDrums"), ("HillDrums", 253, ⟨"HillDrums$Told", "daysNeeded", "(II)I"⟩, "HillDrums"), ("HillDrums", 256, ⟨"HillDrums$World", "beginAt", "(II)V"⟩, "HillDrums"), ("HillDrums", 260, ⟨"HillDrums$Told", "isSo", "(LHillDrums$World;II)Z"⟩, "HillDrums"), ("HillDrums$Told", 31, ⟨"HillDrums", "pairOf", "(II)I"⟩, "HillDrums"), ("HillDrums$Told", 34, ⟨"HillDrums$World", "knows", "(II)Z"⟩, "HillDrums")]
theorem nf_39 : ("HillDrums", 90, "HillDrums$Tape", "length", "I", "HillDrums") ∈ nestF := List.mem_of_getElem? (i := 0) rfl
theorem nf_40 : ("HillDrums$Tokens", 30, "HillDrums$Tape", "length", "I", "HillDrums") ∈ nestF := List.mem_of_getElem? (i := 1) rfl
theorem nf_62 : ("HillDrums$Reader", 172, "HillDrums$Law", "length", "I", "HillDrums") ∈ nestF := List.mem_of_getElem? (i := 2) rfl
theorem nf_81 : ("HillDrums$Reader", 150, "HillDrums$Row", "numbers", "[I", "HillDrums") ∈ nestF := List.mem_of_getElem? (i := 3) rfl
theorem nf_83 : ("HillDrums$Text", 73, "HillDrums$Row", "size", "I", "HillDrums") ∈ nestF := List.mem_of_getElem? (i := 4) rfl
theorem nf_84 : ("HillDrums$Reader", 145, "HillDrums$Row", "size", "I", "HillDrums") ∈ nestF := List.mem_of_getElem? (i := 5) rfl
theorem nf_85 : ("HillDrums", 271, "HillDrums$Row", "size", "I", "HillDrums") ∈ nestF := List.mem_of_getElem? (i := 6) rfl
theorem nf_92 : ("HillDrums$Plans", 35, "HillDrums$Text", "hills", "I", "HillDrums") ∈ nestF := List.mem_of_getElem? (i := 7) rfl
theorem nf_93 : ("HillDrums$Loop", 73, "HillDrums$Text", "hills", "I", "HillDrums") ∈ nestF := List.mem_of_getElem? (i := 8) rfl
theorem nf_94 : ("HillDrums", 114, "HillDrums$Text", "hills", "I", "HillDrums") ∈ nestF := List.mem_of_getElem? (i := 9) rfl
theorem nf_95 : ("HillDrums$Reader", 79, "HillDrums$Text", "hills", "I", "HillDrums") ∈ nestF := List.mem_of_getElem? (i := 10) rfl
theorem nf_96 : ("HillDrums$World", 87, "HillDrums$Text", "hills", "I", "HillDrums") ∈ nestF := List.mem_of_getElem? (i := 11) rfl
theorem nf_98 : ("HillDrums$Reader", 129, "HillDrums$Text", "x", "[I", "HillDrums") ∈ nestF := List.mem_of_getElem? (i := 12) rfl
theorem nf_100 : ("HillDrums$Reader", 135, "HillDrums$Text", "y", "[I", "HillDrums") ∈ nestF := List.mem_of_getElem? (i := 13) rfl
theorem nf_102 : ("HillDrums$World", 49, "HillDrums$Text", "newsTold", "I", "HillDrums") ∈ nestF := List.mem_of_getElem? (i := 14) rfl
theorem nf_103 : ("HillDrums$Loop", 76, "HillDrums$Text", "newsTold", "I", "HillDrums") ∈ nestF := List.mem_of_getElem? (i := 15) rfl
theorem nf_104 : ("HillDrums", 117, "HillDrums$Text", "newsTold", "I", "HillDrums") ∈ nestF := List.mem_of_getElem? (i := 16) rfl
theorem nf_105 : ("HillDrums$Reader", 86, "HillDrums$Text", "newsTold", "I", "HillDrums") ∈ nestF := List.mem_of_getElem? (i := 17) rfl
theorem nf_107 : ("HillDrums$World", 54, "HillDrums$Text", "home", "[I", "HillDrums") ∈ nestF := List.mem_of_getElem? (i := 18) rfl
theorem nf_108 : ("HillDrums$Reader", 138, "HillDrums$Text", "home", "[I", "HillDrums") ∈ nestF := List.mem_of_getElem? (i := 19) rfl
theorem nf_110 : ("HillDrums$Reader", 168, "HillDrums$Text", "law", "LHillDrums$Law;", "HillDrums") ∈ nestF := List.mem_of_getElem? (i := 20) rfl
theorem nf_112 : ("HillDrums$Reader", 104, "HillDrums$Text", "wind", "LHillDrums$Row;", "HillDrums") ∈ nestF := List.mem_of_getElem? (i := 21) rfl
theorem nf_113 : ("HillDrums", 267, "HillDrums$Text", "wind", "LHillDrums$Row;", "HillDrums") ∈ nestF := List.mem_of_getElem? (i := 22) rfl
theorem nf_115 : ("HillDrums$Reader", 112, "HillDrums$Text", "fog", "LHillDrums$Row;", "HillDrums") ∈ nestF := List.mem_of_getElem? (i := 23) rfl
theorem nf_116 : ("HillDrums", 274, "HillDrums$Text", "fog", "LHillDrums$Row;", "HillDrums") ∈ nestF := List.mem_of_getElem? (i := 24) rfl
theorem nf_118 : ("HillDrums$Plans", 31, "HillDrums$Text", "order", "I", "HillDrums") ∈ nestF := List.mem_of_getElem? (i := 25) rfl
theorem nf_119 : ("HillDrums$Loop", 46, "HillDrums$Text", "order", "I", "HillDrums") ∈ nestF := List.mem_of_getElem? (i := 26) rfl
theorem nf_120 : ("HillDrums", 185, "HillDrums$Text", "order", "I", "HillDrums") ∈ nestF := List.mem_of_getElem? (i := 27) rfl
theorem nf_121 : ("HillDrums$Reader", 153, "HillDrums$Text", "order", "I", "HillDrums") ∈ nestF := List.mem_of_getElem? (i := 28) rfl
theorem nf_123 : ("HillDrums$World", 108, "HillDrums$Text", "sleepers", "I", "HillDrums") ∈ nestF := List.mem_of_getElem? (i := 29) rfl
theorem nf_124 : ("HillDrums$Reader", 156, "HillDrums$Text", "sleepers", "I", "HillDrums") ∈ nestF := List.mem_of_getElem? (i := 30) rfl
theorem nf_125 : ("HillDrums", 264, "HillDrums$Text", "sleepers", "I", "HillDrums") ∈ nestF := List.mem_of_getElem? (i := 31) rfl
theorem nf_127 : ("HillDrums$World", 111, "HillDrums$Text", "sleeperHill", "[I", "HillDrums") ∈ nestF := List.mem_of_getElem? (i := 32) rfl
theorem nf_128 : ("HillDrums$Reader", 159, "HillDrums$Text", "sleeperHill", "[I", "HillDrums") ∈ nestF := List.mem_of_getElem? (i := 33) rfl
theorem nf_130 : ("HillDrums$World", 114, "HillDrums$Text", "sleeperNews", "[I", "HillDrums") ∈ nestF := List.mem_of_getElem? (i := 34) rfl
theorem nf_131 : ("HillDrums$Reader", 162, "HillDrums$Text", "sleeperNews", "[I", "HillDrums") ∈ nestF := List.mem_of_getElem? (i := 35) rfl
theorem nf_133 : ("HillDrums$World", 117, "HillDrums$Text", "sleeperDays", "[I", "HillDrums") ∈ nestF := List.mem_of_getElem? (i := 36) rfl
theorem nf_134 : ("HillDrums$Reader", 165, "HillDrums$Text", "sleeperDays", "[I", "HillDrums") ∈ nestF := List.mem_of_getElem? (i := 37) rfl
theorem nf_185 : ("HillDrums$Reader", 61, "HillDrums$Tokens", "kinds", "[I", "HillDrums") ∈ nestF := List.mem_of_getElem? (i := 38) rfl
theorem nf_187 : ("HillDrums$Reader", 65, "HillDrums$Tokens", "places", "[I", "HillDrums") ∈ nestF := List.mem_of_getElem? (i := 39) rfl
theorem nf_189 : ("HillDrums$Reader", 68, "HillDrums$Tokens", "values", "[J", "HillDrums") ∈ nestF := List.mem_of_getElem? (i := 40) rfl
theorem nf_203 : ("HillDrums", 104, "HillDrums$Reader", "fault", "I", "HillDrums") ∈ nestF := List.mem_of_getElem? (i := 41) rfl
theorem nf_205 : ("HillDrums", 101, "HillDrums$Reader", "place", "I", "HillDrums") ∈ nestF := List.mem_of_getElem? (i := 42) rfl
theorem nf_234 : ("HillDrums$Loop", 29, "HillDrums$World", "day", "I", "HillDrums") ∈ nestF := List.mem_of_getElem? (i := 43) rfl
theorem nf_235 : ("HillDrums$Plans", 60, "HillDrums$World", "day", "I", "HillDrums") ∈ nestF := List.mem_of_getElem? (i := 44) rfl
theorem nf_236 : ("HillDrums", 157, "HillDrums$World", "day", "I", "HillDrums") ∈ nestF := List.mem_of_getElem? (i := 45) rfl
theorem nf_238 : ("HillDrums$Plans", 48, "HillDrums$World", "known", "I", "HillDrums") ∈ nestF := List.mem_of_getElem? (i := 46) rfl
theorem nf_239 : ("HillDrums", 216, "HillDrums$World", "known", "I", "HillDrums") ∈ nestF := List.mem_of_getElem? (i := 47) rfl
theorem nf_241 : ("HillDrums", 150, "HillDrums$World", "deniedFirst", "I", "HillDrums") ∈ nestF := List.mem_of_getElem? (i := 48) rfl
theorem nf_247 : ("HillDrums", 192, "HillDrums$World", "today", "I", "HillDrums") ∈ nestF := List.mem_of_getElem? (i := 49) rfl
theorem nf_249 : ("HillDrums", 223, "HillDrums$World", "inAll", "I", "HillDrums") ∈ nestF := List.mem_of_getElem? (i := 50) rfl
theorem nf_251 : ("HillDrums$Told", 40, "HillDrums$World", "since", "[I", "HillDrums") ∈ nestF := List.mem_of_getElem? (i := 51) rfl
theorem nf_252 : ("HillDrums", 143, "HillDrums$World", "since", "[I", "HillDrums") ∈ nestF := List.mem_of_getElem? (i := 52) rfl
theorem nf_254 : ("HillDrums", 147, "HillDrums$World", "from", "[I", "HillDrums") ∈ nestF := List.mem_of_getElem? (i := 53) rfl
theorem nf_256 : ("HillDrums", 195, "HillDrums$World", "drumsOfDay", "[I", "HillDrums") ∈ nestF := List.mem_of_getElem? (i := 54) rfl
theorem nf_294 : ("HillDrums", 110, "HillDrums$Past", "size", "I", "HillDrums") ∈ nestF := List.mem_of_getElem? (i := 55) rfl
theorem nf_312 : ("HillDrums", 113, "HillDrums$Told", "size", "I", "HillDrums") ∈ nestF := List.mem_of_getElem? (i := 56) rfl
theorem nf_351 : ("HillDrums", 248, "HillDrums$Loop", "found", "[I", "HillDrums") ∈ nestF := List.mem_of_getElem? (i := 57) rfl
theorem nf_353 : ("HillDrums", 244, "HillDrums$Loop", "length", "I", "HillDrums") ∈ nestF := List.mem_of_getElem? (i := 58) rfl
theorem nm_33 : (("HillDrums", 9, ⟨"HillDrums$Tape", "<init>", "()V"⟩, "HillDrums") : String × Nat × MethodName × String) ∈ nestM := List.mem_of_getElem? (i := 0) rfl
theorem nm_49 : (("HillDrums", 18, ⟨"HillDrums$Text", "<init>", "()V"⟩, "HillDrums") : String × Nat × MethodName × String) ∈ nestM := List.mem_of_getElem? (i := 1) rfl
theorem nm_55 : (("HillDrums$Text", 30, ⟨"HillDrums$Law", "<init>", "()V"⟩, "HillDrums") : String × Nat × MethodName × String) ∈ nestM := List.mem_of_getElem? (i := 2) rfl
theorem nm_76 : (("HillDrums$Text", 37, ⟨"HillDrums$Row", "<init>", "()V"⟩, "HillDrums") : String × Nat × MethodName × String) ∈ nestM := List.mem_of_getElem? (i := 3) rfl
theorem nm_174 : (("HillDrums", 28, ⟨"HillDrums$Reader", "<init>", "(LHillDrums$Text;)V"⟩, "HillDrums") : String × Nat × MethodName × String) ∈ nestM := List.mem_of_getElem? (i := 4) rfl
theorem nm_180 : (("HillDrums$Reader", 11, ⟨"HillDrums$Tokens", "<init>", "()V"⟩, "HillDrums") : String × Nat × MethodName × String) ∈ nestM := List.mem_of_getElem? (i := 5) rfl
theorem nm_229 : (("HillDrums", 41, ⟨"HillDrums$World", "<init>", "()V"⟩, "HillDrums") : String × Nat × MethodName × String) ∈ nestM := List.mem_of_getElem? (i := 6) rfl
theorem nm_284 : (("HillDrums", 51, ⟨"HillDrums$Past", "<init>", "()V"⟩, "HillDrums") : String × Nat × MethodName × String) ∈ nestM := List.mem_of_getElem? (i := 7) rfl
theorem nm_290 : (("HillDrums$Past", 24, ⟨"HillDrums$World", "<init>", "()V"⟩, "HillDrums") : String × Nat × MethodName × String) ∈ nestM := List.mem_of_getElem? (i := 8) rfl
theorem nm_304 : (("HillDrums", 65, ⟨"HillDrums$Told", "<init>", "()V"⟩, "HillDrums") : String × Nat × MethodName × String) ∈ nestM := List.mem_of_getElem? (i := 9) rfl
theorem nm_324 : (("HillDrums", 72, ⟨"HillDrums$Plans", "<init>", "()V"⟩, "HillDrums") : String × Nat × MethodName × String) ∈ nestM := List.mem_of_getElem? (i := 10) rfl
theorem nm_344 : (("HillDrums", 79, ⟨"HillDrums$Loop", "<init>", "()V"⟩, "HillDrums") : String × Nat × MethodName × String) ∈ nestM := List.mem_of_getElem? (i := 11) rfl
theorem nm_349 : (("HillDrums$Loop", 21, ⟨"HillDrums$World", "<init>", "()V"⟩, "HillDrums") : String × Nat × MethodName × String) ∈ nestM := List.mem_of_getElem? (i := 12) rfl
theorem nm_365 : (("HillDrums", 84, ⟨"HillDrums$Text", "clear", "()V"⟩, "HillDrums") : String × Nat × MethodName × String) ∈ nestM := List.mem_of_getElem? (i := 13) rfl
theorem nm_369 : (("HillDrums$Text", 70, ⟨"HillDrums$Law", "setUsual", "()V"⟩, "HillDrums") : String × Nat × MethodName × String) ∈ nestM := List.mem_of_getElem? (i := 14) rfl
theorem nm_380 : (("HillDrums", 87, ⟨"HillDrums$World", "begin", "(LHillDrums$Text;)V"⟩, "HillDrums") : String × Nat × MethodName × String) ∈ nestM := List.mem_of_getElem? (i := 15) rfl
theorem nm_388 : (("HillDrums$World", 61, ⟨"HillDrums", "pairOf", "(II)I"⟩, "HillDrums") : String × Nat × MethodName × String) ∈ nestM := List.mem_of_getElem? (i := 16) rfl
theorem nm_435 : (("HillDrums", 93, ⟨"HillDrums$Tape", "add", "(I)V"⟩, "HillDrums") : String × Nat × MethodName × String) ∈ nestM := List.mem_of_getElem? (i := 17) rfl
theorem nm_447 : (("HillDrums", 97, ⟨"HillDrums$Reader", "parse", "(LHillDrums$Tape;LHillDrums$Text;)V"⟩, "HillDrums") : String × Nat × MethodName × String) ∈ nestM := List.mem_of_getElem? (i := 18) rfl
theorem nm_451 : (("HillDrums$Reader", 45, ⟨"HillDrums$Text", "clear", "()V"⟩, "HillDrums") : String × Nat × MethodName × String) ∈ nestM := List.mem_of_getElem? (i := 19) rfl
theorem nm_452 : (("HillDrums$Reader", 50, ⟨"HillDrums$Tokens", "split", "(LHillDrums$Tape;)V"⟩, "HillDrums") : String × Nat × MethodName × String) ∈ nestM := List.mem_of_getElem? (i := 20) rfl
theorem nm_459 : (("HillDrums$Tokens", 36, ⟨"HillDrums$Tape", "byteAt", "(I)I"⟩, "HillDrums") : String × Nat × MethodName × String) ∈ nestM := List.mem_of_getElem? (i := 21) rfl
theorem nm_657 : (("HillDrums$Reader", 180, ⟨"HillDrums$Law", "add", "(I)I"⟩, "HillDrums") : String × Nat × MethodName × String) ∈ nestM := List.mem_of_getElem? (i := 22) rfl
theorem nm_658 : (("HillDrums$Reader", 184, ⟨"HillDrums$Law", "aimHere", "(I)V"⟩, "HillDrums") : String × Nat × MethodName × String) ∈ nestM := List.mem_of_getElem? (i := 23) rfl
theorem nm_690 : (("HillDrums", 124, ⟨"HillDrums$Text", "lawTells", "(III)Z"⟩, "HillDrums") : String × Nat × MethodName × String) ∈ nestM := List.mem_of_getElem? (i := 24) rfl
theorem nm_697 : (("HillDrums$Text", 88, ⟨"HillDrums$Row", "on", "(I)I"⟩, "HillDrums") : String × Nat × MethodName × String) ∈ nestM := List.mem_of_getElem? (i := 25) rfl
theorem nm_701 : (("HillDrums$Text", 91, ⟨"HillDrums$Law", "value", "([I)I"⟩, "HillDrums") : String × Nat × MethodName × String) ∈ nestM := List.mem_of_getElem? (i := 26) rfl
theorem nm_724 : (("HillDrums", 131, ⟨"HillDrums$World", "knows", "(II)Z"⟩, "HillDrums") : String × Nat × MethodName × String) ∈ nestM := List.mem_of_getElem? (i := 27) rfl
theorem nm_729 : (("HillDrums", 139, ⟨"HillDrums$World", "clashing", "()I"⟩, "HillDrums") : String × Nat × MethodName × String) ∈ nestM := List.mem_of_getElem? (i := 28) rfl
theorem nm_741 : (("HillDrums", 182, ⟨"HillDrums$World", "isAble", "(II)Z"⟩, "HillDrums") : String × Nat × MethodName × String) ∈ nestM := List.mem_of_getElem? (i := 29) rfl
theorem nm_746 : (("HillDrums", 188, ⟨"HillDrums$World", "isAnswer", "(IIIZ)Z"⟩, "HillDrums") : String × Nat × MethodName × String) ∈ nestM := List.mem_of_getElem? (i := 30) rfl
theorem nm_751 : (("HillDrums", 160, ⟨"HillDrums$Text", "heardOn", "(I)J"⟩, "HillDrums") : String × Nat × MethodName × String) ∈ nestM := List.mem_of_getElem? (i := 31) rfl
theorem nm_759 : (("HillDrums", 168, ⟨"HillDrums$Past", "push", "(LHillDrums$World;)V"⟩, "HillDrums") : String × Nat × MethodName × String) ∈ nestM := List.mem_of_getElem? (i := 32) rfl
theorem nm_763 : (("HillDrums$Past", 25, ⟨"HillDrums$World", "copy", "(LHillDrums$World;)V"⟩, "HillDrums") : String × Nat × MethodName × String) ∈ nestM := List.mem_of_getElem? (i := 33) rfl
theorem nm_771 : (("HillDrums", 172, ⟨"HillDrums$World", "drumByDay", "(IIZI)V"⟩, "HillDrums") : String × Nat × MethodName × String) ∈ nestM := List.mem_of_getElem? (i := 34) rfl
theorem nm_798 : (("HillDrums", 198, ⟨"HillDrums$World", "passNight", "(LHillDrums$Text;I)V"⟩, "HillDrums") : String × Nat × MethodName × String) ∈ nestM := List.mem_of_getElem? (i := 35) rfl
theorem nm_802 : (("HillDrums$World", 83, ⟨"HillDrums$Text", "heardOn", "(I)J"⟩, "HillDrums") : String × Nat × MethodName × String) ∈ nestM := List.mem_of_getElem? (i := 36) rfl
theorem nm_803 : (("HillDrums$World", 97, ⟨"HillDrums", "hearersOf", "(JI)I"⟩, "HillDrums") : String × Nat × MethodName × String) ∈ nestM := List.mem_of_getElem? (i := 37) rfl
theorem nm_808 : (("HillDrums", 202, ⟨"HillDrums$World", "passDay", "(LHillDrums$Text;II)V"⟩, "HillDrums") : String × Nat × MethodName × String) ∈ nestM := List.mem_of_getElem? (i := 38) rfl
theorem nm_820 : (("HillDrums", 206, ⟨"HillDrums$Past", "pop", "(LHillDrums$World;)Z"⟩, "HillDrums") : String × Nat × MethodName × String) ∈ nestM := List.mem_of_getElem? (i := 39) rfl
theorem nm_839 : (("HillDrums", 213, ⟨"HillDrums$World", "copy", "(LHillDrums$World;)V"⟩, "HillDrums") : String × Nat × MethodName × String) ∈ nestM := List.mem_of_getElem? (i := 40) rfl
theorem nm_852 : (("HillDrums", 226, ⟨"HillDrums$Text", "allHills", "()I"⟩, "HillDrums") : String × Nat × MethodName × String) ∈ nestM := List.mem_of_getElem? (i := 41) rfl
theorem nm_867 : (("HillDrums", 232, ⟨"HillDrums$Plans", "fewestDays", "(LHillDrums$Text;LHillDrums$World;II)I"⟩, "HillDrums") : String × Nat × MethodName × String) ∈ nestM := List.mem_of_getElem? (i := 42) rfl
theorem nm_872 : (("HillDrums$Plans", 53, ⟨"HillDrums", "rowOf", "(II)I"⟩, "HillDrums") : String × Nat × MethodName × String) ∈ nestM := List.mem_of_getElem? (i := 43) rfl
theorem nm_880 : (("HillDrums$Plans", 25, ⟨"HillDrums$Text", "heardOn", "(I)J"⟩, "HillDrums") : String × Nat × MethodName × String) ∈ nestM := List.mem_of_getElem? (i := 44) rfl
theorem nm_881 : (("HillDrums$Plans", 44, ⟨"HillDrums", "hearersOf", "(JI)I"⟩, "HillDrums") : String × Nat × MethodName × String) ∈ nestM := List.mem_of_getElem? (i := 45) rfl
theorem nm_898 : (("HillDrums", 236, ⟨"HillDrums$Plans", "fewestDrums", "(LHillDrums$Text;LHillDrums$World;I)I"⟩, "HillDrums") : String × Nat × MethodName × String) ∈ nestM := List.mem_of_getElem? (i := 46) rfl
theorem nm_902 : (("HillDrums$Plans", 75, ⟨"HillDrums$Text", "allHills", "()I"⟩, "HillDrums") : String × Nat × MethodName × String) ∈ nestM := List.mem_of_getElem? (i := 47) rfl
theorem nm_915 : (("HillDrums", 240, ⟨"HillDrums$Loop", "seek", "(LHillDrums$Text;LHillDrums$World;III)V"⟩, "HillDrums") : String × Nat × MethodName × String) ∈ nestM := List.mem_of_getElem? (i := 48) rfl
theorem nm_919 : (("HillDrums$Loop", 32, ⟨"HillDrums$Text", "heardOn", "(I)J"⟩, "HillDrums") : String × Nat × MethodName × String) ∈ nestM := List.mem_of_getElem? (i := 49) rfl
theorem nm_920 : (("HillDrums$Loop", 38, ⟨"HillDrums", "hearersOf", "(JI)I"⟩, "HillDrums") : String × Nat × MethodName × String) ∈ nestM := List.mem_of_getElem? (i := 50) rfl
theorem nm_921 : (("HillDrums$Loop", 42, ⟨"HillDrums$World", "isAble", "(II)Z"⟩, "HillDrums") : String × Nat × MethodName × String) ∈ nestM := List.mem_of_getElem? (i := 51) rfl
theorem nm_922 : (("HillDrums$Loop", 49, ⟨"HillDrums$World", "isAnswer", "(IIIZ)Z"⟩, "HillDrums") : String × Nat × MethodName × String) ∈ nestM := List.mem_of_getElem? (i := 52) rfl
theorem nm_923 : (("HillDrums$Loop", 53, ⟨"HillDrums$World", "copy", "(LHillDrums$World;)V"⟩, "HillDrums") : String × Nat × MethodName × String) ∈ nestM := List.mem_of_getElem? (i := 53) rfl
theorem nm_924 : (("HillDrums$Loop", 57, ⟨"HillDrums$World", "drumByDay", "(IIZI)V"⟩, "HillDrums") : String × Nat × MethodName × String) ∈ nestM := List.mem_of_getElem? (i := 54) rfl
theorem nm_948 : (("HillDrums", 251, ⟨"HillDrums$Told", "add", "(III)I"⟩, "HillDrums") : String × Nat × MethodName × String) ∈ nestM := List.mem_of_getElem? (i := 55) rfl
theorem nm_960 : (("HillDrums", 253, ⟨"HillDrums$Told", "daysNeeded", "(II)I"⟩, "HillDrums") : String × Nat × MethodName × String) ∈ nestM := List.mem_of_getElem? (i := 56) rfl
theorem nm_965 : (("HillDrums", 256, ⟨"HillDrums$World", "beginAt", "(II)V"⟩, "HillDrums") : String × Nat × MethodName × String) ∈ nestM := List.mem_of_getElem? (i := 57) rfl
theorem nm_966 : (("HillDrums", 260, ⟨"HillDrums$Told", "isSo", "(LHillDrums$World;II)Z"⟩, "HillDrums") : String × Nat × MethodName × String) ∈ nestM := List.mem_of_getElem? (i := 58) rfl
theorem nm_970 : (("HillDrums$Told", 31, ⟨"HillDrums", "pairOf", "(II)I"⟩, "HillDrums") : String × Nat × MethodName × String) ∈ nestM := List.mem_of_getElem? (i := 59) rfl
theorem nm_971 : (("HillDrums$Told", 34, ⟨"HillDrums$World", "knows", "(II)Z"⟩, "HillDrums") : String × Nat × MethodName × String) ∈ nestM := List.mem_of_getElem? (i := 60) rfl
theorem ly_0_0 : u_lay RX0 TX0 0 ∈ wsL_law := wq_in (tq_1 (List.mem_of_getElem? (i := 64) rfl)) rfl
theorem ly_0_1 : u_lay RX0 TX0 1 ∈ wsL_law := wq_in (tq_1 (List.mem_of_getElem? (i := 66) rfl)) rfl
theorem ly_0_2 : u_lay RX0 TX0 2 ∈ wsL_law := wq_in (tq_1 (List.mem_of_getElem? (i := 68) rfl)) rfl
theorem ly_0_3 : u_lay RX0 TX0 3 ∈ wsL_law := wq_in (tq_1 (List.mem_of_getElem? (i := 70) rfl)) rfl
theorem inX0 : ∀ w ∈ u_ws RX0 TX0 4, w ∈ wsL_law := by
  show ∀ w ∈ [u_lay RX0 TX0 0, u_lay RX0 TX0 1, u_lay RX0 TX0 2, u_lay RX0 TX0 3], w ∈ wsL_law
  exact List.forall_mem_cons.mpr ⟨ly_0_0, List.forall_mem_cons.mpr ⟨ly_0_1, List.forall_mem_cons.mpr ⟨ly_0_2, List.forall_mem_cons.mpr ⟨ly_0_3, fun _ h => absurd h List.not_mem_nil⟩⟩⟩⟩
theorem ly_1_0 : u_lay RX1 TX1 0 ∈ wsL_law := wq_in (tq_2 (List.mem_of_getElem? (i := 116) rfl)) rfl
theorem ly_1_1 : u_lay RX1 TX1 1 ∈ wsL_law := wq_in (tq_2 (List.mem_of_getElem? (i := 118) rfl)) rfl
theorem ly_1_2 : u_lay RX1 TX1 2 ∈ wsL_law := wq_in (tq_2 (List.mem_of_getElem? (i := 120) rfl)) rfl
theorem ly_1_3 : u_lay RX1 TX1 3 ∈ wsL_law := wq_in (tq_2 (List.mem_of_getElem? (i := 122) rfl)) rfl
theorem inX1 : ∀ w ∈ u_ws RX1 TX1 4, w ∈ wsL_law := by
  show ∀ w ∈ [u_lay RX1 TX1 0, u_lay RX1 TX1 1, u_lay RX1 TX1 2, u_lay RX1 TX1 3], w ∈ wsL_law
  exact List.forall_mem_cons.mpr ⟨ly_1_0, List.forall_mem_cons.mpr ⟨ly_1_1, List.forall_mem_cons.mpr ⟨ly_1_2, List.forall_mem_cons.mpr ⟨ly_1_3, fun _ h => absurd h List.not_mem_nil⟩⟩⟩⟩
theorem ly_2_0 : u_lay RX2 TX2 0 ∈ wsL_law := wq_in (tq_2 (List.mem_of_getElem? (i := 55) rfl)) rfl
theorem ly_2_1 : u_lay RX2 TX2 1 ∈ wsL_law := wq_in (tq_2 (List.mem_of_getElem? (i := 57) rfl)) rfl
theorem ly_2_2 : u_lay RX2 TX2 2 ∈ wsL_law := wq_in (tq_2 (List.mem_of_getElem? (i := 59) rfl)) rfl
theorem inX2 : ∀ w ∈ u_ws RX2 TX2 3, w ∈ wsL_law := by
  show ∀ w ∈ [u_lay RX2 TX2 0, u_lay RX2 TX2 1, u_lay RX2 TX2 2], w ∈ wsL_law
  exact List.forall_mem_cons.mpr ⟨ly_2_0, List.forall_mem_cons.mpr ⟨ly_2_1, List.forall_mem_cons.mpr ⟨ly_2_2, fun _ h => absurd h List.not_mem_nil⟩⟩⟩
theorem ly_3_0 : u_lay RX3 TX3 0 ∈ wsL_law := wq_in (tq_2 (List.mem_of_getElem? (i := 92) rfl)) rfl
theorem ly_3_1 : u_lay RX3 TX3 1 ∈ wsL_law := wq_in (tq_2 (List.mem_of_getElem? (i := 94) rfl)) rfl
theorem ly_3_2 : u_lay RX3 TX3 2 ∈ wsL_law := wq_in (tq_2 (List.mem_of_getElem? (i := 96) rfl)) rfl
theorem ly_3_3 : u_lay RX3 TX3 3 ∈ wsL_law := wq_in (tq_2 (List.mem_of_getElem? (i := 98) rfl)) rfl
theorem inX3 : ∀ w ∈ u_ws RX3 TX3 4, w ∈ wsL_law := by
  show ∀ w ∈ [u_lay RX3 TX3 0, u_lay RX3 TX3 1, u_lay RX3 TX3 2, u_lay RX3 TX3 3], w ∈ wsL_law
  exact List.forall_mem_cons.mpr ⟨ly_3_0, List.forall_mem_cons.mpr ⟨ly_3_1, List.forall_mem_cons.mpr ⟨ly_3_2, List.forall_mem_cons.mpr ⟨ly_3_3, fun _ h => absurd h List.not_mem_nil⟩⟩⟩⟩
theorem ly_4_0 : u_lay RX4 TX4 0 ∈ wsL_law := wq_in (tq_1 (List.mem_of_getElem? (i := 208) rfl)) rfl
theorem ly_4_1 : u_lay RX4 TX4 1 ∈ wsL_law := wq_in (tq_1 (List.mem_of_getElem? (i := 210) rfl)) rfl
theorem ly_4_2 : u_lay RX4 TX4 2 ∈ wsL_law := wq_in (tq_1 (List.mem_of_getElem? (i := 212) rfl)) rfl
theorem ly_4_3 : u_lay RX4 TX4 3 ∈ wsL_law := wq_in (tq_1 (List.mem_of_getElem? (i := 214) rfl)) rfl
theorem ly_4_4 : u_lay RX4 TX4 4 ∈ wsL_law := wq_in (tq_1 (List.mem_of_getElem? (i := 216) rfl)) rfl
theorem ly_4_5 : u_lay RX4 TX4 5 ∈ wsL_law := wq_in (tq_1 (List.mem_of_getElem? (i := 218) rfl)) rfl
theorem ly_4_6 : u_lay RX4 TX4 6 ∈ wsL_law := wq_in (tq_1 (List.mem_of_getElem? (i := 220) rfl)) rfl
theorem ly_4_7 : u_lay RX4 TX4 7 ∈ wsL_law := wq_in (tq_1 (List.mem_of_getElem? (i := 222) rfl)) rfl
theorem ly_4_8 : u_lay RX4 TX4 8 ∈ wsL_law := wq_in (tq_1 (List.mem_of_getElem? (i := 224) rfl)) rfl
theorem inX4 : ∀ w ∈ u_ws RX4 TX4 9, w ∈ wsL_law := by
  show ∀ w ∈ [u_lay RX4 TX4 0, u_lay RX4 TX4 1, u_lay RX4 TX4 2, u_lay RX4 TX4 3, u_lay RX4 TX4 4, u_lay RX4 TX4 5, u_lay RX4 TX4 6, u_lay RX4 TX4 7, u_lay RX4 TX4 8], w ∈ wsL_law
  exact List.forall_mem_cons.mpr ⟨ly_4_0, List.forall_mem_cons.mpr ⟨ly_4_1, List.forall_mem_cons.mpr ⟨ly_4_2, List.forall_mem_cons.mpr ⟨ly_4_3, List.forall_mem_cons.mpr ⟨ly_4_4, List.forall_mem_cons.mpr ⟨ly_4_5, List.forall_mem_cons.mpr ⟨ly_4_6, List.forall_mem_cons.mpr ⟨ly_4_7, List.forall_mem_cons.mpr ⟨ly_4_8, fun _ h => absurd h List.not_mem_nil⟩⟩⟩⟩⟩⟩⟩⟩⟩
theorem ly_5_0 : u_lay RX5 TX5 0 ∈ wsL_law := wq_in (tq_1 (List.mem_of_getElem? (i := 86) rfl)) rfl
theorem ly_5_1 : u_lay RX5 TX5 1 ∈ wsL_law := wq_in (tq_1 (List.mem_of_getElem? (i := 88) rfl)) rfl
theorem inX5 : ∀ w ∈ u_ws RX5 TX5 2, w ∈ wsL_law := by
  show ∀ w ∈ [u_lay RX5 TX5 0, u_lay RX5 TX5 1], w ∈ wsL_law
  exact List.forall_mem_cons.mpr ⟨ly_5_0, List.forall_mem_cons.mpr ⟨ly_5_1, fun _ h => absurd h List.not_mem_nil⟩⟩
theorem ly_6_0 : u_lay RX6 TX6 0 ∈ wsL_law := wq_in (tq_1 (List.mem_of_getElem? (i := 41) rfl)) rfl
theorem ly_6_1 : u_lay RX6 TX6 1 ∈ wsL_law := wq_in (tq_1 (List.mem_of_getElem? (i := 43) rfl)) rfl
theorem inX6 : ∀ w ∈ u_ws RX6 TX6 2, w ∈ wsL_law := by
  show ∀ w ∈ [u_lay RX6 TX6 0, u_lay RX6 TX6 1], w ∈ wsL_law
  exact List.forall_mem_cons.mpr ⟨ly_6_0, List.forall_mem_cons.mpr ⟨ly_6_1, fun _ h => absurd h List.not_mem_nil⟩⟩
theorem ly_7_0 : u_lay RX7 TX7 0 ∈ wsL_law := wq_in (tq_1 (List.mem_of_getElem? (i := 138) rfl)) rfl
theorem ly_7_1 : u_lay RX7 TX7 1 ∈ wsL_law := wq_in (tq_1 (List.mem_of_getElem? (i := 140) rfl)) rfl
theorem ly_7_2 : u_lay RX7 TX7 2 ∈ wsL_law := wq_in (tq_1 (List.mem_of_getElem? (i := 142) rfl)) rfl
theorem ly_7_3 : u_lay RX7 TX7 3 ∈ wsL_law := wq_in (tq_1 (List.mem_of_getElem? (i := 144) rfl)) rfl
theorem ly_7_4 : u_lay RX7 TX7 4 ∈ wsL_law := wq_in (tq_1 (List.mem_of_getElem? (i := 146) rfl)) rfl
theorem ly_7_5 : u_lay RX7 TX7 5 ∈ wsL_law := wq_in (tq_1 (List.mem_of_getElem? (i := 148) rfl)) rfl
theorem ly_7_6 : u_lay RX7 TX7 6 ∈ wsL_law := wq_in (tq_1 (List.mem_of_getElem? (i := 150) rfl)) rfl
theorem ly_7_7 : u_lay RX7 TX7 7 ∈ wsL_law := wq_in (tq_1 (List.mem_of_getElem? (i := 152) rfl)) rfl
theorem ly_7_8 : u_lay RX7 TX7 8 ∈ wsL_law := wq_in (tq_1 (List.mem_of_getElem? (i := 154) rfl)) rfl
theorem ly_7_9 : u_lay RX7 TX7 9 ∈ wsL_law := wq_in (tq_1 (List.mem_of_getElem? (i := 156) rfl)) rfl
theorem ly_7_10 : u_lay RX7 TX7 10 ∈ wsL_law := wq_in (tq_1 (List.mem_of_getElem? (i := 158) rfl)) rfl
theorem ly_7_11 : u_lay RX7 TX7 11 ∈ wsL_law := wq_in (tq_1 (List.mem_of_getElem? (i := 160) rfl)) rfl
theorem ly_7_12 : u_lay RX7 TX7 12 ∈ wsL_law := wq_in (tq_1 (List.mem_of_getElem? (i := 162) rfl)) rfl
theorem ly_7_13 : u_lay RX7 TX7 13 ∈ wsL_law := wq_in (tq_1 (List.mem_of_getElem? (i := 164) rfl)) rfl
theorem ly_7_14 : u_lay RX7 TX7 14 ∈ wsL_law := wq_in (tq_1 (List.mem_of_getElem? (i := 166) rfl)) rfl
theorem ly_7_15 : u_lay RX7 TX7 15 ∈ wsL_law := wq_in (tq_1 (List.mem_of_getElem? (i := 168) rfl)) rfl
theorem inX7 : ∀ w ∈ u_ws RX7 TX7 16, w ∈ wsL_law := by
  show ∀ w ∈ [u_lay RX7 TX7 0, u_lay RX7 TX7 1, u_lay RX7 TX7 2, u_lay RX7 TX7 3, u_lay RX7 TX7 4, u_lay RX7 TX7 5, u_lay RX7 TX7 6, u_lay RX7 TX7 7, u_lay RX7 TX7 8, u_lay RX7 TX7 9, u_lay RX7 TX7 10, u_lay RX7 TX7 11, u_lay RX7 TX7 12, u_lay RX7 TX7 13, u_lay RX7 TX7 14, u_lay RX7 TX7 15], w ∈ wsL_law
  exact List.forall_mem_cons.mpr ⟨ly_7_0, List.forall_mem_cons.mpr ⟨ly_7_1, List.forall_mem_cons.mpr ⟨ly_7_2, List.forall_mem_cons.mpr ⟨ly_7_3, List.forall_mem_cons.mpr ⟨ly_7_4, List.forall_mem_cons.mpr ⟨ly_7_5, List.forall_mem_cons.mpr ⟨ly_7_6, List.forall_mem_cons.mpr ⟨ly_7_7, List.forall_mem_cons.mpr ⟨ly_7_8, List.forall_mem_cons.mpr ⟨ly_7_9, List.forall_mem_cons.mpr ⟨ly_7_10, List.forall_mem_cons.mpr ⟨ly_7_11, List.forall_mem_cons.mpr ⟨ly_7_12, List.forall_mem_cons.mpr ⟨ly_7_13, List.forall_mem_cons.mpr ⟨ly_7_14, List.forall_mem_cons.mpr ⟨ly_7_15, fun _ h => absurd h List.not_mem_nil⟩⟩⟩⟩⟩⟩⟩⟩⟩⟩⟩⟩⟩⟩⟩⟩
theorem ly_8_0 : u_lay RX8 TX8 0 ∈ wsL_law := wq_in (tq_1 (List.mem_of_getElem? (i := 190) rfl)) rfl
theorem ly_8_1 : u_lay RX8 TX8 1 ∈ wsL_law := wq_in (tq_1 (List.mem_of_getElem? (i := 192) rfl)) rfl
theorem ly_8_2 : u_lay RX8 TX8 2 ∈ wsL_law := wq_in (tq_1 (List.mem_of_getElem? (i := 194) rfl)) rfl
theorem inX8 : ∀ w ∈ u_ws RX8 TX8 3, w ∈ wsL_law := by
  show ∀ w ∈ [u_lay RX8 TX8 0, u_lay RX8 TX8 1, u_lay RX8 TX8 2], w ∈ wsL_law
  exact List.forall_mem_cons.mpr ⟨ly_8_0, List.forall_mem_cons.mpr ⟨ly_8_1, List.forall_mem_cons.mpr ⟨ly_8_2, fun _ h => absurd h List.not_mem_nil⟩⟩⟩
theorem ly_9_0 : u_lay RX9 TX9 0 ∈ wsL_law := wq_in (tq_2 (List.mem_of_getElem? (i := 73) rfl)) rfl
theorem ly_9_1 : u_lay RX9 TX9 1 ∈ wsL_law := wq_in (tq_2 (List.mem_of_getElem? (i := 75) rfl)) rfl
theorem ly_9_2 : u_lay RX9 TX9 2 ∈ wsL_law := wq_in (tq_2 (List.mem_of_getElem? (i := 77) rfl)) rfl
theorem ly_9_3 : u_lay RX9 TX9 3 ∈ wsL_law := wq_in (tq_2 (List.mem_of_getElem? (i := 79) rfl)) rfl
theorem inX9 : ∀ w ∈ u_ws RX9 TX9 4, w ∈ wsL_law := by
  show ∀ w ∈ [u_lay RX9 TX9 0, u_lay RX9 TX9 1, u_lay RX9 TX9 2, u_lay RX9 TX9 3], w ∈ wsL_law
  exact List.forall_mem_cons.mpr ⟨ly_9_0, List.forall_mem_cons.mpr ⟨ly_9_1, List.forall_mem_cons.mpr ⟨ly_9_2, List.forall_mem_cons.mpr ⟨ly_9_3, fun _ h => absurd h List.not_mem_nil⟩⟩⟩⟩
theorem ly_10_0 : u_lay RX10 TX10 0 ∈ wsL_law := wq_in (tq_2 (List.mem_of_getElem? (i := 17) rfl)) rfl
theorem ly_10_1 : u_lay RX10 TX10 1 ∈ wsL_law := wq_in (tq_2 (List.mem_of_getElem? (i := 19) rfl)) rfl
theorem ly_10_2 : u_lay RX10 TX10 2 ∈ wsL_law := wq_in (tq_2 (List.mem_of_getElem? (i := 21) rfl)) rfl
theorem ly_10_3 : u_lay RX10 TX10 3 ∈ wsL_law := wq_in (tq_2 (List.mem_of_getElem? (i := 23) rfl)) rfl
theorem ly_10_4 : u_lay RX10 TX10 4 ∈ wsL_law := wq_in (tq_2 (List.mem_of_getElem? (i := 25) rfl)) rfl
theorem ly_10_5 : u_lay RX10 TX10 5 ∈ wsL_law := wq_in (tq_2 (List.mem_of_getElem? (i := 27) rfl)) rfl
theorem ly_10_6 : u_lay RX10 TX10 6 ∈ wsL_law := wq_in (tq_2 (List.mem_of_getElem? (i := 29) rfl)) rfl
theorem ly_10_7 : u_lay RX10 TX10 7 ∈ wsL_law := wq_in (tq_2 (List.mem_of_getElem? (i := 31) rfl)) rfl
theorem ly_10_8 : u_lay RX10 TX10 8 ∈ wsL_law := wq_in (tq_2 (List.mem_of_getElem? (i := 33) rfl)) rfl
theorem ly_10_9 : u_lay RX10 TX10 9 ∈ wsL_law := wq_in (tq_2 (List.mem_of_getElem? (i := 35) rfl)) rfl
theorem ly_10_10 : u_lay RX10 TX10 10 ∈ wsL_law := wq_in (tq_2 (List.mem_of_getElem? (i := 37) rfl)) rfl
theorem ly_10_11 : u_lay RX10 TX10 11 ∈ wsL_law := wq_in (tq_2 (List.mem_of_getElem? (i := 39) rfl)) rfl
theorem inX10 : ∀ w ∈ u_ws RX10 TX10 12, w ∈ wsL_law := by
  show ∀ w ∈ [u_lay RX10 TX10 0, u_lay RX10 TX10 1, u_lay RX10 TX10 2, u_lay RX10 TX10 3, u_lay RX10 TX10 4, u_lay RX10 TX10 5, u_lay RX10 TX10 6, u_lay RX10 TX10 7, u_lay RX10 TX10 8, u_lay RX10 TX10 9, u_lay RX10 TX10 10, u_lay RX10 TX10 11], w ∈ wsL_law
  exact List.forall_mem_cons.mpr ⟨ly_10_0, List.forall_mem_cons.mpr ⟨ly_10_1, List.forall_mem_cons.mpr ⟨ly_10_2, List.forall_mem_cons.mpr ⟨ly_10_3, List.forall_mem_cons.mpr ⟨ly_10_4, List.forall_mem_cons.mpr ⟨ly_10_5, List.forall_mem_cons.mpr ⟨ly_10_6, List.forall_mem_cons.mpr ⟨ly_10_7, List.forall_mem_cons.mpr ⟨ly_10_8, List.forall_mem_cons.mpr ⟨ly_10_9, List.forall_mem_cons.mpr ⟨ly_10_10, List.forall_mem_cons.mpr ⟨ly_10_11, fun _ h => absurd h List.not_mem_nil⟩⟩⟩⟩⟩⟩⟩⟩⟩⟩⟩⟩
theorem ly_11_0 : u_lay RX11 TX11 0 ∈ wsL_law := wq_in (tq_2 (List.mem_of_getElem? (i := 164) rfl)) rfl
theorem ly_11_1 : u_lay RX11 TX11 1 ∈ wsL_law := wq_in (tq_2 (List.mem_of_getElem? (i := 166) rfl)) rfl
theorem ly_11_2 : u_lay RX11 TX11 2 ∈ wsL_law := wq_in (tq_2 (List.mem_of_getElem? (i := 168) rfl)) rfl
theorem ly_11_3 : u_lay RX11 TX11 3 ∈ wsL_law := wq_in (tq_2 (List.mem_of_getElem? (i := 170) rfl)) rfl
theorem ly_11_4 : u_lay RX11 TX11 4 ∈ wsL_law := wq_in (tq_2 (List.mem_of_getElem? (i := 172) rfl)) rfl
theorem ly_11_5 : u_lay RX11 TX11 5 ∈ wsL_law := wq_in (tq_2 (List.mem_of_getElem? (i := 174) rfl)) rfl
theorem ly_11_6 : u_lay RX11 TX11 6 ∈ wsL_law := wq_in (tq_2 (List.mem_of_getElem? (i := 176) rfl)) rfl
theorem ly_11_7 : u_lay RX11 TX11 7 ∈ wsL_law := wq_in (tq_2 (List.mem_of_getElem? (i := 178) rfl)) rfl
theorem ly_11_8 : u_lay RX11 TX11 8 ∈ wsL_law := wq_in (tq_2 (List.mem_of_getElem? (i := 180) rfl)) rfl
theorem ly_11_9 : u_lay RX11 TX11 9 ∈ wsL_law := wq_in (tq_2 (List.mem_of_getElem? (i := 182) rfl)) rfl
theorem ly_11_10 : u_lay RX11 TX11 10 ∈ wsL_law := wq_in (tq_2 (List.mem_of_getElem? (i := 184) rfl)) rfl
theorem ly_11_11 : u_lay RX11 TX11 11 ∈ wsL_law := wq_in (tq_2 (List.mem_of_getElem? (i := 186) rfl)) rfl
theorem ly_11_12 : u_lay RX11 TX11 12 ∈ wsL_law := wq_in (tq_2 (List.mem_of_getElem? (i := 188) rfl)) rfl
theorem inX11 : ∀ w ∈ u_ws RX11 TX11 13, w ∈ wsL_law := by
  show ∀ w ∈ [u_lay RX11 TX11 0, u_lay RX11 TX11 1, u_lay RX11 TX11 2, u_lay RX11 TX11 3, u_lay RX11 TX11 4, u_lay RX11 TX11 5, u_lay RX11 TX11 6, u_lay RX11 TX11 7, u_lay RX11 TX11 8, u_lay RX11 TX11 9, u_lay RX11 TX11 10, u_lay RX11 TX11 11, u_lay RX11 TX11 12], w ∈ wsL_law
  exact List.forall_mem_cons.mpr ⟨ly_11_0, List.forall_mem_cons.mpr ⟨ly_11_1, List.forall_mem_cons.mpr ⟨ly_11_2, List.forall_mem_cons.mpr ⟨ly_11_3, List.forall_mem_cons.mpr ⟨ly_11_4, List.forall_mem_cons.mpr ⟨ly_11_5, List.forall_mem_cons.mpr ⟨ly_11_6, List.forall_mem_cons.mpr ⟨ly_11_7, List.forall_mem_cons.mpr ⟨ly_11_8, List.forall_mem_cons.mpr ⟨ly_11_9, List.forall_mem_cons.mpr ⟨ly_11_10, List.forall_mem_cons.mpr ⟨ly_11_11, List.forall_mem_cons.mpr ⟨ly_11_12, fun _ h => absurd h List.not_mem_nil⟩⟩⟩⟩⟩⟩⟩⟩⟩⟩⟩⟩⟩
theorem ly_12_0 : u_lay RX12 TX12 0 ∈ wsL_law := wq_in (tq_5 (List.mem_of_getElem? (i := 117) rfl)) rfl
theorem ly_12_1 : u_lay RX12 TX12 1 ∈ wsL_law := wq_in (tq_5 (List.mem_of_getElem? (i := 119) rfl)) rfl
theorem ly_12_2 : u_lay RX12 TX12 2 ∈ wsL_law := wq_in (tq_5 (List.mem_of_getElem? (i := 121) rfl)) rfl
theorem ly_12_3 : u_lay RX12 TX12 3 ∈ wsL_law := wq_in (tq_5 (List.mem_of_getElem? (i := 123) rfl)) rfl
theorem ly_12_4 : u_lay RX12 TX12 4 ∈ wsL_law := wq_in (tq_5 (List.mem_of_getElem? (i := 125) rfl)) rfl
theorem ly_12_5 : u_lay RX12 TX12 5 ∈ wsL_law := wq_in (tq_5 (List.mem_of_getElem? (i := 127) rfl)) rfl
theorem ly_12_6 : u_lay RX12 TX12 6 ∈ wsL_law := wq_in (tq_5 (List.mem_of_getElem? (i := 129) rfl)) rfl
theorem ly_12_7 : u_lay RX12 TX12 7 ∈ wsL_law := wq_in (tq_5 (List.mem_of_getElem? (i := 131) rfl)) rfl
theorem ly_12_8 : u_lay RX12 TX12 8 ∈ wsL_law := wq_in (tq_5 (List.mem_of_getElem? (i := 133) rfl)) rfl
theorem ly_12_9 : u_lay RX12 TX12 9 ∈ wsL_law := wq_in (tq_5 (List.mem_of_getElem? (i := 135) rfl)) rfl
theorem ly_12_10 : u_lay RX12 TX12 10 ∈ wsL_law := wq_in (tq_5 (List.mem_of_getElem? (i := 137) rfl)) rfl
theorem ly_12_11 : u_lay RX12 TX12 11 ∈ wsL_law := wq_in (tq_5 (List.mem_of_getElem? (i := 139) rfl)) rfl
theorem ly_12_12 : u_lay RX12 TX12 12 ∈ wsL_law := wq_in (tq_5 (List.mem_of_getElem? (i := 141) rfl)) rfl
theorem ly_12_13 : u_lay RX12 TX12 13 ∈ wsL_law := wq_in (tq_5 (List.mem_of_getElem? (i := 143) rfl)) rfl
theorem ly_12_14 : u_lay RX12 TX12 14 ∈ wsL_law := wq_in (tq_5 (List.mem_of_getElem? (i := 145) rfl)) rfl
theorem ly_12_15 : u_lay RX12 TX12 15 ∈ wsL_law := wq_in (tq_5 (List.mem_of_getElem? (i := 147) rfl)) rfl
theorem ly_12_16 : u_lay RX12 TX12 16 ∈ wsL_law := wq_in (tq_5 (List.mem_of_getElem? (i := 149) rfl)) rfl
theorem ly_12_17 : u_lay RX12 TX12 17 ∈ wsL_law := wq_in (tq_5 (List.mem_of_getElem? (i := 151) rfl)) rfl
theorem ly_12_18 : u_lay RX12 TX12 18 ∈ wsL_law := wq_in (tq_5 (List.mem_of_getElem? (i := 153) rfl)) rfl
theorem ly_12_19 : u_lay RX12 TX12 19 ∈ wsL_law := wq_in (tq_5 (List.mem_of_getElem? (i := 155) rfl)) rfl
theorem ly_12_20 : u_lay RX12 TX12 20 ∈ wsL_law := wq_in (tq_5 (List.mem_of_getElem? (i := 157) rfl)) rfl
theorem ly_12_21 : u_lay RX12 TX12 21 ∈ wsL_law := wq_in (tq_5 (List.mem_of_getElem? (i := 159) rfl)) rfl
theorem ly_12_22 : u_lay RX12 TX12 22 ∈ wsL_law := wq_in (tq_5 (List.mem_of_getElem? (i := 161) rfl)) rfl
theorem ly_12_23 : u_lay RX12 TX12 23 ∈ wsL_law := wq_in (tq_5 (List.mem_of_getElem? (i := 163) rfl)) rfl
theorem ly_12_24 : u_lay RX12 TX12 24 ∈ wsL_law := wq_in (tq_5 (List.mem_of_getElem? (i := 165) rfl)) rfl
theorem ly_12_25 : u_lay RX12 TX12 25 ∈ wsL_law := wq_in (tq_5 (List.mem_of_getElem? (i := 167) rfl)) rfl
theorem ly_12_26 : u_lay RX12 TX12 26 ∈ wsL_law := wq_in (tq_5 (List.mem_of_getElem? (i := 169) rfl)) rfl
theorem ly_12_27 : u_lay RX12 TX12 27 ∈ wsL_law := wq_in (tq_5 (List.mem_of_getElem? (i := 171) rfl)) rfl
theorem ly_12_28 : u_lay RX12 TX12 28 ∈ wsL_law := wq_in (tq_5 (List.mem_of_getElem? (i := 173) rfl)) rfl
theorem ly_12_29 : u_lay RX12 TX12 29 ∈ wsL_law := wq_in (tq_5 (List.mem_of_getElem? (i := 175) rfl)) rfl
theorem ly_12_30 : u_lay RX12 TX12 30 ∈ wsL_law := wq_in (tq_5 (List.mem_of_getElem? (i := 177) rfl)) rfl
theorem ly_12_31 : u_lay RX12 TX12 31 ∈ wsL_law := wq_in (tq_5 (List.mem_of_getElem? (i := 179) rfl)) rfl
theorem ly_12_32 : u_lay RX12 TX12 32 ∈ wsL_law := wq_in (tq_5 (List.mem_of_getElem? (i := 181) rfl)) rfl
theorem ly_12_33 : u_lay RX12 TX12 33 ∈ wsL_law := wq_in (tq_5 (List.mem_of_getElem? (i := 183) rfl)) rfl
theorem ly_12_34 : u_lay RX12 TX12 34 ∈ wsL_law := wq_in (tq_5 (List.mem_of_getElem? (i := 185) rfl)) rfl
theorem ly_12_35 : u_lay RX12 TX12 35 ∈ wsL_law := wq_in (tq_5 (List.mem_of_getElem? (i := 187) rfl)) rfl
theorem ly_12_36 : u_lay RX12 TX12 36 ∈ wsL_law := wq_in (tq_5 (List.mem_of_getElem? (i := 189) rfl)) rfl
theorem ly_12_37 : u_lay RX12 TX12 37 ∈ wsL_law := wq_in (tq_5 (List.mem_of_getElem? (i := 191) rfl)) rfl
theorem ly_12_38 : u_lay RX12 TX12 38 ∈ wsL_law := wq_in (tq_5 (List.mem_of_getElem? (i := 193) rfl)) rfl
theorem ly_12_39 : u_lay RX12 TX12 39 ∈ wsL_law := wq_in (tq_5 (List.mem_of_getElem? (i := 195) rfl)) rfl
theorem ly_12_40 : u_lay RX12 TX12 40 ∈ wsL_law := wq_in (tq_5 (List.mem_of_getElem? (i := 197) rfl)) rfl
theorem ly_12_41 : u_lay RX12 TX12 41 ∈ wsL_law := wq_in (tq_5 (List.mem_of_getElem? (i := 199) rfl)) rfl
theorem ly_12_42 : u_lay RX12 TX12 42 ∈ wsL_law := wq_in (tq_5 (List.mem_of_getElem? (i := 201) rfl)) rfl
theorem ly_12_43 : u_lay RX12 TX12 43 ∈ wsL_law := wq_in (tq_5 (List.mem_of_getElem? (i := 203) rfl)) rfl
theorem ly_12_44 : u_lay RX12 TX12 44 ∈ wsL_law := wq_in (tq_5 (List.mem_of_getElem? (i := 205) rfl)) rfl
theorem ly_12_45 : u_lay RX12 TX12 45 ∈ wsL_law := wq_in (tq_5 (List.mem_of_getElem? (i := 207) rfl)) rfl
theorem ly_12_46 : u_lay RX12 TX12 46 ∈ wsL_law := wq_in (tq_5 (List.mem_of_getElem? (i := 209) rfl)) rfl
theorem ly_12_47 : u_lay RX12 TX12 47 ∈ wsL_law := wq_in (tq_5 (List.mem_of_getElem? (i := 211) rfl)) rfl
theorem ly_12_48 : u_lay RX12 TX12 48 ∈ wsL_law := wq_in (tq_5 (List.mem_of_getElem? (i := 213) rfl)) rfl
theorem ly_12_49 : u_lay RX12 TX12 49 ∈ wsL_law := wq_in (tq_5 (List.mem_of_getElem? (i := 215) rfl)) rfl
theorem ly_12_50 : u_lay RX12 TX12 50 ∈ wsL_law := wq_in (tq_5 (List.mem_of_getElem? (i := 217) rfl)) rfl
theorem ly_12_51 : u_lay RX12 TX12 51 ∈ wsL_law := wq_in (tq_5 (List.mem_of_getElem? (i := 219) rfl)) rfl
theorem ly_12_52 : u_lay RX12 TX12 52 ∈ wsL_law := wq_in (tq_5 (List.mem_of_getElem? (i := 221) rfl)) rfl
theorem ly_12_53 : u_lay RX12 TX12 53 ∈ wsL_law := wq_in (tq_5 (List.mem_of_getElem? (i := 223) rfl)) rfl
theorem ly_12_54 : u_lay RX12 TX12 54 ∈ wsL_law := wq_in (tq_5 (List.mem_of_getElem? (i := 225) rfl)) rfl
theorem ly_12_55 : u_lay RX12 TX12 55 ∈ wsL_law := wq_in (tq_5 (List.mem_of_getElem? (i := 227) rfl)) rfl
theorem ly_12_56 : u_lay RX12 TX12 56 ∈ wsL_law := wq_in (tq_5 (List.mem_of_getElem? (i := 229) rfl)) rfl
theorem ly_12_57 : u_lay RX12 TX12 57 ∈ wsL_law := wq_in (tq_5 (List.mem_of_getElem? (i := 231) rfl)) rfl
theorem ly_12_58 : u_lay RX12 TX12 58 ∈ wsL_law := wq_in (tq_5 (List.mem_of_getElem? (i := 233) rfl)) rfl
theorem ly_12_59 : u_lay RX12 TX12 59 ∈ wsL_law := wq_in (tq_5 (List.mem_of_getElem? (i := 235) rfl)) rfl
theorem ly_12_60 : u_lay RX12 TX12 60 ∈ wsL_law := wq_in (tq_5 (List.mem_of_getElem? (i := 237) rfl)) rfl
theorem ly_12_61 : u_lay RX12 TX12 61 ∈ wsL_law := wq_in (tq_5 (List.mem_of_getElem? (i := 239) rfl)) rfl
theorem ly_12_62 : u_lay RX12 TX12 62 ∈ wsL_law := wq_in (tq_6 (List.mem_of_getElem? (i := 1) rfl)) rfl
theorem ly_12_63 : u_lay RX12 TX12 63 ∈ wsL_law := wq_in (tq_6 (List.mem_of_getElem? (i := 3) rfl)) rfl
theorem ly_12_64 : u_lay RX12 TX12 64 ∈ wsL_law := wq_in (tq_6 (List.mem_of_getElem? (i := 5) rfl)) rfl
theorem ly_12_65 : u_lay RX12 TX12 65 ∈ wsL_law := wq_in (tq_6 (List.mem_of_getElem? (i := 7) rfl)) rfl
theorem ly_12_66 : u_lay RX12 TX12 66 ∈ wsL_law := wq_in (tq_6 (List.mem_of_getElem? (i := 9) rfl)) rfl
theorem ly_12_67 : u_lay RX12 TX12 67 ∈ wsL_law := wq_in (tq_6 (List.mem_of_getElem? (i := 11) rfl)) rfl
theorem ly_12_68 : u_lay RX12 TX12 68 ∈ wsL_law := wq_in (tq_6 (List.mem_of_getElem? (i := 13) rfl)) rfl
theorem inX12 : ∀ w ∈ u_ws RX12 TX12 69, w ∈ wsL_law := by
  show ∀ w ∈ [u_lay RX12 TX12 0, u_lay RX12 TX12 1, u_lay RX12 TX12 2, u_lay RX12 TX12 3, u_lay RX12 TX12 4, u_lay RX12 TX12 5, u_lay RX12 TX12 6, u_lay RX12 TX12 7, u_lay RX12 TX12 8, u_lay RX12 TX12 9, u_lay RX12 TX12 10, u_lay RX12 TX12 11, u_lay RX12 TX12 12, u_lay RX12 TX12 13, u_lay RX12 TX12 14, u_lay RX12 TX12 15, u_lay RX12 TX12 16, u_lay RX12 TX12 17, u_lay RX12 TX12 18, u_lay RX12 TX12 19, u_lay RX12 TX12 20, u_lay RX12 TX12 21, u_lay RX12 TX12 22, u_lay RX12 TX12 23, u_lay RX12 TX12 24, u_lay RX12 TX12 25, u_lay RX12 TX12 26, u_lay RX12 TX12 27, u_lay RX12 TX12 28, u_lay RX12 TX12 29, u_lay RX12 TX12 30, u_lay RX12 TX12 31, u_lay RX12 TX12 32, u_lay RX12 TX12 33, u_lay RX12 TX12 34, u_lay RX12 TX12 35, u_lay RX12 TX12 36, u_lay RX12 TX12 37, u_lay RX12 TX12 38, u_lay RX12 TX12 39, u_lay RX12 TX12 40, u_lay RX12 TX12 41, u_lay RX12 TX12 42, u_lay RX12 TX12 43, u_lay RX12 TX12 44, u_lay RX12 TX12 45, u_lay RX12 TX12 46, u_lay RX12 TX12 47, u_lay RX12 TX12 48, u_lay RX12 TX12 49, u_lay RX12 TX12 50, u_lay RX12 TX12 51, u_lay RX12 TX12 52, u_lay RX12 TX12 53, u_lay RX12 TX12 54, u_lay RX12 TX12 55, u_lay RX12 TX12 56, u_lay RX12 TX12 57, u_lay RX12 TX12 58, u_lay RX12 TX12 59, u_lay RX12 TX12 60, u_lay RX12 TX12 61, u_lay RX12 TX12 62, u_lay RX12 TX12 63, u_lay RX12 TX12 64, u_lay RX12 TX12 65, u_lay RX12 TX12 66, u_lay RX12 TX12 67, u_lay RX12 TX12 68], w ∈ wsL_law
  exact List.forall_mem_cons.mpr ⟨ly_12_0, List.forall_mem_cons.mpr ⟨ly_12_1, List.forall_mem_cons.mpr ⟨ly_12_2, List.forall_mem_cons.mpr ⟨ly_12_3, List.forall_mem_cons.mpr ⟨ly_12_4, List.forall_mem_cons.mpr ⟨ly_12_5, List.forall_mem_cons.mpr ⟨ly_12_6, List.forall_mem_cons.mpr ⟨ly_12_7, List.forall_mem_cons.mpr ⟨ly_12_8, List.forall_mem_cons.mpr ⟨ly_12_9, List.forall_mem_cons.mpr ⟨ly_12_10, List.forall_mem_cons.mpr ⟨ly_12_11, List.forall_mem_cons.mpr ⟨ly_12_12, List.forall_mem_cons.mpr ⟨ly_12_13, List.forall_mem_cons.mpr ⟨ly_12_14, List.forall_mem_cons.mpr ⟨ly_12_15, List.forall_mem_cons.mpr ⟨ly_12_16, List.forall_mem_cons.mpr ⟨ly_12_17, List.forall_mem_cons.mpr ⟨ly_12_18, List.forall_mem_cons.mpr ⟨ly_12_19, List.forall_mem_cons.mpr ⟨ly_12_20, List.forall_mem_cons.mpr ⟨ly_12_21, List.forall_mem_cons.mpr ⟨ly_12_22, List.forall_mem_cons.mpr ⟨ly_12_23, List.forall_mem_cons.mpr ⟨ly_12_24, List.forall_mem_cons.mpr ⟨ly_12_25, List.forall_mem_cons.mpr ⟨ly_12_26, List.forall_mem_cons.mpr ⟨ly_12_27, List.forall_mem_cons.mpr ⟨ly_12_28, List.forall_mem_cons.mpr ⟨ly_12_29, List.forall_mem_cons.mpr ⟨ly_12_30, List.forall_mem_cons.mpr ⟨ly_12_31, List.forall_mem_cons.mpr ⟨ly_12_32, List.forall_mem_cons.mpr ⟨ly_12_33, List.forall_mem_cons.mpr ⟨ly_12_34, List.forall_mem_cons.mpr ⟨ly_12_35, List.forall_mem_cons.mpr ⟨ly_12_36, List.forall_mem_cons.mpr ⟨ly_12_37, List.forall_mem_cons.mpr ⟨ly_12_38, List.forall_mem_cons.mpr ⟨ly_12_39, List.forall_mem_cons.mpr ⟨ly_12_40, List.forall_mem_cons.mpr ⟨ly_12_41, List.forall_mem_cons.mpr ⟨ly_12_42, List.forall_mem_cons.mpr ⟨ly_12_43, List.forall_mem_cons.mpr ⟨ly_12_44, List.forall_mem_cons.mpr ⟨ly_12_45, List.forall_mem_cons.mpr ⟨ly_12_46, List.forall_mem_cons.mpr ⟨ly_12_47, List.forall_mem_cons.mpr ⟨ly_12_48, List.forall_mem_cons.mpr ⟨ly_12_49, List.forall_mem_cons.mpr ⟨ly_12_50, List.forall_mem_cons.mpr ⟨ly_12_51, List.forall_mem_cons.mpr ⟨ly_12_52, List.forall_mem_cons.mpr ⟨ly_12_53, List.forall_mem_cons.mpr ⟨ly_12_54, List.forall_mem_cons.mpr ⟨ly_12_55, List.forall_mem_cons.mpr ⟨ly_12_56, List.forall_mem_cons.mpr ⟨ly_12_57, List.forall_mem_cons.mpr ⟨ly_12_58, List.forall_mem_cons.mpr ⟨ly_12_59, List.forall_mem_cons.mpr ⟨ly_12_60, List.forall_mem_cons.mpr ⟨ly_12_61, List.forall_mem_cons.mpr ⟨ly_12_62, List.forall_mem_cons.mpr ⟨ly_12_63, List.forall_mem_cons.mpr ⟨ly_12_64, List.forall_mem_cons.mpr ⟨ly_12_65, List.forall_mem_cons.mpr ⟨ly_12_66, List.forall_mem_cons.mpr ⟨ly_12_67, List.forall_mem_cons.mpr ⟨ly_12_68, fun _ h => absurd h List.not_mem_nil⟩⟩⟩⟩⟩⟩⟩⟩⟩⟩⟩⟩⟩⟩⟩⟩⟩⟩⟩⟩⟩⟩⟩⟩⟩⟩⟩⟩⟩⟩⟩⟩⟩⟩⟩⟩⟩⟩⟩⟩⟩⟩⟩⟩⟩⟩⟩⟩⟩⟩⟩⟩⟩⟩⟩⟩⟩⟩⟩⟩⟩⟩⟩⟩⟩⟩⟩⟩⟩
/-- the two String constants: lengths, bytes, texts -/
def strL : List Nat := [152, 9]
def strB : List (List Int32) := [[104, 105, 108, 108, 32, 32, 32, 32, 110, 101, 119, 115, 32, 32, 32, 32, 97, 116, 32, 32, 32, 32, 32, 32, 104, 101, 97, 114, 115, 32, 32, 32, 105, 102, 32, 32, 32, 32, 32, 32, 116, 104, 101, 110, 32, 32, 32, 32, 101, 108, 115, 101, 32, 32, 32, 32, 111, 114, 100, 101, 114, 32, 32, 32, 102, 114, 101, 101, 32, 32, 32, 32, 116, 111, 112, 105, 99, 32, 32, 32, 97, 110, 121, 32, 32, 32, 32, 32, 111, 116, 104, 101, 114, 32, 32, 32, 115, 108, 101, 101, 112, 101, 114, 32, 102, 97, 114, 32, 32, 32, 32, 32, 119, 105, 110, 100, 32, 32, 32, 32, 102, 111, 103, 32, 32, 32, 32, 32, 100, 97, 121, 32, 32, 32, 32, 32, 102, 114, 111, 109, 32, 32, 32, 32, 116, 111, 32, 32, 32, 32, 32, 32], [59, 61, 43, 45, 42, 47, 60, 40, 41]]
def strW : String := "hill    news    at      hears   if      then    else    order   free    topic   any     other   sleeper far     wind    fog     day     from    to      "
def strG : String := ";=+-*/<()"
/-- what stands beside the cells: the arrays of worlds, two statics, the two String constants -/
def hXs (A : Nat → Prop) (U : State) (H : Heap) : Prop := va_AO "HillDrums$World" U ∧ va_Z "java/lang/String" "COMPACT_STRINGS" "Z" (.int 1) A U H ∧ va_Zq "jdk/internal/util/Preconditions" "SIOOBE_FORMATTER" "Ljava/util/function/BiFunction;" A U H ∧
  ∃ adK adV : Nat → Nat, vk_S 2 strL strB adK adV A U H ∧ vk_R "HillDrums$Tokens" 68 strW (adK 0) U ∧ vk_R "HillDrums$Tokens" 56 strG (adK 1) U
theorem hXs.ao {A : Nat → Prop} {U : State} {H : Heap} (h : hXs A U H) : va_AO "HillDrums$World" U := h.1
theorem hXs.warm {A : Nat → Prop} {s U : State} {H : Heap} (hW : s.WarmedH U.vm) (h : hXs A s H) : hXs A U H := by
  obtain ⟨h1, h2, h3, adK, adV, a, b, c⟩ := h
  exact ⟨va_AO.moved hW.alike h1, va_Z.moved hW.alike h2, va_Zq.moved hW.alike h3, adK, adV, vk_S.moved hW.alike a, b.warm hW, c.warm hW⟩
theorem hXs.same {A : Nat → Prop} {u U : State} {H : Heap} (hv : U.vm = u.vm) (h : hXs A u H) : hXs A U H := by
  have hA : u.vm.Alike U.vm := by rw [hv]; exact Vm.Alike.refl _
  obtain ⟨h1, h2, h3, adK, adV, a, b, c⟩ := h
  exact ⟨va_AO.moved hA h1, va_Z.moved hA h2, va_Zq.moved hA h3, adK, adV, vk_S.moved hA a, vk_R.same hv b, vk_R.same hv c⟩
theorem hXs.kept {A : Nat → Prop} {U : State} {H H1 : Heap} (h : hXs A U H) (hq : ∀ a : Nat, a < H.size → ¬ A a → H1[a]? = H[a]?) : hXs A U H1 := by
  obtain ⟨h1, h2, h3, adK, adV, a, b, c⟩ := h
  exact ⟨h1, h2.kept hq, h3.kept hq, adK, adV, a.kept hq, b, c⟩
theorem hXs.narrow {A B : Nat → Prop} {U : State} {H : Heap} (h : hXs A U H) (hAB : ∀ q, B q → A q) : hXs B U H := by
  obtain ⟨h1, h2, h3, adK, adV, a, b, c⟩ := h
  exact ⟨h1, h2.narrow hAB, h3.narrow hAB, adK, adV, a.narrow hAB, b, c⟩
