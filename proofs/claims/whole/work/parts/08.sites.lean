/-! SITES: the words that the bodies use, by their places in the list; fields and calls by their numbers in the pools -/
theorem wm_0 : Cond.selects "RoadLinks" ⟨"RoadLinks", "freshRanks", "()LRoadLinks$Ranks;"⟩ ⟨"RoadLinks", "freshRanks", "()LRoadLinks$Ranks;"⟩ ∈ Wd := Wd_mem 0 (by decide +kernel) (by decide +kernel)
theorem wm_1 : Cond.selects "RoadLinks$Matched" ⟨"RoadLinks$Matched", "spread", "(I)V"⟩ ⟨"RoadLinks$Matched", "spread", "(I)V"⟩ ∈ Wd := Wd_mem 1 (by decide +kernel) (by decide +kernel)
theorem wm_2 : Cond.selects "RoadLinks$Ranks" ⟨"RoadLinks$Ranks", "fill", "([ILRoadLinks$Matched;)V"⟩ ⟨"RoadLinks$Ranks", "fill", "([ILRoadLinks$Matched;)V"⟩ ∈ Wd := Wd_mem 2 (by decide +kernel) (by decide +kernel)
theorem wm_3 : Cond.selects "RoadLinks$Ranks" ⟨"RoadLinks$Ranks", "greatestWithin", "([II)I"⟩ ⟨"RoadLinks$Ranks", "greatestWithin", "([II)I"⟩ ∈ Wd := Wd_mem 3 (by decide +kernel) (by decide +kernel)
theorem wm_4 : Cond.selects "RoadLinks" ⟨"RoadLinks", "listed", "(III)I"⟩ ⟨"RoadLinks", "listed", "(III)I"⟩ ∈ Wd := Wd_mem 4 (by decide +kernel) (by decide +kernel)
theorem wm_5 : Cond.selects "RoadLinks$Ranks" ⟨"RoadLinks$Ranks", "isCircuit", "(II)Z"⟩ ⟨"RoadLinks$Ranks", "isCircuit", "(II)Z"⟩ ∈ Wd := Wd_mem 5 (by decide +kernel) (by decide +kernel)
theorem wm_6 : Cond.selects "RoadLinks$Choice" ⟨"RoadLinks$Choice", "leastOption", "(III)I"⟩ ⟨"RoadLinks$Choice", "leastOption", "(III)I"⟩ ∈ Wd := Wd_mem 6 (by decide +kernel) (by decide +kernel)
theorem wm_7 : Cond.selects "RoadLinks" ⟨"RoadLinks", "likewise", "(II)I"⟩ ⟨"RoadLinks", "likewise", "(II)I"⟩ ∈ Wd := Wd_mem 7 (by decide +kernel) (by decide +kernel)
theorem wm_8 : Cond.selects "RoadLinks" ⟨"RoadLinks", "isThere", "(I)Z"⟩ ⟨"RoadLinks", "isThere", "(I)Z"⟩ ∈ Wd := Wd_mem 8 (by decide +kernel) (by decide +kernel)
theorem wm_9 : Cond.selects "RoadLinks$Tape" ⟨"RoadLinks$Tape", "wordFrom", "(I)I"⟩ ⟨"RoadLinks$Tape", "wordFrom", "(I)I"⟩ ∈ Wd := Wd_mem 9 (by decide +kernel) (by decide +kernel)
theorem wm_10 : Cond.selects "RoadLinks$Tape" ⟨"RoadLinks$Tape", "isWord", "(Ljava/lang/String;I)Z"⟩ ⟨"RoadLinks$Tape", "isWord", "(Ljava/lang/String;I)Z"⟩ ∈ Wd := Wd_mem 10 (by decide +kernel) (by decide +kernel)
theorem wm_11 : Cond.selects "RoadLinks$Tape" ⟨"RoadLinks$Tape", "takePosts", "()V"⟩ ⟨"RoadLinks$Tape", "takePosts", "()V"⟩ ∈ Wd := Wd_mem 11 (by decide +kernel) (by decide +kernel)
theorem wm_12 : Cond.selects "RoadLinks$Tape" ⟨"RoadLinks$Tape", "takeNumber", "(I)I"⟩ ⟨"RoadLinks$Tape", "takeNumber", "(I)I"⟩ ∈ Wd := Wd_mem 12 (by decide +kernel) (by decide +kernel)
theorem wm_13 : Cond.selects "RoadLinks$Tape" ⟨"RoadLinks$Tape", "isFigure", "()Z"⟩ ⟨"RoadLinks$Tape", "isFigure", "()Z"⟩ ∈ Wd := Wd_mem 13 (by decide +kernel) (by decide +kernel)
theorem wm_14 : Cond.selects "RoadLinks" ⟨"RoadLinks", "doStatements", "()I"⟩ ⟨"RoadLinks", "doStatements", "()I"⟩ ∈ Wd := Wd_mem 14 (by decide +kernel) (by decide +kernel)
theorem wm_15 : Cond.selects "RoadLinks" ⟨"RoadLinks", "isDone", "()Z"⟩ ⟨"RoadLinks", "isDone", "()Z"⟩ ∈ Wd := Wd_mem 15 (by decide +kernel) (by decide +kernel)
theorem wm_16 : Cond.selects "RoadLinks$Speller" ⟨"RoadLinks$Speller", "write", "(Ljava/lang/String;)V"⟩ ⟨"RoadLinks$Speller", "write", "(Ljava/lang/String;)V"⟩ ∈ Wd := Wd_mem 16 (by decide +kernel) (by decide +kernel)
theorem wm_17 : Cond.selects "RoadLinks$Speller" ⟨"RoadLinks$Speller", "writeSign", "(C)V"⟩ ⟨"RoadLinks$Speller", "writeSign", "(C)V"⟩ ∈ Wd := Wd_mem 17 (by decide +kernel) (by decide +kernel)
theorem wm_18 : Cond.selects "RoadLinks$Speller" ⟨"RoadLinks$Speller", "writeNumber", "(I)V"⟩ ⟨"RoadLinks$Speller", "writeNumber", "(I)V"⟩ ∈ Wd := Wd_mem 18 (by decide +kernel) (by decide +kernel)
theorem wm_19 : Cond.selects "RoadLinks$Speller" ⟨"RoadLinks$Speller", "writeRoads", "(LRoadLinks$Table;)V"⟩ ⟨"RoadLinks$Speller", "writeRoads", "(LRoadLinks$Table;)V"⟩ ∈ Wd := Wd_mem 19 (by decide +kernel) (by decide +kernel)
theorem wm_20 : Cond.selects "RoadLinks$Speller" ⟨"RoadLinks$Speller", "writePostsOf", "(Ljava/lang/String;I)V"⟩ ⟨"RoadLinks$Speller", "writePostsOf", "(Ljava/lang/String;I)V"⟩ ∈ Wd := Wd_mem 20 (by decide +kernel) (by decide +kernel)
theorem wm_21 : Cond.selects "RoadLinks$Speller" ⟨"RoadLinks$Speller", "writeSet", "(I)V"⟩ ⟨"RoadLinks$Speller", "writeSet", "(I)V"⟩ ∈ Wd := Wd_mem 21 (by decide +kernel) (by decide +kernel)
theorem wm_22 : Cond.selects "RoadLinks$Speller" ⟨"RoadLinks$Speller", "writeWeights", "(LRoadLinks$Table;)V"⟩ ⟨"RoadLinks$Speller", "writeWeights", "(LRoadLinks$Table;)V"⟩ ∈ Wd := Wd_mem 22 (by decide +kernel) (by decide +kernel)
theorem wm_23 : Cond.selects "RoadLinks" ⟨"RoadLinks", "countRows", "()I"⟩ ⟨"RoadLinks", "countRows", "()I"⟩ ∈ Wd := Wd_mem 23 (by decide +kernel) (by decide +kernel)
theorem wm_24 : Cond.selects "RoadLinksModel" ⟨"RoadLinksModel", "begins", "(I)V"⟩ ⟨"RoadLinksModel", "begins", "(I)V"⟩ ∈ Wd := Wd_mem 24 (by decide +kernel) (by decide +kernel)
theorem wm_25 : Cond.selects "RoadLinksModel" ⟨"RoadLinksModel", "isPost", "(I)Z"⟩ ⟨"RoadLinksModel", "isPost", "(I)Z"⟩ ∈ Wd := Wd_mem 25 (by decide +kernel) (by decide +kernel)
theorem wm_26 : Cond.selects "RoadLinksModel" ⟨"RoadLinksModel", "isSet", "(I)Z"⟩ ⟨"RoadLinksModel", "isSet", "(I)Z"⟩ ∈ Wd := Wd_mem 26 (by decide +kernel) (by decide +kernel)
theorem wm_27 : Cond.selects "RoadLinksModel" ⟨"RoadLinksModel", "all", "()I"⟩ ⟨"RoadLinksModel", "all", "()I"⟩ ∈ Wd := Wd_mem 27 (by decide +kernel) (by decide +kernel)
theorem wm_28 : Cond.selects "RoadLinksModel" ⟨"RoadLinksModel", "isNumber", "(I)Z"⟩ ⟨"RoadLinksModel", "isNumber", "(I)Z"⟩ ∈ Wd := Wd_mem 28 (by decide +kernel) (by decide +kernel)
theorem wm_29 : Cond.selects "RoadLinksModel" ⟨"RoadLinksModel", "goes", "(I)V"⟩ ⟨"RoadLinksModel", "goes", "(I)V"⟩ ∈ Wd := Wd_mem 29 (by decide +kernel) (by decide +kernel)
theorem wm_30 : Cond.selects "RoadLinksModel" ⟨"RoadLinksModel", "lay", "(I)V"⟩ ⟨"RoadLinksModel", "lay", "(I)V"⟩ ∈ Wd := Wd_mem 30 (by decide +kernel) (by decide +kernel)
theorem wm_31 : Cond.selects "RoadLinksModel" ⟨"RoadLinksModel", "layFree", "(I)V"⟩ ⟨"RoadLinksModel", "layFree", "(I)V"⟩ ∈ Wd := Wd_mem 31 (by decide +kernel) (by decide +kernel)
theorem wm_32 : Cond.selects "RoadLinksModel" ⟨"RoadLinksModel", "layCuts", "()V"⟩ ⟨"RoadLinksModel", "layCuts", "()V"⟩ ∈ Wd := Wd_mem 32 (by decide +kernel) (by decide +kernel)
theorem wm_33 : Cond.selects "RoadLinksModel" ⟨"RoadLinksModel", "openPast", "(I)I"⟩ ⟨"RoadLinksModel", "openPast", "(I)I"⟩ ∈ Wd := Wd_mem 33 (by decide +kernel) (by decide +kernel)
theorem wm_34 : Cond.selects "RoadLinksModel" ⟨"RoadLinksModel", "cutOf", "(I)I"⟩ ⟨"RoadLinksModel", "cutOf", "(I)I"⟩ ∈ Wd := Wd_mem 34 (by decide +kernel) (by decide +kernel)
theorem wm_35 : Cond.selects "RoadLinksModel" ⟨"RoadLinksModel", "meeting", "(II)I"⟩ ⟨"RoadLinksModel", "meeting", "(II)I"⟩ ∈ Wd := Wd_mem 35 (by decide +kernel) (by decide +kernel)
theorem wm_36 : Cond.selects "RoadLinksModel" ⟨"RoadLinksModel", "layRanks", "()V"⟩ ⟨"RoadLinksModel", "layRanks", "()V"⟩ ∈ Wd := Wd_mem 36 (by decide +kernel) (by decide +kernel)
theorem wm_37 : Cond.selects "RoadLinksModel" ⟨"RoadLinksModel", "isPastBase", "(I)Z"⟩ ⟨"RoadLinksModel", "isPastBase", "(I)Z"⟩ ∈ Wd := Wd_mem 37 (by decide +kernel) (by decide +kernel)
theorem wm_38 : Cond.selects "RoadLinksModel" ⟨"RoadLinksModel", "listed", "(III)I"⟩ ⟨"RoadLinksModel", "listed", "(III)I"⟩ ∈ Wd := Wd_mem 38 (by decide +kernel) (by decide +kernel)
theorem wm_39 : Cond.selects "RoadLinksModel" ⟨"RoadLinksModel", "isCircuit", "(I)Z"⟩ ⟨"RoadLinksModel", "isCircuit", "(I)Z"⟩ ∈ Wd := Wd_mem 39 (by decide +kernel) (by decide +kernel)
theorem wm_40 : Cond.selects "RoadLinksModel" ⟨"RoadLinksModel", "shutOf", "(I)I"⟩ ⟨"RoadLinksModel", "shutOf", "(I)I"⟩ ∈ Wd := Wd_mem 40 (by decide +kernel) (by decide +kernel)
theorem wm_41 : Cond.selects "RoadLinksModel" ⟨"RoadLinksModel", "weightOf", "(I)I"⟩ ⟨"RoadLinksModel", "weightOf", "(I)I"⟩ ∈ Wd := Wd_mem 41 (by decide +kernel) (by decide +kernel)
theorem wm_42 : Cond.selects "RoadLinksModel" ⟨"RoadLinksModel", "canHave", "(II)Z"⟩ ⟨"RoadLinksModel", "canHave", "(II)Z"⟩ ∈ Wd := Wd_mem 42 (by decide +kernel) (by decide +kernel)
theorem wm_43 : Cond.selects "RoadLinksModel" ⟨"RoadLinksModel", "canTake", "(II)Z"⟩ ⟨"RoadLinksModel", "canTake", "(II)Z"⟩ ∈ Wd := Wd_mem 43 (by decide +kernel) (by decide +kernel)
theorem wm_44 : Cond.selects "RoadLinksModel" ⟨"RoadLinksModel", "changing", "(II)I"⟩ ⟨"RoadLinksModel", "changing", "(II)I"⟩ ∈ Wd := Wd_mem 44 (by decide +kernel) (by decide +kernel)
theorem wm_45 : Cond.selects "RoadLinksModel" ⟨"RoadLinksModel", "keepsBases", "()V"⟩ ⟨"RoadLinksModel", "keepsBases", "()V"⟩ ∈ Wd := Wd_mem 45 (by decide +kernel) (by decide +kernel)
theorem wm_46 : Cond.selects "RoadLinksModel" ⟨"RoadLinksModel", "areBases", "()Z"⟩ ⟨"RoadLinksModel", "areBases", "()Z"⟩ ∈ Wd := Wd_mem 46 (by decide +kernel) (by decide +kernel)
theorem wm_47 : Cond.selects "RoadLinksModel" ⟨"RoadLinksModel", "reads", "(Z)I"⟩ ⟨"RoadLinksModel", "reads", "(Z)I"⟩ ∈ Wd := Wd_mem 47 (by decide +kernel) (by decide +kernel)
theorem wm_48 : Cond.selects "RoadLinksModel" ⟨"RoadLinksModel", "readStatement", "()Z"⟩ ⟨"RoadLinksModel", "readStatement", "()Z"⟩ ∈ Wd := Wd_mem 48 (by decide +kernel) (by decide +kernel)
theorem wm_49 : Cond.selects "RoadLinksModel" ⟨"RoadLinksModel", "readWord", "()Z"⟩ ⟨"RoadLinksModel", "readWord", "()Z"⟩ ∈ Wd := Wd_mem 49 (by decide +kernel) (by decide +kernel)
theorem wm_50 : Cond.selects "RoadLinksModel" ⟨"RoadLinksModel", "isWordFrom", "(ILjava/lang/String;)Z"⟩ ⟨"RoadLinksModel", "isWordFrom", "(ILjava/lang/String;)Z"⟩ ∈ Wd := Wd_mem 50 (by decide +kernel) (by decide +kernel)
theorem wm_51 : Cond.selects "RoadLinksModel" ⟨"RoadLinksModel", "readSet", "()Z"⟩ ⟨"RoadLinksModel", "readSet", "()Z"⟩ ∈ Wd := Wd_mem 51 (by decide +kernel) (by decide +kernel)
theorem wm_52 : Cond.selects "RoadLinksModel" ⟨"RoadLinksModel", "isHere", "(I)Z"⟩ ⟨"RoadLinksModel", "isHere", "(I)Z"⟩ ∈ Wd := Wd_mem 52 (by decide +kernel) (by decide +kernel)
theorem wm_53 : Cond.selects "RoadLinksModel" ⟨"RoadLinksModel", "readFigure", "()Z"⟩ ⟨"RoadLinksModel", "readFigure", "()Z"⟩ ∈ Wd := Wd_mem 53 (by decide +kernel) (by decide +kernel)
theorem wm_54 : Cond.selects "RoadLinksModel" ⟨"RoadLinksModel", "isFigure", "()Z"⟩ ⟨"RoadLinksModel", "isFigure", "()Z"⟩ ∈ Wd := Wd_mem 54 (by decide +kernel) (by decide +kernel)
theorem wm_55 : Cond.selects "RoadLinksModel" ⟨"RoadLinksModel", "isDone", "()Z"⟩ ⟨"RoadLinksModel", "isDone", "()Z"⟩ ∈ Wd := Wd_mem 55 (by decide +kernel) (by decide +kernel)
theorem wm_56 : Cond.selects "RoadLinksModel" ⟨"RoadLinksModel", "spells", "()V"⟩ ⟨"RoadLinksModel", "spells", "()V"⟩ ∈ Wd := Wd_mem 56 (by decide +kernel) (by decide +kernel)
theorem wm_57 : Cond.selects "RoadLinksModel" ⟨"RoadLinksModel", "writesWord", "(I)V"⟩ ⟨"RoadLinksModel", "writesWord", "(I)V"⟩ ∈ Wd := Wd_mem 57 (by decide +kernel) (by decide +kernel)
theorem wm_58 : Cond.selects "RoadLinksModel" ⟨"RoadLinksModel", "writes", "(I)V"⟩ ⟨"RoadLinksModel", "writes", "(I)V"⟩ ∈ Wd := Wd_mem 58 (by decide +kernel) (by decide +kernel)
theorem wm_59 : Cond.selects "RoadLinksModel" ⟨"RoadLinksModel", "writesNumber", "(I)V"⟩ ⟨"RoadLinksModel", "writesNumber", "(I)V"⟩ ∈ Wd := Wd_mem 59 (by decide +kernel) (by decide +kernel)
theorem wm_61 : Cond.initialized "RoadLinks" ∈ Wd := Wd_mem 61 (by decide +kernel) (by decide +kernel)
theorem wm_62 : Cond.initialized "RoadLinks$Table" ∈ Wd := Wd_mem 62 (by decide +kernel) (by decide +kernel)
theorem wm_63 : Cond.initialized "RoadLinks$Ranks" ∈ Wd := Wd_mem 63 (by decide +kernel) (by decide +kernel)
theorem wm_64 : Cond.initialized "RoadLinks$Matched" ∈ Wd := Wd_mem 64 (by decide +kernel) (by decide +kernel)
theorem wm_65 : Cond.initialized "RoadLinks$Choice" ∈ Wd := Wd_mem 65 (by decide +kernel) (by decide +kernel)
theorem wm_66 : Cond.initialized "RoadLinks$Tape" ∈ Wd := Wd_mem 66 (by decide +kernel) (by decide +kernel)
theorem wm_67 : Cond.initialized "RoadLinks$Speller" ∈ Wd := Wd_mem 67 (by decide +kernel) (by decide +kernel)
theorem wm_68 : Cond.initialized "RoadLinksModel" ∈ Wd := Wd_mem 68 (by decide +kernel) (by decide +kernel)
theorem wm_69 : Cond.initialized "java/lang/Integer" ∈ Wd := Wd_mem 69 (by decide +kernel) (by decide +kernel)
theorem wm_70 : Cond.initialized "java/lang/Math" ∈ Wd := Wd_mem 70 (by decide +kernel) (by decide +kernel)
theorem wm_71 : Cond.initialized "java/lang/System" ∈ Wd := Wd_mem 71 (by decide +kernel) (by decide +kernel)
theorem wm_72 : Cond.initialized "java/lang/String" ∈ Wd := Wd_mem 72 (by decide +kernel) (by decide +kernel)
theorem wm_73 : Cond.initialized "java/lang/StringLatin1" ∈ Wd := Wd_mem 73 (by decide +kernel) (by decide +kernel)
theorem wm_74 : Cond.initialized "jdk/internal/util/Preconditions" ∈ Wd := Wd_mem 74 (by decide +kernel) (by decide +kernel)
theorem wm_90 : Cond.fieldLink "RoadLinks$Table" 9 "RoadLinks$Table" "posts" "I" ∈ Wd := Wd_mem 90 (by decide +kernel) (by decide +kernel)
theorem wm_91 : Cond.fieldLink "RoadLinks$Ranks" 43 "RoadLinks$Table" "posts" "I" ∈ Wd := Wd_mem 91 (by decide +kernel) (by decide +kernel)
theorem wm_92 : Cond.fieldLink "RoadLinks" 60 "RoadLinks$Table" "posts" "I" ∈ Wd := Wd_mem 92 (by decide +kernel) (by decide +kernel)
theorem wm_93 : Cond.fieldLink "RoadLinks$Speller" 33 "RoadLinks$Table" "posts" "I" ∈ Wd := Wd_mem 93 (by decide +kernel) (by decide +kernel)
theorem wm_94 : Cond.fieldLink "RoadLinks$Table" 15 "RoadLinks$Table" "targets" "I" ∈ Wd := Wd_mem 94 (by decide +kernel) (by decide +kernel)
theorem wm_95 : Cond.fieldLink "RoadLinks$Speller" 45 "RoadLinks$Table" "targets" "I" ∈ Wd := Wd_mem 95 (by decide +kernel) (by decide +kernel)
theorem wm_96 : Cond.fieldLink "RoadLinks$Ranks" 50 "RoadLinks$Table" "targets" "I" ∈ Wd := Wd_mem 96 (by decide +kernel) (by decide +kernel)
theorem wm_97 : Cond.fieldLink "RoadLinks" 82 "RoadLinks$Table" "targets" "I" ∈ Wd := Wd_mem 97 (by decide +kernel) (by decide +kernel)
theorem wm_98 : Cond.fieldLink "RoadLinks$Table" 18 "RoadLinks$Table" "sets" "I" ∈ Wd := Wd_mem 98 (by decide +kernel) (by decide +kernel)
theorem wm_99 : Cond.fieldLink "RoadLinks$Speller" 52 "RoadLinks$Table" "sets" "I" ∈ Wd := Wd_mem 99 (by decide +kernel) (by decide +kernel)
theorem wm_100 : Cond.fieldLink "RoadLinks$Ranks" 68 "RoadLinks$Table" "sets" "I" ∈ Wd := Wd_mem 100 (by decide +kernel) (by decide +kernel)
theorem wm_101 : Cond.fieldLink "RoadLinks" 95 "RoadLinks$Table" "sets" "I" ∈ Wd := Wd_mem 101 (by decide +kernel) (by decide +kernel)
theorem wm_102 : Cond.fieldLink "RoadLinks$Table" 21 "RoadLinks$Table" "changes" "I" ∈ Wd := Wd_mem 102 (by decide +kernel) (by decide +kernel)
theorem wm_103 : Cond.fieldLink "RoadLinks$Ranks" 38 "RoadLinks$Table" "changes" "I" ∈ Wd := Wd_mem 103 (by decide +kernel) (by decide +kernel)
theorem wm_104 : Cond.fieldLink "RoadLinks$Speller" 22 "RoadLinks$Table" "changes" "I" ∈ Wd := Wd_mem 104 (by decide +kernel) (by decide +kernel)
theorem wm_105 : Cond.fieldLink "RoadLinks$Table" 24 "RoadLinks$Table" "roads" "[I" ∈ Wd := Wd_mem 105 (by decide +kernel) (by decide +kernel)
theorem wm_106 : Cond.fieldLink "RoadLinks$Ranks" 57 "RoadLinks$Table" "roads" "[I" ∈ Wd := Wd_mem 106 (by decide +kernel) (by decide +kernel)
theorem wm_107 : Cond.fieldLink "RoadLinks$Speller" 65 "RoadLinks$Table" "roads" "[I" ∈ Wd := Wd_mem 107 (by decide +kernel) (by decide +kernel)
theorem wm_108 : Cond.fieldLink "RoadLinks" 72 "RoadLinks$Table" "roads" "[I" ∈ Wd := Wd_mem 108 (by decide +kernel) (by decide +kernel)
theorem wm_109 : Cond.fieldLink "RoadLinks$Table" 28 "RoadLinks$Table" "weights" "[I" ∈ Wd := Wd_mem 109 (by decide +kernel) (by decide +kernel)
theorem wm_110 : Cond.fieldLink "RoadLinks$Speller" 78 "RoadLinks$Table" "weights" "[I" ∈ Wd := Wd_mem 110 (by decide +kernel) (by decide +kernel)
theorem wm_111 : Cond.fieldLink "RoadLinks" 88 "RoadLinks$Table" "weights" "[I" ∈ Wd := Wd_mem 111 (by decide +kernel) (by decide +kernel)
theorem wm_112 : Cond.fieldLink "RoadLinks$Table" 31 "RoadLinks$Table" "family" "[I" ∈ Wd := Wd_mem 112 (by decide +kernel) (by decide +kernel)
theorem wm_113 : Cond.fieldLink "RoadLinks$Speller" 55 "RoadLinks$Table" "family" "[I" ∈ Wd := Wd_mem 113 (by decide +kernel) (by decide +kernel)
theorem wm_114 : Cond.fieldLink "RoadLinks$Ranks" 71 "RoadLinks$Table" "family" "[I" ∈ Wd := Wd_mem 114 (by decide +kernel) (by decide +kernel)
theorem wm_115 : Cond.fieldLink "RoadLinks" 104 "RoadLinks$Table" "family" "[I" ∈ Wd := Wd_mem 115 (by decide +kernel) (by decide +kernel)
theorem wm_144 : Cond.fieldLink "RoadLinks$Matched" 11 "RoadLinks$Matched" "bits" "[J" ∈ Wd := Wd_mem 144 (by decide +kernel) (by decide +kernel)
theorem wm_145 : Cond.fieldLink "RoadLinks$Matched" 15 "RoadLinks$Matched" "before" "[J" ∈ Wd := Wd_mem 145 (by decide +kernel) (by decide +kernel)
theorem wm_152 : Cond.fieldLink "RoadLinks$Ranks" 12 "RoadLinks$Ranks" "matched" "LRoadLinks$Matched;" ∈ Wd := Wd_mem 152 (by decide +kernel) (by decide +kernel)
theorem wm_153 : Cond.fieldLink "RoadLinks$Ranks" 18 "RoadLinks$Ranks" "trial" "LRoadLinks$Matched;" ∈ Wd := Wd_mem 153 (by decide +kernel) (by decide +kernel)
theorem wm_154 : Cond.fieldLink "RoadLinks$Ranks" 21 "RoadLinks$Ranks" "byTurned" "[I" ∈ Wd := Wd_mem 154 (by decide +kernel) (by decide +kernel)
theorem wm_155 : Cond.fieldLink "RoadLinks$Ranks" 25 "RoadLinks$Ranks" "byFamily" "[I" ∈ Wd := Wd_mem 155 (by decide +kernel) (by decide +kernel)
theorem wm_156 : Cond.fieldLink "RoadLinks$Ranks" 28 "RoadLinks$Ranks" "posts" "I" ∈ Wd := Wd_mem 156 (by decide +kernel) (by decide +kernel)
theorem wm_157 : Cond.fieldLink "RoadLinks$Ranks" 32 "RoadLinks$Ranks" "all" "I" ∈ Wd := Wd_mem 157 (by decide +kernel) (by decide +kernel)
theorem wm_158 : Cond.fieldLink "RoadLinks$Ranks" 35 "RoadLinks$Ranks" "madeAt" "I" ∈ Wd := Wd_mem 158 (by decide +kernel) (by decide +kernel)
theorem wm_180 : Cond.fieldLink "RoadLinks$Choice" 9 "RoadLinks$Choice" "items" "I" ∈ Wd := Wd_mem 180 (by decide +kernel) (by decide +kernel)
theorem wm_181 : Cond.fieldLink "RoadLinks" 186 "RoadLinks$Choice" "items" "I" ∈ Wd := Wd_mem 181 (by decide +kernel) (by decide +kernel)
theorem wm_182 : Cond.fieldLink "RoadLinks$Choice" 15 "RoadLinks$Choice" "chosen" "[I" ∈ Wd := Wd_mem 182 (by decide +kernel) (by decide +kernel)
theorem wm_183 : Cond.fieldLink "RoadLinks" 189 "RoadLinks$Choice" "chosen" "[I" ∈ Wd := Wd_mem 183 (by decide +kernel) (by decide +kernel)
theorem wm_184 : Cond.fieldLink "RoadLinks$Choice" 19 "RoadLinks$Choice" "asked" "[I" ∈ Wd := Wd_mem 184 (by decide +kernel) (by decide +kernel)
theorem wm_185 : Cond.fieldLink "RoadLinks$Choice" 22 "RoadLinks$Choice" "ends" "[Z" ∈ Wd := Wd_mem 185 (by decide +kernel) (by decide +kernel)
theorem wm_204 : Cond.fieldLink "RoadLinks$Tape" 9 "RoadLinks$Tape" "bytes" "[C" ∈ Wd := Wd_mem 204 (by decide +kernel) (by decide +kernel)
theorem wm_205 : Cond.fieldLink "RoadLinks" 234 "RoadLinks$Tape" "bytes" "[C" ∈ Wd := Wd_mem 205 (by decide +kernel) (by decide +kernel)
theorem wm_206 : Cond.fieldLink "RoadLinks$Tape" 15 "RoadLinks$Tape" "length" "I" ∈ Wd := Wd_mem 206 (by decide +kernel) (by decide +kernel)
theorem wm_207 : Cond.fieldLink "RoadLinks" 231 "RoadLinks$Tape" "length" "I" ∈ Wd := Wd_mem 207 (by decide +kernel) (by decide +kernel)
theorem wm_208 : Cond.fieldLink "RoadLinks$Tape" 19 "RoadLinks$Tape" "word" "I" ∈ Wd := Wd_mem 208 (by decide +kernel) (by decide +kernel)
theorem wm_209 : Cond.fieldLink "RoadLinks" 278 "RoadLinks$Tape" "word" "I" ∈ Wd := Wd_mem 209 (by decide +kernel) (by decide +kernel)
theorem wm_210 : Cond.fieldLink "RoadLinks$Tape" 22 "RoadLinks$Tape" "first" "I" ∈ Wd := Wd_mem 210 (by decide +kernel) (by decide +kernel)
theorem wm_211 : Cond.fieldLink "RoadLinks" 281 "RoadLinks$Tape" "first" "I" ∈ Wd := Wd_mem 211 (by decide +kernel) (by decide +kernel)
theorem wm_212 : Cond.fieldLink "RoadLinks$Tape" 25 "RoadLinks$Tape" "second" "I" ∈ Wd := Wd_mem 212 (by decide +kernel) (by decide +kernel)
theorem wm_213 : Cond.fieldLink "RoadLinks" 286 "RoadLinks$Tape" "second" "I" ∈ Wd := Wd_mem 213 (by decide +kernel) (by decide +kernel)
theorem wm_214 : Cond.fieldLink "RoadLinks$Tape" 28 "RoadLinks$Tape" "told" "I" ∈ Wd := Wd_mem 214 (by decide +kernel) (by decide +kernel)
theorem wm_215 : Cond.fieldLink "RoadLinks" 294 "RoadLinks$Tape" "told" "I" ∈ Wd := Wd_mem 215 (by decide +kernel) (by decide +kernel)
theorem wm_216 : Cond.fieldLink "RoadLinks$Tape" 31 "RoadLinks$Tape" "at" "I" ∈ Wd := Wd_mem 216 (by decide +kernel) (by decide +kernel)
theorem wm_217 : Cond.fieldLink "RoadLinks$Tape" 34 "RoadLinks$Tape" "fault" "I" ∈ Wd := Wd_mem 217 (by decide +kernel) (by decide +kernel)
theorem wm_242 : Cond.fieldLink "RoadLinks$Speller" 9 "RoadLinks$Speller" "text" "[C" ∈ Wd := Wd_mem 242 (by decide +kernel) (by decide +kernel)
theorem wm_243 : Cond.fieldLink "RoadLinks" 249 "RoadLinks$Speller" "text" "[C" ∈ Wd := Wd_mem 243 (by decide +kernel) (by decide +kernel)
theorem wm_244 : Cond.fieldLink "RoadLinks$Speller" 15 "RoadLinks$Speller" "length" "I" ∈ Wd := Wd_mem 244 (by decide +kernel) (by decide +kernel)
theorem wm_245 : Cond.fieldLink "RoadLinks" 248 "RoadLinks$Speller" "length" "I" ∈ Wd := Wd_mem 245 (by decide +kernel) (by decide +kernel)
theorem wm_246 : Cond.fieldLink "RoadLinks$Speller" 19 "RoadLinks$Speller" "madeAt" "I" ∈ Wd := Wd_mem 246 (by decide +kernel) (by decide +kernel)
theorem wm_254 : Cond.fieldLink "RoadLinks" 10 "RoadLinks" "table" "LRoadLinks$Table;" ∈ Wd := Wd_mem 254 (by decide +kernel) (by decide +kernel)
theorem wm_255 : Cond.fieldLink "RoadLinks" 16 "RoadLinks" "kept" "LRoadLinks$Table;" ∈ Wd := Wd_mem 255 (by decide +kernel) (by decide +kernel)
theorem wm_256 : Cond.fieldLink "RoadLinks" 19 "RoadLinks" "isKept" "Z" ∈ Wd := Wd_mem 256 (by decide +kernel) (by decide +kernel)
theorem wm_257 : Cond.fieldLink "RoadLinks" 26 "RoadLinks" "ranks" "LRoadLinks$Ranks;" ∈ Wd := Wd_mem 257 (by decide +kernel) (by decide +kernel)
theorem wm_258 : Cond.fieldLink "RoadLinks" 33 "RoadLinks" "choice" "LRoadLinks$Choice;" ∈ Wd := Wd_mem 258 (by decide +kernel) (by decide +kernel)
theorem wm_259 : Cond.fieldLink "RoadLinks" 39 "RoadLinks" "rows" "[[I" ∈ Wd := Wd_mem 259 (by decide +kernel) (by decide +kernel)
theorem wm_260 : Cond.fieldLink "RoadLinks" 42 "RoadLinks" "sizes" "[I" ∈ Wd := Wd_mem 260 (by decide +kernel) (by decide +kernel)
theorem wm_261 : Cond.fieldLink "RoadLinks" 49 "RoadLinks" "tape" "LRoadLinks$Tape;" ∈ Wd := Wd_mem 261 (by decide +kernel) (by decide +kernel)
theorem wm_262 : Cond.fieldLink "RoadLinks" 56 "RoadLinks" "speller" "LRoadLinks$Speller;" ∈ Wd := Wd_mem 262 (by decide +kernel) (by decide +kernel)
theorem wm_283 : Cond.instanceMethod ⟨"RoadLinks", "posts", "(I)I"⟩ ∈ Wd := Wd_mem 283 (by decide +kernel) (by decide +kernel)
theorem wm_284 : Cond.selects "RoadLinks" ⟨"RoadLinks", "posts", "(I)I"⟩ ⟨"RoadLinks", "posts", "(I)I"⟩ ∈ Wd := Wd_mem 284 (by decide +kernel) (by decide +kernel)
theorem wm_285 : Cond.code ⟨"RoadLinks", "posts", "(I)I"⟩ prog_1_method_2_code 3 (Option.some FieldType.int) ∈ Wd := Wd_mem 285 (by decide +kernel) (by decide +kernel)
theorem wm_286 : Cond.methodLink "RoadLinks" 64 ⟨"RoadLinks$Table", "begin", "(I)V"⟩ ∈ Wd := Wd_mem 286 (by decide +kernel) (by decide +kernel)
theorem wm_287 : Cond.instanceMethod ⟨"RoadLinks$Table", "begin", "(I)V"⟩ ∈ Wd := Wd_mem 287 (by decide +kernel) (by decide +kernel)
theorem wm_288 : Cond.selects "RoadLinks$Table" ⟨"RoadLinks$Table", "begin", "(I)V"⟩ ⟨"RoadLinks$Table", "begin", "(I)V"⟩ ∈ Wd := Wd_mem 288 (by decide +kernel) (by decide +kernel)
theorem wm_289 : Cond.code ⟨"RoadLinks$Table", "begin", "(I)V"⟩ prog_6_method_6_code 3 (Option.none : Option FieldType) ∈ Wd := Wd_mem 289 (by decide +kernel) (by decide +kernel)
theorem wm_291 : Cond.instanceMethod ⟨"RoadLinks", "road", "(III)I"⟩ ∈ Wd := Wd_mem 291 (by decide +kernel) (by decide +kernel)
theorem wm_292 : Cond.selects "RoadLinks" ⟨"RoadLinks", "road", "(III)I"⟩ ⟨"RoadLinks", "road", "(III)I"⟩ ∈ Wd := Wd_mem 292 (by decide +kernel) (by decide +kernel)
theorem wm_293 : Cond.code ⟨"RoadLinks", "road", "(III)I"⟩ prog_1_method_3_code 5 (Option.some FieldType.int) ∈ Wd := Wd_mem 293 (by decide +kernel) (by decide +kernel)
theorem wm_294 : Cond.methodLink "RoadLinks" 68 ⟨"RoadLinks$Table", "isPost", "(I)Z"⟩ ∈ Wd := Wd_mem 294 (by decide +kernel) (by decide +kernel)
theorem wm_295 : Cond.instanceMethod ⟨"RoadLinks$Table", "isPost", "(I)Z"⟩ ∈ Wd := Wd_mem 295 (by decide +kernel) (by decide +kernel)
theorem wm_296 : Cond.selects "RoadLinks$Table" ⟨"RoadLinks$Table", "isPost", "(I)Z"⟩ ⟨"RoadLinks$Table", "isPost", "(I)Z"⟩ ∈ Wd := Wd_mem 296 (by decide +kernel) (by decide +kernel)
theorem wm_297 : Cond.code ⟨"RoadLinks$Table", "isPost", "(I)Z"⟩ prog_6_method_3_code 2 (Option.some FieldType.boolean) ∈ Wd := Wd_mem 297 (by decide +kernel) (by decide +kernel)
theorem wm_298 : Cond.methodLink "RoadLinks" 75 ⟨"RoadLinks$Table", "lay", "(IIZ)V"⟩ ∈ Wd := Wd_mem 298 (by decide +kernel) (by decide +kernel)
theorem wm_299 : Cond.instanceMethod ⟨"RoadLinks$Table", "lay", "(IIZ)V"⟩ ∈ Wd := Wd_mem 299 (by decide +kernel) (by decide +kernel)
theorem wm_300 : Cond.selects "RoadLinks$Table" ⟨"RoadLinks$Table", "lay", "(IIZ)V"⟩ ⟨"RoadLinks$Table", "lay", "(IIZ)V"⟩ ∈ Wd := Wd_mem 300 (by decide +kernel) (by decide +kernel)
theorem wm_301 : Cond.code ⟨"RoadLinks$Table", "lay", "(IIZ)V"⟩ prog_6_method_7_code 4 (Option.none : Option FieldType) ∈ Wd := Wd_mem 301 (by decide +kernel) (by decide +kernel)
theorem wm_307 : Cond.instanceMethod ⟨"RoadLinks", "targets", "(I)I"⟩ ∈ Wd := Wd_mem 307 (by decide +kernel) (by decide +kernel)
theorem wm_308 : Cond.selects "RoadLinks" ⟨"RoadLinks", "targets", "(I)I"⟩ ⟨"RoadLinks", "targets", "(I)I"⟩ ∈ Wd := Wd_mem 308 (by decide +kernel) (by decide +kernel)
theorem wm_309 : Cond.code ⟨"RoadLinks", "targets", "(I)I"⟩ prog_1_method_5_code 3 (Option.some FieldType.int) ∈ Wd := Wd_mem 309 (by decide +kernel) (by decide +kernel)
theorem wm_310 : Cond.methodLink "RoadLinks" 79 ⟨"RoadLinks$Table", "isSet", "(I)Z"⟩ ∈ Wd := Wd_mem 310 (by decide +kernel) (by decide +kernel)
theorem wm_311 : Cond.instanceMethod ⟨"RoadLinks$Table", "isSet", "(I)Z"⟩ ∈ Wd := Wd_mem 311 (by decide +kernel) (by decide +kernel)
theorem wm_312 : Cond.selects "RoadLinks$Table" ⟨"RoadLinks$Table", "isSet", "(I)Z"⟩ ⟨"RoadLinks$Table", "isSet", "(I)Z"⟩ ∈ Wd := Wd_mem 312 (by decide +kernel) (by decide +kernel)
theorem wm_313 : Cond.code ⟨"RoadLinks$Table", "isSet", "(I)Z"⟩ prog_6_method_4_code 2 (Option.some FieldType.boolean) ∈ Wd := Wd_mem 313 (by decide +kernel) (by decide +kernel)
theorem wm_314 : Cond.methodLink "RoadLinks$Table" 34 ⟨"RoadLinks$Table", "all", "()I"⟩ ∈ Wd := Wd_mem 314 (by decide +kernel) (by decide +kernel)
theorem wm_315 : Cond.instanceMethod ⟨"RoadLinks$Table", "all", "()I"⟩ ∈ Wd := Wd_mem 315 (by decide +kernel) (by decide +kernel)
theorem wm_316 : Cond.selects "RoadLinks$Table" ⟨"RoadLinks$Table", "all", "()I"⟩ ⟨"RoadLinks$Table", "all", "()I"⟩ ∈ Wd := Wd_mem 316 (by decide +kernel) (by decide +kernel)
theorem wm_317 : Cond.code ⟨"RoadLinks$Table", "all", "()I"⟩ prog_6_method_2_code 1 (Option.some FieldType.int) ∈ Wd := Wd_mem 317 (by decide +kernel) (by decide +kernel)
theorem wm_318 : Cond.methodLink "RoadLinks" 85 ⟨"RoadLinks$Table", "aim", "(I)V"⟩ ∈ Wd := Wd_mem 318 (by decide +kernel) (by decide +kernel)
theorem wm_319 : Cond.instanceMethod ⟨"RoadLinks$Table", "aim", "(I)V"⟩ ∈ Wd := Wd_mem 319 (by decide +kernel) (by decide +kernel)
theorem wm_320 : Cond.selects "RoadLinks$Table" ⟨"RoadLinks$Table", "aim", "(I)V"⟩ ⟨"RoadLinks$Table", "aim", "(I)V"⟩ ∈ Wd := Wd_mem 320 (by decide +kernel) (by decide +kernel)
theorem wm_321 : Cond.code ⟨"RoadLinks$Table", "aim", "(I)V"⟩ prog_6_method_8_code 2 (Option.none : Option FieldType) ∈ Wd := Wd_mem 321 (by decide +kernel) (by decide +kernel)
theorem wm_323 : Cond.instanceMethod ⟨"RoadLinks", "weigh", "(II)I"⟩ ∈ Wd := Wd_mem 323 (by decide +kernel) (by decide +kernel)
theorem wm_324 : Cond.selects "RoadLinks" ⟨"RoadLinks", "weigh", "(II)I"⟩ ⟨"RoadLinks", "weigh", "(II)I"⟩ ∈ Wd := Wd_mem 324 (by decide +kernel) (by decide +kernel)
theorem wm_325 : Cond.code ⟨"RoadLinks", "weigh", "(II)I"⟩ prog_1_method_6_code 4 (Option.some FieldType.int) ∈ Wd := Wd_mem 325 (by decide +kernel) (by decide +kernel)
theorem wm_326 : Cond.methodLink "RoadLinks" 91 ⟨"RoadLinks$Table", "load", "(II)V"⟩ ∈ Wd := Wd_mem 326 (by decide +kernel) (by decide +kernel)
theorem wm_327 : Cond.instanceMethod ⟨"RoadLinks$Table", "load", "(II)V"⟩ ∈ Wd := Wd_mem 327 (by decide +kernel) (by decide +kernel)
theorem wm_328 : Cond.selects "RoadLinks$Table" ⟨"RoadLinks$Table", "load", "(II)V"⟩ ⟨"RoadLinks$Table", "load", "(II)V"⟩ ∈ Wd := Wd_mem 328 (by decide +kernel) (by decide +kernel)
theorem wm_329 : Cond.code ⟨"RoadLinks$Table", "load", "(II)V"⟩ prog_6_method_9_code 3 (Option.none : Option FieldType) ∈ Wd := Wd_mem 329 (by decide +kernel) (by decide +kernel)
theorem wm_331 : Cond.instanceMethod ⟨"RoadLinks", "add", "(I)I"⟩ ∈ Wd := Wd_mem 331 (by decide +kernel) (by decide +kernel)
theorem wm_332 : Cond.selects "RoadLinks" ⟨"RoadLinks", "add", "(I)I"⟩ ⟨"RoadLinks", "add", "(I)I"⟩ ∈ Wd := Wd_mem 332 (by decide +kernel) (by decide +kernel)
theorem wm_333 : Cond.code ⟨"RoadLinks", "add", "(I)I"⟩ prog_1_method_7_code 2 (Option.some FieldType.int) ∈ Wd := Wd_mem 333 (by decide +kernel) (by decide +kernel)
theorem wm_334 : Cond.methodLink "RoadLinks" 98 ⟨"RoadLinks$Table", "join", "(I)V"⟩ ∈ Wd := Wd_mem 334 (by decide +kernel) (by decide +kernel)
theorem wm_335 : Cond.instanceMethod ⟨"RoadLinks$Table", "join", "(I)V"⟩ ∈ Wd := Wd_mem 335 (by decide +kernel) (by decide +kernel)
theorem wm_336 : Cond.selects "RoadLinks$Table" ⟨"RoadLinks$Table", "join", "(I)V"⟩ ⟨"RoadLinks$Table", "join", "(I)V"⟩ ∈ Wd := Wd_mem 336 (by decide +kernel) (by decide +kernel)
theorem wm_337 : Cond.code ⟨"RoadLinks$Table", "join", "(I)V"⟩ prog_6_method_10_code 2 (Option.none : Option FieldType) ∈ Wd := Wd_mem 337 (by decide +kernel) (by decide +kernel)
theorem wm_342 : Cond.methodLink "RoadLinks" 101 ⟨"RoadLinks$Table", "isNumber", "(I)Z"⟩ ∈ Wd := Wd_mem 342 (by decide +kernel) (by decide +kernel)
theorem wm_343 : Cond.instanceMethod ⟨"RoadLinks$Table", "isNumber", "(I)Z"⟩ ∈ Wd := Wd_mem 343 (by decide +kernel) (by decide +kernel)
theorem wm_344 : Cond.selects "RoadLinks$Table" ⟨"RoadLinks$Table", "isNumber", "(I)Z"⟩ ⟨"RoadLinks$Table", "isNumber", "(I)Z"⟩ ∈ Wd := Wd_mem 344 (by decide +kernel) (by decide +kernel)
theorem wm_345 : Cond.code ⟨"RoadLinks$Table", "isNumber", "(I)Z"⟩ prog_6_method_5_code 2 (Option.some FieldType.boolean) ∈ Wd := Wd_mem 345 (by decide +kernel) (by decide +kernel)
theorem wm_346 : Cond.methodLink "RoadLinks" 107 ⟨"RoadLinks$Table", "replace", "(II)V"⟩ ∈ Wd := Wd_mem 346 (by decide +kernel) (by decide +kernel)
theorem wm_347 : Cond.instanceMethod ⟨"RoadLinks$Table", "replace", "(II)V"⟩ ∈ Wd := Wd_mem 347 (by decide +kernel) (by decide +kernel)
theorem wm_348 : Cond.selects "RoadLinks$Table" ⟨"RoadLinks$Table", "replace", "(II)V"⟩ ⟨"RoadLinks$Table", "replace", "(II)V"⟩ ∈ Wd := Wd_mem 348 (by decide +kernel) (by decide +kernel)
theorem wm_349 : Cond.code ⟨"RoadLinks$Table", "replace", "(II)V"⟩ prog_6_method_11_code 3 (Option.none : Option FieldType) ∈ Wd := Wd_mem 349 (by decide +kernel) (by decide +kernel)
theorem wm_354 : Cond.methodLink "RoadLinks" 110 ⟨"RoadLinks$Table", "remove", "(I)V"⟩ ∈ Wd := Wd_mem 354 (by decide +kernel) (by decide +kernel)
theorem wm_355 : Cond.instanceMethod ⟨"RoadLinks$Table", "remove", "(I)V"⟩ ∈ Wd := Wd_mem 355 (by decide +kernel) (by decide +kernel)
theorem wm_356 : Cond.selects "RoadLinks$Table" ⟨"RoadLinks$Table", "remove", "(I)V"⟩ ⟨"RoadLinks$Table", "remove", "(I)V"⟩ ∈ Wd := Wd_mem 356 (by decide +kernel) (by decide +kernel)
theorem wm_357 : Cond.code ⟨"RoadLinks$Table", "remove", "(I)V"⟩ prog_6_method_12_code 3 (Option.none : Option FieldType) ∈ Wd := Wd_mem 357 (by decide +kernel) (by decide +kernel)
theorem wm_366 : Cond.methodLink "RoadLinks" 113 ⟨"RoadLinks", "isSide", "(I)Z"⟩ ∈ Wd := Wd_mem 366 (by decide +kernel) (by decide +kernel)
theorem wm_367 : Cond.static ⟨"RoadLinks", "isSide", "(I)Z"⟩ ∈ Wd := Wd_mem 367 (by decide +kernel) (by decide +kernel)
theorem wm_368 : Cond.code ⟨"RoadLinks", "isSide", "(I)Z"⟩ prog_1_method_48_code 1 (Option.some FieldType.boolean) ∈ Wd := Wd_mem 368 (by decide +kernel) (by decide +kernel)
theorem wm_369 : Cond.methodLink "RoadLinks" 116 ⟨"RoadLinks", "freshRanks", "()LRoadLinks$Ranks;"⟩ ∈ Wd := Wd_mem 369 (by decide +kernel) (by decide +kernel)
theorem wm_371 : Cond.instanceMethod ⟨"RoadLinks", "freshRanks", "()LRoadLinks$Ranks;"⟩ ∈ Wd := Wd_mem 371 (by decide +kernel) (by decide +kernel)
theorem wm_372 : Cond.code ⟨"RoadLinks", "freshRanks", "()LRoadLinks$Ranks;"⟩ prog_1_method_53_code 1 (Option.some (FieldType.object "RoadLinks$Ranks")) ∈ Wd := Wd_mem 372 (by decide +kernel) (by decide +kernel)
theorem wm_373 : Cond.methodLink "RoadLinks" 258 ⟨"RoadLinks$Ranks", "refresh", "(LRoadLinks$Table;)V"⟩ ∈ Wd := Wd_mem 373 (by decide +kernel) (by decide +kernel)
theorem wm_374 : Cond.instanceMethod ⟨"RoadLinks$Ranks", "refresh", "(LRoadLinks$Table;)V"⟩ ∈ Wd := Wd_mem 374 (by decide +kernel) (by decide +kernel)
theorem wm_375 : Cond.selects "RoadLinks$Ranks" ⟨"RoadLinks$Ranks", "refresh", "(LRoadLinks$Table;)V"⟩ ⟨"RoadLinks$Ranks", "refresh", "(LRoadLinks$Table;)V"⟩ ∈ Wd := Wd_mem 375 (by decide +kernel) (by decide +kernel)
theorem wm_376 : Cond.code ⟨"RoadLinks$Ranks", "refresh", "(LRoadLinks$Table;)V"⟩ prog_4_method_2_code 3 (Option.none : Option FieldType) ∈ Wd := Wd_mem 376 (by decide +kernel) (by decide +kernel)
theorem wm_377 : Cond.methodLink "RoadLinks$Ranks" 44 ⟨"RoadLinks$Table", "all", "()I"⟩ ∈ Wd := Wd_mem 377 (by decide +kernel) (by decide +kernel)
theorem wm_378 : Cond.methodLink "RoadLinks$Ranks" 47 ⟨"RoadLinks$Matched", "begin", "()V"⟩ ∈ Wd := Wd_mem 378 (by decide +kernel) (by decide +kernel)
theorem wm_379 : Cond.instanceMethod ⟨"RoadLinks$Matched", "begin", "()V"⟩ ∈ Wd := Wd_mem 379 (by decide +kernel) (by decide +kernel)
theorem wm_380 : Cond.selects "RoadLinks$Matched" ⟨"RoadLinks$Matched", "begin", "()V"⟩ ⟨"RoadLinks$Matched", "begin", "()V"⟩ ∈ Wd := Wd_mem 380 (by decide +kernel) (by decide +kernel)
theorem wm_381 : Cond.code ⟨"RoadLinks$Matched", "begin", "()V"⟩ prog_3_method_2_code 2 (Option.none : Option FieldType) ∈ Wd := Wd_mem 381 (by decide +kernel) (by decide +kernel)
theorem wm_383 : Cond.static ⟨"RoadLinks", "has", "(II)Z"⟩ ∈ Wd := Wd_mem 383 (by decide +kernel) (by decide +kernel)
theorem wm_384 : Cond.code ⟨"RoadLinks", "has", "(II)Z"⟩ prog_1_method_47_code 2 (Option.some FieldType.boolean) ∈ Wd := Wd_mem 384 (by decide +kernel) (by decide +kernel)
theorem wm_385 : Cond.methodLink "RoadLinks$Ranks" 60 ⟨"RoadLinks$Matched", "join", "(I)V"⟩ ∈ Wd := Wd_mem 385 (by decide +kernel) (by decide +kernel)
theorem wm_386 : Cond.instanceMethod ⟨"RoadLinks$Matched", "join", "(I)V"⟩ ∈ Wd := Wd_mem 386 (by decide +kernel) (by decide +kernel)
theorem wm_387 : Cond.selects "RoadLinks$Matched" ⟨"RoadLinks$Matched", "join", "(I)V"⟩ ⟨"RoadLinks$Matched", "join", "(I)V"⟩ ∈ Wd := Wd_mem 387 (by decide +kernel) (by decide +kernel)
theorem wm_388 : Cond.code ⟨"RoadLinks$Matched", "join", "(I)V"⟩ prog_3_method_3_code 3 (Option.none : Option FieldType) ∈ Wd := Wd_mem 388 (by decide +kernel) (by decide +kernel)
theorem wm_390 : Cond.methodLink "RoadLinks$Matched" 22 ⟨"RoadLinks$Matched", "spread", "(I)V"⟩ ∈ Wd := Wd_mem 390 (by decide +kernel) (by decide +kernel)
theorem wm_392 : Cond.instanceMethod ⟨"RoadLinks$Matched", "spread", "(I)V"⟩ ∈ Wd := Wd_mem 392 (by decide +kernel) (by decide +kernel)
theorem wm_393 : Cond.code ⟨"RoadLinks$Matched", "spread", "(I)V"⟩ prog_3_method_4_code 4 (Option.none : Option FieldType) ∈ Wd := Wd_mem 393 (by decide +kernel) (by decide +kernel)
theorem wm_396 : Cond.methodLink "RoadLinks$Ranks" 64 ⟨"RoadLinks$Ranks", "fill", "([ILRoadLinks$Matched;)V"⟩ ∈ Wd := Wd_mem 396 (by decide +kernel) (by decide +kernel)
theorem wm_398 : Cond.instanceMethod ⟨"RoadLinks$Ranks", "fill", "([ILRoadLinks$Matched;)V"⟩ ∈ Wd := Wd_mem 398 (by decide +kernel) (by decide +kernel)
theorem wm_399 : Cond.code ⟨"RoadLinks$Ranks", "fill", "([ILRoadLinks$Matched;)V"⟩ prog_4_method_3_code 4 (Option.none : Option FieldType) ∈ Wd := Wd_mem 399 (by decide +kernel) (by decide +kernel)
theorem wm_400 : Cond.methodLink "RoadLinks$Ranks" 74 ⟨"RoadLinks$Matched", "holds", "(I)Z"⟩ ∈ Wd := Wd_mem 400 (by decide +kernel) (by decide +kernel)
theorem wm_401 : Cond.instanceMethod ⟨"RoadLinks$Matched", "holds", "(I)Z"⟩ ∈ Wd := Wd_mem 401 (by decide +kernel) (by decide +kernel)
theorem wm_402 : Cond.selects "RoadLinks$Matched" ⟨"RoadLinks$Matched", "holds", "(I)Z"⟩ ⟨"RoadLinks$Matched", "holds", "(I)Z"⟩ ∈ Wd := Wd_mem 402 (by decide +kernel) (by decide +kernel)
theorem wm_403 : Cond.code ⟨"RoadLinks$Matched", "holds", "(I)Z"⟩ prog_3_method_5_code 2 (Option.some FieldType.boolean) ∈ Wd := Wd_mem 403 (by decide +kernel) (by decide +kernel)
theorem wm_404 : Cond.methodLink "RoadLinks$Ranks" 78 ⟨"java/lang/Integer", "bitCount", "(I)I"⟩ ∈ Wd := Wd_mem 404 (by decide +kernel) (by decide +kernel)
theorem wm_405 : Cond.static ⟨"java/lang/Integer", "bitCount", "(I)I"⟩ ∈ Wd := Wd_mem 405 (by decide +kernel) (by decide +kernel)
theorem wm_406 : Cond.code ⟨"java/lang/Integer", "bitCount", "(I)I"⟩ prog_10_method_49_code 1 (Option.some FieldType.int) ∈ Wd := Wd_mem 406 (by decide +kernel) (by decide +kernel)
theorem wm_407 : Cond.constant "java/lang/Integer" 265 (1431655765 : Int32) ∈ Wd := Wd_mem 407 (by decide +kernel) (by decide +kernel)
theorem wm_408 : Cond.constant "java/lang/Integer" 266 (858993459 : Int32) ∈ Wd := Wd_mem 408 (by decide +kernel) (by decide +kernel)
theorem wm_409 : Cond.constant "java/lang/Integer" 267 (252645135 : Int32) ∈ Wd := Wd_mem 409 (by decide +kernel) (by decide +kernel)
theorem wm_410 : Cond.methodLink "RoadLinks$Ranks" 84 ⟨"RoadLinks$Ranks", "greatestWithin", "([II)I"⟩ ∈ Wd := Wd_mem 410 (by decide +kernel) (by decide +kernel)
theorem wm_412 : Cond.instanceMethod ⟨"RoadLinks$Ranks", "greatestWithin", "([II)I"⟩ ∈ Wd := Wd_mem 412 (by decide +kernel) (by decide +kernel)
theorem wm_413 : Cond.code ⟨"RoadLinks$Ranks", "greatestWithin", "([II)I"⟩ prog_4_method_4_code 5 (Option.some FieldType.int) ∈ Wd := Wd_mem 413 (by decide +kernel) (by decide +kernel)
theorem wm_414 : Cond.methodLink "RoadLinks$Ranks" 88 ⟨"java/lang/Math", "max", "(II)I"⟩ ∈ Wd := Wd_mem 414 (by decide +kernel) (by decide +kernel)
theorem wm_415 : Cond.static ⟨"java/lang/Math", "max", "(II)I"⟩ ∈ Wd := Wd_mem 415 (by decide +kernel) (by decide +kernel)
theorem wm_416 : Cond.code ⟨"java/lang/Math", "max", "(II)I"⟩ prog_11_method_65_code 2 (Option.some FieldType.int) ∈ Wd := Wd_mem 416 (by decide +kernel) (by decide +kernel)
theorem wm_417 : Cond.methodLink "RoadLinks" 120 ⟨"RoadLinks$Ranks", "of", "(II)I"⟩ ∈ Wd := Wd_mem 417 (by decide +kernel) (by decide +kernel)
theorem wm_418 : Cond.instanceMethod ⟨"RoadLinks$Ranks", "of", "(II)I"⟩ ∈ Wd := Wd_mem 418 (by decide +kernel) (by decide +kernel)
theorem wm_419 : Cond.selects "RoadLinks$Ranks" ⟨"RoadLinks$Ranks", "of", "(II)I"⟩ ⟨"RoadLinks$Ranks", "of", "(II)I"⟩ ∈ Wd := Wd_mem 419 (by decide +kernel) (by decide +kernel)
theorem wm_420 : Cond.code ⟨"RoadLinks$Ranks", "of", "(II)I"⟩ prog_4_method_5_code 4 (Option.some FieldType.int) ∈ Wd := Wd_mem 420 (by decide +kernel) (by decide +kernel)
theorem wm_425 : Cond.methodLink "RoadLinks" 124 ⟨"RoadLinks$Ranks", "isFree", "(II)Z"⟩ ∈ Wd := Wd_mem 425 (by decide +kernel) (by decide +kernel)
theorem wm_426 : Cond.instanceMethod ⟨"RoadLinks$Ranks", "isFree", "(II)Z"⟩ ∈ Wd := Wd_mem 426 (by decide +kernel) (by decide +kernel)
theorem wm_427 : Cond.selects "RoadLinks$Ranks" ⟨"RoadLinks$Ranks", "isFree", "(II)Z"⟩ ⟨"RoadLinks$Ranks", "isFree", "(II)Z"⟩ ∈ Wd := Wd_mem 427 (by decide +kernel) (by decide +kernel)
theorem wm_428 : Cond.code ⟨"RoadLinks$Ranks", "isFree", "(II)Z"⟩ prog_4_method_6_code 3 (Option.some FieldType.boolean) ∈ Wd := Wd_mem 428 (by decide +kernel) (by decide +kernel)
theorem wm_429 : Cond.methodLink "RoadLinks$Ranks" 94 ⟨"RoadLinks$Ranks", "of", "(II)I"⟩ ∈ Wd := Wd_mem 429 (by decide +kernel) (by decide +kernel)
theorem wm_434 : Cond.methodLink "RoadLinks" 128 ⟨"RoadLinks", "listed", "(III)I"⟩ ∈ Wd := Wd_mem 434 (by decide +kernel) (by decide +kernel)
theorem wm_436 : Cond.instanceMethod ⟨"RoadLinks", "listed", "(III)I"⟩ ∈ Wd := Wd_mem 436 (by decide +kernel) (by decide +kernel)
theorem wm_437 : Cond.code ⟨"RoadLinks", "listed", "(III)I"⟩ prog_1_method_54_code 8 (Option.some FieldType.int) ∈ Wd := Wd_mem 437 (by decide +kernel) (by decide +kernel)
theorem wm_438 : Cond.methodLink "RoadLinks" 154 ⟨"RoadLinks$Table", "all", "()I"⟩ ∈ Wd := Wd_mem 438 (by decide +kernel) (by decide +kernel)
theorem wm_439 : Cond.methodLink "RoadLinks" 261 ⟨"RoadLinks$Ranks", "isOf", "(III)Z"⟩ ∈ Wd := Wd_mem 439 (by decide +kernel) (by decide +kernel)
theorem wm_440 : Cond.instanceMethod ⟨"RoadLinks$Ranks", "isOf", "(III)Z"⟩ ∈ Wd := Wd_mem 440 (by decide +kernel) (by decide +kernel)
theorem wm_441 : Cond.selects "RoadLinks$Ranks" ⟨"RoadLinks$Ranks", "isOf", "(III)Z"⟩ ⟨"RoadLinks$Ranks", "isOf", "(III)Z"⟩ ∈ Wd := Wd_mem 441 (by decide +kernel) (by decide +kernel)
theorem wm_442 : Cond.code ⟨"RoadLinks$Ranks", "isOf", "(III)Z"⟩ prog_4_method_8_code 4 (Option.some FieldType.boolean) ∈ Wd := Wd_mem 442 (by decide +kernel) (by decide +kernel)
theorem wm_443 : Cond.methodLink "RoadLinks$Ranks" 100 ⟨"RoadLinks$Ranks", "isBase", "(II)Z"⟩ ∈ Wd := Wd_mem 443 (by decide +kernel) (by decide +kernel)
theorem wm_444 : Cond.instanceMethod ⟨"RoadLinks$Ranks", "isBase", "(II)Z"⟩ ∈ Wd := Wd_mem 444 (by decide +kernel) (by decide +kernel)
theorem wm_445 : Cond.selects "RoadLinks$Ranks" ⟨"RoadLinks$Ranks", "isBase", "(II)Z"⟩ ⟨"RoadLinks$Ranks", "isBase", "(II)Z"⟩ ∈ Wd := Wd_mem 445 (by decide +kernel) (by decide +kernel)
theorem wm_446 : Cond.code ⟨"RoadLinks$Ranks", "isBase", "(II)Z"⟩ prog_4_method_7_code 3 (Option.some FieldType.boolean) ∈ Wd := Wd_mem 446 (by decide +kernel) (by decide +kernel)
theorem wm_447 : Cond.methodLink "RoadLinks$Ranks" 97 ⟨"RoadLinks$Ranks", "isFree", "(II)Z"⟩ ∈ Wd := Wd_mem 447 (by decide +kernel) (by decide +kernel)
theorem wm_448 : Cond.methodLink "RoadLinks$Ranks" 103 ⟨"RoadLinks$Ranks", "isCircuit", "(II)Z"⟩ ∈ Wd := Wd_mem 448 (by decide +kernel) (by decide +kernel)
theorem wm_450 : Cond.instanceMethod ⟨"RoadLinks$Ranks", "isCircuit", "(II)Z"⟩ ∈ Wd := Wd_mem 450 (by decide +kernel) (by decide +kernel)
theorem wm_451 : Cond.code ⟨"RoadLinks$Ranks", "isCircuit", "(II)Z"⟩ prog_4_method_9_code 4 (Option.some FieldType.boolean) ∈ Wd := Wd_mem 451 (by decide +kernel) (by decide +kernel)
theorem wm_452 : Cond.methodLink "RoadLinks$Ranks" 106 ⟨"RoadLinks$Ranks", "shutOf", "(II)I"⟩ ∈ Wd := Wd_mem 452 (by decide +kernel) (by decide +kernel)
theorem wm_453 : Cond.instanceMethod ⟨"RoadLinks$Ranks", "shutOf", "(II)I"⟩ ∈ Wd := Wd_mem 453 (by decide +kernel) (by decide +kernel)
theorem wm_454 : Cond.selects "RoadLinks$Ranks" ⟨"RoadLinks$Ranks", "shutOf", "(II)I"⟩ ⟨"RoadLinks$Ranks", "shutOf", "(II)I"⟩ ∈ Wd := Wd_mem 454 (by decide +kernel) (by decide +kernel)
theorem wm_455 : Cond.code ⟨"RoadLinks$Ranks", "shutOf", "(II)I"⟩ prog_4_method_10_code 5 (Option.some FieldType.int) ∈ Wd := Wd_mem 455 (by decide +kernel) (by decide +kernel)
theorem wm_468 : Cond.methodLink "RoadLinks" 132 ⟨"RoadLinks$Ranks", "shutOf", "(II)I"⟩ ∈ Wd := Wd_mem 468 (by decide +kernel) (by decide +kernel)
theorem wm_473 : Cond.methodLink "RoadLinks" 135 ⟨"RoadLinks", "isEither", "(I)Z"⟩ ∈ Wd := Wd_mem 473 (by decide +kernel) (by decide +kernel)
theorem wm_474 : Cond.static ⟨"RoadLinks", "isEither", "(I)Z"⟩ ∈ Wd := Wd_mem 474 (by decide +kernel) (by decide +kernel)
theorem wm_475 : Cond.code ⟨"RoadLinks", "isEither", "(I)Z"⟩ prog_1_method_49_code 1 (Option.some FieldType.boolean) ∈ Wd := Wd_mem 475 (by decide +kernel) (by decide +kernel)
theorem wm_476 : Cond.methodLink "RoadLinks" 138 ⟨"RoadLinks$Ranks", "boundOf", "(I)I"⟩ ∈ Wd := Wd_mem 476 (by decide +kernel) (by decide +kernel)
theorem wm_477 : Cond.instanceMethod ⟨"RoadLinks$Ranks", "boundOf", "(I)I"⟩ ∈ Wd := Wd_mem 477 (by decide +kernel) (by decide +kernel)
theorem wm_478 : Cond.selects "RoadLinks$Ranks" ⟨"RoadLinks$Ranks", "boundOf", "(I)I"⟩ ⟨"RoadLinks$Ranks", "boundOf", "(I)I"⟩ ∈ Wd := Wd_mem 478 (by decide +kernel) (by decide +kernel)
theorem wm_479 : Cond.code ⟨"RoadLinks$Ranks", "boundOf", "(I)I"⟩ prog_4_method_11_code 4 (Option.some FieldType.int) ∈ Wd := Wd_mem 479 (by decide +kernel) (by decide +kernel)
theorem wm_484 : Cond.methodLink "RoadLinks" 142 ⟨"RoadLinks$Ranks", "isBase", "(II)Z"⟩ ∈ Wd := Wd_mem 484 (by decide +kernel) (by decide +kernel)
theorem wm_485 : Cond.methodLink "RoadLinks" 145 ⟨"RoadLinks", "has", "(II)Z"⟩ ∈ Wd := Wd_mem 485 (by decide +kernel) (by decide +kernel)
theorem wm_486 : Cond.methodLink "RoadLinks" 148 ⟨"RoadLinks$Ranks", "roundOf", "(II)I"⟩ ∈ Wd := Wd_mem 486 (by decide +kernel) (by decide +kernel)
theorem wm_487 : Cond.instanceMethod ⟨"RoadLinks$Ranks", "roundOf", "(II)I"⟩ ∈ Wd := Wd_mem 487 (by decide +kernel) (by decide +kernel)
theorem wm_488 : Cond.selects "RoadLinks$Ranks" ⟨"RoadLinks$Ranks", "roundOf", "(II)I"⟩ ⟨"RoadLinks$Ranks", "roundOf", "(II)I"⟩ ∈ Wd := Wd_mem 488 (by decide +kernel) (by decide +kernel)
theorem wm_489 : Cond.code ⟨"RoadLinks$Ranks", "roundOf", "(II)I"⟩ prog_4_method_12_code 5 (Option.some FieldType.int) ∈ Wd := Wd_mem 489 (by decide +kernel) (by decide +kernel)
theorem wm_494 : Cond.methodLink "RoadLinks" 151 ⟨"RoadLinks$Ranks", "swapOf", "(III)I"⟩ ∈ Wd := Wd_mem 494 (by decide +kernel) (by decide +kernel)
theorem wm_495 : Cond.instanceMethod ⟨"RoadLinks$Ranks", "swapOf", "(III)I"⟩ ∈ Wd := Wd_mem 495 (by decide +kernel) (by decide +kernel)
theorem wm_496 : Cond.selects "RoadLinks$Ranks" ⟨"RoadLinks$Ranks", "swapOf", "(III)I"⟩ ⟨"RoadLinks$Ranks", "swapOf", "(III)I"⟩ ∈ Wd := Wd_mem 496 (by decide +kernel) (by decide +kernel)
theorem wm_497 : Cond.code ⟨"RoadLinks$Ranks", "swapOf", "(III)I"⟩ prog_4_method_13_code 5 (Option.some FieldType.int) ∈ Wd := Wd_mem 497 (by decide +kernel) (by decide +kernel)
theorem wm_502 : Cond.methodLink "RoadLinks" 158 ⟨"RoadLinks$Ranks", "stepsUp", "(II)I"⟩ ∈ Wd := Wd_mem 502 (by decide +kernel) (by decide +kernel)
theorem wm_503 : Cond.instanceMethod ⟨"RoadLinks$Ranks", "stepsUp", "(II)I"⟩ ∈ Wd := Wd_mem 503 (by decide +kernel) (by decide +kernel)
theorem wm_504 : Cond.selects "RoadLinks$Ranks" ⟨"RoadLinks$Ranks", "stepsUp", "(II)I"⟩ ⟨"RoadLinks$Ranks", "stepsUp", "(II)I"⟩ ∈ Wd := Wd_mem 504 (by decide +kernel) (by decide +kernel)
theorem wm_505 : Cond.code ⟨"RoadLinks$Ranks", "stepsUp", "(II)I"⟩ prog_4_method_14_code 6 (Option.some FieldType.int) ∈ Wd := Wd_mem 505 (by decide +kernel) (by decide +kernel)
theorem wm_514 : Cond.methodLink "RoadLinks" 161 ⟨"RoadLinks$Table", "weightOf", "(I)I"⟩ ∈ Wd := Wd_mem 514 (by decide +kernel) (by decide +kernel)
theorem wm_515 : Cond.instanceMethod ⟨"RoadLinks$Table", "weightOf", "(I)I"⟩ ∈ Wd := Wd_mem 515 (by decide +kernel) (by decide +kernel)
theorem wm_516 : Cond.selects "RoadLinks$Table" ⟨"RoadLinks$Table", "weightOf", "(I)I"⟩ ⟨"RoadLinks$Table", "weightOf", "(I)I"⟩ ∈ Wd := Wd_mem 516 (by decide +kernel) (by decide +kernel)
theorem wm_517 : Cond.code ⟨"RoadLinks$Table", "weightOf", "(I)I"⟩ prog_6_method_16_code 4 (Option.some FieldType.int) ∈ Wd := Wd_mem 517 (by decide +kernel) (by decide +kernel)
theorem wm_527 : Cond.methodLink "RoadLinks" 164 ⟨"java/lang/Integer", "bitCount", "(I)I"⟩ ∈ Wd := Wd_mem 527 (by decide +kernel) (by decide +kernel)
theorem wm_528 : Cond.methodLink "RoadLinks" 169 ⟨"RoadLinks$Table", "isCut", "(II)Z"⟩ ∈ Wd := Wd_mem 528 (by decide +kernel) (by decide +kernel)
theorem wm_529 : Cond.instanceMethod ⟨"RoadLinks$Table", "isCut", "(II)Z"⟩ ∈ Wd := Wd_mem 529 (by decide +kernel) (by decide +kernel)
theorem wm_530 : Cond.selects "RoadLinks$Table" ⟨"RoadLinks$Table", "isCut", "(II)Z"⟩ ⟨"RoadLinks$Table", "isCut", "(II)Z"⟩ ∈ Wd := Wd_mem 530 (by decide +kernel) (by decide +kernel)
theorem wm_531 : Cond.code ⟨"RoadLinks$Table", "isCut", "(II)Z"⟩ prog_6_method_18_code 3 (Option.some FieldType.boolean) ∈ Wd := Wd_mem 531 (by decide +kernel) (by decide +kernel)
theorem wm_532 : Cond.methodLink "RoadLinks$Table" 54 ⟨"RoadLinks$Table", "reached", "(II)I"⟩ ∈ Wd := Wd_mem 532 (by decide +kernel) (by decide +kernel)
theorem wm_533 : Cond.instanceMethod ⟨"RoadLinks$Table", "reached", "(II)I"⟩ ∈ Wd := Wd_mem 533 (by decide +kernel) (by decide +kernel)
theorem wm_534 : Cond.selects "RoadLinks$Table" ⟨"RoadLinks$Table", "reached", "(II)I"⟩ ⟨"RoadLinks$Table", "reached", "(II)I"⟩ ∈ Wd := Wd_mem 534 (by decide +kernel) (by decide +kernel)
theorem wm_535 : Cond.code ⟨"RoadLinks$Table", "reached", "(II)I"⟩ prog_6_method_17_code 7 (Option.some FieldType.int) ∈ Wd := Wd_mem 535 (by decide +kernel) (by decide +kernel)
theorem wm_540 : Cond.methodLink "RoadLinks" 172 ⟨"RoadLinks$Table", "reached", "(II)I"⟩ ∈ Wd := Wd_mem 540 (by decide +kernel) (by decide +kernel)
theorem wm_545 : Cond.methodLink "RoadLinks" 175 ⟨"RoadLinks$Choice", "begin", "()V"⟩ ∈ Wd := Wd_mem 545 (by decide +kernel) (by decide +kernel)
theorem wm_546 : Cond.instanceMethod ⟨"RoadLinks$Choice", "begin", "()V"⟩ ∈ Wd := Wd_mem 546 (by decide +kernel) (by decide +kernel)
theorem wm_547 : Cond.selects "RoadLinks$Choice" ⟨"RoadLinks$Choice", "begin", "()V"⟩ ⟨"RoadLinks$Choice", "begin", "()V"⟩ ∈ Wd := Wd_mem 547 (by decide +kernel) (by decide +kernel)
theorem wm_548 : Cond.code ⟨"RoadLinks$Choice", "begin", "()V"⟩ prog_2_method_2_code 1 (Option.none : Option FieldType) ∈ Wd := Wd_mem 548 (by decide +kernel) (by decide +kernel)
theorem wm_549 : Cond.methodLink "RoadLinks" 177 ⟨"RoadLinks$Table", "setsWith", "(I)I"⟩ ∈ Wd := Wd_mem 549 (by decide +kernel) (by decide +kernel)
theorem wm_550 : Cond.instanceMethod ⟨"RoadLinks$Table", "setsWith", "(I)I"⟩ ∈ Wd := Wd_mem 550 (by decide +kernel) (by decide +kernel)
theorem wm_551 : Cond.selects "RoadLinks$Table" ⟨"RoadLinks$Table", "setsWith", "(I)I"⟩ ⟨"RoadLinks$Table", "setsWith", "(I)I"⟩ ∈ Wd := Wd_mem 551 (by decide +kernel) (by decide +kernel)
theorem wm_552 : Cond.code ⟨"RoadLinks$Table", "setsWith", "(I)I"⟩ prog_6_method_19_code 4 (Option.some FieldType.int) ∈ Wd := Wd_mem 552 (by decide +kernel) (by decide +kernel)
theorem wm_553 : Cond.methodLink "RoadLinks" 180 ⟨"RoadLinks$Choice", "ask", "(I)V"⟩ ∈ Wd := Wd_mem 553 (by decide +kernel) (by decide +kernel)
theorem wm_554 : Cond.instanceMethod ⟨"RoadLinks$Choice", "ask", "(I)V"⟩ ∈ Wd := Wd_mem 554 (by decide +kernel) (by decide +kernel)
theorem wm_555 : Cond.selects "RoadLinks$Choice" ⟨"RoadLinks$Choice", "ask", "(I)V"⟩ ⟨"RoadLinks$Choice", "ask", "(I)V"⟩ ∈ Wd := Wd_mem 555 (by decide +kernel) (by decide +kernel)
theorem wm_556 : Cond.code ⟨"RoadLinks$Choice", "ask", "(I)V"⟩ prog_2_method_3_code 2 (Option.none : Option FieldType) ∈ Wd := Wd_mem 556 (by decide +kernel) (by decide +kernel)
theorem wm_557 : Cond.methodLink "RoadLinks" 183 ⟨"RoadLinks$Choice", "isMade", "(I)Z"⟩ ∈ Wd := Wd_mem 557 (by decide +kernel) (by decide +kernel)
theorem wm_558 : Cond.instanceMethod ⟨"RoadLinks$Choice", "isMade", "(I)Z"⟩ ∈ Wd := Wd_mem 558 (by decide +kernel) (by decide +kernel)
theorem wm_559 : Cond.selects "RoadLinks$Choice" ⟨"RoadLinks$Choice", "isMade", "(I)Z"⟩ ⟨"RoadLinks$Choice", "isMade", "(I)Z"⟩ ∈ Wd := Wd_mem 559 (by decide +kernel) (by decide +kernel)
theorem wm_560 : Cond.code ⟨"RoadLinks$Choice", "isMade", "(I)Z"⟩ prog_2_method_4_code 5 (Option.some FieldType.boolean) ∈ Wd := Wd_mem 560 (by decide +kernel) (by decide +kernel)
theorem wm_561 : Cond.methodLink "RoadLinks$Choice" 26 ⟨"java/lang/Integer", "bitCount", "(I)I"⟩ ∈ Wd := Wd_mem 561 (by decide +kernel) (by decide +kernel)
theorem wm_562 : Cond.methodLink "RoadLinks$Choice" 32 ⟨"RoadLinks$Choice", "leastOption", "(III)I"⟩ ∈ Wd := Wd_mem 562 (by decide +kernel) (by decide +kernel)
theorem wm_564 : Cond.instanceMethod ⟨"RoadLinks$Choice", "leastOption", "(III)I"⟩ ∈ Wd := Wd_mem 564 (by decide +kernel) (by decide +kernel)
theorem wm_565 : Cond.code ⟨"RoadLinks$Choice", "leastOption", "(III)I"⟩ prog_2_method_5_code 5 (Option.some FieldType.int) ∈ Wd := Wd_mem 565 (by decide +kernel) (by decide +kernel)
theorem wm_571 : Cond.methodLink "RoadLinks" 192 ⟨"RoadLinks$Table", "turn", "()V"⟩ ∈ Wd := Wd_mem 571 (by decide +kernel) (by decide +kernel)
theorem wm_572 : Cond.instanceMethod ⟨"RoadLinks$Table", "turn", "()V"⟩ ∈ Wd := Wd_mem 572 (by decide +kernel) (by decide +kernel)
theorem wm_573 : Cond.selects "RoadLinks$Table" ⟨"RoadLinks$Table", "turn", "()V"⟩ ⟨"RoadLinks$Table", "turn", "()V"⟩ ∈ Wd := Wd_mem 573 (by decide +kernel) (by decide +kernel)
theorem wm_574 : Cond.code ⟨"RoadLinks$Table", "turn", "()V"⟩ prog_6_method_20_code 2 (Option.none : Option FieldType) ∈ Wd := Wd_mem 574 (by decide +kernel) (by decide +kernel)
theorem wm_575 : Cond.methodLink "RoadLinks$Table" 58 ⟨"RoadLinks$Table", "join", "(I)V"⟩ ∈ Wd := Wd_mem 575 (by decide +kernel) (by decide +kernel)
theorem wm_580 : Cond.methodLink "RoadLinks" 195 ⟨"RoadLinks$Table", "straighten", "([I)V"⟩ ∈ Wd := Wd_mem 580 (by decide +kernel) (by decide +kernel)
theorem wm_581 : Cond.instanceMethod ⟨"RoadLinks$Table", "straighten", "([I)V"⟩ ∈ Wd := Wd_mem 581 (by decide +kernel) (by decide +kernel)
theorem wm_582 : Cond.selects "RoadLinks$Table" ⟨"RoadLinks$Table", "straighten", "([I)V"⟩ ⟨"RoadLinks$Table", "straighten", "([I)V"⟩ ∈ Wd := Wd_mem 582 (by decide +kernel) (by decide +kernel)
theorem wm_583 : Cond.code ⟨"RoadLinks$Table", "straighten", "([I)V"⟩ prog_6_method_21_code 4 (Option.none : Option FieldType) ∈ Wd := Wd_mem 583 (by decide +kernel) (by decide +kernel)
theorem wm_584 : Cond.methodLink "RoadLinks" 199 ⟨"RoadLinks$Table", "countRoads", "()I"⟩ ∈ Wd := Wd_mem 584 (by decide +kernel) (by decide +kernel)
theorem wm_585 : Cond.instanceMethod ⟨"RoadLinks$Table", "countRoads", "()I"⟩ ∈ Wd := Wd_mem 585 (by decide +kernel) (by decide +kernel)
theorem wm_586 : Cond.selects "RoadLinks$Table" ⟨"RoadLinks$Table", "countRoads", "()I"⟩ ⟨"RoadLinks$Table", "countRoads", "()I"⟩ ∈ Wd := Wd_mem 586 (by decide +kernel) (by decide +kernel)
theorem wm_587 : Cond.code ⟨"RoadLinks$Table", "countRoads", "()I"⟩ prog_6_method_15_code 3 (Option.some FieldType.int) ∈ Wd := Wd_mem 587 (by decide +kernel) (by decide +kernel)
theorem wm_588 : Cond.methodLink "RoadLinks$Table" 44 ⟨"java/lang/Integer", "bitCount", "(I)I"⟩ ∈ Wd := Wd_mem 588 (by decide +kernel) (by decide +kernel)
theorem wm_593 : Cond.methodLink "RoadLinks" 202 ⟨"RoadLinks", "likewise", "(II)I"⟩ ∈ Wd := Wd_mem 593 (by decide +kernel) (by decide +kernel)
theorem wm_595 : Cond.instanceMethod ⟨"RoadLinks", "likewise", "(II)I"⟩ ∈ Wd := Wd_mem 595 (by decide +kernel) (by decide +kernel)
theorem wm_596 : Cond.code ⟨"RoadLinks", "likewise", "(II)I"⟩ prog_1_method_55_code 7 (Option.some FieldType.int) ∈ Wd := Wd_mem 596 (by decide +kernel) (by decide +kernel)
theorem wm_597 : Cond.methodLink "RoadLinks" 205 ⟨"RoadLinks$Ranks", "stays", "(LRoadLinks$Table;II)Z"⟩ ∈ Wd := Wd_mem 597 (by decide +kernel) (by decide +kernel)
theorem wm_598 : Cond.instanceMethod ⟨"RoadLinks$Ranks", "stays", "(LRoadLinks$Table;II)Z"⟩ ∈ Wd := Wd_mem 598 (by decide +kernel) (by decide +kernel)
theorem wm_599 : Cond.selects "RoadLinks$Ranks" ⟨"RoadLinks$Ranks", "stays", "(LRoadLinks$Table;II)Z"⟩ ⟨"RoadLinks$Ranks", "stays", "(LRoadLinks$Table;II)Z"⟩ ∈ Wd := Wd_mem 599 (by decide +kernel) (by decide +kernel)
theorem wm_600 : Cond.code ⟨"RoadLinks$Ranks", "stays", "(LRoadLinks$Table;II)Z"⟩ prog_4_method_15_code 5 (Option.some FieldType.boolean) ∈ Wd := Wd_mem 600 (by decide +kernel) (by decide +kernel)
theorem wm_601 : Cond.methodLink "RoadLinks$Ranks" 109 ⟨"RoadLinks$Matched", "isLike", "(LRoadLinks$Matched;)Z"⟩ ∈ Wd := Wd_mem 601 (by decide +kernel) (by decide +kernel)
theorem wm_602 : Cond.instanceMethod ⟨"RoadLinks$Matched", "isLike", "(LRoadLinks$Matched;)Z"⟩ ∈ Wd := Wd_mem 602 (by decide +kernel) (by decide +kernel)
theorem wm_603 : Cond.selects "RoadLinks$Matched" ⟨"RoadLinks$Matched", "isLike", "(LRoadLinks$Matched;)Z"⟩ ⟨"RoadLinks$Matched", "isLike", "(LRoadLinks$Matched;)Z"⟩ ∈ Wd := Wd_mem 603 (by decide +kernel) (by decide +kernel)
theorem wm_604 : Cond.code ⟨"RoadLinks$Matched", "isLike", "(LRoadLinks$Matched;)Z"⟩ prog_3_method_6_code 3 (Option.some FieldType.boolean) ∈ Wd := Wd_mem 604 (by decide +kernel) (by decide +kernel)
theorem wm_617 : Cond.methodLink "RoadLinks" 209 ⟨"RoadLinks$Table", "removeEmpty", "()V"⟩ ∈ Wd := Wd_mem 617 (by decide +kernel) (by decide +kernel)
theorem wm_618 : Cond.instanceMethod ⟨"RoadLinks$Table", "removeEmpty", "()V"⟩ ∈ Wd := Wd_mem 618 (by decide +kernel) (by decide +kernel)
theorem wm_619 : Cond.selects "RoadLinks$Table" ⟨"RoadLinks$Table", "removeEmpty", "()V"⟩ ⟨"RoadLinks$Table", "removeEmpty", "()V"⟩ ∈ Wd := Wd_mem 619 (by decide +kernel) (by decide +kernel)
theorem wm_620 : Cond.code ⟨"RoadLinks$Table", "removeEmpty", "()V"⟩ prog_6_method_13_code 3 (Option.none : Option FieldType) ∈ Wd := Wd_mem 620 (by decide +kernel) (by decide +kernel)
theorem wm_625 : Cond.methodLink "RoadLinks" 212 ⟨"RoadLinks", "isRow", "(I)Z"⟩ ∈ Wd := Wd_mem 625 (by decide +kernel) (by decide +kernel)
theorem wm_626 : Cond.static ⟨"RoadLinks", "isRow", "(I)Z"⟩ ∈ Wd := Wd_mem 626 (by decide +kernel) (by decide +kernel)
theorem wm_627 : Cond.code ⟨"RoadLinks", "isRow", "(I)Z"⟩ prog_1_method_50_code 1 (Option.some FieldType.boolean) ∈ Wd := Wd_mem 627 (by decide +kernel) (by decide +kernel)
theorem wm_632 : Cond.methodLink "RoadLinks" 215 ⟨"RoadLinks", "isThere", "(I)Z"⟩ ∈ Wd := Wd_mem 632 (by decide +kernel) (by decide +kernel)
theorem wm_634 : Cond.instanceMethod ⟨"RoadLinks", "isThere", "(I)Z"⟩ ∈ Wd := Wd_mem 634 (by decide +kernel) (by decide +kernel)
theorem wm_635 : Cond.code ⟨"RoadLinks", "isThere", "(I)Z"⟩ prog_1_method_51_code 2 (Option.some FieldType.boolean) ∈ Wd := Wd_mem 635 (by decide +kernel) (by decide +kernel)
theorem wm_644 : Cond.constantLong "RoadLinks" 218 (-9223372036854775808 : Int64) ∈ Wd := Wd_mem 644 (by decide +kernel) (by decide +kernel)
theorem wm_649 : Cond.methodLink "RoadLinks" 220 ⟨"java/lang/System", "arraycopy", "(Ljava/lang/Object;ILjava/lang/Object;II)V"⟩ ∈ Wd := Wd_mem 649 (by decide +kernel) (by decide +kernel)
theorem wm_650 : Cond.static ⟨"java/lang/System", "arraycopy", "(Ljava/lang/Object;ILjava/lang/Object;II)V"⟩ ∈ Wd := Wd_mem 650 (by decide +kernel) (by decide +kernel)
theorem wm_651 : Cond.native ⟨"java/lang/System", "arraycopy", "(Ljava/lang/Object;ILjava/lang/Object;II)V"⟩ ∈ Wd := Wd_mem 651 (by decide +kernel) (by decide +kernel)
theorem wm_656 : Cond.methodLink "RoadLinks" 226 ⟨"java/lang/Math", "min", "(II)I"⟩ ∈ Wd := Wd_mem 656 (by decide +kernel) (by decide +kernel)
theorem wm_657 : Cond.static ⟨"java/lang/Math", "min", "(II)I"⟩ ∈ Wd := Wd_mem 657 (by decide +kernel) (by decide +kernel)
theorem wm_658 : Cond.code ⟨"java/lang/Math", "min", "(II)I"⟩ prog_11_method_69_code 2 (Option.some FieldType.int) ∈ Wd := Wd_mem 658 (by decide +kernel) (by decide +kernel)
theorem wm_675 : Cond.methodLink "RoadLinks" 238 ⟨"RoadLinks$Tape", "findFault", "()I"⟩ ∈ Wd := Wd_mem 675 (by decide +kernel) (by decide +kernel)
theorem wm_676 : Cond.instanceMethod ⟨"RoadLinks$Tape", "findFault", "()I"⟩ ∈ Wd := Wd_mem 676 (by decide +kernel) (by decide +kernel)
theorem wm_677 : Cond.selects "RoadLinks$Tape" ⟨"RoadLinks$Tape", "findFault", "()I"⟩ ⟨"RoadLinks$Tape", "findFault", "()I"⟩ ∈ Wd := Wd_mem 677 (by decide +kernel) (by decide +kernel)
theorem wm_678 : Cond.code ⟨"RoadLinks$Tape", "findFault", "()I"⟩ prog_7_method_3_code 3 (Option.some FieldType.int) ∈ Wd := Wd_mem 678 (by decide +kernel) (by decide +kernel)
theorem wm_679 : Cond.methodLink "RoadLinks$Tape" 37 ⟨"RoadLinks$Tape", "rewind", "()V"⟩ ∈ Wd := Wd_mem 679 (by decide +kernel) (by decide +kernel)
theorem wm_680 : Cond.instanceMethod ⟨"RoadLinks$Tape", "rewind", "()V"⟩ ∈ Wd := Wd_mem 680 (by decide +kernel) (by decide +kernel)
theorem wm_681 : Cond.selects "RoadLinks$Tape" ⟨"RoadLinks$Tape", "rewind", "()V"⟩ ⟨"RoadLinks$Tape", "rewind", "()V"⟩ ∈ Wd := Wd_mem 681 (by decide +kernel) (by decide +kernel)
theorem wm_682 : Cond.code ⟨"RoadLinks$Tape", "rewind", "()V"⟩ prog_7_method_2_code 1 (Option.none : Option FieldType) ∈ Wd := Wd_mem 682 (by decide +kernel) (by decide +kernel)
theorem wm_683 : Cond.methodLink "RoadLinks$Tape" 40 ⟨"RoadLinks$Tape", "takeStatement", "()V"⟩ ∈ Wd := Wd_mem 683 (by decide +kernel) (by decide +kernel)
theorem wm_684 : Cond.instanceMethod ⟨"RoadLinks$Tape", "takeStatement", "()V"⟩ ∈ Wd := Wd_mem 684 (by decide +kernel) (by decide +kernel)
theorem wm_685 : Cond.selects "RoadLinks$Tape" ⟨"RoadLinks$Tape", "takeStatement", "()V"⟩ ⟨"RoadLinks$Tape", "takeStatement", "()V"⟩ ∈ Wd := Wd_mem 685 (by decide +kernel) (by decide +kernel)
theorem wm_686 : Cond.code ⟨"RoadLinks$Tape", "takeStatement", "()V"⟩ prog_7_method_5_code 2 (Option.none : Option FieldType) ∈ Wd := Wd_mem 686 (by decide +kernel) (by decide +kernel)
theorem wm_687 : Cond.methodLink "RoadLinks$Tape" 47 ⟨"RoadLinks$Tape", "wordFrom", "(I)I"⟩ ∈ Wd := Wd_mem 687 (by decide +kernel) (by decide +kernel)
theorem wm_689 : Cond.instanceMethod ⟨"RoadLinks$Tape", "wordFrom", "(I)I"⟩ ∈ Wd := Wd_mem 689 (by decide +kernel) (by decide +kernel)
theorem wm_690 : Cond.code ⟨"RoadLinks$Tape", "wordFrom", "(I)I"⟩ prog_7_method_6_code 2 (Option.some FieldType.int) ∈ Wd := Wd_mem 690 (by decide +kernel) (by decide +kernel)
theorem wm_692 : Cond.methodLink "RoadLinks$Tape" 59 ⟨"RoadLinks$Tape", "isWord", "(Ljava/lang/String;I)Z"⟩ ∈ Wd := Wd_mem 692 (by decide +kernel) (by decide +kernel)
theorem wm_694 : Cond.instanceMethod ⟨"RoadLinks$Tape", "isWord", "(Ljava/lang/String;I)Z"⟩ ∈ Wd := Wd_mem 694 (by decide +kernel) (by decide +kernel)
theorem wm_695 : Cond.code ⟨"RoadLinks$Tape", "isWord", "(Ljava/lang/String;I)Z"⟩ prog_7_method_7_code 4 (Option.some FieldType.boolean) ∈ Wd := Wd_mem 695 (by decide +kernel) (by decide +kernel)
theorem wm_696 : Cond.methodLink "RoadLinks$Tape" 73 ⟨"java/lang/String", "length", "()I"⟩ ∈ Wd := Wd_mem 696 (by decide +kernel) (by decide +kernel)
theorem wm_697 : Cond.instanceMethod ⟨"java/lang/String", "length", "()I"⟩ ∈ Wd := Wd_mem 697 (by decide +kernel) (by decide +kernel)
theorem wm_698 : Cond.selects "java/lang/String" ⟨"java/lang/String", "length", "()I"⟩ ⟨"java/lang/String", "length", "()I"⟩ ∈ Wd := Wd_mem 698 (by decide +kernel) (by decide +kernel)
theorem wm_699 : Cond.code ⟨"java/lang/String", "length", "()I"⟩ prog_12_method_54_code 1 (Option.some FieldType.int) ∈ Wd := Wd_mem 699 (by decide +kernel) (by decide +kernel)
theorem wm_700 : Cond.methodLink "java/lang/String" 335 ⟨"java/lang/String", "coder", "()B"⟩ ∈ Wd := Wd_mem 700 (by decide +kernel) (by decide +kernel)
theorem wm_701 : Cond.instanceMethod ⟨"java/lang/String", "coder", "()B"⟩ ∈ Wd := Wd_mem 701 (by decide +kernel) (by decide +kernel)
theorem wm_702 : Cond.selects "java/lang/String" ⟨"java/lang/String", "coder", "()B"⟩ ⟨"java/lang/String", "coder", "()B"⟩ ∈ Wd := Wd_mem 702 (by decide +kernel) (by decide +kernel)
theorem wm_703 : Cond.code ⟨"java/lang/String", "coder", "()B"⟩ prog_12_method_152_code 1 (Option.some FieldType.byte) ∈ Wd := Wd_mem 703 (by decide +kernel) (by decide +kernel)
theorem wm_704 : Cond.fieldLink "java/lang/String" 38 "java/lang/String" "COMPACT_STRINGS" "Z" ∈ Wd := Wd_mem 704 (by decide +kernel) (by decide +kernel)
theorem wm_706 : Cond.methodLink "RoadLinks$Tape" 78 ⟨"java/lang/String", "charAt", "(I)C"⟩ ∈ Wd := Wd_mem 706 (by decide +kernel) (by decide +kernel)
theorem wm_707 : Cond.instanceMethod ⟨"java/lang/String", "charAt", "(I)C"⟩ ∈ Wd := Wd_mem 707 (by decide +kernel) (by decide +kernel)
theorem wm_708 : Cond.selects "java/lang/String" ⟨"java/lang/String", "charAt", "(I)C"⟩ ⟨"java/lang/String", "charAt", "(I)C"⟩ ∈ Wd := Wd_mem 708 (by decide +kernel) (by decide +kernel)
theorem wm_709 : Cond.code ⟨"java/lang/String", "charAt", "(I)C"⟩ prog_12_method_56_code 2 (Option.some FieldType.char) ∈ Wd := Wd_mem 709 (by decide +kernel) (by decide +kernel)
theorem wm_710 : Cond.methodLink "java/lang/String" 492 ⟨"java/lang/String", "isLatin1", "()Z"⟩ ∈ Wd := Wd_mem 710 (by decide +kernel) (by decide +kernel)
theorem wm_711 : Cond.instanceMethod ⟨"java/lang/String", "isLatin1", "()Z"⟩ ∈ Wd := Wd_mem 711 (by decide +kernel) (by decide +kernel)
theorem wm_712 : Cond.selects "java/lang/String" ⟨"java/lang/String", "isLatin1", "()Z"⟩ ⟨"java/lang/String", "isLatin1", "()Z"⟩ ∈ Wd := Wd_mem 712 (by decide +kernel) (by decide +kernel)
theorem wm_713 : Cond.code ⟨"java/lang/String", "isLatin1", "()Z"⟩ prog_12_method_154_code 1 (Option.some FieldType.boolean) ∈ Wd := Wd_mem 713 (by decide +kernel) (by decide +kernel)
theorem wm_714 : Cond.methodLink "java/lang/String" 495 ⟨"java/lang/StringLatin1", "charAt", "([BI)C"⟩ ∈ Wd := Wd_mem 714 (by decide +kernel) (by decide +kernel)
theorem wm_715 : Cond.static ⟨"java/lang/StringLatin1", "charAt", "([BI)C"⟩ ∈ Wd := Wd_mem 715 (by decide +kernel) (by decide +kernel)
theorem wm_716 : Cond.code ⟨"java/lang/StringLatin1", "charAt", "([BI)C"⟩ prog_13_method_2_code 2 (Option.some FieldType.char) ∈ Wd := Wd_mem 716 (by decide +kernel) (by decide +kernel)
theorem wm_717 : Cond.methodLink "java/lang/StringLatin1" 9 ⟨"java/lang/String", "checkIndex", "(II)V"⟩ ∈ Wd := Wd_mem 717 (by decide +kernel) (by decide +kernel)
theorem wm_718 : Cond.static ⟨"java/lang/String", "checkIndex", "(II)V"⟩ ∈ Wd := Wd_mem 718 (by decide +kernel) (by decide +kernel)
theorem wm_719 : Cond.code ⟨"java/lang/String", "checkIndex", "(II)V"⟩ prog_12_method_155_code 2 (Option.none : Option FieldType) ∈ Wd := Wd_mem 719 (by decide +kernel) (by decide +kernel)
theorem wm_720 : Cond.fieldLink "java/lang/String" 1053 "jdk/internal/util/Preconditions" "SIOOBE_FORMATTER" "Ljava/util/function/BiFunction;" ∈ Wd := Wd_mem 720 (by decide +kernel) (by decide +kernel)
theorem wm_722 : Cond.methodLink "java/lang/String" 1059 ⟨"jdk/internal/util/Preconditions", "checkIndex", "(IILjava/util/function/BiFunction;)I"⟩ ∈ Wd := Wd_mem 722 (by decide +kernel) (by decide +kernel)
theorem wm_723 : Cond.static ⟨"jdk/internal/util/Preconditions", "checkIndex", "(IILjava/util/function/BiFunction;)I"⟩ ∈ Wd := Wd_mem 723 (by decide +kernel) (by decide +kernel)
theorem wm_724 : Cond.code ⟨"jdk/internal/util/Preconditions", "checkIndex", "(IILjava/util/function/BiFunction;)I"⟩ prog_16_method_11_code 3 (Option.some FieldType.int) ∈ Wd := Wd_mem 724 (by decide +kernel) (by decide +kernel)
theorem wm_749 : Cond.methodLink "RoadLinks$Tape" 51 ⟨"RoadLinks$Tape", "takePosts", "()V"⟩ ∈ Wd := Wd_mem 749 (by decide +kernel) (by decide +kernel)
theorem wm_751 : Cond.instanceMethod ⟨"RoadLinks$Tape", "takePosts", "()V"⟩ ∈ Wd := Wd_mem 751 (by decide +kernel) (by decide +kernel)
theorem wm_752 : Cond.code ⟨"RoadLinks$Tape", "takePosts", "()V"⟩ prog_7_method_8_code 2 (Option.none : Option FieldType) ∈ Wd := Wd_mem 752 (by decide +kernel) (by decide +kernel)
theorem wm_753 : Cond.methodLink "RoadLinks$Tape" 54 ⟨"RoadLinks$Tape", "takeNumber", "(I)I"⟩ ∈ Wd := Wd_mem 753 (by decide +kernel) (by decide +kernel)
theorem wm_755 : Cond.instanceMethod ⟨"RoadLinks$Tape", "takeNumber", "(I)I"⟩ ∈ Wd := Wd_mem 755 (by decide +kernel) (by decide +kernel)
theorem wm_756 : Cond.code ⟨"RoadLinks$Tape", "takeNumber", "(I)I"⟩ prog_7_method_9_code 4 (Option.some FieldType.int) ∈ Wd := Wd_mem 756 (by decide +kernel) (by decide +kernel)
theorem wm_757 : Cond.methodLink "RoadLinks$Tape" 82 ⟨"RoadLinks$Tape", "isFigure", "()Z"⟩ ∈ Wd := Wd_mem 757 (by decide +kernel) (by decide +kernel)
theorem wm_759 : Cond.instanceMethod ⟨"RoadLinks$Tape", "isFigure", "()Z"⟩ ∈ Wd := Wd_mem 759 (by decide +kernel) (by decide +kernel)
theorem wm_760 : Cond.code ⟨"RoadLinks$Tape", "isFigure", "()Z"⟩ prog_7_method_10_code 1 (Option.some FieldType.boolean) ∈ Wd := Wd_mem 760 (by decide +kernel) (by decide +kernel)
theorem wm_761 : Cond.methodLink "RoadLinks$Tape" 43 ⟨"RoadLinks$Tape", "takeSemicolon", "()Z"⟩ ∈ Wd := Wd_mem 761 (by decide +kernel) (by decide +kernel)
theorem wm_762 : Cond.instanceMethod ⟨"RoadLinks$Tape", "takeSemicolon", "()Z"⟩ ∈ Wd := Wd_mem 762 (by decide +kernel) (by decide +kernel)
theorem wm_763 : Cond.selects "RoadLinks$Tape" ⟨"RoadLinks$Tape", "takeSemicolon", "()Z"⟩ ⟨"RoadLinks$Tape", "takeSemicolon", "()Z"⟩ ∈ Wd := Wd_mem 763 (by decide +kernel) (by decide +kernel)
theorem wm_764 : Cond.code ⟨"RoadLinks$Tape", "takeSemicolon", "()Z"⟩ prog_7_method_4_code 1 (Option.some FieldType.boolean) ∈ Wd := Wd_mem 764 (by decide +kernel) (by decide +kernel)
theorem wm_765 : Cond.methodLink "RoadLinks" 241 ⟨"RoadLinks", "doStatements", "()I"⟩ ∈ Wd := Wd_mem 765 (by decide +kernel) (by decide +kernel)
theorem wm_767 : Cond.instanceMethod ⟨"RoadLinks", "doStatements", "()I"⟩ ∈ Wd := Wd_mem 767 (by decide +kernel) (by decide +kernel)
theorem wm_768 : Cond.code ⟨"RoadLinks", "doStatements", "()I"⟩ prog_1_method_56_code 4 (Option.some FieldType.int) ∈ Wd := Wd_mem 768 (by decide +kernel) (by decide +kernel)
theorem wm_769 : Cond.methodLink "RoadLinks" 265 ⟨"RoadLinks$Tape", "rewind", "()V"⟩ ∈ Wd := Wd_mem 769 (by decide +kernel) (by decide +kernel)
theorem wm_770 : Cond.methodLink "RoadLinks" 268 ⟨"RoadLinks$Tape", "takeStatement", "()V"⟩ ∈ Wd := Wd_mem 770 (by decide +kernel) (by decide +kernel)
theorem wm_771 : Cond.methodLink "RoadLinks" 271 ⟨"RoadLinks", "isDone", "()Z"⟩ ∈ Wd := Wd_mem 771 (by decide +kernel) (by decide +kernel)
theorem wm_773 : Cond.instanceMethod ⟨"RoadLinks", "isDone", "()Z"⟩ ∈ Wd := Wd_mem 773 (by decide +kernel) (by decide +kernel)
theorem wm_774 : Cond.code ⟨"RoadLinks", "isDone", "()Z"⟩ prog_1_method_57_code 1 (Option.some FieldType.boolean) ∈ Wd := Wd_mem 774 (by decide +kernel) (by decide +kernel)
theorem wm_775 : Cond.methodLink "RoadLinks" 284 ⟨"RoadLinks", "posts", "(I)I"⟩ ∈ Wd := Wd_mem 775 (by decide +kernel) (by decide +kernel)
theorem wm_776 : Cond.methodLink "RoadLinks" 289 ⟨"RoadLinks", "road", "(III)I"⟩ ∈ Wd := Wd_mem 776 (by decide +kernel) (by decide +kernel)
theorem wm_777 : Cond.methodLink "RoadLinks" 292 ⟨"RoadLinks", "targets", "(I)I"⟩ ∈ Wd := Wd_mem 777 (by decide +kernel) (by decide +kernel)
theorem wm_778 : Cond.methodLink "RoadLinks" 297 ⟨"RoadLinks", "add", "(I)I"⟩ ∈ Wd := Wd_mem 778 (by decide +kernel) (by decide +kernel)
theorem wm_779 : Cond.methodLink "RoadLinks" 300 ⟨"RoadLinks", "weigh", "(II)I"⟩ ∈ Wd := Wd_mem 779 (by decide +kernel) (by decide +kernel)
theorem wm_780 : Cond.methodLink "RoadLinks" 275 ⟨"RoadLinks$Tape", "takeSemicolon", "()Z"⟩ ∈ Wd := Wd_mem 780 (by decide +kernel) (by decide +kernel)
theorem wm_786 : Cond.methodLink "RoadLinks" 244 ⟨"RoadLinks$Speller", "spell", "(LRoadLinks$Table;)V"⟩ ∈ Wd := Wd_mem 786 (by decide +kernel) (by decide +kernel)
theorem wm_787 : Cond.instanceMethod ⟨"RoadLinks$Speller", "spell", "(LRoadLinks$Table;)V"⟩ ∈ Wd := Wd_mem 787 (by decide +kernel) (by decide +kernel)
theorem wm_788 : Cond.selects "RoadLinks$Speller" ⟨"RoadLinks$Speller", "spell", "(LRoadLinks$Table;)V"⟩ ⟨"RoadLinks$Speller", "spell", "(LRoadLinks$Table;)V"⟩ ∈ Wd := Wd_mem 788 (by decide +kernel) (by decide +kernel)
theorem wm_789 : Cond.code ⟨"RoadLinks$Speller", "spell", "(LRoadLinks$Table;)V"⟩ prog_5_method_2_code 3 (Option.none : Option FieldType) ∈ Wd := Wd_mem 789 (by decide +kernel) (by decide +kernel)
theorem wm_791 : Cond.methodLink "RoadLinks$Speller" 29 ⟨"RoadLinks$Speller", "write", "(Ljava/lang/String;)V"⟩ ∈ Wd := Wd_mem 791 (by decide +kernel) (by decide +kernel)
theorem wm_793 : Cond.instanceMethod ⟨"RoadLinks$Speller", "write", "(Ljava/lang/String;)V"⟩ ∈ Wd := Wd_mem 793 (by decide +kernel) (by decide +kernel)
theorem wm_794 : Cond.code ⟨"RoadLinks$Speller", "write", "(Ljava/lang/String;)V"⟩ prog_5_method_8_code 3 (Option.none : Option FieldType) ∈ Wd := Wd_mem 794 (by decide +kernel) (by decide +kernel)
theorem wm_795 : Cond.methodLink "RoadLinks$Speller" 87 ⟨"java/lang/String", "length", "()I"⟩ ∈ Wd := Wd_mem 795 (by decide +kernel) (by decide +kernel)
theorem wm_796 : Cond.methodLink "RoadLinks$Speller" 92 ⟨"java/lang/String", "charAt", "(I)C"⟩ ∈ Wd := Wd_mem 796 (by decide +kernel) (by decide +kernel)
theorem wm_797 : Cond.methodLink "RoadLinks$Speller" 83 ⟨"RoadLinks$Speller", "writeSign", "(C)V"⟩ ∈ Wd := Wd_mem 797 (by decide +kernel) (by decide +kernel)
theorem wm_799 : Cond.instanceMethod ⟨"RoadLinks$Speller", "writeSign", "(C)V"⟩ ∈ Wd := Wd_mem 799 (by decide +kernel) (by decide +kernel)
theorem wm_800 : Cond.code ⟨"RoadLinks$Speller", "writeSign", "(C)V"⟩ prog_5_method_9_code 2 (Option.none : Option FieldType) ∈ Wd := Wd_mem 800 (by decide +kernel) (by decide +kernel)
theorem wm_801 : Cond.methodLink "RoadLinks$Speller" 35 ⟨"RoadLinks$Speller", "writeNumber", "(I)V"⟩ ∈ Wd := Wd_mem 801 (by decide +kernel) (by decide +kernel)
theorem wm_803 : Cond.instanceMethod ⟨"RoadLinks$Speller", "writeNumber", "(I)V"⟩ ∈ Wd := Wd_mem 803 (by decide +kernel) (by decide +kernel)
theorem wm_804 : Cond.code ⟨"RoadLinks$Speller", "writeNumber", "(I)V"⟩ prog_5_method_7_code 2 (Option.none : Option FieldType) ∈ Wd := Wd_mem 804 (by decide +kernel) (by decide +kernel)
theorem wm_805 : Cond.methodLink "RoadLinks$Speller" 39 ⟨"RoadLinks$Speller", "writeRoads", "(LRoadLinks$Table;)V"⟩ ∈ Wd := Wd_mem 805 (by decide +kernel) (by decide +kernel)
theorem wm_807 : Cond.instanceMethod ⟨"RoadLinks$Speller", "writeRoads", "(LRoadLinks$Table;)V"⟩ ∈ Wd := Wd_mem 807 (by decide +kernel) (by decide +kernel)
theorem wm_808 : Cond.code ⟨"RoadLinks$Speller", "writeRoads", "(LRoadLinks$Table;)V"⟩ prog_5_method_3_code 4 (Option.none : Option FieldType) ∈ Wd := Wd_mem 808 (by decide +kernel) (by decide +kernel)
theorem wm_812 : Cond.methodLink "RoadLinks$Speller" 48 ⟨"RoadLinks$Speller", "writePostsOf", "(Ljava/lang/String;I)V"⟩ ∈ Wd := Wd_mem 812 (by decide +kernel) (by decide +kernel)
theorem wm_814 : Cond.instanceMethod ⟨"RoadLinks$Speller", "writePostsOf", "(Ljava/lang/String;I)V"⟩ ∈ Wd := Wd_mem 814 (by decide +kernel) (by decide +kernel)
theorem wm_815 : Cond.code ⟨"RoadLinks$Speller", "writePostsOf", "(Ljava/lang/String;I)V"⟩ prog_5_method_4_code 4 (Option.none : Option FieldType) ∈ Wd := Wd_mem 815 (by decide +kernel) (by decide +kernel)
theorem wm_817 : Cond.methodLink "RoadLinks$Speller" 59 ⟨"RoadLinks$Speller", "writeSet", "(I)V"⟩ ∈ Wd := Wd_mem 817 (by decide +kernel) (by decide +kernel)
theorem wm_819 : Cond.instanceMethod ⟨"RoadLinks$Speller", "writeSet", "(I)V"⟩ ∈ Wd := Wd_mem 819 (by decide +kernel) (by decide +kernel)
theorem wm_820 : Cond.code ⟨"RoadLinks$Speller", "writeSet", "(I)V"⟩ prog_5_method_5_code 3 (Option.none : Option FieldType) ∈ Wd := Wd_mem 820 (by decide +kernel) (by decide +kernel)
theorem wm_822 : Cond.methodLink "RoadLinks$Speller" 62 ⟨"RoadLinks$Speller", "writeWeights", "(LRoadLinks$Table;)V"⟩ ∈ Wd := Wd_mem 822 (by decide +kernel) (by decide +kernel)
theorem wm_824 : Cond.instanceMethod ⟨"RoadLinks$Speller", "writeWeights", "(LRoadLinks$Table;)V"⟩ ∈ Wd := Wd_mem 824 (by decide +kernel) (by decide +kernel)
theorem wm_825 : Cond.code ⟨"RoadLinks$Speller", "writeWeights", "(LRoadLinks$Table;)V"⟩ prog_5_method_6_code 3 (Option.none : Option FieldType) ∈ Wd := Wd_mem 825 (by decide +kernel) (by decide +kernel)
theorem wm_831 : Cond.methodLink "RoadLinks" 252 ⟨"RoadLinks$Table", "become", "(LRoadLinks$Table;)V"⟩ ∈ Wd := Wd_mem 831 (by decide +kernel) (by decide +kernel)
theorem wm_832 : Cond.instanceMethod ⟨"RoadLinks$Table", "become", "(LRoadLinks$Table;)V"⟩ ∈ Wd := Wd_mem 832 (by decide +kernel) (by decide +kernel)
theorem wm_833 : Cond.selects "RoadLinks$Table" ⟨"RoadLinks$Table", "become", "(LRoadLinks$Table;)V"⟩ ⟨"RoadLinks$Table", "become", "(LRoadLinks$Table;)V"⟩ ∈ Wd := Wd_mem 833 (by decide +kernel) (by decide +kernel)
theorem wm_834 : Cond.code ⟨"RoadLinks$Table", "become", "(LRoadLinks$Table;)V"⟩ prog_6_method_14_code 2 (Option.none : Option FieldType) ∈ Wd := Wd_mem 834 (by decide +kernel) (by decide +kernel)
theorem wm_835 : Cond.methodLink "RoadLinks$Table" 38 ⟨"java/lang/System", "arraycopy", "(Ljava/lang/Object;ILjava/lang/Object;II)V"⟩ ∈ Wd := Wd_mem 835 (by decide +kernel) (by decide +kernel)
theorem wm_844 : Cond.methodLink "RoadLinks" 255 ⟨"RoadLinks", "countRows", "()I"⟩ ∈ Wd := Wd_mem 844 (by decide +kernel) (by decide +kernel)
theorem wm_846 : Cond.instanceMethod ⟨"RoadLinks", "countRows", "()I"⟩ ∈ Wd := Wd_mem 846 (by decide +kernel) (by decide +kernel)
theorem wm_847 : Cond.code ⟨"RoadLinks", "countRows", "()I"⟩ prog_1_method_52_code 3 (Option.some FieldType.int) ∈ Wd := Wd_mem 847 (by decide +kernel) (by decide +kernel)
theorem wm_854 : Cond.fieldLink "RoadLinksModel" 7 "RoadLinksModel" "posts" "I" ∈ Wd := Wd_mem 854 (by decide +kernel) (by decide +kernel)
theorem wm_855 : Cond.fieldLink "RoadLinksModel" 13 "RoadLinksModel" "out" "[I" ∈ Wd := Wd_mem 855 (by decide +kernel) (by decide +kernel)
theorem wm_856 : Cond.fieldLink "RoadLinksModel" 74 "RoadLinksModel" "targets" "I" ∈ Wd := Wd_mem 856 (by decide +kernel) (by decide +kernel)
theorem wm_857 : Cond.fieldLink "RoadLinksModel" 17 "RoadLinksModel" "weight" "[I" ∈ Wd := Wd_mem 857 (by decide +kernel) (by decide +kernel)
theorem wm_858 : Cond.fieldLink "RoadLinksModel" 71 "RoadLinksModel" "sets" "I" ∈ Wd := Wd_mem 858 (by decide +kernel) (by decide +kernel)
theorem wm_859 : Cond.fieldLink "RoadLinksModel" 20 "RoadLinksModel" "family" "[I" ∈ Wd := Wd_mem 859 (by decide +kernel) (by decide +kernel)
theorem wm_860 : Cond.fieldLink "RoadLinksModel" 23 "RoadLinksModel" "size" "[I" ∈ Wd := Wd_mem 860 (by decide +kernel) (by decide +kernel)
theorem wm_861 : Cond.fieldLink "RoadLinksModel" 26 "RoadLinksModel" "cell" "[I" ∈ Wd := Wd_mem 861 (by decide +kernel) (by decide +kernel)
theorem wm_862 : Cond.fieldLink "RoadLinksModel" 29 "RoadLinksModel" "between" "[I" ∈ Wd := Wd_mem 862 (by decide +kernel) (by decide +kernel)
theorem wm_863 : Cond.fieldLink "RoadLinksModel" 32 "RoadLinksModel" "tape" "[I" ∈ Wd := Wd_mem 863 (by decide +kernel) (by decide +kernel)
theorem wm_864 : Cond.fieldLink "RoadLinksModel" 176 "RoadLinksModel" "taped" "I" ∈ Wd := Wd_mem 864 (by decide +kernel) (by decide +kernel)
theorem wm_865 : Cond.fieldLink "RoadLinksModel" 35 "RoadLinksModel" "open" "[I" ∈ Wd := Wd_mem 865 (by decide +kernel) (by decide +kernel)
theorem wm_866 : Cond.fieldLink "RoadLinksModel" 38 "RoadLinksModel" "isFree" "[Z" ∈ Wd := Wd_mem 866 (by decide +kernel) (by decide +kernel)
theorem wm_867 : Cond.fieldLink "RoadLinksModel" 42 "RoadLinksModel" "isBase" "[Z" ∈ Wd := Wd_mem 867 (by decide +kernel) (by decide +kernel)
theorem wm_868 : Cond.fieldLink "RoadLinksModel" 45 "RoadLinksModel" "ranks" "[I" ∈ Wd := Wd_mem 868 (by decide +kernel) (by decide +kernel)
theorem wm_869 : Cond.fieldLink "RoadLinksModel" 48 "RoadLinksModel" "otherRanks" "[I" ∈ Wd := Wd_mem 869 (by decide +kernel) (by decide +kernel)
theorem wm_870 : Cond.fieldLink "RoadLinksModel" 51 "RoadLinksModel" "postOf" "[I" ∈ Wd := Wd_mem 870 (by decide +kernel) (by decide +kernel)
theorem wm_871 : Cond.fieldLink "RoadLinksModel" 54 "RoadLinksModel" "wasBase" "[Z" ∈ Wd := Wd_mem 871 (by decide +kernel) (by decide +kernel)
theorem wm_872 : Cond.fieldLink "RoadLinksModel" 190 "RoadLinksModel" "at" "I" ∈ Wd := Wd_mem 872 (by decide +kernel) (by decide +kernel)
theorem wm_873 : Cond.fieldLink "RoadLinksModel" 213 "RoadLinksModel" "fault" "I" ∈ Wd := Wd_mem 873 (by decide +kernel) (by decide +kernel)
theorem wm_874 : Cond.fieldLink "RoadLinksModel" 202 "RoadLinksModel" "word" "I" ∈ Wd := Wd_mem 874 (by decide +kernel) (by decide +kernel)
theorem wm_875 : Cond.fieldLink "RoadLinksModel" 222 "RoadLinksModel" "figure" "I" ∈ Wd := Wd_mem 875 (by decide +kernel) (by decide +kernel)
theorem wm_876 : Cond.fieldLink "RoadLinksModel" 237 "RoadLinksModel" "first" "I" ∈ Wd := Wd_mem 876 (by decide +kernel) (by decide +kernel)
theorem wm_877 : Cond.fieldLink "RoadLinksModel" 240 "RoadLinksModel" "second" "I" ∈ Wd := Wd_mem 877 (by decide +kernel) (by decide +kernel)
theorem wm_878 : Cond.fieldLink "RoadLinksModel" 225 "RoadLinksModel" "told" "I" ∈ Wd := Wd_mem 878 (by decide +kernel) (by decide +kernel)
theorem wm_879 : Cond.fieldLink "RoadLinksModel" 57 "RoadLinksModel" "paper" "[I" ∈ Wd := Wd_mem 879 (by decide +kernel) (by decide +kernel)
theorem wm_880 : Cond.fieldLink "RoadLinksModel" 264 "RoadLinksModel" "papers" "I" ∈ Wd := Wd_mem 880 (by decide +kernel) (by decide +kernel)
theorem wm_881 : Cond.fieldLink "RoadLinksModel" 279 "RoadLinksModel" "hasImage" "Z" ∈ Wd := Wd_mem 881 (by decide +kernel) (by decide +kernel)
theorem wm_882 : Cond.fieldLink "RoadLinksModel" 60 "RoadLinksModel" "imaged" "[I" ∈ Wd := Wd_mem 882 (by decide +kernel) (by decide +kernel)
theorem wm_943 : Cond.instanceMethod ⟨"RoadLinksModel", "posts", "(I)I"⟩ ∈ Wd := Wd_mem 943 (by decide +kernel) (by decide +kernel)
theorem wm_944 : Cond.selects "RoadLinksModel" ⟨"RoadLinksModel", "posts", "(I)I"⟩ ⟨"RoadLinksModel", "posts", "(I)I"⟩ ∈ Wd := Wd_mem 944 (by decide +kernel) (by decide +kernel)
theorem wm_945 : Cond.code ⟨"RoadLinksModel", "posts", "(I)I"⟩ prog_9_method_18_code 3 (Option.some FieldType.int) ∈ Wd := Wd_mem 945 (by decide +kernel) (by decide +kernel)
theorem wm_946 : Cond.methodLink "RoadLinksModel" 63 ⟨"RoadLinksModel", "in", "(III)Z"⟩ ∈ Wd := Wd_mem 946 (by decide +kernel) (by decide +kernel)
theorem wm_947 : Cond.static ⟨"RoadLinksModel", "in", "(III)Z"⟩ ∈ Wd := Wd_mem 947 (by decide +kernel) (by decide +kernel)
theorem wm_948 : Cond.code ⟨"RoadLinksModel", "in", "(III)Z"⟩ prog_9_method_2_code 3 (Option.some FieldType.boolean) ∈ Wd := Wd_mem 948 (by decide +kernel) (by decide +kernel)
theorem wm_949 : Cond.methodLink "RoadLinksModel" 116 ⟨"RoadLinksModel", "begins", "(I)V"⟩ ∈ Wd := Wd_mem 949 (by decide +kernel) (by decide +kernel)
theorem wm_951 : Cond.instanceMethod ⟨"RoadLinksModel", "begins", "(I)V"⟩ ∈ Wd := Wd_mem 951 (by decide +kernel) (by decide +kernel)
theorem wm_952 : Cond.code ⟨"RoadLinksModel", "begins", "(I)V"⟩ prog_9_method_17_code 3 (Option.none : Option FieldType) ∈ Wd := Wd_mem 952 (by decide +kernel) (by decide +kernel)
theorem wm_954 : Cond.instanceMethod ⟨"RoadLinksModel", "road", "(III)I"⟩ ∈ Wd := Wd_mem 954 (by decide +kernel) (by decide +kernel)
theorem wm_955 : Cond.selects "RoadLinksModel" ⟨"RoadLinksModel", "road", "(III)I"⟩ ⟨"RoadLinksModel", "road", "(III)I"⟩ ∈ Wd := Wd_mem 955 (by decide +kernel) (by decide +kernel)
theorem wm_956 : Cond.code ⟨"RoadLinksModel", "road", "(III)I"⟩ prog_9_method_19_code 5 (Option.some FieldType.int) ∈ Wd := Wd_mem 956 (by decide +kernel) (by decide +kernel)
theorem wm_957 : Cond.methodLink "RoadLinksModel" 119 ⟨"RoadLinksModel", "isPost", "(I)Z"⟩ ∈ Wd := Wd_mem 957 (by decide +kernel) (by decide +kernel)
theorem wm_959 : Cond.instanceMethod ⟨"RoadLinksModel", "isPost", "(I)Z"⟩ ∈ Wd := Wd_mem 959 (by decide +kernel) (by decide +kernel)
theorem wm_960 : Cond.code ⟨"RoadLinksModel", "isPost", "(I)Z"⟩ prog_9_method_3_code 2 (Option.some FieldType.boolean) ∈ Wd := Wd_mem 960 (by decide +kernel) (by decide +kernel)
theorem wm_966 : Cond.instanceMethod ⟨"RoadLinksModel", "targets", "(I)I"⟩ ∈ Wd := Wd_mem 966 (by decide +kernel) (by decide +kernel)
theorem wm_967 : Cond.selects "RoadLinksModel" ⟨"RoadLinksModel", "targets", "(I)I"⟩ ⟨"RoadLinksModel", "targets", "(I)I"⟩ ∈ Wd := Wd_mem 967 (by decide +kernel) (by decide +kernel)
theorem wm_968 : Cond.code ⟨"RoadLinksModel", "targets", "(I)I"⟩ prog_9_method_21_code 3 (Option.some FieldType.int) ∈ Wd := Wd_mem 968 (by decide +kernel) (by decide +kernel)
theorem wm_969 : Cond.methodLink "RoadLinksModel" 122 ⟨"RoadLinksModel", "isSet", "(I)Z"⟩ ∈ Wd := Wd_mem 969 (by decide +kernel) (by decide +kernel)
theorem wm_971 : Cond.instanceMethod ⟨"RoadLinksModel", "isSet", "(I)Z"⟩ ∈ Wd := Wd_mem 971 (by decide +kernel) (by decide +kernel)
theorem wm_972 : Cond.code ⟨"RoadLinksModel", "isSet", "(I)Z"⟩ prog_9_method_4_code 2 (Option.some FieldType.boolean) ∈ Wd := Wd_mem 972 (by decide +kernel) (by decide +kernel)
theorem wm_973 : Cond.methodLink "RoadLinksModel" 67 ⟨"RoadLinksModel", "all", "()I"⟩ ∈ Wd := Wd_mem 973 (by decide +kernel) (by decide +kernel)
theorem wm_975 : Cond.instanceMethod ⟨"RoadLinksModel", "all", "()I"⟩ ∈ Wd := Wd_mem 975 (by decide +kernel) (by decide +kernel)
theorem wm_976 : Cond.code ⟨"RoadLinksModel", "all", "()I"⟩ prog_9_method_7_code 1 (Option.some FieldType.int) ∈ Wd := Wd_mem 976 (by decide +kernel) (by decide +kernel)
theorem wm_978 : Cond.instanceMethod ⟨"RoadLinksModel", "weigh", "(II)I"⟩ ∈ Wd := Wd_mem 978 (by decide +kernel) (by decide +kernel)
theorem wm_979 : Cond.selects "RoadLinksModel" ⟨"RoadLinksModel", "weigh", "(II)I"⟩ ⟨"RoadLinksModel", "weigh", "(II)I"⟩ ∈ Wd := Wd_mem 979 (by decide +kernel) (by decide +kernel)
theorem wm_980 : Cond.code ⟨"RoadLinksModel", "weigh", "(II)I"⟩ prog_9_method_22_code 4 (Option.some FieldType.int) ∈ Wd := Wd_mem 980 (by decide +kernel) (by decide +kernel)
theorem wm_982 : Cond.instanceMethod ⟨"RoadLinksModel", "add", "(I)I"⟩ ∈ Wd := Wd_mem 982 (by decide +kernel) (by decide +kernel)
theorem wm_983 : Cond.selects "RoadLinksModel" ⟨"RoadLinksModel", "add", "(I)I"⟩ ⟨"RoadLinksModel", "add", "(I)I"⟩ ∈ Wd := Wd_mem 983 (by decide +kernel) (by decide +kernel)
theorem wm_984 : Cond.code ⟨"RoadLinksModel", "add", "(I)I"⟩ prog_9_method_23_code 2 (Option.some FieldType.int) ∈ Wd := Wd_mem 984 (by decide +kernel) (by decide +kernel)
theorem wm_989 : Cond.methodLink "RoadLinksModel" 125 ⟨"RoadLinksModel", "isNumber", "(I)Z"⟩ ∈ Wd := Wd_mem 989 (by decide +kernel) (by decide +kernel)
theorem wm_991 : Cond.instanceMethod ⟨"RoadLinksModel", "isNumber", "(I)Z"⟩ ∈ Wd := Wd_mem 991 (by decide +kernel) (by decide +kernel)
theorem wm_992 : Cond.code ⟨"RoadLinksModel", "isNumber", "(I)Z"⟩ prog_9_method_5_code 2 (Option.some FieldType.boolean) ∈ Wd := Wd_mem 992 (by decide +kernel) (by decide +kernel)
theorem wm_997 : Cond.methodLink "RoadLinksModel" 128 ⟨"RoadLinksModel", "goes", "(I)V"⟩ ∈ Wd := Wd_mem 997 (by decide +kernel) (by decide +kernel)
theorem wm_999 : Cond.instanceMethod ⟨"RoadLinksModel", "goes", "(I)V"⟩ ∈ Wd := Wd_mem 999 (by decide +kernel) (by decide +kernel)
theorem wm_1000 : Cond.code ⟨"RoadLinksModel", "goes", "(I)V"⟩ prog_9_method_25_code 3 (Option.none : Option FieldType) ∈ Wd := Wd_mem 1000 (by decide +kernel) (by decide +kernel)
theorem wm_1009 : Cond.methodLink "RoadLinksModel" 131 ⟨"RoadLinksModel", "isSide", "(I)Z"⟩ ∈ Wd := Wd_mem 1009 (by decide +kernel) (by decide +kernel)
theorem wm_1010 : Cond.static ⟨"RoadLinksModel", "isSide", "(I)Z"⟩ ∈ Wd := Wd_mem 1010 (by decide +kernel) (by decide +kernel)
theorem wm_1011 : Cond.code ⟨"RoadLinksModel", "isSide", "(I)Z"⟩ prog_9_method_6_code 1 (Option.some FieldType.boolean) ∈ Wd := Wd_mem 1011 (by decide +kernel) (by decide +kernel)
theorem wm_1012 : Cond.methodLink "RoadLinksModel" 134 ⟨"RoadLinksModel", "lay", "(I)V"⟩ ∈ Wd := Wd_mem 1012 (by decide +kernel) (by decide +kernel)
theorem wm_1014 : Cond.instanceMethod ⟨"RoadLinksModel", "lay", "(I)V"⟩ ∈ Wd := Wd_mem 1014 (by decide +kernel) (by decide +kernel)
theorem wm_1015 : Cond.code ⟨"RoadLinksModel", "lay", "(I)V"⟩ prog_9_method_16_code 3 (Option.none : Option FieldType) ∈ Wd := Wd_mem 1015 (by decide +kernel) (by decide +kernel)
theorem wm_1016 : Cond.methodLink "RoadLinksModel" 105 ⟨"RoadLinksModel", "layFree", "(I)V"⟩ ∈ Wd := Wd_mem 1016 (by decide +kernel) (by decide +kernel)
theorem wm_1018 : Cond.instanceMethod ⟨"RoadLinksModel", "layFree", "(I)V"⟩ ∈ Wd := Wd_mem 1018 (by decide +kernel) (by decide +kernel)
theorem wm_1019 : Cond.code ⟨"RoadLinksModel", "layFree", "(I)V"⟩ prog_9_method_13_code 5 (Option.none : Option FieldType) ∈ Wd := Wd_mem 1019 (by decide +kernel) (by decide +kernel)
theorem wm_1020 : Cond.methodLink "RoadLinksModel" 90 ⟨"RoadLinksModel", "layCuts", "()V"⟩ ∈ Wd := Wd_mem 1020 (by decide +kernel) (by decide +kernel)
theorem wm_1022 : Cond.instanceMethod ⟨"RoadLinksModel", "layCuts", "()V"⟩ ∈ Wd := Wd_mem 1022 (by decide +kernel) (by decide +kernel)
theorem wm_1023 : Cond.code ⟨"RoadLinksModel", "layCuts", "()V"⟩ prog_9_method_11_code 2 (Option.none : Option FieldType) ∈ Wd := Wd_mem 1023 (by decide +kernel) (by decide +kernel)
theorem wm_1024 : Cond.methodLink "RoadLinksModel" 87 ⟨"RoadLinksModel", "openPast", "(I)I"⟩ ∈ Wd := Wd_mem 1024 (by decide +kernel) (by decide +kernel)
theorem wm_1026 : Cond.instanceMethod ⟨"RoadLinksModel", "openPast", "(I)I"⟩ ∈ Wd := Wd_mem 1026 (by decide +kernel) (by decide +kernel)
theorem wm_1027 : Cond.code ⟨"RoadLinksModel", "openPast", "(I)I"⟩ prog_9_method_9_code 5 (Option.some FieldType.int) ∈ Wd := Wd_mem 1027 (by decide +kernel) (by decide +kernel)
theorem wm_1028 : Cond.methodLink "RoadLinksModel" 77 ⟨"RoadLinksModel", "has", "(II)Z"⟩ ∈ Wd := Wd_mem 1028 (by decide +kernel) (by decide +kernel)
theorem wm_1029 : Cond.static ⟨"RoadLinksModel", "has", "(II)Z"⟩ ∈ Wd := Wd_mem 1029 (by decide +kernel) (by decide +kernel)
theorem wm_1030 : Cond.code ⟨"RoadLinksModel", "has", "(II)Z"⟩ prog_9_method_8_code 2 (Option.some FieldType.boolean) ∈ Wd := Wd_mem 1030 (by decide +kernel) (by decide +kernel)
theorem wm_1031 : Cond.methodLink "RoadLinksModel" 93 ⟨"RoadLinksModel", "cutOf", "(I)I"⟩ ∈ Wd := Wd_mem 1031 (by decide +kernel) (by decide +kernel)
theorem wm_1033 : Cond.instanceMethod ⟨"RoadLinksModel", "cutOf", "(I)I"⟩ ∈ Wd := Wd_mem 1033 (by decide +kernel) (by decide +kernel)
theorem wm_1034 : Cond.code ⟨"RoadLinksModel", "cutOf", "(I)I"⟩ prog_9_method_10_code 4 (Option.some FieldType.int) ∈ Wd := Wd_mem 1034 (by decide +kernel) (by decide +kernel)
theorem wm_1035 : Cond.methodLink "RoadLinksModel" 81 ⟨"java/lang/Integer", "bitCount", "(I)I"⟩ ∈ Wd := Wd_mem 1035 (by decide +kernel) (by decide +kernel)
theorem wm_1036 : Cond.methodLink "RoadLinksModel" 96 ⟨"RoadLinksModel", "meeting", "(II)I"⟩ ∈ Wd := Wd_mem 1036 (by decide +kernel) (by decide +kernel)
theorem wm_1038 : Cond.instanceMethod ⟨"RoadLinksModel", "meeting", "(II)I"⟩ ∈ Wd := Wd_mem 1038 (by decide +kernel) (by decide +kernel)
theorem wm_1039 : Cond.code ⟨"RoadLinksModel", "meeting", "(II)I"⟩ prog_9_method_12_code 5 (Option.some FieldType.int) ∈ Wd := Wd_mem 1039 (by decide +kernel) (by decide +kernel)
theorem wm_1040 : Cond.methodLink "RoadLinksModel" 109 ⟨"RoadLinksModel", "layRanks", "()V"⟩ ∈ Wd := Wd_mem 1040 (by decide +kernel) (by decide +kernel)
theorem wm_1042 : Cond.instanceMethod ⟨"RoadLinksModel", "layRanks", "()V"⟩ ∈ Wd := Wd_mem 1042 (by decide +kernel) (by decide +kernel)
theorem wm_1043 : Cond.code ⟨"RoadLinksModel", "layRanks", "()V"⟩ prog_9_method_14_code 4 (Option.none : Option FieldType) ∈ Wd := Wd_mem 1043 (by decide +kernel) (by decide +kernel)
theorem wm_1044 : Cond.methodLink "RoadLinksModel" 100 ⟨"java/lang/Math", "max", "(II)I"⟩ ∈ Wd := Wd_mem 1044 (by decide +kernel) (by decide +kernel)
theorem wm_1045 : Cond.methodLink "RoadLinksModel" 112 ⟨"RoadLinksModel", "isPastBase", "(I)Z"⟩ ∈ Wd := Wd_mem 1045 (by decide +kernel) (by decide +kernel)
theorem wm_1047 : Cond.instanceMethod ⟨"RoadLinksModel", "isPastBase", "(I)Z"⟩ ∈ Wd := Wd_mem 1047 (by decide +kernel) (by decide +kernel)
theorem wm_1048 : Cond.code ⟨"RoadLinksModel", "isPastBase", "(I)Z"⟩ prog_9_method_15_code 3 (Option.some FieldType.boolean) ∈ Wd := Wd_mem 1048 (by decide +kernel) (by decide +kernel)
theorem wm_1057 : Cond.methodLink "RoadLinksModel" 143 ⟨"RoadLinksModel", "listed", "(III)I"⟩ ∈ Wd := Wd_mem 1057 (by decide +kernel) (by decide +kernel)
theorem wm_1059 : Cond.instanceMethod ⟨"RoadLinksModel", "listed", "(III)I"⟩ ∈ Wd := Wd_mem 1059 (by decide +kernel) (by decide +kernel)
theorem wm_1060 : Cond.code ⟨"RoadLinksModel", "listed", "(III)I"⟩ prog_9_method_32_code 7 (Option.some FieldType.int) ∈ Wd := Wd_mem 1060 (by decide +kernel) (by decide +kernel)
theorem wm_1061 : Cond.methodLink "RoadLinksModel" 137 ⟨"RoadLinksModel", "isCircuit", "(I)Z"⟩ ∈ Wd := Wd_mem 1061 (by decide +kernel) (by decide +kernel)
theorem wm_1063 : Cond.instanceMethod ⟨"RoadLinksModel", "isCircuit", "(I)Z"⟩ ∈ Wd := Wd_mem 1063 (by decide +kernel) (by decide +kernel)
theorem wm_1064 : Cond.code ⟨"RoadLinksModel", "isCircuit", "(I)Z"⟩ prog_9_method_30_code 4 (Option.some FieldType.boolean) ∈ Wd := Wd_mem 1064 (by decide +kernel) (by decide +kernel)
theorem wm_1065 : Cond.methodLink "RoadLinksModel" 140 ⟨"RoadLinksModel", "shutOf", "(I)I"⟩ ∈ Wd := Wd_mem 1065 (by decide +kernel) (by decide +kernel)
theorem wm_1067 : Cond.instanceMethod ⟨"RoadLinksModel", "shutOf", "(I)I"⟩ ∈ Wd := Wd_mem 1067 (by decide +kernel) (by decide +kernel)
theorem wm_1068 : Cond.code ⟨"RoadLinksModel", "shutOf", "(I)I"⟩ prog_9_method_31_code 4 (Option.some FieldType.int) ∈ Wd := Wd_mem 1068 (by decide +kernel) (by decide +kernel)
theorem wm_1105 : Cond.methodLink "RoadLinksModel" 147 ⟨"RoadLinksModel", "weightOf", "(I)I"⟩ ∈ Wd := Wd_mem 1105 (by decide +kernel) (by decide +kernel)
theorem wm_1107 : Cond.instanceMethod ⟨"RoadLinksModel", "weightOf", "(I)I"⟩ ∈ Wd := Wd_mem 1107 (by decide +kernel) (by decide +kernel)
theorem wm_1108 : Cond.code ⟨"RoadLinksModel", "weightOf", "(I)I"⟩ prog_9_method_42_code 4 (Option.some FieldType.int) ∈ Wd := Wd_mem 1108 (by decide +kernel) (by decide +kernel)
theorem wm_1125 : Cond.methodLink "RoadLinksModel" 150 ⟨"RoadLinksModel", "canHave", "(II)Z"⟩ ∈ Wd := Wd_mem 1125 (by decide +kernel) (by decide +kernel)
theorem wm_1127 : Cond.instanceMethod ⟨"RoadLinksModel", "canHave", "(II)Z"⟩ ∈ Wd := Wd_mem 1127 (by decide +kernel) (by decide +kernel)
theorem wm_1128 : Cond.code ⟨"RoadLinksModel", "canHave", "(II)Z"⟩ prog_9_method_47_code 4 (Option.some FieldType.boolean) ∈ Wd := Wd_mem 1128 (by decide +kernel) (by decide +kernel)
theorem wm_1137 : Cond.methodLink "RoadLinksModel" 153 ⟨"RoadLinksModel", "canTake", "(II)Z"⟩ ∈ Wd := Wd_mem 1137 (by decide +kernel) (by decide +kernel)
theorem wm_1139 : Cond.instanceMethod ⟨"RoadLinksModel", "canTake", "(II)Z"⟩ ∈ Wd := Wd_mem 1139 (by decide +kernel) (by decide +kernel)
theorem wm_1140 : Cond.code ⟨"RoadLinksModel", "canTake", "(II)Z"⟩ prog_9_method_50_code 6 (Option.some FieldType.boolean) ∈ Wd := Wd_mem 1140 (by decide +kernel) (by decide +kernel)
theorem wm_1145 : Cond.methodLink "RoadLinksModel" 163 ⟨"RoadLinksModel", "changing", "(II)I"⟩ ∈ Wd := Wd_mem 1145 (by decide +kernel) (by decide +kernel)
theorem wm_1147 : Cond.instanceMethod ⟨"RoadLinksModel", "changing", "(II)I"⟩ ∈ Wd := Wd_mem 1147 (by decide +kernel) (by decide +kernel)
theorem wm_1148 : Cond.code ⟨"RoadLinksModel", "changing", "(II)I"⟩ prog_9_method_54_code 6 (Option.some FieldType.int) ∈ Wd := Wd_mem 1148 (by decide +kernel) (by decide +kernel)
theorem wm_1149 : Cond.methodLink "RoadLinksModel" 156 ⟨"RoadLinksModel", "keepsBases", "()V"⟩ ∈ Wd := Wd_mem 1149 (by decide +kernel) (by decide +kernel)
theorem wm_1151 : Cond.instanceMethod ⟨"RoadLinksModel", "keepsBases", "()V"⟩ ∈ Wd := Wd_mem 1151 (by decide +kernel) (by decide +kernel)
theorem wm_1152 : Cond.code ⟨"RoadLinksModel", "keepsBases", "()V"⟩ prog_9_method_52_code 2 (Option.none : Option FieldType) ∈ Wd := Wd_mem 1152 (by decide +kernel) (by decide +kernel)
theorem wm_1153 : Cond.methodLink "RoadLinksModel" 159 ⟨"RoadLinksModel", "areBases", "()Z"⟩ ∈ Wd := Wd_mem 1153 (by decide +kernel) (by decide +kernel)
theorem wm_1155 : Cond.instanceMethod ⟨"RoadLinksModel", "areBases", "()Z"⟩ ∈ Wd := Wd_mem 1155 (by decide +kernel) (by decide +kernel)
theorem wm_1156 : Cond.code ⟨"RoadLinksModel", "areBases", "()Z"⟩ prog_9_method_53_code 2 (Option.some FieldType.boolean) ∈ Wd := Wd_mem 1156 (by decide +kernel) (by decide +kernel)
theorem wm_1173 : Cond.methodLink "RoadLinksModel" 166 ⟨"RoadLinksModel", "isRow", "(I)Z"⟩ ∈ Wd := Wd_mem 1173 (by decide +kernel) (by decide +kernel)
theorem wm_1174 : Cond.static ⟨"RoadLinksModel", "isRow", "(I)Z"⟩ ∈ Wd := Wd_mem 1174 (by decide +kernel) (by decide +kernel)
theorem wm_1175 : Cond.code ⟨"RoadLinksModel", "isRow", "(I)Z"⟩ prog_9_method_59_code 1 (Option.some FieldType.boolean) ∈ Wd := Wd_mem 1175 (by decide +kernel) (by decide +kernel)
theorem wm_1188 : Cond.constantLong "RoadLinksModel" 171 (-9223372036854775808 : Int64) ∈ Wd := Wd_mem 1188 (by decide +kernel) (by decide +kernel)
theorem wm_1197 : Cond.methodLink "RoadLinksModel" 173 ⟨"java/lang/Math", "min", "(II)I"⟩ ∈ Wd := Wd_mem 1197 (by decide +kernel) (by decide +kernel)
theorem wm_1214 : Cond.methodLink "RoadLinksModel" 260 ⟨"RoadLinksModel", "reads", "(Z)I"⟩ ∈ Wd := Wd_mem 1214 (by decide +kernel) (by decide +kernel)
theorem wm_1216 : Cond.instanceMethod ⟨"RoadLinksModel", "reads", "(Z)I"⟩ ∈ Wd := Wd_mem 1216 (by decide +kernel) (by decide +kernel)
theorem wm_1217 : Cond.code ⟨"RoadLinksModel", "reads", "(Z)I"⟩ prog_9_method_78_code 3 (Option.some FieldType.int) ∈ Wd := Wd_mem 1217 (by decide +kernel) (by decide +kernel)
theorem wm_1218 : Cond.methodLink "RoadLinksModel" 254 ⟨"RoadLinksModel", "readStatement", "()Z"⟩ ∈ Wd := Wd_mem 1218 (by decide +kernel) (by decide +kernel)
theorem wm_1220 : Cond.instanceMethod ⟨"RoadLinksModel", "readStatement", "()Z"⟩ ∈ Wd := Wd_mem 1220 (by decide +kernel) (by decide +kernel)
theorem wm_1221 : Cond.code ⟨"RoadLinksModel", "readStatement", "()Z"⟩ prog_9_method_76_code 1 (Option.some FieldType.boolean) ∈ Wd := Wd_mem 1221 (by decide +kernel) (by decide +kernel)
theorem wm_1222 : Cond.methodLink "RoadLinksModel" 231 ⟨"RoadLinksModel", "readWord", "()Z"⟩ ∈ Wd := Wd_mem 1222 (by decide +kernel) (by decide +kernel)
theorem wm_1224 : Cond.instanceMethod ⟨"RoadLinksModel", "readWord", "()Z"⟩ ∈ Wd := Wd_mem 1224 (by decide +kernel) (by decide +kernel)
theorem wm_1225 : Cond.code ⟨"RoadLinksModel", "readWord", "()Z"⟩ prog_9_method_73_code 2 (Option.some FieldType.boolean) ∈ Wd := Wd_mem 1225 (by decide +kernel) (by decide +kernel)
theorem wm_1226 : Cond.methodLink "RoadLinksModel" 205 ⟨"RoadLinksModel", "wordOf", "(I)Ljava/lang/String;"⟩ ∈ Wd := Wd_mem 1226 (by decide +kernel) (by decide +kernel)
theorem wm_1227 : Cond.static ⟨"RoadLinksModel", "wordOf", "(I)Ljava/lang/String;"⟩ ∈ Wd := Wd_mem 1227 (by decide +kernel) (by decide +kernel)
theorem wm_1228 : Cond.code ⟨"RoadLinksModel", "wordOf", "(I)Ljava/lang/String;"⟩ prog_9_method_69_code 1 (Option.some (FieldType.object "java/lang/String")) ∈ Wd := Wd_mem 1228 (by decide +kernel) (by decide +kernel)
theorem wm_1235 : Cond.methodLink "RoadLinksModel" 209 ⟨"RoadLinksModel", "isWordFrom", "(ILjava/lang/String;)Z"⟩ ∈ Wd := Wd_mem 1235 (by decide +kernel) (by decide +kernel)
theorem wm_1237 : Cond.instanceMethod ⟨"RoadLinksModel", "isWordFrom", "(ILjava/lang/String;)Z"⟩ ∈ Wd := Wd_mem 1237 (by decide +kernel) (by decide +kernel)
theorem wm_1238 : Cond.code ⟨"RoadLinksModel", "isWordFrom", "(ILjava/lang/String;)Z"⟩ prog_9_method_72_code 4 (Option.some FieldType.boolean) ∈ Wd := Wd_mem 1238 (by decide +kernel) (by decide +kernel)
theorem wm_1239 : Cond.methodLink "RoadLinksModel" 193 ⟨"java/lang/String", "length", "()I"⟩ ∈ Wd := Wd_mem 1239 (by decide +kernel) (by decide +kernel)
theorem wm_1240 : Cond.methodLink "RoadLinksModel" 198 ⟨"java/lang/String", "charAt", "(I)C"⟩ ∈ Wd := Wd_mem 1240 (by decide +kernel) (by decide +kernel)
theorem wm_1241 : Cond.methodLink "RoadLinksModel" 234 ⟨"RoadLinksModel", "readSet", "()Z"⟩ ∈ Wd := Wd_mem 1241 (by decide +kernel) (by decide +kernel)
theorem wm_1243 : Cond.instanceMethod ⟨"RoadLinksModel", "readSet", "()Z"⟩ ∈ Wd := Wd_mem 1243 (by decide +kernel) (by decide +kernel)
theorem wm_1244 : Cond.code ⟨"RoadLinksModel", "readSet", "()Z"⟩ prog_9_method_75_code 1 (Option.some FieldType.boolean) ∈ Wd := Wd_mem 1244 (by decide +kernel) (by decide +kernel)
theorem wm_1245 : Cond.methodLink "RoadLinksModel" 216 ⟨"RoadLinksModel", "isHere", "(I)Z"⟩ ∈ Wd := Wd_mem 1245 (by decide +kernel) (by decide +kernel)
theorem wm_1247 : Cond.instanceMethod ⟨"RoadLinksModel", "isHere", "(I)Z"⟩ ∈ Wd := Wd_mem 1247 (by decide +kernel) (by decide +kernel)
theorem wm_1248 : Cond.code ⟨"RoadLinksModel", "isHere", "(I)Z"⟩ prog_9_method_70_code 2 (Option.some FieldType.boolean) ∈ Wd := Wd_mem 1248 (by decide +kernel) (by decide +kernel)
theorem wm_1249 : Cond.methodLink "RoadLinksModel" 228 ⟨"RoadLinksModel", "readFigure", "()Z"⟩ ∈ Wd := Wd_mem 1249 (by decide +kernel) (by decide +kernel)
theorem wm_1251 : Cond.instanceMethod ⟨"RoadLinksModel", "readFigure", "()Z"⟩ ∈ Wd := Wd_mem 1251 (by decide +kernel) (by decide +kernel)
theorem wm_1252 : Cond.code ⟨"RoadLinksModel", "readFigure", "()Z"⟩ prog_9_method_74_code 1 (Option.some FieldType.boolean) ∈ Wd := Wd_mem 1252 (by decide +kernel) (by decide +kernel)
theorem wm_1253 : Cond.methodLink "RoadLinksModel" 219 ⟨"RoadLinksModel", "isFigure", "()Z"⟩ ∈ Wd := Wd_mem 1253 (by decide +kernel) (by decide +kernel)
theorem wm_1255 : Cond.instanceMethod ⟨"RoadLinksModel", "isFigure", "()Z"⟩ ∈ Wd := Wd_mem 1255 (by decide +kernel) (by decide +kernel)
theorem wm_1256 : Cond.code ⟨"RoadLinksModel", "isFigure", "()Z"⟩ prog_9_method_71_code 1 (Option.some FieldType.boolean) ∈ Wd := Wd_mem 1256 (by decide +kernel) (by decide +kernel)
theorem wm_1257 : Cond.methodLink "RoadLinksModel" 257 ⟨"RoadLinksModel", "isDone", "()Z"⟩ ∈ Wd := Wd_mem 1257 (by decide +kernel) (by decide +kernel)
theorem wm_1259 : Cond.instanceMethod ⟨"RoadLinksModel", "isDone", "()Z"⟩ ∈ Wd := Wd_mem 1259 (by decide +kernel) (by decide +kernel)
theorem wm_1260 : Cond.code ⟨"RoadLinksModel", "isDone", "()Z"⟩ prog_9_method_77_code 1 (Option.some FieldType.boolean) ∈ Wd := Wd_mem 1260 (by decide +kernel) (by decide +kernel)
theorem wm_1261 : Cond.methodLink "RoadLinksModel" 243 ⟨"RoadLinksModel", "posts", "(I)I"⟩ ∈ Wd := Wd_mem 1261 (by decide +kernel) (by decide +kernel)
theorem wm_1262 : Cond.methodLink "RoadLinksModel" 245 ⟨"RoadLinksModel", "road", "(III)I"⟩ ∈ Wd := Wd_mem 1262 (by decide +kernel) (by decide +kernel)
theorem wm_1263 : Cond.methodLink "RoadLinksModel" 247 ⟨"RoadLinksModel", "targets", "(I)I"⟩ ∈ Wd := Wd_mem 1263 (by decide +kernel) (by decide +kernel)
theorem wm_1264 : Cond.methodLink "RoadLinksModel" 249 ⟨"RoadLinksModel", "add", "(I)I"⟩ ∈ Wd := Wd_mem 1264 (by decide +kernel) (by decide +kernel)
theorem wm_1265 : Cond.methodLink "RoadLinksModel" 252 ⟨"RoadLinksModel", "weigh", "(II)I"⟩ ∈ Wd := Wd_mem 1265 (by decide +kernel) (by decide +kernel)
theorem wm_1270 : Cond.methodLink "RoadLinksModel" 276 ⟨"RoadLinksModel", "spells", "()V"⟩ ∈ Wd := Wd_mem 1270 (by decide +kernel) (by decide +kernel)
theorem wm_1272 : Cond.instanceMethod ⟨"RoadLinksModel", "spells", "()V"⟩ ∈ Wd := Wd_mem 1272 (by decide +kernel) (by decide +kernel)
theorem wm_1273 : Cond.code ⟨"RoadLinksModel", "spells", "()V"⟩ prog_9_method_83_code 3 (Option.none : Option FieldType) ∈ Wd := Wd_mem 1273 (by decide +kernel) (by decide +kernel)
theorem wm_1274 : Cond.methodLink "RoadLinksModel" 270 ⟨"RoadLinksModel", "writesWord", "(I)V"⟩ ∈ Wd := Wd_mem 1274 (by decide +kernel) (by decide +kernel)
theorem wm_1276 : Cond.instanceMethod ⟨"RoadLinksModel", "writesWord", "(I)V"⟩ ∈ Wd := Wd_mem 1276 (by decide +kernel) (by decide +kernel)
theorem wm_1277 : Cond.code ⟨"RoadLinksModel", "writesWord", "(I)V"⟩ prog_9_method_81_code 3 (Option.none : Option FieldType) ∈ Wd := Wd_mem 1277 (by decide +kernel) (by decide +kernel)
theorem wm_1278 : Cond.methodLink "RoadLinksModel" 267 ⟨"RoadLinksModel", "writes", "(I)V"⟩ ∈ Wd := Wd_mem 1278 (by decide +kernel) (by decide +kernel)
theorem wm_1280 : Cond.instanceMethod ⟨"RoadLinksModel", "writes", "(I)V"⟩ ∈ Wd := Wd_mem 1280 (by decide +kernel) (by decide +kernel)
theorem wm_1281 : Cond.code ⟨"RoadLinksModel", "writes", "(I)V"⟩ prog_9_method_80_code 2 (Option.none : Option FieldType) ∈ Wd := Wd_mem 1281 (by decide +kernel) (by decide +kernel)
theorem wm_1282 : Cond.methodLink "RoadLinksModel" 273 ⟨"RoadLinksModel", "writesNumber", "(I)V"⟩ ∈ Wd := Wd_mem 1282 (by decide +kernel) (by decide +kernel)
theorem wm_1284 : Cond.instanceMethod ⟨"RoadLinksModel", "writesNumber", "(I)V"⟩ ∈ Wd := Wd_mem 1284 (by decide +kernel) (by decide +kernel)
theorem wm_1285 : Cond.code ⟨"RoadLinksModel", "writesNumber", "(I)V"⟩ prog_9_method_82_code 2 (Option.none : Option FieldType) ∈ Wd := Wd_mem 1285 (by decide +kernel) (by decide +kernel)
theorem wm_1298 : Cond.fieldLink "java/lang/String" 9 "java/lang/String" "value" "[B" ∈ Wd := Wd_mem 1298 (by decide +kernel) (by decide +kernel)
theorem wm_1299 : Cond.fieldLink "java/lang/String" 15 "java/lang/String" "coder" "B" ∈ Wd := Wd_mem 1299 (by decide +kernel) (by decide +kernel)
theorem in_X0 : ∀ w ∈ u_ws RX0 TX0 4, w ∈ Wd := by decide +kernel
theorem in_X1 : ∀ w ∈ u_ws RX1 TX1 2, w ∈ Wd := by decide +kernel
theorem in_X2 : ∀ w ∈ u_ws RX2 TX2 7, w ∈ Wd := by decide +kernel
theorem in_X3 : ∀ w ∈ u_ws RX3 TX3 3, w ∈ Wd := by decide +kernel
theorem in_X4 : ∀ w ∈ u_ws RX4 TX4 7, w ∈ Wd := by decide +kernel
theorem in_X5 : ∀ w ∈ u_ws RX5 TX5 8, w ∈ Wd := by decide +kernel
theorem in_X6 : ∀ w ∈ u_ws RX6 TX6 9, w ∈ Wd := by decide +kernel
theorem in_X7 : ∀ w ∈ u_ws RX7 TX7 29, w ∈ Wd := by decide +kernel
theorem wj_compact : Cond.fieldLink "java/lang/String" 38 "java/lang/String" "COMPACT_STRINGS" "Z" ∈ Wd := wm_704
theorem wj_coder : Cond.fieldLink "java/lang/String" 15 "java/lang/String" "coder" "B" ∈ Wd := wm_1299
theorem wj_value : Cond.fieldLink "java/lang/String" 9 "java/lang/String" "value" "[B" ∈ Wd := wm_1298
theorem wj_fmt : Cond.fieldLink "java/lang/String" 1053 "jdk/internal/util/Preconditions" "SIOOBE_FORMATTER" "Ljava/util/function/BiFunction;" ∈ Wd := wm_720
theorem fo_X6_10 : FO RX6 10 6 0 := ⟨_, _, _, rfl, by decide, rfl, wm_254, in_X6⟩
theorem fo_X6_60 : FO RX6 60 4 0 := ⟨_, _, _, rfl, by decide, rfl, wm_92, in_X4⟩
theorem fp_X4_9 : FP RX4 9 4 0 .int := ⟨_, _, _, tyX4, rfl, by decide, rfl, wm_90, in_X4, rfl, tyX4_ok, nmX4, by decide +kernel⟩
theorem fp_X4_15 : FP RX4 15 4 1 .int := ⟨_, _, _, tyX4, rfl, by decide, rfl, wm_94, in_X4, rfl, tyX4_ok, nmX4, by decide +kernel⟩
theorem fp_X4_18 : FP RX4 18 4 2 .int := ⟨_, _, _, tyX4, rfl, by decide, rfl, wm_98, in_X4, rfl, tyX4_ok, nmX4, by decide +kernel⟩
theorem fo_X4_24 : FO RX4 24 4 4 := ⟨_, _, _, rfl, by decide, rfl, wm_105, in_X4⟩
theorem fo_X4_28 : FO RX4 28 4 5 := ⟨_, _, _, rfl, by decide, rfl, wm_109, in_X4⟩
theorem fo_X4_21 : FO RX4 21 4 3 := ⟨_, _, _, rfl, by decide, rfl, wm_102, in_X4⟩
theorem fp_X4_21 : FP RX4 21 4 3 .int := ⟨_, _, _, tyX4, rfl, by decide, rfl, wm_102, in_X4, rfl, tyX4_ok, nmX4, by decide +kernel⟩
theorem cs_X6_64 : CSV RX6 64 yX4_begin cX4_begin 3 none 1 := ⟨Wd_ga (List.forall_mem_cons.mpr ⟨wm_286, List.forall_mem_cons.mpr ⟨wm_287, List.forall_mem_cons.mpr ⟨wm_288, List.forall_mem_cons.mpr ⟨wm_62, fun _ h => absurd h List.not_mem_nil⟩⟩⟩⟩) wm_289, rfl, by decide +kernel, by decide +kernel, by decide +kernel⟩
theorem cs_X7_63 : CSS RX7 63 yX7_in cX7_in 3 (some .boolean) 3 := ⟨Wd_ga (List.forall_mem_cons.mpr ⟨wm_946, List.forall_mem_cons.mpr ⟨wm_947, List.forall_mem_cons.mpr ⟨wm_68, fun _ h => absurd h List.not_mem_nil⟩⟩⟩) wm_948, by decide +kernel, by decide +kernel, by decide +kernel⟩
theorem fo_X7_7 : FO RX7 7 7 0 := ⟨_, _, _, rfl, by decide, rfl, wm_854, in_X7⟩
theorem fp_X7_7 : FP RX7 7 7 0 .int := ⟨_, _, _, tyX7, rfl, by decide, rfl, wm_854, in_X7, rfl, tyX7_ok, nmX7, by decide +kernel⟩
theorem fp_X7_74 : FP RX7 74 7 2 .int := ⟨_, _, _, tyX7, rfl, by decide, rfl, wm_856, in_X7, rfl, tyX7_ok, nmX7, by decide +kernel⟩
theorem fp_X7_71 : FP RX7 71 7 4 .int := ⟨_, _, _, tyX7, rfl, by decide, rfl, wm_858, in_X7, rfl, tyX7_ok, nmX7, by decide +kernel⟩
theorem fo_X7_13 : FO RX7 13 7 1 := ⟨_, _, _, rfl, by decide, rfl, wm_855, in_X7⟩
theorem fo_X7_17 : FO RX7 17 7 3 := ⟨_, _, _, rfl, by decide, rfl, wm_857, in_X7⟩
theorem cs_X7_116 : CSV RX7 116 yX7_begins cX7_begins 3 none 1 := ⟨Wd_ga (List.forall_mem_cons.mpr ⟨wm_949, List.forall_mem_cons.mpr ⟨wm_951, List.forall_mem_cons.mpr ⟨wm_24, List.forall_mem_cons.mpr ⟨wm_68, fun _ h => absurd h List.not_mem_nil⟩⟩⟩⟩) wm_952, rfl, by decide +kernel, by decide +kernel, by decide +kernel⟩
theorem fo_X4_9 : FO RX4 9 4 0 := ⟨_, _, _, rfl, by decide, rfl, wm_90, in_X4⟩
theorem cs_X6_68 : CSV RX6 68 yX4_isPost cX4_isPost 2 (some .boolean) 1 := ⟨Wd_ga (List.forall_mem_cons.mpr ⟨wm_294, List.forall_mem_cons.mpr ⟨wm_295, List.forall_mem_cons.mpr ⟨wm_296, List.forall_mem_cons.mpr ⟨wm_62, fun _ h => absurd h List.not_mem_nil⟩⟩⟩⟩) wm_297, rfl, by decide +kernel, by decide +kernel, by decide +kernel⟩
theorem fo_X6_72 : FO RX6 72 4 4 := ⟨_, _, _, rfl, by decide, rfl, wm_108, in_X4⟩
theorem cs_X6_75 : CSV RX6 75 yX4_lay cX4_lay 4 none 3 := ⟨Wd_ga (List.forall_mem_cons.mpr ⟨wm_298, List.forall_mem_cons.mpr ⟨wm_299, List.forall_mem_cons.mpr ⟨wm_300, List.forall_mem_cons.mpr ⟨wm_62, fun _ h => absurd h List.not_mem_nil⟩⟩⟩⟩) wm_301, rfl, by decide +kernel, by decide +kernel, by decide +kernel⟩
theorem cs_X7_119 : CSV RX7 119 yX7_isPost cX7_isPost 2 (some .boolean) 1 := ⟨Wd_ga (List.forall_mem_cons.mpr ⟨wm_957, List.forall_mem_cons.mpr ⟨wm_959, List.forall_mem_cons.mpr ⟨wm_25, List.forall_mem_cons.mpr ⟨wm_68, fun _ h => absurd h List.not_mem_nil⟩⟩⟩⟩) wm_960, rfl, by decide +kernel, by decide +kernel, by decide +kernel⟩
theorem cs_X4_34 : CSV RX4 34 yX4_all cX4_all 1 (some .int) 0 := ⟨Wd_ga (List.forall_mem_cons.mpr ⟨wm_314, List.forall_mem_cons.mpr ⟨wm_315, List.forall_mem_cons.mpr ⟨wm_316, List.forall_mem_cons.mpr ⟨wm_62, fun _ h => absurd h List.not_mem_nil⟩⟩⟩⟩) wm_317, rfl, by decide +kernel, by decide +kernel, by decide +kernel⟩
theorem cs_X6_79 : CSV RX6 79 yX4_isSet cX4_isSet 2 (some .boolean) 1 := ⟨Wd_ga (List.forall_mem_cons.mpr ⟨wm_310, List.forall_mem_cons.mpr ⟨wm_311, List.forall_mem_cons.mpr ⟨wm_312, List.forall_mem_cons.mpr ⟨wm_62, fun _ h => absurd h List.not_mem_nil⟩⟩⟩⟩) wm_313, rfl, by decide +kernel, by decide +kernel, by decide +kernel⟩
theorem fo_X6_82 : FO RX6 82 4 1 := ⟨_, _, _, rfl, by decide, rfl, wm_97, in_X4⟩
theorem cs_X6_85 : CSV RX6 85 yX4_aim cX4_aim 2 none 1 := ⟨Wd_ga (List.forall_mem_cons.mpr ⟨wm_318, List.forall_mem_cons.mpr ⟨wm_319, List.forall_mem_cons.mpr ⟨wm_320, List.forall_mem_cons.mpr ⟨wm_62, fun _ h => absurd h List.not_mem_nil⟩⟩⟩⟩) wm_321, rfl, by decide +kernel, by decide +kernel, by decide +kernel⟩
theorem cs_X7_67 : CSV RX7 67 yX7_all cX7_all 1 (some .int) 0 := ⟨Wd_ga (List.forall_mem_cons.mpr ⟨wm_973, List.forall_mem_cons.mpr ⟨wm_975, List.forall_mem_cons.mpr ⟨wm_27, List.forall_mem_cons.mpr ⟨wm_68, fun _ h => absurd h List.not_mem_nil⟩⟩⟩⟩) wm_976, rfl, by decide +kernel, by decide +kernel, by decide +kernel⟩
theorem cs_X7_122 : CSV RX7 122 yX7_isSet cX7_isSet 2 (some .boolean) 1 := ⟨Wd_ga (List.forall_mem_cons.mpr ⟨wm_969, List.forall_mem_cons.mpr ⟨wm_971, List.forall_mem_cons.mpr ⟨wm_26, List.forall_mem_cons.mpr ⟨wm_68, fun _ h => absurd h List.not_mem_nil⟩⟩⟩⟩) wm_972, rfl, by decide +kernel, by decide +kernel, by decide +kernel⟩
theorem fo_X7_74 : FO RX7 74 7 2 := ⟨_, _, _, rfl, by decide, rfl, wm_856, in_X7⟩
theorem fo_X6_88 : FO RX6 88 4 5 := ⟨_, _, _, rfl, by decide, rfl, wm_111, in_X4⟩
theorem cs_X6_91 : CSV RX6 91 yX4_load cX4_load 3 none 2 := ⟨Wd_ga (List.forall_mem_cons.mpr ⟨wm_326, List.forall_mem_cons.mpr ⟨wm_327, List.forall_mem_cons.mpr ⟨wm_328, List.forall_mem_cons.mpr ⟨wm_62, fun _ h => absurd h List.not_mem_nil⟩⟩⟩⟩) wm_329, rfl, by decide +kernel, by decide +kernel, by decide +kernel⟩
theorem fo_X6_95 : FO RX6 95 4 2 := ⟨_, _, _, rfl, by decide, rfl, wm_101, in_X4⟩
theorem fo_X4_18 : FO RX4 18 4 2 := ⟨_, _, _, rfl, by decide, rfl, wm_98, in_X4⟩
theorem fo_X4_31 : FO RX4 31 4 6 := ⟨_, _, _, rfl, by decide, rfl, wm_112, in_X4⟩
theorem cs_X6_98 : CSV RX6 98 yX4_join cX4_join 2 none 1 := ⟨Wd_ga (List.forall_mem_cons.mpr ⟨wm_334, List.forall_mem_cons.mpr ⟨wm_335, List.forall_mem_cons.mpr ⟨wm_336, List.forall_mem_cons.mpr ⟨wm_62, fun _ h => absurd h List.not_mem_nil⟩⟩⟩⟩) wm_337, rfl, by decide +kernel, by decide +kernel, by decide +kernel⟩
theorem fo_X7_71 : FO RX7 71 7 4 := ⟨_, _, _, rfl, by decide, rfl, wm_858, in_X7⟩
theorem fo_X7_20 : FO RX7 20 7 5 := ⟨_, _, _, rfl, by decide, rfl, wm_859, in_X7⟩
theorem cs_X6_101 : CSV RX6 101 yX4_isNumber cX4_isNumber 2 (some .boolean) 1 := ⟨Wd_ga (List.forall_mem_cons.mpr ⟨wm_342, List.forall_mem_cons.mpr ⟨wm_343, List.forall_mem_cons.mpr ⟨wm_344, List.forall_mem_cons.mpr ⟨wm_62, fun _ h => absurd h List.not_mem_nil⟩⟩⟩⟩) wm_345, rfl, by decide +kernel, by decide +kernel, by decide +kernel⟩
theorem fo_X6_104 : FO RX6 104 4 6 := ⟨_, _, _, rfl, by decide, rfl, wm_115, in_X4⟩
theorem cs_X6_107 : CSV RX6 107 yX4_replace cX4_replace 3 none 2 := ⟨Wd_ga (List.forall_mem_cons.mpr ⟨wm_346, List.forall_mem_cons.mpr ⟨wm_347, List.forall_mem_cons.mpr ⟨wm_348, List.forall_mem_cons.mpr ⟨wm_62, fun _ h => absurd h List.not_mem_nil⟩⟩⟩⟩) wm_349, rfl, by decide +kernel, by decide +kernel, by decide +kernel⟩
theorem cs_X7_125 : CSV RX7 125 yX7_isNumber cX7_isNumber 2 (some .boolean) 1 := ⟨Wd_ga (List.forall_mem_cons.mpr ⟨wm_989, List.forall_mem_cons.mpr ⟨wm_991, List.forall_mem_cons.mpr ⟨wm_28, List.forall_mem_cons.mpr ⟨wm_68, fun _ h => absurd h List.not_mem_nil⟩⟩⟩⟩) wm_992, rfl, by decide +kernel, by decide +kernel, by decide +kernel⟩
theorem cs_X6_110 : CSV RX6 110 yX4_remove cX4_remove 3 none 1 := ⟨Wd_ga (List.forall_mem_cons.mpr ⟨wm_354, List.forall_mem_cons.mpr ⟨wm_355, List.forall_mem_cons.mpr ⟨wm_356, List.forall_mem_cons.mpr ⟨wm_62, fun _ h => absurd h List.not_mem_nil⟩⟩⟩⟩) wm_357, rfl, by decide +kernel, by decide +kernel, by decide +kernel⟩
theorem cs_X7_128 : CSV RX7 128 yX7_goes cX7_goes 3 none 1 := ⟨Wd_ga (List.forall_mem_cons.mpr ⟨wm_997, List.forall_mem_cons.mpr ⟨wm_999, List.forall_mem_cons.mpr ⟨wm_29, List.forall_mem_cons.mpr ⟨wm_68, fun _ h => absurd h List.not_mem_nil⟩⟩⟩⟩) wm_1000, rfl, by decide +kernel, by decide +kernel, by decide +kernel⟩
theorem cs_X6_113 : CSS RX6 113 yX6_isSide cX6_isSide 1 (some .boolean) 1 := ⟨Wd_ga (List.forall_mem_cons.mpr ⟨wm_366, List.forall_mem_cons.mpr ⟨wm_367, List.forall_mem_cons.mpr ⟨wm_61, fun _ h => absurd h List.not_mem_nil⟩⟩⟩) wm_368, by decide +kernel, by decide +kernel, by decide +kernel⟩
theorem fo_X6_26 : FO RX6 26 6 3 := ⟨_, _, _, rfl, by decide, rfl, wm_257, in_X6⟩
theorem fo_X2_35 : FO RX2 35 2 6 := ⟨_, _, _, rfl, by decide, rfl, wm_158, in_X2⟩
theorem fo_X2_38 : FO RX2 38 4 3 := ⟨_, _, _, rfl, by decide, rfl, wm_103, in_X4⟩
theorem fo_X2_43 : FO RX2 43 4 0 := ⟨_, _, _, rfl, by decide, rfl, wm_91, in_X4⟩
theorem fp_X2_28 : FP RX2 28 2 4 .int := ⟨_, _, _, tyX2, rfl, by decide, rfl, wm_156, in_X2, rfl, tyX2_ok, nmX2, by decide +kernel⟩
theorem cs_X2_44 : CSV RX2 44 yX4_all cX4_all 1 (some .int) 0 := ⟨Wd_ga (List.forall_mem_cons.mpr ⟨wm_377, List.forall_mem_cons.mpr ⟨wm_315, List.forall_mem_cons.mpr ⟨wm_316, List.forall_mem_cons.mpr ⟨wm_62, fun _ h => absurd h List.not_mem_nil⟩⟩⟩⟩) wm_317, rfl, by decide +kernel, by decide +kernel, by decide +kernel⟩
theorem fp_X2_32 : FP RX2 32 2 5 .int := ⟨_, _, _, tyX2, rfl, by decide, rfl, wm_157, in_X2, rfl, tyX2_ok, nmX2, by decide +kernel⟩
theorem fo_X2_18 : FO RX2 18 2 1 := ⟨_, _, _, rfl, by decide, rfl, wm_153, in_X2⟩
theorem fo_X1_11 : FO RX1 11 1 0 := ⟨_, _, _, rfl, by decide, rfl, wm_144, in_X1⟩
theorem cs_X2_47 : CSV RX2 47 yX1_begin cX1_begin 2 none 0 := ⟨Wd_ga (List.forall_mem_cons.mpr ⟨wm_378, List.forall_mem_cons.mpr ⟨wm_379, List.forall_mem_cons.mpr ⟨wm_380, List.forall_mem_cons.mpr ⟨wm_64, fun _ h => absurd h List.not_mem_nil⟩⟩⟩⟩) wm_381, rfl, by decide +kernel, by decide +kernel, by decide +kernel⟩
theorem fo_X2_50 : FO RX2 50 4 1 := ⟨_, _, _, rfl, by decide, rfl, wm_96, in_X4⟩
theorem cs_X2_53 : CSN RX2 53 yX6_has cX6_has 2 (some .boolean) 2 := ⟨by decide +kernel, wm_384, wm_61, wm_383, by decide +kernel, by decide +kernel, by decide +kernel⟩
theorem fo_X2_57 : FO RX2 57 4 4 := ⟨_, _, _, rfl, by decide, rfl, wm_106, in_X4⟩
theorem fo_X1_15 : FO RX1 15 1 1 := ⟨_, _, _, rfl, by decide, rfl, wm_145, in_X1⟩
theorem cs_X1_18 : CSN RX1 18 yX6_has cX6_has 2 (some .boolean) 2 := ⟨by decide +kernel, wm_384, wm_61, wm_383, by decide +kernel, by decide +kernel, by decide +kernel⟩
theorem cs_X1_22 : CSV RX1 22 yX1_spread cX1_spread 4 none 1 := ⟨Wd_ga (List.forall_mem_cons.mpr ⟨wm_390, List.forall_mem_cons.mpr ⟨wm_392, List.forall_mem_cons.mpr ⟨wm_1, List.forall_mem_cons.mpr ⟨wm_64, fun _ h => absurd h List.not_mem_nil⟩⟩⟩⟩) wm_393, rfl, by decide +kernel, by decide +kernel, by decide +kernel⟩
theorem cs_X2_60 : CSV RX2 60 yX1_join cX1_join 3 none 1 := ⟨Wd_ga (List.forall_mem_cons.mpr ⟨wm_385, List.forall_mem_cons.mpr ⟨wm_386, List.forall_mem_cons.mpr ⟨wm_387, List.forall_mem_cons.mpr ⟨wm_64, fun _ h => absurd h List.not_mem_nil⟩⟩⟩⟩) wm_388, rfl, by decide +kernel, by decide +kernel, by decide +kernel⟩
theorem fo_X2_21 : FO RX2 21 2 2 := ⟨_, _, _, rfl, by decide, rfl, wm_154, in_X2⟩
theorem fo_X2_32 : FO RX2 32 2 5 := ⟨_, _, _, rfl, by decide, rfl, wm_157, in_X2⟩
theorem cs_X2_74 : CSV RX2 74 yX1_holds cX1_holds 2 (some .boolean) 1 := ⟨Wd_ga (List.forall_mem_cons.mpr ⟨wm_400, List.forall_mem_cons.mpr ⟨wm_401, List.forall_mem_cons.mpr ⟨wm_402, List.forall_mem_cons.mpr ⟨wm_64, fun _ h => absurd h List.not_mem_nil⟩⟩⟩⟩) wm_403, rfl, by decide +kernel, by decide +kernel, by decide +kernel⟩
theorem fo_X2_28 : FO RX2 28 2 4 := ⟨_, _, _, rfl, by decide, rfl, wm_156, in_X2⟩
theorem cs_X2_84 : CSV RX2 84 yX2_greatestWithin cX2_greatestWithin 5 (some .int) 2 := ⟨Wd_ga (List.forall_mem_cons.mpr ⟨wm_410, List.forall_mem_cons.mpr ⟨wm_412, List.forall_mem_cons.mpr ⟨wm_3, List.forall_mem_cons.mpr ⟨wm_63, fun _ h => absurd h List.not_mem_nil⟩⟩⟩⟩) wm_413, rfl, by decide +kernel, by decide +kernel, by decide +kernel⟩
theorem cs_X2_78 : CSS RX2 78 yJ6_bitCount_0f7a4 cJ6_bitCount_0f7a4 1 (some .int) 1 := ⟨Wd_ga (List.forall_mem_cons.mpr ⟨wm_404, List.forall_mem_cons.mpr ⟨wm_405, List.forall_mem_cons.mpr ⟨wm_69, fun _ h => absurd h List.not_mem_nil⟩⟩⟩) wm_406, by decide +kernel, by decide +kernel, by decide +kernel⟩
theorem cs_X2_64 : CSV RX2 64 yX2_fill cX2_fill 4 none 2 := ⟨Wd_ga (List.forall_mem_cons.mpr ⟨wm_396, List.forall_mem_cons.mpr ⟨wm_398, List.forall_mem_cons.mpr ⟨wm_2, List.forall_mem_cons.mpr ⟨wm_63, fun _ h => absurd h List.not_mem_nil⟩⟩⟩⟩) wm_399, rfl, by decide +kernel, by decide +kernel, by decide +kernel⟩
theorem fo_X2_12 : FO RX2 12 2 0 := ⟨_, _, _, rfl, by decide, rfl, wm_152, in_X2⟩
theorem fo_X2_68 : FO RX2 68 4 2 := ⟨_, _, _, rfl, by decide, rfl, wm_100, in_X4⟩
theorem fo_X2_71 : FO RX2 71 4 6 := ⟨_, _, _, rfl, by decide, rfl, wm_114, in_X4⟩
theorem fo_X2_25 : FO RX2 25 2 3 := ⟨_, _, _, rfl, by decide, rfl, wm_155, in_X2⟩
theorem fp_X2_35 : FP RX2 35 2 6 .int := ⟨_, _, _, tyX2, rfl, by decide, rfl, wm_158, in_X2, rfl, tyX2_ok, nmX2, by decide +kernel⟩
theorem cs_X6_258 : CSV RX6 258 yX2_refresh cX2_refresh 3 none 1 := ⟨Wd_ga (List.forall_mem_cons.mpr ⟨wm_373, List.forall_mem_cons.mpr ⟨wm_374, List.forall_mem_cons.mpr ⟨wm_375, List.forall_mem_cons.mpr ⟨wm_63, fun _ h => absurd h List.not_mem_nil⟩⟩⟩⟩) wm_376, rfl, by decide +kernel, by decide +kernel, by decide +kernel⟩
theorem cs_X6_116 : CSV RX6 116 yX6_freshRanks cX6_freshRanks 1 (some (.object "RoadLinks$Ranks")) 0 := ⟨Wd_ga (List.forall_mem_cons.mpr ⟨wm_369, List.forall_mem_cons.mpr ⟨wm_371, List.forall_mem_cons.mpr ⟨wm_0, List.forall_mem_cons.mpr ⟨wm_61, fun _ h => absurd h List.not_mem_nil⟩⟩⟩⟩) wm_372, rfl, by decide +kernel, by decide +kernel, by decide +kernel⟩
theorem cs_X6_120 : CSV RX6 120 yX2_of cX2_of 4 (some .int) 2 := ⟨Wd_ga (List.forall_mem_cons.mpr ⟨wm_417, List.forall_mem_cons.mpr ⟨wm_418, List.forall_mem_cons.mpr ⟨wm_419, List.forall_mem_cons.mpr ⟨wm_63, fun _ h => absurd h List.not_mem_nil⟩⟩⟩⟩) wm_420, rfl, by decide +kernel, by decide +kernel, by decide +kernel⟩
theorem cs_X7_131 : CSS RX7 131 yX7_isSide cX7_isSide 1 (some .boolean) 1 := ⟨Wd_ga (List.forall_mem_cons.mpr ⟨wm_1009, List.forall_mem_cons.mpr ⟨wm_1010, List.forall_mem_cons.mpr ⟨wm_68, fun _ h => absurd h List.not_mem_nil⟩⟩⟩) wm_1011, by decide +kernel, by decide +kernel, by decide +kernel⟩
theorem cs_X7_77 : CSS RX7 77 yX7_has cX7_has 2 (some .boolean) 2 := ⟨Wd_ga (List.forall_mem_cons.mpr ⟨wm_1028, List.forall_mem_cons.mpr ⟨wm_1029, List.forall_mem_cons.mpr ⟨wm_68, fun _ h => absurd h List.not_mem_nil⟩⟩⟩) wm_1030, by decide +kernel, by decide +kernel, by decide +kernel⟩
theorem cs_X7_96 : CSV RX7 96 yX7_meeting cX7_meeting 5 (some .int) 2 := ⟨Wd_ga (List.forall_mem_cons.mpr ⟨wm_1036, List.forall_mem_cons.mpr ⟨wm_1038, List.forall_mem_cons.mpr ⟨wm_35, List.forall_mem_cons.mpr ⟨wm_68, fun _ h => absurd h List.not_mem_nil⟩⟩⟩⟩) wm_1039, rfl, by decide +kernel, by decide +kernel, by decide +kernel⟩
theorem cs_X7_81 : CSS RX7 81 yJ6_bitCount_0f7a4 cJ6_bitCount_0f7a4 1 (some .int) 1 := ⟨Wd_ga (List.forall_mem_cons.mpr ⟨wm_1035, List.forall_mem_cons.mpr ⟨wm_405, List.forall_mem_cons.mpr ⟨wm_69, fun _ h => absurd h List.not_mem_nil⟩⟩⟩) wm_406, by decide +kernel, by decide +kernel, by decide +kernel⟩
theorem fo_X7_38 : FO RX7 38 7 12 := ⟨_, _, _, rfl, by decide, rfl, wm_866, in_X7⟩
theorem fo_X7_35 : FO RX7 35 7 11 := ⟨_, _, _, rfl, by decide, rfl, wm_865, in_X7⟩
theorem cs_X7_93 : CSV RX7 93 yX7_cutOf cX7_cutOf 4 (some .int) 1 := ⟨Wd_ga (List.forall_mem_cons.mpr ⟨wm_1031, List.forall_mem_cons.mpr ⟨wm_1033, List.forall_mem_cons.mpr ⟨wm_34, List.forall_mem_cons.mpr ⟨wm_68, fun _ h => absurd h List.not_mem_nil⟩⟩⟩⟩) wm_1034, rfl, by decide +kernel, by decide +kernel, by decide +kernel⟩
theorem cs_X7_87 : CSV RX7 87 yX7_openPast cX7_openPast 5 (some .int) 1 := ⟨Wd_ga (List.forall_mem_cons.mpr ⟨wm_1024, List.forall_mem_cons.mpr ⟨wm_1026, List.forall_mem_cons.mpr ⟨wm_33, List.forall_mem_cons.mpr ⟨wm_68, fun _ h => absurd h List.not_mem_nil⟩⟩⟩⟩) wm_1027, rfl, by decide +kernel, by decide +kernel, by decide +kernel⟩
theorem cs_X7_90 : CSV RX7 90 yX7_layCuts cX7_layCuts 2 none 0 := ⟨Wd_ga (List.forall_mem_cons.mpr ⟨wm_1020, List.forall_mem_cons.mpr ⟨wm_1022, List.forall_mem_cons.mpr ⟨wm_32, List.forall_mem_cons.mpr ⟨wm_68, fun _ h => absurd h List.not_mem_nil⟩⟩⟩⟩) wm_1023, rfl, by decide +kernel, by decide +kernel, by decide +kernel⟩
theorem cs_X7_105 : CSV RX7 105 yX7_layFree cX7_layFree 5 none 1 := ⟨Wd_ga (List.forall_mem_cons.mpr ⟨wm_1016, List.forall_mem_cons.mpr ⟨wm_1018, List.forall_mem_cons.mpr ⟨wm_31, List.forall_mem_cons.mpr ⟨wm_68, fun _ h => absurd h List.not_mem_nil⟩⟩⟩⟩) wm_1019, rfl, by decide +kernel, by decide +kernel, by decide +kernel⟩
theorem fo_X7_45 : FO RX7 45 7 14 := ⟨_, _, _, rfl, by decide, rfl, wm_868, in_X7⟩
theorem fo_X7_42 : FO RX7 42 7 13 := ⟨_, _, _, rfl, by decide, rfl, wm_867, in_X7⟩
theorem cs_X7_109 : CSV RX7 109 yX7_layRanks cX7_layRanks 4 none 0 := ⟨Wd_ga (List.forall_mem_cons.mpr ⟨wm_1040, List.forall_mem_cons.mpr ⟨wm_1042, List.forall_mem_cons.mpr ⟨wm_36, List.forall_mem_cons.mpr ⟨wm_68, fun _ h => absurd h List.not_mem_nil⟩⟩⟩⟩) wm_1043, rfl, by decide +kernel, by decide +kernel, by decide +kernel⟩
theorem cs_X7_112 : CSV RX7 112 yX7_isPastBase cX7_isPastBase 3 (some .boolean) 1 := ⟨Wd_ga (List.forall_mem_cons.mpr ⟨wm_1045, List.forall_mem_cons.mpr ⟨wm_1047, List.forall_mem_cons.mpr ⟨wm_37, List.forall_mem_cons.mpr ⟨wm_68, fun _ h => absurd h List.not_mem_nil⟩⟩⟩⟩) wm_1048, rfl, by decide +kernel, by decide +kernel, by decide +kernel⟩
theorem cs_X7_134 : CSV RX7 134 yX7_lay cX7_lay 3 none 1 := ⟨Wd_ga (List.forall_mem_cons.mpr ⟨wm_1012, List.forall_mem_cons.mpr ⟨wm_1014, List.forall_mem_cons.mpr ⟨wm_30, List.forall_mem_cons.mpr ⟨wm_68, fun _ h => absurd h List.not_mem_nil⟩⟩⟩⟩) wm_1015, rfl, by decide +kernel, by decide +kernel, by decide +kernel⟩
theorem cs_X2_94 : CSV RX2 94 yX2_of cX2_of 4 (some .int) 2 := ⟨Wd_ga (List.forall_mem_cons.mpr ⟨wm_429, List.forall_mem_cons.mpr ⟨wm_418, List.forall_mem_cons.mpr ⟨wm_419, List.forall_mem_cons.mpr ⟨wm_63, fun _ h => absurd h List.not_mem_nil⟩⟩⟩⟩) wm_420, rfl, by decide +kernel, by decide +kernel, by decide +kernel⟩
theorem cs_X6_124 : CSV RX6 124 yX2_isFree cX2_isFree 3 (some .boolean) 2 := ⟨Wd_ga (List.forall_mem_cons.mpr ⟨wm_425, List.forall_mem_cons.mpr ⟨wm_426, List.forall_mem_cons.mpr ⟨wm_427, List.forall_mem_cons.mpr ⟨wm_63, fun _ h => absurd h List.not_mem_nil⟩⟩⟩⟩) wm_428, rfl, by decide +kernel, by decide +kernel, by decide +kernel⟩
theorem cs_X6_154 : CSV RX6 154 yX4_all cX4_all 1 (some .int) 0 := ⟨Wd_ga (List.forall_mem_cons.mpr ⟨wm_438, List.forall_mem_cons.mpr ⟨wm_315, List.forall_mem_cons.mpr ⟨wm_316, List.forall_mem_cons.mpr ⟨wm_62, fun _ h => absurd h List.not_mem_nil⟩⟩⟩⟩) wm_317, rfl, by decide +kernel, by decide +kernel, by decide +kernel⟩
theorem cs_X2_97 : CSV RX2 97 yX2_isFree cX2_isFree 3 (some .boolean) 2 := ⟨Wd_ga (List.forall_mem_cons.mpr ⟨wm_447, List.forall_mem_cons.mpr ⟨wm_426, List.forall_mem_cons.mpr ⟨wm_427, List.forall_mem_cons.mpr ⟨wm_63, fun _ h => absurd h List.not_mem_nil⟩⟩⟩⟩) wm_428, rfl, by decide +kernel, by decide +kernel, by decide +kernel⟩
theorem cs_X2_100 : CSV RX2 100 yX2_isBase cX2_isBase 3 (some .boolean) 2 := ⟨Wd_ga (List.forall_mem_cons.mpr ⟨wm_443, List.forall_mem_cons.mpr ⟨wm_444, List.forall_mem_cons.mpr ⟨wm_445, List.forall_mem_cons.mpr ⟨wm_63, fun _ h => absurd h List.not_mem_nil⟩⟩⟩⟩) wm_446, rfl, by decide +kernel, by decide +kernel, by decide +kernel⟩
theorem cs_X2_103 : CSV RX2 103 yX2_isCircuit cX2_isCircuit 4 (some .boolean) 2 := ⟨Wd_ga (List.forall_mem_cons.mpr ⟨wm_448, List.forall_mem_cons.mpr ⟨wm_450, List.forall_mem_cons.mpr ⟨wm_5, List.forall_mem_cons.mpr ⟨wm_63, fun _ h => absurd h List.not_mem_nil⟩⟩⟩⟩) wm_451, rfl, by decide +kernel, by decide +kernel, by decide +kernel⟩
theorem cs_X2_106 : CSV RX2 106 yX2_shutOf cX2_shutOf 5 (some .int) 2 := ⟨Wd_ga (List.forall_mem_cons.mpr ⟨wm_452, List.forall_mem_cons.mpr ⟨wm_453, List.forall_mem_cons.mpr ⟨wm_454, List.forall_mem_cons.mpr ⟨wm_63, fun _ h => absurd h List.not_mem_nil⟩⟩⟩⟩) wm_455, rfl, by decide +kernel, by decide +kernel, by decide +kernel⟩
theorem cs_X6_261 : CSV RX6 261 yX2_isOf cX2_isOf 4 (some .boolean) 3 := ⟨Wd_ga (List.forall_mem_cons.mpr ⟨wm_439, List.forall_mem_cons.mpr ⟨wm_440, List.forall_mem_cons.mpr ⟨wm_441, List.forall_mem_cons.mpr ⟨wm_63, fun _ h => absurd h List.not_mem_nil⟩⟩⟩⟩) wm_442, rfl, by decide +kernel, by decide +kernel, by decide +kernel⟩
theorem cs_X6_128 : CSV RX6 128 yX6_listed cX6_listed 8 (some .int) 3 := ⟨Wd_ga (List.forall_mem_cons.mpr ⟨wm_434, List.forall_mem_cons.mpr ⟨wm_436, List.forall_mem_cons.mpr ⟨wm_4, List.forall_mem_cons.mpr ⟨wm_61, fun _ h => absurd h List.not_mem_nil⟩⟩⟩⟩) wm_437, rfl, by decide +kernel, by decide +kernel, by decide +kernel⟩
theorem cs_X7_140 : CSV RX7 140 yX7_shutOf cX7_shutOf 4 (some .int) 1 := ⟨Wd_ga (List.forall_mem_cons.mpr ⟨wm_1065, List.forall_mem_cons.mpr ⟨wm_1067, List.forall_mem_cons.mpr ⟨wm_40, List.forall_mem_cons.mpr ⟨wm_68, fun _ h => absurd h List.not_mem_nil⟩⟩⟩⟩) wm_1068, rfl, by decide +kernel, by decide +kernel, by decide +kernel⟩
theorem cs_X7_137 : CSV RX7 137 yX7_isCircuit cX7_isCircuit 4 (some .boolean) 1 := ⟨Wd_ga (List.forall_mem_cons.mpr ⟨wm_1061, List.forall_mem_cons.mpr ⟨wm_1063, List.forall_mem_cons.mpr ⟨wm_39, List.forall_mem_cons.mpr ⟨wm_68, fun _ h => absurd h List.not_mem_nil⟩⟩⟩⟩) wm_1064, rfl, by decide +kernel, by decide +kernel, by decide +kernel⟩
theorem cs_X7_143 : CSV RX7 143 yX7_listed cX7_listed 7 (some .int) 3 := ⟨Wd_ga (List.forall_mem_cons.mpr ⟨wm_1057, List.forall_mem_cons.mpr ⟨wm_1059, List.forall_mem_cons.mpr ⟨wm_38, List.forall_mem_cons.mpr ⟨wm_68, fun _ h => absurd h List.not_mem_nil⟩⟩⟩⟩) wm_1060, rfl, by decide +kernel, by decide +kernel, by decide +kernel⟩
theorem cs_X6_132 : CSV RX6 132 yX2_shutOf cX2_shutOf 5 (some .int) 2 := ⟨Wd_ga (List.forall_mem_cons.mpr ⟨wm_468, List.forall_mem_cons.mpr ⟨wm_453, List.forall_mem_cons.mpr ⟨wm_454, List.forall_mem_cons.mpr ⟨wm_63, fun _ h => absurd h List.not_mem_nil⟩⟩⟩⟩) wm_455, rfl, by decide +kernel, by decide +kernel, by decide +kernel⟩
theorem cs_X6_135 : CSS RX6 135 yX6_isEither cX6_isEither 1 (some .boolean) 1 := ⟨Wd_ga (List.forall_mem_cons.mpr ⟨wm_473, List.forall_mem_cons.mpr ⟨wm_474, List.forall_mem_cons.mpr ⟨wm_61, fun _ h => absurd h List.not_mem_nil⟩⟩⟩) wm_475, by decide +kernel, by decide +kernel, by decide +kernel⟩
theorem cs_X6_138 : CSV RX6 138 yX2_boundOf cX2_boundOf 4 (some .int) 1 := ⟨Wd_ga (List.forall_mem_cons.mpr ⟨wm_476, List.forall_mem_cons.mpr ⟨wm_477, List.forall_mem_cons.mpr ⟨wm_478, List.forall_mem_cons.mpr ⟨wm_63, fun _ h => absurd h List.not_mem_nil⟩⟩⟩⟩) wm_479, rfl, by decide +kernel, by decide +kernel, by decide +kernel⟩
theorem cs_X6_142 : CSV RX6 142 yX2_isBase cX2_isBase 3 (some .boolean) 2 := ⟨Wd_ga (List.forall_mem_cons.mpr ⟨wm_484, List.forall_mem_cons.mpr ⟨wm_444, List.forall_mem_cons.mpr ⟨wm_445, List.forall_mem_cons.mpr ⟨wm_63, fun _ h => absurd h List.not_mem_nil⟩⟩⟩⟩) wm_446, rfl, by decide +kernel, by decide +kernel, by decide +kernel⟩
theorem cs_X6_145 : CSS RX6 145 yX6_has cX6_has 2 (some .boolean) 2 := ⟨Wd_ga (List.forall_mem_cons.mpr ⟨wm_485, List.forall_mem_cons.mpr ⟨wm_383, List.forall_mem_cons.mpr ⟨wm_61, fun _ h => absurd h List.not_mem_nil⟩⟩⟩) wm_384, by decide +kernel, by decide +kernel, by decide +kernel⟩
theorem cs_X6_148 : CSV RX6 148 yX2_roundOf cX2_roundOf 5 (some .int) 2 := ⟨Wd_ga (List.forall_mem_cons.mpr ⟨wm_486, List.forall_mem_cons.mpr ⟨wm_487, List.forall_mem_cons.mpr ⟨wm_488, List.forall_mem_cons.mpr ⟨wm_63, fun _ h => absurd h List.not_mem_nil⟩⟩⟩⟩) wm_489, rfl, by decide +kernel, by decide +kernel, by decide +kernel⟩
theorem cs_X6_151 : CSV RX6 151 yX2_swapOf cX2_swapOf 5 (some .int) 3 := ⟨Wd_ga (List.forall_mem_cons.mpr ⟨wm_494, List.forall_mem_cons.mpr ⟨wm_495, List.forall_mem_cons.mpr ⟨wm_496, List.forall_mem_cons.mpr ⟨wm_63, fun _ h => absurd h List.not_mem_nil⟩⟩⟩⟩) wm_497, rfl, by decide +kernel, by decide +kernel, by decide +kernel⟩
theorem cs_X6_158 : CSV RX6 158 yX2_stepsUp cX2_stepsUp 6 (some .int) 2 := ⟨Wd_ga (List.forall_mem_cons.mpr ⟨wm_502, List.forall_mem_cons.mpr ⟨wm_503, List.forall_mem_cons.mpr ⟨wm_504, List.forall_mem_cons.mpr ⟨wm_63, fun _ h => absurd h List.not_mem_nil⟩⟩⟩⟩) wm_505, rfl, by decide +kernel, by decide +kernel, by decide +kernel⟩
theorem cs_X4_50 : CSN RX4 50 yX6_has cX6_has 2 (some .boolean) 2 := ⟨by decide +kernel, wm_384, wm_61, wm_383, by decide +kernel, by decide +kernel, by decide +kernel⟩
theorem cs_X6_161 : CSV RX6 161 yX4_weightOf cX4_weightOf 4 (some .int) 1 := ⟨Wd_ga (List.forall_mem_cons.mpr ⟨wm_514, List.forall_mem_cons.mpr ⟨wm_515, List.forall_mem_cons.mpr ⟨wm_516, List.forall_mem_cons.mpr ⟨wm_62, fun _ h => absurd h List.not_mem_nil⟩⟩⟩⟩) wm_517, rfl, by decide +kernel, by decide +kernel, by decide +kernel⟩
theorem cs_X7_147 : CSV RX7 147 yX7_weightOf cX7_weightOf 4 (some .int) 1 := ⟨Wd_ga (List.forall_mem_cons.mpr ⟨wm_1105, List.forall_mem_cons.mpr ⟨wm_1107, List.forall_mem_cons.mpr ⟨wm_41, List.forall_mem_cons.mpr ⟨wm_68, fun _ h => absurd h List.not_mem_nil⟩⟩⟩⟩) wm_1108, rfl, by decide +kernel, by decide +kernel, by decide +kernel⟩
theorem fo_X7_48 : FO RX7 48 7 15 := ⟨_, _, _, rfl, by decide, rfl, wm_869, in_X7⟩
theorem cs_X6_164 : CSS RX6 164 yJ6_bitCount_0f7a4 cJ6_bitCount_0f7a4 1 (some .int) 1 := ⟨Wd_ga (List.forall_mem_cons.mpr ⟨wm_527, List.forall_mem_cons.mpr ⟨wm_405, List.forall_mem_cons.mpr ⟨wm_69, fun _ h => absurd h List.not_mem_nil⟩⟩⟩) wm_406, by decide +kernel, by decide +kernel, by decide +kernel⟩
theorem cs_X4_54 : CSV RX4 54 yX4_reached cX4_reached 7 (some .int) 2 := ⟨Wd_ga (List.forall_mem_cons.mpr ⟨wm_532, List.forall_mem_cons.mpr ⟨wm_533, List.forall_mem_cons.mpr ⟨wm_534, List.forall_mem_cons.mpr ⟨wm_62, fun _ h => absurd h List.not_mem_nil⟩⟩⟩⟩) wm_535, rfl, by decide +kernel, by decide +kernel, by decide +kernel⟩
theorem fo_X4_15 : FO RX4 15 4 1 := ⟨_, _, _, rfl, by decide, rfl, wm_94, in_X4⟩
theorem cs_X6_169 : CSV RX6 169 yX4_isCut cX4_isCut 3 (some .boolean) 2 := ⟨Wd_ga (List.forall_mem_cons.mpr ⟨wm_528, List.forall_mem_cons.mpr ⟨wm_529, List.forall_mem_cons.mpr ⟨wm_530, List.forall_mem_cons.mpr ⟨wm_62, fun _ h => absurd h List.not_mem_nil⟩⟩⟩⟩) wm_531, rfl, by decide +kernel, by decide +kernel, by decide +kernel⟩
theorem cs_X6_172 : CSV RX6 172 yX4_reached cX4_reached 7 (some .int) 2 := ⟨Wd_ga (List.forall_mem_cons.mpr ⟨wm_540, List.forall_mem_cons.mpr ⟨wm_533, List.forall_mem_cons.mpr ⟨wm_534, List.forall_mem_cons.mpr ⟨wm_62, fun _ h => absurd h List.not_mem_nil⟩⟩⟩⟩) wm_535, rfl, by decide +kernel, by decide +kernel, by decide +kernel⟩
theorem fo_X6_33 : FO RX6 33 6 4 := ⟨_, _, _, rfl, by decide, rfl, wm_258, in_X6⟩
theorem fp_X0_9 : FP RX0 9 0 0 .int := ⟨_, _, _, tyX0, rfl, by decide, rfl, wm_180, in_X0, rfl, tyX0_ok, nmX0, by decide +kernel⟩
theorem cs_X6_175 : CSV RX6 175 yX0_begin cX0_begin 1 none 0 := ⟨Wd_ga (List.forall_mem_cons.mpr ⟨wm_545, List.forall_mem_cons.mpr ⟨wm_546, List.forall_mem_cons.mpr ⟨wm_547, List.forall_mem_cons.mpr ⟨wm_65, fun _ h => absurd h List.not_mem_nil⟩⟩⟩⟩) wm_548, rfl, by decide +kernel, by decide +kernel, by decide +kernel⟩
theorem cs_X6_177 : CSV RX6 177 yX4_setsWith cX4_setsWith 4 (some .int) 1 := ⟨Wd_ga (List.forall_mem_cons.mpr ⟨wm_549, List.forall_mem_cons.mpr ⟨wm_550, List.forall_mem_cons.mpr ⟨wm_551, List.forall_mem_cons.mpr ⟨wm_62, fun _ h => absurd h List.not_mem_nil⟩⟩⟩⟩) wm_552, rfl, by decide +kernel, by decide +kernel, by decide +kernel⟩
theorem fo_X0_9 : FO RX0 9 0 0 := ⟨_, _, _, rfl, by decide, rfl, wm_180, in_X0⟩
theorem fo_X0_19 : FO RX0 19 0 2 := ⟨_, _, _, rfl, by decide, rfl, wm_184, in_X0⟩
theorem cs_X6_180 : CSV RX6 180 yX0_ask cX0_ask 2 none 1 := ⟨Wd_ga (List.forall_mem_cons.mpr ⟨wm_553, List.forall_mem_cons.mpr ⟨wm_554, List.forall_mem_cons.mpr ⟨wm_555, List.forall_mem_cons.mpr ⟨wm_65, fun _ h => absurd h List.not_mem_nil⟩⟩⟩⟩) wm_556, rfl, by decide +kernel, by decide +kernel, by decide +kernel⟩
theorem cs_X0_26 : CSS RX0 26 yJ6_bitCount_0f7a4 cJ6_bitCount_0f7a4 1 (some .int) 1 := ⟨Wd_ga (List.forall_mem_cons.mpr ⟨wm_561, List.forall_mem_cons.mpr ⟨wm_405, List.forall_mem_cons.mpr ⟨wm_69, fun _ h => absurd h List.not_mem_nil⟩⟩⟩) wm_406, by decide +kernel, by decide +kernel, by decide +kernel⟩
theorem fo_X0_22 : FO RX0 22 0 3 := ⟨_, _, _, rfl, by decide, rfl, wm_185, in_X0⟩
theorem cs_X0_36 : CSN RX0 36 yX6_has cX6_has 2 (some .boolean) 2 := ⟨by decide +kernel, wm_384, wm_61, wm_383, by decide +kernel, by decide +kernel, by decide +kernel⟩
theorem cs_X0_32 : CSV RX0 32 yX0_leastOption cX0_leastOption 5 (some .int) 3 := ⟨Wd_ga (List.forall_mem_cons.mpr ⟨wm_562, List.forall_mem_cons.mpr ⟨wm_564, List.forall_mem_cons.mpr ⟨wm_6, List.forall_mem_cons.mpr ⟨wm_65, fun _ h => absurd h List.not_mem_nil⟩⟩⟩⟩) wm_565, rfl, by decide +kernel, by decide +kernel, by decide +kernel⟩
theorem fo_X0_15 : FO RX0 15 0 1 := ⟨_, _, _, rfl, by decide, rfl, wm_182, in_X0⟩
theorem cs_X6_183 : CSV RX6 183 yX0_isMade cX0_isMade 5 (some .boolean) 1 := ⟨Wd_ga (List.forall_mem_cons.mpr ⟨wm_557, List.forall_mem_cons.mpr ⟨wm_558, List.forall_mem_cons.mpr ⟨wm_559, List.forall_mem_cons.mpr ⟨wm_65, fun _ h => absurd h List.not_mem_nil⟩⟩⟩⟩) wm_560, rfl, by decide +kernel, by decide +kernel, by decide +kernel⟩
theorem fo_X6_186 : FO RX6 186 0 0 := ⟨_, _, _, rfl, by decide, rfl, wm_181, in_X0⟩
theorem fo_X6_189 : FO RX6 189 0 1 := ⟨_, _, _, rfl, by decide, rfl, wm_183, in_X0⟩
theorem cs_X7_150 : CSV RX7 150 yX7_canHave cX7_canHave 4 (some .boolean) 2 := ⟨Wd_ga (List.forall_mem_cons.mpr ⟨wm_1125, List.forall_mem_cons.mpr ⟨wm_1127, List.forall_mem_cons.mpr ⟨wm_42, List.forall_mem_cons.mpr ⟨wm_68, fun _ h => absurd h List.not_mem_nil⟩⟩⟩⟩) wm_1128, rfl, by decide +kernel, by decide +kernel, by decide +kernel⟩
theorem cs_X4_58 : CSV RX4 58 yX4_join cX4_join 2 none 1 := ⟨Wd_ga (List.forall_mem_cons.mpr ⟨wm_575, List.forall_mem_cons.mpr ⟨wm_335, List.forall_mem_cons.mpr ⟨wm_336, List.forall_mem_cons.mpr ⟨wm_62, fun _ h => absurd h List.not_mem_nil⟩⟩⟩⟩) wm_337, rfl, by decide +kernel, by decide +kernel, by decide +kernel⟩
theorem cs_X6_192 : CSV RX6 192 yX4_turn cX4_turn 2 none 0 := ⟨Wd_ga (List.forall_mem_cons.mpr ⟨wm_571, List.forall_mem_cons.mpr ⟨wm_572, List.forall_mem_cons.mpr ⟨wm_573, List.forall_mem_cons.mpr ⟨wm_62, fun _ h => absurd h List.not_mem_nil⟩⟩⟩⟩) wm_574, rfl, by decide +kernel, by decide +kernel, by decide +kernel⟩
theorem cs_X6_195 : CSV RX6 195 yX4_straighten cX4_straighten 4 none 1 := ⟨Wd_ga (List.forall_mem_cons.mpr ⟨wm_580, List.forall_mem_cons.mpr ⟨wm_581, List.forall_mem_cons.mpr ⟨wm_582, List.forall_mem_cons.mpr ⟨wm_62, fun _ h => absurd h List.not_mem_nil⟩⟩⟩⟩) wm_583, rfl, by decide +kernel, by decide +kernel, by decide +kernel⟩
theorem cs_X4_44 : CSS RX4 44 yJ6_bitCount_0f7a4 cJ6_bitCount_0f7a4 1 (some .int) 1 := ⟨Wd_ga (List.forall_mem_cons.mpr ⟨wm_588, List.forall_mem_cons.mpr ⟨wm_405, List.forall_mem_cons.mpr ⟨wm_69, fun _ h => absurd h List.not_mem_nil⟩⟩⟩) wm_406, by decide +kernel, by decide +kernel, by decide +kernel⟩
theorem cs_X6_199 : CSV RX6 199 yX4_countRoads cX4_countRoads 3 (some .int) 0 := ⟨Wd_ga (List.forall_mem_cons.mpr ⟨wm_584, List.forall_mem_cons.mpr ⟨wm_585, List.forall_mem_cons.mpr ⟨wm_586, List.forall_mem_cons.mpr ⟨wm_62, fun _ h => absurd h List.not_mem_nil⟩⟩⟩⟩) wm_587, rfl, by decide +kernel, by decide +kernel, by decide +kernel⟩
theorem cs_X7_153 : CSV RX7 153 yX7_canTake cX7_canTake 6 (some .boolean) 2 := ⟨Wd_ga (List.forall_mem_cons.mpr ⟨wm_1137, List.forall_mem_cons.mpr ⟨wm_1139, List.forall_mem_cons.mpr ⟨wm_43, List.forall_mem_cons.mpr ⟨wm_68, fun _ h => absurd h List.not_mem_nil⟩⟩⟩⟩) wm_1140, rfl, by decide +kernel, by decide +kernel, by decide +kernel⟩
theorem fo_X7_51 : FO RX7 51 7 16 := ⟨_, _, _, rfl, by decide, rfl, wm_870, in_X7⟩
theorem cs_X2_109 : CSV RX2 109 yX1_isLike cX1_isLike 3 (some .boolean) 1 := ⟨Wd_ga (List.forall_mem_cons.mpr ⟨wm_601, List.forall_mem_cons.mpr ⟨wm_602, List.forall_mem_cons.mpr ⟨wm_603, List.forall_mem_cons.mpr ⟨wm_64, fun _ h => absurd h List.not_mem_nil⟩⟩⟩⟩) wm_604, rfl, by decide +kernel, by decide +kernel, by decide +kernel⟩
theorem cs_X6_205 : CSV RX6 205 yX2_stays cX2_stays 5 (some .boolean) 3 := ⟨Wd_ga (List.forall_mem_cons.mpr ⟨wm_597, List.forall_mem_cons.mpr ⟨wm_598, List.forall_mem_cons.mpr ⟨wm_599, List.forall_mem_cons.mpr ⟨wm_63, fun _ h => absurd h List.not_mem_nil⟩⟩⟩⟩) wm_600, rfl, by decide +kernel, by decide +kernel, by decide +kernel⟩
theorem cs_X6_202 : CSV RX6 202 yX6_likewise cX6_likewise 7 (some .int) 2 := ⟨Wd_ga (List.forall_mem_cons.mpr ⟨wm_593, List.forall_mem_cons.mpr ⟨wm_595, List.forall_mem_cons.mpr ⟨wm_7, List.forall_mem_cons.mpr ⟨wm_61, fun _ h => absurd h List.not_mem_nil⟩⟩⟩⟩) wm_596, rfl, by decide +kernel, by decide +kernel, by decide +kernel⟩
theorem fo_X7_54 : FO RX7 54 7 17 := ⟨_, _, _, rfl, by decide, rfl, wm_871, in_X7⟩
theorem cs_X7_156 : CSV RX7 156 yX7_keepsBases cX7_keepsBases 2 none 0 := ⟨Wd_ga (List.forall_mem_cons.mpr ⟨wm_1149, List.forall_mem_cons.mpr ⟨wm_1151, List.forall_mem_cons.mpr ⟨wm_45, List.forall_mem_cons.mpr ⟨wm_68, fun _ h => absurd h List.not_mem_nil⟩⟩⟩⟩) wm_1152, rfl, by decide +kernel, by decide +kernel, by decide +kernel⟩
theorem cs_X7_159 : CSV RX7 159 yX7_areBases cX7_areBases 2 (some .boolean) 0 := ⟨Wd_ga (List.forall_mem_cons.mpr ⟨wm_1153, List.forall_mem_cons.mpr ⟨wm_1155, List.forall_mem_cons.mpr ⟨wm_46, List.forall_mem_cons.mpr ⟨wm_68, fun _ h => absurd h List.not_mem_nil⟩⟩⟩⟩) wm_1156, rfl, by decide +kernel, by decide +kernel, by decide +kernel⟩
theorem cs_X7_163 : CSV RX7 163 yX7_changing cX7_changing 6 (some .int) 2 := ⟨Wd_ga (List.forall_mem_cons.mpr ⟨wm_1145, List.forall_mem_cons.mpr ⟨wm_1147, List.forall_mem_cons.mpr ⟨wm_44, List.forall_mem_cons.mpr ⟨wm_68, fun _ h => absurd h List.not_mem_nil⟩⟩⟩⟩) wm_1148, rfl, by decide +kernel, by decide +kernel, by decide +kernel⟩
theorem cs_X6_209 : CSV RX6 209 yX4_removeEmpty cX4_removeEmpty 3 none 0 := ⟨Wd_ga (List.forall_mem_cons.mpr ⟨wm_617, List.forall_mem_cons.mpr ⟨wm_618, List.forall_mem_cons.mpr ⟨wm_619, List.forall_mem_cons.mpr ⟨wm_62, fun _ h => absurd h List.not_mem_nil⟩⟩⟩⟩) wm_620, rfl, by decide +kernel, by decide +kernel, by decide +kernel⟩
theorem cs_X6_212 : CSS RX6 212 yX6_isRow cX6_isRow 1 (some .boolean) 1 := ⟨Wd_ga (List.forall_mem_cons.mpr ⟨wm_625, List.forall_mem_cons.mpr ⟨wm_626, List.forall_mem_cons.mpr ⟨wm_61, fun _ h => absurd h List.not_mem_nil⟩⟩⟩) wm_627, by decide +kernel, by decide +kernel, by decide +kernel⟩
theorem fo_X6_42 : FO RX6 42 6 6 := ⟨_, _, _, rfl, by decide, rfl, wm_260, in_X6⟩
theorem fo_X6_39 : FO RX6 39 6 5 := ⟨_, _, _, rfl, by decide, rfl, wm_259, in_X6⟩
theorem cs_X7_166 : CSS RX7 166 yX7_isRow cX7_isRow 1 (some .boolean) 1 := ⟨Wd_ga (List.forall_mem_cons.mpr ⟨wm_1173, List.forall_mem_cons.mpr ⟨wm_1174, List.forall_mem_cons.mpr ⟨wm_68, fun _ h => absurd h List.not_mem_nil⟩⟩⟩) wm_1175, by decide +kernel, by decide +kernel, by decide +kernel⟩
theorem fo_X7_23 : FO RX7 23 7 6 := ⟨_, _, _, rfl, by decide, rfl, wm_860, in_X7⟩
theorem fo_X7_26 : FO RX7 26 7 7 := ⟨_, _, _, rfl, by decide, rfl, wm_861, in_X7⟩
theorem cs_X6_215 : CSV RX6 215 yX6_isThere cX6_isThere 2 (some .boolean) 1 := ⟨Wd_ga (List.forall_mem_cons.mpr ⟨wm_632, List.forall_mem_cons.mpr ⟨wm_634, List.forall_mem_cons.mpr ⟨wm_8, List.forall_mem_cons.mpr ⟨wm_61, fun _ h => absurd h List.not_mem_nil⟩⟩⟩⟩) wm_635, rfl, by decide +kernel, by decide +kernel, by decide +kernel⟩
theorem fo_X7_29 : FO RX7 29 7 8 := ⟨_, _, _, rfl, by decide, rfl, wm_862, in_X7⟩
theorem fo_X6_49 : FO RX6 49 6 7 := ⟨_, _, _, rfl, by decide, rfl, wm_261, in_X6⟩
theorem fo_X6_231 : FO RX6 231 5 1 := ⟨_, _, _, rfl, by decide, rfl, wm_207, in_X5⟩
theorem fo_X6_234 : FO RX6 234 5 0 := ⟨_, _, _, rfl, by decide, rfl, wm_205, in_X5⟩
theorem fp_X6_231 : FP RX6 231 5 1 .int := ⟨_, _, _, tyX5, rfl, by decide, rfl, wm_207, in_X5, rfl, tyX5_ok, nmX5, by decide +kernel⟩
theorem fo_X7_176 : FO RX7 176 7 10 := ⟨_, _, _, rfl, by decide, rfl, wm_864, in_X7⟩
theorem fo_X7_32 : FO RX7 32 7 9 := ⟨_, _, _, rfl, by decide, rfl, wm_863, in_X7⟩
theorem fp_X7_176 : FP RX7 176 7 10 .int := ⟨_, _, _, tyX7, rfl, by decide, rfl, wm_864, in_X7, rfl, tyX7_ok, nmX7, by decide +kernel⟩
theorem fp_X5_31 : FP RX5 31 5 6 .int := ⟨_, _, _, tyX5, rfl, by decide, rfl, wm_216, in_X5, rfl, tyX5_ok, nmX5, by decide +kernel⟩
theorem fp_X5_34 : FP RX5 34 5 7 .int := ⟨_, _, _, tyX5, rfl, by decide, rfl, wm_217, in_X5, rfl, tyX5_ok, nmX5, by decide +kernel⟩
theorem cs_X5_37 : CSV RX5 37 yX5_rewind cX5_rewind 1 none 0 := ⟨Wd_ga (List.forall_mem_cons.mpr ⟨wm_679, List.forall_mem_cons.mpr ⟨wm_680, List.forall_mem_cons.mpr ⟨wm_681, List.forall_mem_cons.mpr ⟨wm_66, fun _ h => absurd h List.not_mem_nil⟩⟩⟩⟩) wm_682, rfl, by decide +kernel, by decide +kernel, by decide +kernel⟩
theorem fo_X5_15 : FO RX5 15 5 1 := ⟨_, _, _, rfl, by decide, rfl, wm_206, in_X5⟩
theorem fo_X5_31 : FO RX5 31 5 6 := ⟨_, _, _, rfl, by decide, rfl, wm_216, in_X5⟩
theorem fo_X5_9 : FO RX5 9 5 0 := ⟨_, _, _, rfl, by decide, rfl, wm_204, in_X5⟩
theorem cs_X5_73 : CSV RX5 73 yJ0_length_8abf5 cJ0_length_8abf5 1 (some .int) 0 := ⟨Wd_ga (List.forall_mem_cons.mpr ⟨wm_696, List.forall_mem_cons.mpr ⟨wm_697, List.forall_mem_cons.mpr ⟨wm_698, List.forall_mem_cons.mpr ⟨wm_72, fun _ h => absurd h List.not_mem_nil⟩⟩⟩⟩) wm_699, rfl, by decide +kernel, by decide +kernel, by decide +kernel⟩
theorem cs_X5_78 : CSV RX5 78 yJ0_charAt_5068e cJ0_charAt_5068e 2 (some .char) 1 := ⟨Wd_ga (List.forall_mem_cons.mpr ⟨wm_706, List.forall_mem_cons.mpr ⟨wm_707, List.forall_mem_cons.mpr ⟨wm_708, List.forall_mem_cons.mpr ⟨wm_72, fun _ h => absurd h List.not_mem_nil⟩⟩⟩⟩) wm_709, rfl, by decide +kernel, by decide +kernel, by decide +kernel⟩
theorem cs_X5_59 : CSV RX5 59 yX5_isWord cX5_isWord 4 (some .boolean) 2 := ⟨Wd_ga (List.forall_mem_cons.mpr ⟨wm_692, List.forall_mem_cons.mpr ⟨wm_694, List.forall_mem_cons.mpr ⟨wm_10, List.forall_mem_cons.mpr ⟨wm_66, fun _ h => absurd h List.not_mem_nil⟩⟩⟩⟩) wm_695, rfl, by decide +kernel, by decide +kernel, by decide +kernel⟩
theorem cs_X5_47 : CSV RX5 47 yX5_wordFrom cX5_wordFrom 2 (some .int) 1 := ⟨Wd_ga (List.forall_mem_cons.mpr ⟨wm_687, List.forall_mem_cons.mpr ⟨wm_689, List.forall_mem_cons.mpr ⟨wm_9, List.forall_mem_cons.mpr ⟨wm_66, fun _ h => absurd h List.not_mem_nil⟩⟩⟩⟩) wm_690, rfl, by decide +kernel, by decide +kernel, by decide +kernel⟩
theorem fp_X5_19 : FP RX5 19 5 2 .int := ⟨_, _, _, tyX5, rfl, by decide, rfl, wm_208, in_X5, rfl, tyX5_ok, nmX5, by decide +kernel⟩
theorem fp_X5_22 : FP RX5 22 5 3 .int := ⟨_, _, _, tyX5, rfl, by decide, rfl, wm_210, in_X5, rfl, tyX5_ok, nmX5, by decide +kernel⟩
theorem fp_X5_25 : FP RX5 25 5 4 .int := ⟨_, _, _, tyX5, rfl, by decide, rfl, wm_212, in_X5, rfl, tyX5_ok, nmX5, by decide +kernel⟩
theorem fp_X5_28 : FP RX5 28 5 5 .int := ⟨_, _, _, tyX5, rfl, by decide, rfl, wm_214, in_X5, rfl, tyX5_ok, nmX5, by decide +kernel⟩
theorem fo_X5_19 : FO RX5 19 5 2 := ⟨_, _, _, rfl, by decide, rfl, wm_208, in_X5⟩
theorem fo_X5_34 : FO RX5 34 5 7 := ⟨_, _, _, rfl, by decide, rfl, wm_217, in_X5⟩
theorem fo_X5_28 : FO RX5 28 5 5 := ⟨_, _, _, rfl, by decide, rfl, wm_214, in_X5⟩
theorem cs_X5_82 : CSV RX5 82 yX5_isFigure cX5_isFigure 1 (some .boolean) 0 := ⟨Wd_ga (List.forall_mem_cons.mpr ⟨wm_757, List.forall_mem_cons.mpr ⟨wm_759, List.forall_mem_cons.mpr ⟨wm_13, List.forall_mem_cons.mpr ⟨wm_66, fun _ h => absurd h List.not_mem_nil⟩⟩⟩⟩) wm_760, rfl, by decide +kernel, by decide +kernel, by decide +kernel⟩
theorem cs_X5_54 : CSV RX5 54 yX5_takeNumber cX5_takeNumber 4 (some .int) 1 := ⟨Wd_ga (List.forall_mem_cons.mpr ⟨wm_753, List.forall_mem_cons.mpr ⟨wm_755, List.forall_mem_cons.mpr ⟨wm_12, List.forall_mem_cons.mpr ⟨wm_66, fun _ h => absurd h List.not_mem_nil⟩⟩⟩⟩) wm_756, rfl, by decide +kernel, by decide +kernel, by decide +kernel⟩
theorem cs_X5_51 : CSV RX5 51 yX5_takePosts cX5_takePosts 2 none 0 := ⟨Wd_ga (List.forall_mem_cons.mpr ⟨wm_749, List.forall_mem_cons.mpr ⟨wm_751, List.forall_mem_cons.mpr ⟨wm_11, List.forall_mem_cons.mpr ⟨wm_66, fun _ h => absurd h List.not_mem_nil⟩⟩⟩⟩) wm_752, rfl, by decide +kernel, by decide +kernel, by decide +kernel⟩
theorem cs_X5_40 : CSV RX5 40 yX5_takeStatement cX5_takeStatement 2 none 0 := ⟨Wd_ga (List.forall_mem_cons.mpr ⟨wm_683, List.forall_mem_cons.mpr ⟨wm_684, List.forall_mem_cons.mpr ⟨wm_685, List.forall_mem_cons.mpr ⟨wm_66, fun _ h => absurd h List.not_mem_nil⟩⟩⟩⟩) wm_686, rfl, by decide +kernel, by decide +kernel, by decide +kernel⟩
theorem cs_X5_43 : CSV RX5 43 yX5_takeSemicolon cX5_takeSemicolon 1 (some .boolean) 0 := ⟨Wd_ga (List.forall_mem_cons.mpr ⟨wm_761, List.forall_mem_cons.mpr ⟨wm_762, List.forall_mem_cons.mpr ⟨wm_763, List.forall_mem_cons.mpr ⟨wm_66, fun _ h => absurd h List.not_mem_nil⟩⟩⟩⟩) wm_764, rfl, by decide +kernel, by decide +kernel, by decide +kernel⟩
theorem cs_X6_238 : CSV RX6 238 yX5_findFault cX5_findFault 3 (some .int) 0 := ⟨Wd_ga (List.forall_mem_cons.mpr ⟨wm_675, List.forall_mem_cons.mpr ⟨wm_676, List.forall_mem_cons.mpr ⟨wm_677, List.forall_mem_cons.mpr ⟨wm_66, fun _ h => absurd h List.not_mem_nil⟩⟩⟩⟩) wm_678, rfl, by decide +kernel, by decide +kernel, by decide +kernel⟩
theorem cs_X6_265 : CSV RX6 265 yX5_rewind cX5_rewind 1 none 0 := ⟨Wd_ga (List.forall_mem_cons.mpr ⟨wm_769, List.forall_mem_cons.mpr ⟨wm_680, List.forall_mem_cons.mpr ⟨wm_681, List.forall_mem_cons.mpr ⟨wm_66, fun _ h => absurd h List.not_mem_nil⟩⟩⟩⟩) wm_682, rfl, by decide +kernel, by decide +kernel, by decide +kernel⟩
theorem cs_X6_268 : CSV RX6 268 yX5_takeStatement cX5_takeStatement 2 none 0 := ⟨Wd_ga (List.forall_mem_cons.mpr ⟨wm_770, List.forall_mem_cons.mpr ⟨wm_684, List.forall_mem_cons.mpr ⟨wm_685, List.forall_mem_cons.mpr ⟨wm_66, fun _ h => absurd h List.not_mem_nil⟩⟩⟩⟩) wm_686, rfl, by decide +kernel, by decide +kernel, by decide +kernel⟩
theorem fo_X6_278 : FO RX6 278 5 2 := ⟨_, _, _, rfl, by decide, rfl, wm_209, in_X5⟩
theorem fo_X6_281 : FO RX6 281 5 3 := ⟨_, _, _, rfl, by decide, rfl, wm_211, in_X5⟩
theorem cs_X6_284 : CSV RX6 284 yX6_posts cX6_posts 3 (some .int) 1 := ⟨Wd_ga (List.forall_mem_cons.mpr ⟨wm_775, List.forall_mem_cons.mpr ⟨wm_283, List.forall_mem_cons.mpr ⟨wm_284, List.forall_mem_cons.mpr ⟨wm_61, fun _ h => absurd h List.not_mem_nil⟩⟩⟩⟩) wm_285, rfl, by decide +kernel, by decide +kernel, by decide +kernel⟩
theorem fo_X6_286 : FO RX6 286 5 4 := ⟨_, _, _, rfl, by decide, rfl, wm_213, in_X5⟩
theorem cs_X6_289 : CSV RX6 289 yX6_road cX6_road 5 (some .int) 3 := ⟨Wd_ga (List.forall_mem_cons.mpr ⟨wm_776, List.forall_mem_cons.mpr ⟨wm_291, List.forall_mem_cons.mpr ⟨wm_292, List.forall_mem_cons.mpr ⟨wm_61, fun _ h => absurd h List.not_mem_nil⟩⟩⟩⟩) wm_293, rfl, by decide +kernel, by decide +kernel, by decide +kernel⟩
theorem cs_X6_292 : CSV RX6 292 yX6_targets cX6_targets 3 (some .int) 1 := ⟨Wd_ga (List.forall_mem_cons.mpr ⟨wm_777, List.forall_mem_cons.mpr ⟨wm_307, List.forall_mem_cons.mpr ⟨wm_308, List.forall_mem_cons.mpr ⟨wm_61, fun _ h => absurd h List.not_mem_nil⟩⟩⟩⟩) wm_309, rfl, by decide +kernel, by decide +kernel, by decide +kernel⟩
theorem fo_X6_294 : FO RX6 294 5 5 := ⟨_, _, _, rfl, by decide, rfl, wm_215, in_X5⟩
theorem cs_X6_297 : CSV RX6 297 yX6_add cX6_add 2 (some .int) 1 := ⟨Wd_ga (List.forall_mem_cons.mpr ⟨wm_778, List.forall_mem_cons.mpr ⟨wm_331, List.forall_mem_cons.mpr ⟨wm_332, List.forall_mem_cons.mpr ⟨wm_61, fun _ h => absurd h List.not_mem_nil⟩⟩⟩⟩) wm_333, rfl, by decide +kernel, by decide +kernel, by decide +kernel⟩
theorem cs_X6_300 : CSV RX6 300 yX6_weigh cX6_weigh 4 (some .int) 2 := ⟨Wd_ga (List.forall_mem_cons.mpr ⟨wm_779, List.forall_mem_cons.mpr ⟨wm_323, List.forall_mem_cons.mpr ⟨wm_324, List.forall_mem_cons.mpr ⟨wm_61, fun _ h => absurd h List.not_mem_nil⟩⟩⟩⟩) wm_325, rfl, by decide +kernel, by decide +kernel, by decide +kernel⟩
theorem cs_X6_271 : CSV RX6 271 yX6_isDone cX6_isDone 1 (some .boolean) 0 := ⟨Wd_ga (List.forall_mem_cons.mpr ⟨wm_771, List.forall_mem_cons.mpr ⟨wm_773, List.forall_mem_cons.mpr ⟨wm_15, List.forall_mem_cons.mpr ⟨wm_61, fun _ h => absurd h List.not_mem_nil⟩⟩⟩⟩) wm_774, rfl, by decide +kernel, by decide +kernel, by decide +kernel⟩
theorem cs_X6_275 : CSV RX6 275 yX5_takeSemicolon cX5_takeSemicolon 1 (some .boolean) 0 := ⟨Wd_ga (List.forall_mem_cons.mpr ⟨wm_780, List.forall_mem_cons.mpr ⟨wm_762, List.forall_mem_cons.mpr ⟨wm_763, List.forall_mem_cons.mpr ⟨wm_66, fun _ h => absurd h List.not_mem_nil⟩⟩⟩⟩) wm_764, rfl, by decide +kernel, by decide +kernel, by decide +kernel⟩
theorem cs_X6_241 : CSV RX6 241 yX6_doStatements cX6_doStatements 4 (some .int) 0 := ⟨Wd_ga (List.forall_mem_cons.mpr ⟨wm_765, List.forall_mem_cons.mpr ⟨wm_767, List.forall_mem_cons.mpr ⟨wm_14, List.forall_mem_cons.mpr ⟨wm_61, fun _ h => absurd h List.not_mem_nil⟩⟩⟩⟩) wm_768, rfl, by decide +kernel, by decide +kernel, by decide +kernel⟩
theorem fp_X7_190 : FP RX7 190 7 18 .int := ⟨_, _, _, tyX7, rfl, by decide, rfl, wm_872, in_X7, rfl, tyX7_ok, nmX7, by decide +kernel⟩
theorem fo_X7_190 : FO RX7 190 7 18 := ⟨_, _, _, rfl, by decide, rfl, wm_872, in_X7⟩
theorem fp_X7_202 : FP RX7 202 7 20 .int := ⟨_, _, _, tyX7, rfl, by decide, rfl, wm_874, in_X7, rfl, tyX7_ok, nmX7, by decide +kernel⟩
theorem fo_X7_202 : FO RX7 202 7 20 := ⟨_, _, _, rfl, by decide, rfl, wm_874, in_X7⟩
theorem cs_X7_205 : CSS RX7 205 yX7_wordOf cX7_wordOf 1 (some (.object "java/lang/String")) 1 := ⟨Wd_ga (List.forall_mem_cons.mpr ⟨wm_1226, List.forall_mem_cons.mpr ⟨wm_1227, List.forall_mem_cons.mpr ⟨wm_68, fun _ h => absurd h List.not_mem_nil⟩⟩⟩) wm_1228, by decide +kernel, by decide +kernel, by decide +kernel⟩
theorem cs_X7_193 : CSV RX7 193 yJ0_length_8abf5 cJ0_length_8abf5 1 (some .int) 0 := ⟨Wd_ga (List.forall_mem_cons.mpr ⟨wm_1239, List.forall_mem_cons.mpr ⟨wm_697, List.forall_mem_cons.mpr ⟨wm_698, List.forall_mem_cons.mpr ⟨wm_72, fun _ h => absurd h List.not_mem_nil⟩⟩⟩⟩) wm_699, rfl, by decide +kernel, by decide +kernel, by decide +kernel⟩
theorem cs_X7_198 : CSV RX7 198 yJ0_charAt_5068e cJ0_charAt_5068e 2 (some .char) 1 := ⟨Wd_ga (List.forall_mem_cons.mpr ⟨wm_1240, List.forall_mem_cons.mpr ⟨wm_707, List.forall_mem_cons.mpr ⟨wm_708, List.forall_mem_cons.mpr ⟨wm_72, fun _ h => absurd h List.not_mem_nil⟩⟩⟩⟩) wm_709, rfl, by decide +kernel, by decide +kernel, by decide +kernel⟩
theorem cs_X7_209 : CSV RX7 209 yX7_isWordFrom cX7_isWordFrom 4 (some .boolean) 2 := ⟨Wd_ga (List.forall_mem_cons.mpr ⟨wm_1235, List.forall_mem_cons.mpr ⟨wm_1237, List.forall_mem_cons.mpr ⟨wm_50, List.forall_mem_cons.mpr ⟨wm_68, fun _ h => absurd h List.not_mem_nil⟩⟩⟩⟩) wm_1238, rfl, by decide +kernel, by decide +kernel, by decide +kernel⟩
theorem fp_X7_213 : FP RX7 213 7 19 .int := ⟨_, _, _, tyX7, rfl, by decide, rfl, wm_873, in_X7, rfl, tyX7_ok, nmX7, by decide +kernel⟩
theorem cs_X7_231 : CSV RX7 231 yX7_readWord cX7_readWord 2 (some .boolean) 0 := ⟨Wd_ga (List.forall_mem_cons.mpr ⟨wm_1222, List.forall_mem_cons.mpr ⟨wm_1224, List.forall_mem_cons.mpr ⟨wm_49, List.forall_mem_cons.mpr ⟨wm_68, fun _ h => absurd h List.not_mem_nil⟩⟩⟩⟩) wm_1225, rfl, by decide +kernel, by decide +kernel, by decide +kernel⟩
theorem cs_X7_216 : CSV RX7 216 yX7_isHere cX7_isHere 2 (some .boolean) 1 := ⟨Wd_ga (List.forall_mem_cons.mpr ⟨wm_1245, List.forall_mem_cons.mpr ⟨wm_1247, List.forall_mem_cons.mpr ⟨wm_52, List.forall_mem_cons.mpr ⟨wm_68, fun _ h => absurd h List.not_mem_nil⟩⟩⟩⟩) wm_1248, rfl, by decide +kernel, by decide +kernel, by decide +kernel⟩
theorem cs_X7_219 : CSV RX7 219 yX7_isFigure cX7_isFigure 1 (some .boolean) 0 := ⟨Wd_ga (List.forall_mem_cons.mpr ⟨wm_1253, List.forall_mem_cons.mpr ⟨wm_1255, List.forall_mem_cons.mpr ⟨wm_54, List.forall_mem_cons.mpr ⟨wm_68, fun _ h => absurd h List.not_mem_nil⟩⟩⟩⟩) wm_1256, rfl, by decide +kernel, by decide +kernel, by decide +kernel⟩
theorem fp_X7_222 : FP RX7 222 7 21 .int := ⟨_, _, _, tyX7, rfl, by decide, rfl, wm_875, in_X7, rfl, tyX7_ok, nmX7, by decide +kernel⟩
theorem cs_X7_228 : CSV RX7 228 yX7_readFigure cX7_readFigure 1 (some .boolean) 0 := ⟨Wd_ga (List.forall_mem_cons.mpr ⟨wm_1249, List.forall_mem_cons.mpr ⟨wm_1251, List.forall_mem_cons.mpr ⟨wm_53, List.forall_mem_cons.mpr ⟨wm_68, fun _ h => absurd h List.not_mem_nil⟩⟩⟩⟩) wm_1252, rfl, by decide +kernel, by decide +kernel, by decide +kernel⟩
theorem fo_X7_222 : FO RX7 222 7 21 := ⟨_, _, _, rfl, by decide, rfl, wm_875, in_X7⟩
theorem fp_X7_237 : FP RX7 237 7 22 .int := ⟨_, _, _, tyX7, rfl, by decide, rfl, wm_876, in_X7, rfl, tyX7_ok, nmX7, by decide +kernel⟩
theorem fp_X7_240 : FP RX7 240 7 23 .int := ⟨_, _, _, tyX7, rfl, by decide, rfl, wm_877, in_X7, rfl, tyX7_ok, nmX7, by decide +kernel⟩
theorem fo_X7_240 : FO RX7 240 7 23 := ⟨_, _, _, rfl, by decide, rfl, wm_877, in_X7⟩
theorem fp_X7_225 : FP RX7 225 7 24 .int := ⟨_, _, _, tyX7, rfl, by decide, rfl, wm_878, in_X7, rfl, tyX7_ok, nmX7, by decide +kernel⟩
theorem fo_X7_225 : FO RX7 225 7 24 := ⟨_, _, _, rfl, by decide, rfl, wm_878, in_X7⟩
theorem cs_X7_234 : CSV RX7 234 yX7_readSet cX7_readSet 1 (some .boolean) 0 := ⟨Wd_ga (List.forall_mem_cons.mpr ⟨wm_1241, List.forall_mem_cons.mpr ⟨wm_1243, List.forall_mem_cons.mpr ⟨wm_51, List.forall_mem_cons.mpr ⟨wm_68, fun _ h => absurd h List.not_mem_nil⟩⟩⟩⟩) wm_1244, rfl, by decide +kernel, by decide +kernel, by decide +kernel⟩
theorem cs_X7_254 : CSV RX7 254 yX7_readStatement cX7_readStatement 1 (some .boolean) 0 := ⟨Wd_ga (List.forall_mem_cons.mpr ⟨wm_1218, List.forall_mem_cons.mpr ⟨wm_1220, List.forall_mem_cons.mpr ⟨wm_48, List.forall_mem_cons.mpr ⟨wm_68, fun _ h => absurd h List.not_mem_nil⟩⟩⟩⟩) wm_1221, rfl, by decide +kernel, by decide +kernel, by decide +kernel⟩
theorem fo_X7_237 : FO RX7 237 7 22 := ⟨_, _, _, rfl, by decide, rfl, wm_876, in_X7⟩
theorem cs_X7_243 : CSV RX7 243 yX7_posts cX7_posts 3 (some .int) 1 := ⟨Wd_ga (List.forall_mem_cons.mpr ⟨wm_1261, List.forall_mem_cons.mpr ⟨wm_943, List.forall_mem_cons.mpr ⟨wm_944, List.forall_mem_cons.mpr ⟨wm_68, fun _ h => absurd h List.not_mem_nil⟩⟩⟩⟩) wm_945, rfl, by decide +kernel, by decide +kernel, by decide +kernel⟩
theorem cs_X7_245 : CSV RX7 245 yX7_road cX7_road 5 (some .int) 3 := ⟨Wd_ga (List.forall_mem_cons.mpr ⟨wm_1262, List.forall_mem_cons.mpr ⟨wm_954, List.forall_mem_cons.mpr ⟨wm_955, List.forall_mem_cons.mpr ⟨wm_68, fun _ h => absurd h List.not_mem_nil⟩⟩⟩⟩) wm_956, rfl, by decide +kernel, by decide +kernel, by decide +kernel⟩
theorem cs_X7_247 : CSV RX7 247 yX7_targets cX7_targets 3 (some .int) 1 := ⟨Wd_ga (List.forall_mem_cons.mpr ⟨wm_1263, List.forall_mem_cons.mpr ⟨wm_966, List.forall_mem_cons.mpr ⟨wm_967, List.forall_mem_cons.mpr ⟨wm_68, fun _ h => absurd h List.not_mem_nil⟩⟩⟩⟩) wm_968, rfl, by decide +kernel, by decide +kernel, by decide +kernel⟩
theorem cs_X7_249 : CSV RX7 249 yX7_add cX7_add 2 (some .int) 1 := ⟨Wd_ga (List.forall_mem_cons.mpr ⟨wm_1264, List.forall_mem_cons.mpr ⟨wm_982, List.forall_mem_cons.mpr ⟨wm_983, List.forall_mem_cons.mpr ⟨wm_68, fun _ h => absurd h List.not_mem_nil⟩⟩⟩⟩) wm_984, rfl, by decide +kernel, by decide +kernel, by decide +kernel⟩
theorem cs_X7_252 : CSV RX7 252 yX7_weigh cX7_weigh 4 (some .int) 2 := ⟨Wd_ga (List.forall_mem_cons.mpr ⟨wm_1265, List.forall_mem_cons.mpr ⟨wm_978, List.forall_mem_cons.mpr ⟨wm_979, List.forall_mem_cons.mpr ⟨wm_68, fun _ h => absurd h List.not_mem_nil⟩⟩⟩⟩) wm_980, rfl, by decide +kernel, by decide +kernel, by decide +kernel⟩
theorem cs_X7_257 : CSV RX7 257 yX7_isDone cX7_isDone 1 (some .boolean) 0 := ⟨Wd_ga (List.forall_mem_cons.mpr ⟨wm_1257, List.forall_mem_cons.mpr ⟨wm_1259, List.forall_mem_cons.mpr ⟨wm_55, List.forall_mem_cons.mpr ⟨wm_68, fun _ h => absurd h List.not_mem_nil⟩⟩⟩⟩) wm_1260, rfl, by decide +kernel, by decide +kernel, by decide +kernel⟩
theorem fo_X7_213 : FO RX7 213 7 19 := ⟨_, _, _, rfl, by decide, rfl, wm_873, in_X7⟩
theorem cs_X7_260 : CSV RX7 260 yX7_reads cX7_reads 3 (some .int) 1 := ⟨Wd_ga (List.forall_mem_cons.mpr ⟨wm_1214, List.forall_mem_cons.mpr ⟨wm_1216, List.forall_mem_cons.mpr ⟨wm_47, List.forall_mem_cons.mpr ⟨wm_68, fun _ h => absurd h List.not_mem_nil⟩⟩⟩⟩) wm_1217, rfl, by decide +kernel, by decide +kernel, by decide +kernel⟩
theorem fo_X6_56 : FO RX6 56 6 8 := ⟨_, _, _, rfl, by decide, rfl, wm_262, in_X6⟩
theorem fo_X3_19 : FO RX3 19 3 2 := ⟨_, _, _, rfl, by decide, rfl, wm_246, in_X3⟩
theorem fo_X3_22 : FO RX3 22 4 3 := ⟨_, _, _, rfl, by decide, rfl, wm_104, in_X4⟩
theorem fp_X3_15 : FP RX3 15 3 1 .int := ⟨_, _, _, tyX3, rfl, by decide, rfl, wm_244, in_X3, rfl, tyX3_ok, nmX3, by decide +kernel⟩
theorem cs_X3_87 : CSV RX3 87 yJ0_length_8abf5 cJ0_length_8abf5 1 (some .int) 0 := ⟨Wd_ga (List.forall_mem_cons.mpr ⟨wm_795, List.forall_mem_cons.mpr ⟨wm_697, List.forall_mem_cons.mpr ⟨wm_698, List.forall_mem_cons.mpr ⟨wm_72, fun _ h => absurd h List.not_mem_nil⟩⟩⟩⟩) wm_699, rfl, by decide +kernel, by decide +kernel, by decide +kernel⟩
theorem cs_X3_92 : CSV RX3 92 yJ0_charAt_5068e cJ0_charAt_5068e 2 (some .char) 1 := ⟨Wd_ga (List.forall_mem_cons.mpr ⟨wm_796, List.forall_mem_cons.mpr ⟨wm_707, List.forall_mem_cons.mpr ⟨wm_708, List.forall_mem_cons.mpr ⟨wm_72, fun _ h => absurd h List.not_mem_nil⟩⟩⟩⟩) wm_709, rfl, by decide +kernel, by decide +kernel, by decide +kernel⟩
theorem fo_X3_15 : FO RX3 15 3 1 := ⟨_, _, _, rfl, by decide, rfl, wm_244, in_X3⟩
theorem fo_X3_9 : FO RX3 9 3 0 := ⟨_, _, _, rfl, by decide, rfl, wm_242, in_X3⟩
theorem cs_X3_83 : CSV RX3 83 yX3_writeSign cX3_writeSign 2 none 1 := ⟨Wd_ga (List.forall_mem_cons.mpr ⟨wm_797, List.forall_mem_cons.mpr ⟨wm_799, List.forall_mem_cons.mpr ⟨wm_17, List.forall_mem_cons.mpr ⟨wm_67, fun _ h => absurd h List.not_mem_nil⟩⟩⟩⟩) wm_800, rfl, by decide +kernel, by decide +kernel, by decide +kernel⟩
theorem cs_X3_29 : CSV RX3 29 yX3_write cX3_write 3 none 1 := ⟨Wd_ga (List.forall_mem_cons.mpr ⟨wm_791, List.forall_mem_cons.mpr ⟨wm_793, List.forall_mem_cons.mpr ⟨wm_16, List.forall_mem_cons.mpr ⟨wm_67, fun _ h => absurd h List.not_mem_nil⟩⟩⟩⟩) wm_794, rfl, by decide +kernel, by decide +kernel, by decide +kernel⟩
theorem fo_X3_33 : FO RX3 33 4 0 := ⟨_, _, _, rfl, by decide, rfl, wm_93, in_X4⟩
theorem cs_X3_35 : CSV RX3 35 yX3_writeNumber cX3_writeNumber 2 none 1 := ⟨Wd_ga (List.forall_mem_cons.mpr ⟨wm_801, List.forall_mem_cons.mpr ⟨wm_803, List.forall_mem_cons.mpr ⟨wm_18, List.forall_mem_cons.mpr ⟨wm_67, fun _ h => absurd h List.not_mem_nil⟩⟩⟩⟩) wm_804, rfl, by decide +kernel, by decide +kernel, by decide +kernel⟩
theorem fo_X3_65 : FO RX3 65 4 4 := ⟨_, _, _, rfl, by decide, rfl, wm_107, in_X4⟩
theorem cs_X3_68 : CSN RX3 68 yX6_has cX6_has 2 (some .boolean) 2 := ⟨by decide +kernel, wm_384, wm_61, wm_383, by decide +kernel, by decide +kernel, by decide +kernel⟩
theorem cs_X3_39 : CSV RX3 39 yX3_writeRoads cX3_writeRoads 4 none 1 := ⟨Wd_ga (List.forall_mem_cons.mpr ⟨wm_805, List.forall_mem_cons.mpr ⟨wm_807, List.forall_mem_cons.mpr ⟨wm_19, List.forall_mem_cons.mpr ⟨wm_67, fun _ h => absurd h List.not_mem_nil⟩⟩⟩⟩) wm_808, rfl, by decide +kernel, by decide +kernel, by decide +kernel⟩
theorem fo_X3_45 : FO RX3 45 4 1 := ⟨_, _, _, rfl, by decide, rfl, wm_95, in_X4⟩
theorem cs_X3_48 : CSV RX3 48 yX3_writePostsOf cX3_writePostsOf 4 none 2 := ⟨Wd_ga (List.forall_mem_cons.mpr ⟨wm_812, List.forall_mem_cons.mpr ⟨wm_814, List.forall_mem_cons.mpr ⟨wm_20, List.forall_mem_cons.mpr ⟨wm_67, fun _ h => absurd h List.not_mem_nil⟩⟩⟩⟩) wm_815, rfl, by decide +kernel, by decide +kernel, by decide +kernel⟩
theorem fo_X3_52 : FO RX3 52 4 2 := ⟨_, _, _, rfl, by decide, rfl, wm_99, in_X4⟩
theorem fo_X3_55 : FO RX3 55 4 6 := ⟨_, _, _, rfl, by decide, rfl, wm_113, in_X4⟩
theorem cs_X3_59 : CSV RX3 59 yX3_writeSet cX3_writeSet 3 none 1 := ⟨Wd_ga (List.forall_mem_cons.mpr ⟨wm_817, List.forall_mem_cons.mpr ⟨wm_819, List.forall_mem_cons.mpr ⟨wm_21, List.forall_mem_cons.mpr ⟨wm_67, fun _ h => absurd h List.not_mem_nil⟩⟩⟩⟩) wm_820, rfl, by decide +kernel, by decide +kernel, by decide +kernel⟩
theorem fo_X3_78 : FO RX3 78 4 5 := ⟨_, _, _, rfl, by decide, rfl, wm_110, in_X4⟩
theorem cs_X3_62 : CSV RX3 62 yX3_writeWeights cX3_writeWeights 3 none 1 := ⟨Wd_ga (List.forall_mem_cons.mpr ⟨wm_822, List.forall_mem_cons.mpr ⟨wm_824, List.forall_mem_cons.mpr ⟨wm_22, List.forall_mem_cons.mpr ⟨wm_67, fun _ h => absurd h List.not_mem_nil⟩⟩⟩⟩) wm_825, rfl, by decide +kernel, by decide +kernel, by decide +kernel⟩
theorem fp_X3_19 : FP RX3 19 3 2 .int := ⟨_, _, _, tyX3, rfl, by decide, rfl, wm_246, in_X3, rfl, tyX3_ok, nmX3, by decide +kernel⟩
theorem cs_X6_244 : CSV RX6 244 yX3_spell cX3_spell 3 none 1 := ⟨Wd_ga (List.forall_mem_cons.mpr ⟨wm_786, List.forall_mem_cons.mpr ⟨wm_787, List.forall_mem_cons.mpr ⟨wm_788, List.forall_mem_cons.mpr ⟨wm_67, fun _ h => absurd h List.not_mem_nil⟩⟩⟩⟩) wm_789, rfl, by decide +kernel, by decide +kernel, by decide +kernel⟩
theorem fo_X6_248 : FO RX6 248 3 1 := ⟨_, _, _, rfl, by decide, rfl, wm_245, in_X3⟩
theorem fo_X6_249 : FO RX6 249 3 0 := ⟨_, _, _, rfl, by decide, rfl, wm_243, in_X3⟩
theorem fp_X7_264 : FP RX7 264 7 26 .int := ⟨_, _, _, tyX7, rfl, by decide, rfl, wm_880, in_X7, rfl, tyX7_ok, nmX7, by decide +kernel⟩
theorem fo_X7_264 : FO RX7 264 7 26 := ⟨_, _, _, rfl, by decide, rfl, wm_880, in_X7⟩
theorem fo_X7_57 : FO RX7 57 7 25 := ⟨_, _, _, rfl, by decide, rfl, wm_879, in_X7⟩
theorem cs_X7_267 : CSV RX7 267 yX7_writes cX7_writes 2 none 1 := ⟨Wd_ga (List.forall_mem_cons.mpr ⟨wm_1278, List.forall_mem_cons.mpr ⟨wm_1280, List.forall_mem_cons.mpr ⟨wm_58, List.forall_mem_cons.mpr ⟨wm_68, fun _ h => absurd h List.not_mem_nil⟩⟩⟩⟩) wm_1281, rfl, by decide +kernel, by decide +kernel, by decide +kernel⟩
theorem cs_X7_270 : CSV RX7 270 yX7_writesWord cX7_writesWord 3 none 1 := ⟨Wd_ga (List.forall_mem_cons.mpr ⟨wm_1274, List.forall_mem_cons.mpr ⟨wm_1276, List.forall_mem_cons.mpr ⟨wm_57, List.forall_mem_cons.mpr ⟨wm_68, fun _ h => absurd h List.not_mem_nil⟩⟩⟩⟩) wm_1277, rfl, by decide +kernel, by decide +kernel, by decide +kernel⟩
theorem cs_X7_273 : CSV RX7 273 yX7_writesNumber cX7_writesNumber 2 none 1 := ⟨Wd_ga (List.forall_mem_cons.mpr ⟨wm_1282, List.forall_mem_cons.mpr ⟨wm_1284, List.forall_mem_cons.mpr ⟨wm_59, List.forall_mem_cons.mpr ⟨wm_68, fun _ h => absurd h List.not_mem_nil⟩⟩⟩⟩) wm_1285, rfl, by decide +kernel, by decide +kernel, by decide +kernel⟩
theorem cs_X7_276 : CSV RX7 276 yX7_spells cX7_spells 3 none 0 := ⟨Wd_ga (List.forall_mem_cons.mpr ⟨wm_1270, List.forall_mem_cons.mpr ⟨wm_1272, List.forall_mem_cons.mpr ⟨wm_56, List.forall_mem_cons.mpr ⟨wm_68, fun _ h => absurd h List.not_mem_nil⟩⟩⟩⟩) wm_1273, rfl, by decide +kernel, by decide +kernel, by decide +kernel⟩
theorem fo_X6_16 : FO RX6 16 6 1 := ⟨_, _, _, rfl, by decide, rfl, wm_255, in_X6⟩
theorem cs_X6_252 : CSV RX6 252 yX4_become cX4_become 2 none 1 := ⟨Wd_ga (List.forall_mem_cons.mpr ⟨wm_831, List.forall_mem_cons.mpr ⟨wm_832, List.forall_mem_cons.mpr ⟨wm_833, List.forall_mem_cons.mpr ⟨wm_62, fun _ h => absurd h List.not_mem_nil⟩⟩⟩⟩) wm_834, rfl, by decide +kernel, by decide +kernel, by decide +kernel⟩
theorem fp_X6_19 : FP RX6 19 6 2 .boolean := ⟨_, _, _, tyX6, rfl, by decide, rfl, wm_256, in_X6, rfl, tyX6_ok, nmX6, by decide +kernel⟩
theorem fp_X7_279 : FP RX7 279 7 27 .boolean := ⟨_, _, _, tyX7, rfl, by decide, rfl, wm_881, in_X7, rfl, tyX7_ok, nmX7, by decide +kernel⟩
theorem fo_X7_60 : FO RX7 60 7 28 := ⟨_, _, _, rfl, by decide, rfl, wm_882, in_X7⟩
theorem fo_X6_19 : FO RX6 19 6 2 := ⟨_, _, _, rfl, by decide, rfl, wm_256, in_X6⟩
theorem fo_X7_279 : FO RX7 279 7 27 := ⟨_, _, _, rfl, by decide, rfl, wm_881, in_X7⟩
theorem cs_X6_255 : CSV RX6 255 yX6_countRows cX6_countRows 3 (some .int) 0 := ⟨Wd_ga (List.forall_mem_cons.mpr ⟨wm_844, List.forall_mem_cons.mpr ⟨wm_846, List.forall_mem_cons.mpr ⟨wm_23, List.forall_mem_cons.mpr ⟨wm_61, fun _ h => absurd h List.not_mem_nil⟩⟩⟩⟩) wm_847, rfl, by decide +kernel, by decide +kernel, by decide +kernel⟩
theorem cs_J0_335 : CSV RJ0 335 yJ0_coder_7d493 cJ0_coder_7d493 1 (some .byte) 0 := ⟨Wd_ga (List.forall_mem_cons.mpr ⟨wm_700, List.forall_mem_cons.mpr ⟨wm_701, List.forall_mem_cons.mpr ⟨wm_702, List.forall_mem_cons.mpr ⟨wm_72, fun _ h => absurd h List.not_mem_nil⟩⟩⟩⟩) wm_703, rfl, by decide +kernel, by decide +kernel, by decide +kernel⟩
theorem cs_J0_492 : CSV RJ0 492 yJ0_isLatin1_aae02 cJ0_isLatin1_aae02 1 (some .boolean) 0 := ⟨Wd_ga (List.forall_mem_cons.mpr ⟨wm_710, List.forall_mem_cons.mpr ⟨wm_711, List.forall_mem_cons.mpr ⟨wm_712, List.forall_mem_cons.mpr ⟨wm_72, fun _ h => absurd h List.not_mem_nil⟩⟩⟩⟩) wm_713, rfl, by decide +kernel, by decide +kernel, by decide +kernel⟩
theorem cs_J0_495 : CSS RJ0 495 yJ1_charAt_3b067 cJ1_charAt_3b067 2 (some .char) 2 := ⟨Wd_ga (List.forall_mem_cons.mpr ⟨wm_714, List.forall_mem_cons.mpr ⟨wm_715, List.forall_mem_cons.mpr ⟨wm_73, fun _ h => absurd h List.not_mem_nil⟩⟩⟩) wm_716, by decide +kernel, by decide +kernel, by decide +kernel⟩
theorem cs_J1_9 : CSS RJ1 9 yJ0_checkIndex_df160 cJ0_checkIndex_df160 2 none 2 := ⟨Wd_ga (List.forall_mem_cons.mpr ⟨wm_717, List.forall_mem_cons.mpr ⟨wm_718, List.forall_mem_cons.mpr ⟨wm_72, fun _ h => absurd h List.not_mem_nil⟩⟩⟩) wm_719, by decide +kernel, by decide +kernel, by decide +kernel⟩
theorem cs_J0_1059 : CSS RJ0 1059 yJ3_checkIndex_8e157 cJ3_checkIndex_8e157 3 (some .int) 3 := ⟨Wd_ga (List.forall_mem_cons.mpr ⟨wm_722, List.forall_mem_cons.mpr ⟨wm_723, List.forall_mem_cons.mpr ⟨wm_74, fun _ h => absurd h List.not_mem_nil⟩⟩⟩) wm_724, by decide +kernel, by decide +kernel, by decide +kernel⟩
