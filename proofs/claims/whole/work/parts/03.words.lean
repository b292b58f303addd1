/-! Words of the tables: every method's words are its own code and kw. -/
def kw : List Cond := (k2_sels lw_privs ++ tables_1).filter goodWord
theorem kw_good {w : Cond} (h : w ∈ kw) : goodWord w = true := (List.mem_filter.mp h).2
theorem kw_tbl {w : Cond} (h : w ∈ kw) : w ∈ lw_tbl := (List.mem_filter.mp h).1
theorem kw_in {a b : Cond} (h : b ∈ kw) : GoodIn (a :: kw) (b :: kw) := fun w hw => by
  have hk : w ∈ kw := (List.mem_cons.mp hw).elim (fun e => e ▸ h) id
  exact ⟨List.mem_cons_of_mem _ hk, good_of_word (kw_good hk)⟩
theorem kw_in3 {a b c1 c2 c3 : Cond} (h1 : c1 ∈ kw) (h2 : c2 ∈ kw) (h3 : c3 ∈ kw) (h : b ∈ kw) : GoodIn (a :: kw) ([c1, c2, c3] ++ (b :: kw)) := fun w hw => by
  have hk : w ∈ kw := by
    rcases List.mem_append.mp hw with h9 | h9
    · simp only [List.mem_cons, List.not_mem_nil, or_false] at h9
      rcases h9 with rfl | rfl | rfl <;> assumption
    · exact (List.mem_cons.mp h9).elim (fun e => e ▸ h) id
  exact ⟨List.mem_cons_of_mem _ hk, good_of_word (kw_good hk)⟩
theorem kw_in4 {a b c1 c2 c3 c4 : Cond} (h1 : c1 ∈ kw) (h2 : c2 ∈ kw) (h3 : c3 ∈ kw) (h4 : c4 ∈ kw) (h : b ∈ kw) : GoodIn (a :: kw) ([c1, c2, c3, c4] ++ (b :: kw)) := fun w hw => by
  have hk : w ∈ kw := by
    rcases List.mem_append.mp hw with h9 | h9
    · simp only [List.mem_cons, List.not_mem_nil, or_false] at h9
      rcases h9 with rfl | rfl | rfl | rfl <;> assumption
    · exact (List.mem_cons.mp h9).elim (fun e => e ▸ h) id
  exact ⟨List.mem_cons_of_mem _ hk, good_of_word (kw_good hk)⟩
theorem kt_1 {w : Cond} (h : w ∈ tables_1_1) (hg : goodWord w = true) : w ∈ kw := List.mem_filter.mpr ⟨List.mem_append_right _ (show w ∈ tables_1 from List.mem_append_left _ h), hg⟩
theorem kt_2 {w : Cond} (h : w ∈ tables_1_2) (hg : goodWord w = true) : w ∈ kw := List.mem_filter.mpr ⟨List.mem_append_right _ (show w ∈ tables_1 from List.mem_append_right _ (List.mem_append_left _ h)), hg⟩
theorem kt_3 {w : Cond} (h : w ∈ tables_1_3) (hg : goodWord w = true) : w ∈ kw := List.mem_filter.mpr ⟨List.mem_append_right _ (show w ∈ tables_1 from List.mem_append_right _ (List.mem_append_right _ (List.mem_append_left _ h))), hg⟩
theorem kt_4 {w : Cond} (h : w ∈ tables_1_4) (hg : goodWord w = true) : w ∈ kw := List.mem_filter.mpr ⟨List.mem_append_right _ (show w ∈ tables_1 from List.mem_append_right _ (List.mem_append_right _ (List.mem_append_right _ (List.mem_append_left _ h)))), hg⟩
theorem kt_5 {w : Cond} (h : w ∈ tables_1_5) (hg : goodWord w = true) : w ∈ kw := List.mem_filter.mpr ⟨List.mem_append_right _ (show w ∈ tables_1 from List.mem_append_right _ (List.mem_append_right _ (List.mem_append_right _ (List.mem_append_right _ (h))))), hg⟩
theorem kw_s2 : Cond.selects "PathTextsModel" ⟨"PathTextsModel", "skip", "()V"⟩ ⟨"PathTextsModel", "skip", "()V"⟩ ∈ kw := List.mem_filter.mpr ⟨List.mem_append_left _ (List.mem_of_getElem? (i := 2) rfl), rfl⟩
theorem kw_s3 : Cond.selects "PathTextsModel" ⟨"PathTextsModel", "sign", "()I"⟩ ⟨"PathTextsModel", "sign", "()I"⟩ ∈ kw := List.mem_filter.mpr ⟨List.mem_append_left _ (List.mem_of_getElem? (i := 3) rfl), rfl⟩
theorem kw_s4 : Cond.selects "PathTextsModel" ⟨"PathTextsModel", "readOne", "()V"⟩ ⟨"PathTextsModel", "readOne", "()V"⟩ ∈ kw := List.mem_filter.mpr ⟨List.mem_append_left _ (List.mem_of_getElem? (i := 4) rfl), rfl⟩
theorem kw_s5 : Cond.selects "PathTextsModel" ⟨"PathTextsModel", "openGroup", "(I)V"⟩ ⟨"PathTextsModel", "openGroup", "(I)V"⟩ ∈ kw := List.mem_filter.mpr ⟨List.mem_append_left _ (List.mem_of_getElem? (i := 5) rfl), rfl⟩
theorem kw_s6 : Cond.selects "PathTextsModel" ⟨"PathTextsModel", "numerals", "(I)V"⟩ ⟨"PathTextsModel", "numerals", "(I)V"⟩ ∈ kw := List.mem_filter.mpr ⟨List.mem_append_left _ (List.mem_of_getElem? (i := 6) rfl), rfl⟩
theorem kw_s7 : Cond.selects "PathTextsModel" ⟨"PathTextsModel", "numeral", "()V"⟩ ⟨"PathTextsModel", "numeral", "()V"⟩ ∈ kw := List.mem_filter.mpr ⟨List.mem_append_left _ (List.mem_of_getElem? (i := 7) rfl), rfl⟩
theorem kw_s8 : Cond.selects "PathTextsModel" ⟨"PathTextsModel", "isNumeral", "()Z"⟩ ⟨"PathTextsModel", "isNumeral", "()Z"⟩ ∈ kw := List.mem_filter.mpr ⟨List.mem_append_left _ (List.mem_of_getElem? (i := 8) rfl), rfl⟩
theorem kw_s9 : Cond.selects "PathTextsModel" ⟨"PathTextsModel", "passDigits", "()I"⟩ ⟨"PathTextsModel", "passDigits", "()I"⟩ ∈ kw := List.mem_filter.mpr ⟨List.mem_append_left _ (List.mem_of_getElem? (i := 9) rfl), rfl⟩
theorem kw_s10 : Cond.selects "PathTextsModel" ⟨"PathTextsModel", "commandsOf", "(II)V"⟩ ⟨"PathTextsModel", "commandsOf", "(II)V"⟩ ∈ kw := List.mem_filter.mpr ⟨List.mem_append_left _ (List.mem_of_getElem? (i := 10) rfl), rfl⟩
theorem kw_s11 : Cond.selects "PathTextsModel" ⟨"PathTextsModel", "command", "(IJJI)V"⟩ ⟨"PathTextsModel", "command", "(IJJI)V"⟩ ∈ kw := List.mem_filter.mpr ⟨List.mem_append_left _ (List.mem_of_getElem? (i := 11) rfl), rfl⟩
theorem kw_s12 : Cond.selects "PathTextsModel" ⟨"PathTextsModel", "draw", "(IJJJJJJI)V"⟩ ⟨"PathTextsModel", "draw", "(IJJJJJJI)V"⟩ ∈ kw := List.mem_filter.mpr ⟨List.mem_append_left _ (List.mem_of_getElem? (i := 12) rfl), rfl⟩
theorem kw_s13 : Cond.selects "PathTextsModel" ⟨"PathTextsModel", "point", "(IJJI)V"⟩ ⟨"PathTextsModel", "point", "(IJJI)V"⟩ ∈ kw := List.mem_filter.mpr ⟨List.mem_append_left _ (List.mem_of_getElem? (i := 13) rfl), rfl⟩
theorem kw_s14 : Cond.selects "PathTextsModel" ⟨"PathTextsModel", "put", "(II)V"⟩ ⟨"PathTextsModel", "put", "(II)V"⟩ ∈ kw := List.mem_filter.mpr ⟨List.mem_append_left _ (List.mem_of_getElem? (i := 14) rfl), rfl⟩
theorem kw_s15 : Cond.selects "PathTextsModel" ⟨"PathTextsModel", "add", "(I)I"⟩ ⟨"PathTextsModel", "add", "(I)I"⟩ ∈ kw := List.mem_filter.mpr ⟨List.mem_append_left _ (List.mem_of_getElem? (i := 15) rfl), rfl⟩
theorem kw_s16 : Cond.selects "PathTextsModel" ⟨"PathTextsModel", "hasMove", "()Z"⟩ ⟨"PathTextsModel", "hasMove", "()Z"⟩ ∈ kw := List.mem_filter.mpr ⟨List.mem_append_left _ (List.mem_of_getElem? (i := 16) rfl), rfl⟩
theorem kw_s17 : Cond.selects "PathTextsModel" ⟨"PathTextsModel", "say", "(I)V"⟩ ⟨"PathTextsModel", "say", "(I)V"⟩ ∈ kw := List.mem_filter.mpr ⟨List.mem_append_left _ (List.mem_of_getElem? (i := 17) rfl), rfl⟩
theorem kw_s18 : Cond.selects "PathTextsModel" ⟨"PathTextsModel", "sayNumeral", "(IZZ)Z"⟩ ⟨"PathTextsModel", "sayNumeral", "(IZZ)Z"⟩ ∈ kw := List.mem_filter.mpr ⟨List.mem_append_left _ (List.mem_of_getElem? (i := 18) rfl), rfl⟩
theorem kw_s19 : Cond.selects "PathTextsModel" ⟨"PathTextsModel", "find", "(I)V"⟩ ⟨"PathTextsModel", "find", "(I)V"⟩ ∈ kw := List.mem_filter.mpr ⟨List.mem_append_left _ (List.mem_of_getElem? (i := 19) rfl), rfl⟩
theorem kw_s20 : Cond.selects "PathTextsModel" ⟨"PathTextsModel", "sayDigits", "(JI)V"⟩ ⟨"PathTextsModel", "sayDigits", "(JI)V"⟩ ∈ kw := List.mem_filter.mpr ⟨List.mem_append_left _ (List.mem_of_getElem? (i := 20) rfl), rfl⟩
theorem kw_s21 : Cond.selects "PathTextsModel" ⟨"PathTextsModel", "makeEdges", "()V"⟩ ⟨"PathTextsModel", "makeEdges", "()V"⟩ ∈ kw := List.mem_filter.mpr ⟨List.mem_append_left _ (List.mem_of_getElem? (i := 21) rfl), rfl⟩
theorem kw_s22 : Cond.selects "PathTextsModel" ⟨"PathTextsModel", "edge", "(JJJJ)V"⟩ ⟨"PathTextsModel", "edge", "(JJJJ)V"⟩ ∈ kw := List.mem_filter.mpr ⟨List.mem_append_left _ (List.mem_of_getElem? (i := 22) rfl), rfl⟩
theorem kw_s23 : Cond.selects "PathTextsModel" ⟨"PathTextsModel", "counts", "(III)I"⟩ ⟨"PathTextsModel", "counts", "(III)I"⟩ ∈ kw := List.mem_filter.mpr ⟨List.mem_append_left _ (List.mem_of_getElem? (i := 23) rfl), rfl⟩
theorem kw_1 : (Jvm.Cond.initialized "PathTexts") ∈ kw := kt_1 (List.mem_of_getElem? (i := 1) rfl) rfl
theorem kw_2 : (Jvm.Cond.initialized "PathTexts$Row") ∈ kw := kt_1 (List.mem_of_getElem? (i := 2) rfl) rfl
theorem kw_3 : (Jvm.Cond.initialized "PathTexts$Reader") ∈ kw := kt_1 (List.mem_of_getElem? (i := 3) rfl) rfl
theorem kw_4 : (Jvm.Cond.initialized "PathTexts$Pen") ∈ kw := kt_1 (List.mem_of_getElem? (i := 4) rfl) rfl
theorem kw_5 : (Jvm.Cond.initialized "PathTexts$Matrices") ∈ kw := kt_1 (List.mem_of_getElem? (i := 5) rfl) rfl
theorem kw_6 : (Jvm.Cond.initialized "PathTexts$Cover") ∈ kw := kt_1 (List.mem_of_getElem? (i := 6) rfl) rfl
theorem kw_7 : (Jvm.Cond.initialized "PathTexts$Drawing") ∈ kw := kt_1 (List.mem_of_getElem? (i := 7) rfl) rfl
theorem kw_8 : (Jvm.Cond.initialized "PathTextsModel") ∈ kw := kt_1 (List.mem_of_getElem? (i := 8) rfl) rfl
theorem kw_14 : (Jvm.Cond.initialized "java/util/Arrays") ∈ kw := kt_1 (List.mem_of_getElem? (i := 14) rfl) rfl
theorem kw_15 : (Jvm.Cond.initialized "java/lang/Math") ∈ kw := kt_1 (List.mem_of_getElem? (i := 15) rfl) rfl
theorem kw_18 : (Jvm.Cond.initialized "PathTexts$Writer") ∈ kw := kt_1 (List.mem_of_getElem? (i := 18) rfl) rfl
theorem kw_33 : (Jvm.Cond.fieldLink "PathTexts$Row" (7 : Nat) "PathTexts$Row" "characters" "[C") ∈ kw := kt_1 (List.mem_of_getElem? (i := 33) rfl) rfl
theorem kw_34 : (Jvm.Cond.fieldLink "PathTexts$Row" (13 : Nat) "PathTexts$Row" "length" "I") ∈ kw := kt_1 (List.mem_of_getElem? (i := 34) rfl) rfl
theorem kw_35 : (Jvm.Cond.fieldLink "PathTexts$Writer" (9 : Nat) "PathTexts$Row" "length" "I") ∈ kw := kt_1 (List.mem_of_getElem? (i := 35) rfl) rfl
theorem kw_36 : (Jvm.Cond.fieldLink "PathTexts$Reader" (54 : Nat) "PathTexts$Row" "length" "I") ∈ kw := kt_1 (List.mem_of_getElem? (i := 36) rfl) rfl
theorem kw_37 : (Jvm.Cond.fieldLink "PathTexts" (62 : Nat) "PathTexts$Row" "length" "I") ∈ kw := kt_1 (List.mem_of_getElem? (i := 37) rfl) rfl
theorem kw_38 : (Jvm.Cond.laysFinal "PathTexts$Row" "PathTexts$Row" "characters" "[C") ∈ kw := kt_1 (List.mem_of_getElem? (i := 38) rfl) rfl
theorem kw_40 : (Jvm.Cond.lays "PathTexts$Row" "PathTexts$Row" "length" "I") ∈ kw := kt_1 (List.mem_of_getElem? (i := 40) rfl) rfl
theorem kw_62 : (Jvm.Cond.fieldLink "PathTexts$Matrices" (9 : Nat) "PathTexts$Matrices" "rows" "[J") ∈ kw := kt_1 (List.mem_of_getElem? (i := 62) rfl) rfl
theorem kw_63 : (Jvm.Cond.fieldLink "PathTexts$Matrices" (15 : Nat) "PathTexts$Matrices" "depth" "I") ∈ kw := kt_1 (List.mem_of_getElem? (i := 63) rfl) rfl
theorem kw_64 : (Jvm.Cond.fieldLink "PathTexts$Reader" (59 : Nat) "PathTexts$Matrices" "depth" "I") ∈ kw := kt_1 (List.mem_of_getElem? (i := 64) rfl) rfl
theorem kw_65 : (Jvm.Cond.laysFinal "PathTexts$Matrices" "PathTexts$Matrices" "rows" "[J") ∈ kw := kt_1 (List.mem_of_getElem? (i := 65) rfl) rfl
theorem kw_67 : (Jvm.Cond.lays "PathTexts$Matrices" "PathTexts$Matrices" "depth" "I") ∈ kw := kt_1 (List.mem_of_getElem? (i := 67) rfl) rfl
theorem kw_71 : (Jvm.Cond.fieldLink "PathTexts$Pen" (12 : Nat) "PathTexts$Pen" "matrices" "LPathTexts$Matrices;") ∈ kw := kt_1 (List.mem_of_getElem? (i := 71) rfl) rfl
theorem kw_72 : (Jvm.Cond.fieldLink "PathTexts$Reader" (32 : Nat) "PathTexts$Pen" "matrices" "LPathTexts$Matrices;") ∈ kw := kt_1 (List.mem_of_getElem? (i := 72) rfl) rfl
theorem kw_73 : (Jvm.Cond.fieldLink "PathTexts$Pen" (18 : Nat) "PathTexts$Pen" "points" "[J") ∈ kw := kt_1 (List.mem_of_getElem? (i := 73) rfl) rfl
theorem kw_74 : (Jvm.Cond.fieldLink "PathTexts$Pen" (22 : Nat) "PathTexts$Pen" "drawn" "[J") ∈ kw := kt_1 (List.mem_of_getElem? (i := 74) rfl) rfl
theorem kw_75 : (Jvm.Cond.fieldLink "PathTexts$Pen" (25 : Nat) "PathTexts$Pen" "x" "J") ∈ kw := kt_1 (List.mem_of_getElem? (i := 75) rfl) rfl
theorem kw_76 : (Jvm.Cond.fieldLink "PathTexts$Pen" (29 : Nat) "PathTexts$Pen" "y" "J") ∈ kw := kt_1 (List.mem_of_getElem? (i := 76) rfl) rfl
theorem kw_77 : (Jvm.Cond.fieldLink "PathTexts$Pen" (40 : Nat) "PathTexts$Pen" "startX" "J") ∈ kw := kt_1 (List.mem_of_getElem? (i := 77) rfl) rfl
theorem kw_78 : (Jvm.Cond.fieldLink "PathTexts$Pen" (43 : Nat) "PathTexts$Pen" "startY" "J") ∈ kw := kt_1 (List.mem_of_getElem? (i := 78) rfl) rfl
theorem kw_79 : (Jvm.Cond.fieldLink "PathTexts$Pen" (58 : Nat) "PathTexts$Pen" "controlX" "J") ∈ kw := kt_1 (List.mem_of_getElem? (i := 79) rfl) rfl
theorem kw_80 : (Jvm.Cond.fieldLink "PathTexts$Pen" (61 : Nat) "PathTexts$Pen" "controlY" "J") ∈ kw := kt_1 (List.mem_of_getElem? (i := 80) rfl) rfl
theorem kw_81 : (Jvm.Cond.fieldLink "PathTexts$Pen" (32 : Nat) "PathTexts$Pen" "controlFor" "C") ∈ kw := kt_1 (List.mem_of_getElem? (i := 81) rfl) rfl
theorem kw_82 : (Jvm.Cond.laysFinal "PathTexts$Pen" "PathTexts$Pen" "matrices" "LPathTexts$Matrices;") ∈ kw := kt_1 (List.mem_of_getElem? (i := 82) rfl) rfl
theorem kw_84 : (Jvm.Cond.laysFinal "PathTexts$Pen" "PathTexts$Pen" "points" "[J") ∈ kw := kt_1 (List.mem_of_getElem? (i := 84) rfl) rfl
theorem kw_86 : (Jvm.Cond.laysFinal "PathTexts$Pen" "PathTexts$Pen" "drawn" "[J") ∈ kw := kt_1 (List.mem_of_getElem? (i := 86) rfl) rfl
theorem kw_88 : (Jvm.Cond.lays "PathTexts$Pen" "PathTexts$Pen" "x" "J") ∈ kw := kt_1 (List.mem_of_getElem? (i := 88) rfl) rfl
theorem kw_90 : (Jvm.Cond.lays "PathTexts$Pen" "PathTexts$Pen" "y" "J") ∈ kw := kt_1 (List.mem_of_getElem? (i := 90) rfl) rfl
theorem kw_92 : (Jvm.Cond.lays "PathTexts$Pen" "PathTexts$Pen" "startX" "J") ∈ kw := kt_1 (List.mem_of_getElem? (i := 92) rfl) rfl
theorem kw_94 : (Jvm.Cond.lays "PathTexts$Pen" "PathTexts$Pen" "startY" "J") ∈ kw := kt_1 (List.mem_of_getElem? (i := 94) rfl) rfl
theorem kw_96 : (Jvm.Cond.lays "PathTexts$Pen" "PathTexts$Pen" "controlX" "J") ∈ kw := kt_1 (List.mem_of_getElem? (i := 96) rfl) rfl
theorem kw_98 : (Jvm.Cond.lays "PathTexts$Pen" "PathTexts$Pen" "controlY" "J") ∈ kw := kt_1 (List.mem_of_getElem? (i := 98) rfl) rfl
theorem kw_100 : (Jvm.Cond.lays "PathTexts$Pen" "PathTexts$Pen" "controlFor" "C") ∈ kw := kt_1 (List.mem_of_getElem? (i := 100) rfl) rfl
theorem kw_103 : (Jvm.Cond.fieldLink "PathTexts$Reader" (22 : Nat) "PathTexts$Reader" "text" "LPathTexts$Row;") ∈ kw := kt_1 (List.mem_of_getElem? (i := 103) rfl) rfl
theorem kw_104 : (Jvm.Cond.fieldLink "PathTexts$Reader" (12 : Nat) "PathTexts$Reader" "pen" "LPathTexts$Pen;") ∈ kw := kt_1 (List.mem_of_getElem? (i := 104) rfl) rfl
theorem kw_105 : (Jvm.Cond.fieldLink "PathTexts$Reader" (18 : Nat) "PathTexts$Reader" "numbers" "[J") ∈ kw := kt_1 (List.mem_of_getElem? (i := 105) rfl) rfl
theorem kw_106 : (Jvm.Cond.fieldLink "PathTexts$Reader" (44 : Nat) "PathTexts$Reader" "at" "I") ∈ kw := kt_1 (List.mem_of_getElem? (i := 106) rfl) rfl
theorem kw_107 : (Jvm.Cond.fieldLink "PathTexts$Reader" (76 : Nat) "PathTexts$Reader" "wrong" "I") ∈ kw := kt_1 (List.mem_of_getElem? (i := 107) rfl) rfl
theorem kw_108 : (Jvm.Cond.fieldLink "PathTexts$Reader" (47 : Nat) "PathTexts$Reader" "moveIsDue" "Z") ∈ kw := kt_1 (List.mem_of_getElem? (i := 108) rfl) rfl
theorem kw_109 : (Jvm.Cond.laysFinal "PathTexts$Reader" "PathTexts$Reader" "text" "LPathTexts$Row;") ∈ kw := kt_1 (List.mem_of_getElem? (i := 109) rfl) rfl
theorem kw_111 : (Jvm.Cond.laysFinal "PathTexts$Reader" "PathTexts$Reader" "pen" "LPathTexts$Pen;") ∈ kw := kt_1 (List.mem_of_getElem? (i := 111) rfl) rfl
theorem kw_113 : (Jvm.Cond.laysFinal "PathTexts$Reader" "PathTexts$Reader" "numbers" "[J") ∈ kw := kt_1 (List.mem_of_getElem? (i := 113) rfl) rfl
theorem kw_115 : (Jvm.Cond.lays "PathTexts$Reader" "PathTexts$Reader" "at" "I") ∈ kw := kt_1 (List.mem_of_getElem? (i := 115) rfl) rfl
theorem kw_117 : (Jvm.Cond.lays "PathTexts$Reader" "PathTexts$Reader" "wrong" "I") ∈ kw := kt_1 (List.mem_of_getElem? (i := 117) rfl) rfl
theorem kw_119 : (Jvm.Cond.lays "PathTexts$Reader" "PathTexts$Reader" "moveIsDue" "Z") ∈ kw := kt_1 (List.mem_of_getElem? (i := 119) rfl) rfl
theorem kw_128 : (Jvm.Cond.fieldLink "PathTexts$Cover" (9 : Nat) "PathTexts$Cover" "squares" "[I") ∈ kw := kt_1 (List.mem_of_getElem? (i := 128) rfl) rfl
theorem kw_130 : (Jvm.Cond.fieldLink "PathTexts$Cover" (15 : Nat) "PathTexts$Cover" "changes" "[I") ∈ kw := kt_1 (List.mem_of_getElem? (i := 130) rfl) rfl
theorem kw_131 : (Jvm.Cond.fieldLink "PathTexts$Cover" (18 : Nat) "PathTexts$Cover" "width" "I") ∈ kw := kt_1 (List.mem_of_getElem? (i := 131) rfl) rfl
theorem kw_132 : (Jvm.Cond.fieldLink "PathTexts" (126 : Nat) "PathTexts$Cover" "width" "I") ∈ kw := kt_1 (List.mem_of_getElem? (i := 132) rfl) rfl
theorem kw_133 : (Jvm.Cond.fieldLink "PathTexts$Cover" (22 : Nat) "PathTexts$Cover" "height" "I") ∈ kw := kt_1 (List.mem_of_getElem? (i := 133) rfl) rfl
theorem kw_134 : (Jvm.Cond.fieldLink "PathTexts" (129 : Nat) "PathTexts$Cover" "height" "I") ∈ kw := kt_1 (List.mem_of_getElem? (i := 134) rfl) rfl
theorem kw_135 : (Jvm.Cond.fieldLink "PathTexts$Cover" (33 : Nat) "PathTexts$Cover" "top" "J") ∈ kw := kt_1 (List.mem_of_getElem? (i := 135) rfl) rfl
theorem kw_136 : (Jvm.Cond.fieldLink "PathTexts$Cover" (66 : Nat) "PathTexts$Cover" "x" "J") ∈ kw := kt_1 (List.mem_of_getElem? (i := 136) rfl) rfl
theorem kw_137 : (Jvm.Cond.fieldLink "PathTexts$Cover" (69 : Nat) "PathTexts$Cover" "y" "J") ∈ kw := kt_1 (List.mem_of_getElem? (i := 137) rfl) rfl
theorem kw_138 : (Jvm.Cond.fieldLink "PathTexts$Cover" (53 : Nat) "PathTexts$Cover" "startX" "J") ∈ kw := kt_1 (List.mem_of_getElem? (i := 138) rfl) rfl
theorem kw_139 : (Jvm.Cond.fieldLink "PathTexts$Cover" (56 : Nat) "PathTexts$Cover" "startY" "J") ∈ kw := kt_1 (List.mem_of_getElem? (i := 139) rfl) rfl
theorem kw_140 : (Jvm.Cond.laysFinal "PathTexts$Cover" "PathTexts$Cover" "squares" "[I") ∈ kw := kt_1 (List.mem_of_getElem? (i := 140) rfl) rfl
theorem kw_142 : (Jvm.Cond.laysFinal "PathTexts$Cover" "PathTexts$Cover" "changes" "[I") ∈ kw := kt_1 (List.mem_of_getElem? (i := 142) rfl) rfl
theorem kw_144 : (Jvm.Cond.lays "PathTexts$Cover" "PathTexts$Cover" "width" "I") ∈ kw := kt_1 (List.mem_of_getElem? (i := 144) rfl) rfl
theorem kw_146 : (Jvm.Cond.lays "PathTexts$Cover" "PathTexts$Cover" "height" "I") ∈ kw := kt_1 (List.mem_of_getElem? (i := 146) rfl) rfl
theorem kw_148 : (Jvm.Cond.lays "PathTexts$Cover" "PathTexts$Cover" "top" "J") ∈ kw := kt_1 (List.mem_of_getElem? (i := 148) rfl) rfl
theorem kw_150 : (Jvm.Cond.lays "PathTexts$Cover" "PathTexts$Cover" "x" "J") ∈ kw := kt_1 (List.mem_of_getElem? (i := 150) rfl) rfl
theorem kw_152 : (Jvm.Cond.lays "PathTexts$Cover" "PathTexts$Cover" "y" "J") ∈ kw := kt_1 (List.mem_of_getElem? (i := 152) rfl) rfl
theorem kw_154 : (Jvm.Cond.lays "PathTexts$Cover" "PathTexts$Cover" "startX" "J") ∈ kw := kt_1 (List.mem_of_getElem? (i := 154) rfl) rfl
theorem kw_156 : (Jvm.Cond.lays "PathTexts$Cover" "PathTexts$Cover" "startY" "J") ∈ kw := kt_1 (List.mem_of_getElem? (i := 156) rfl) rfl
theorem kw_166 : (Jvm.Cond.fieldLink "PathTexts$Drawing" (9 : Nat) "PathTexts$Drawing" "kinds" "[I") ∈ kw := kt_1 (List.mem_of_getElem? (i := 166) rfl) rfl
theorem kw_167 : (Jvm.Cond.fieldLink "PathTexts$Writer" (20 : Nat) "PathTexts$Drawing" "kinds" "[I") ∈ kw := kt_1 (List.mem_of_getElem? (i := 167) rfl) rfl
theorem kw_168 : (Jvm.Cond.fieldLink "PathTexts$Cover" (50 : Nat) "PathTexts$Drawing" "kinds" "[I") ∈ kw := kt_1 (List.mem_of_getElem? (i := 168) rfl) rfl
theorem kw_170 : (Jvm.Cond.fieldLink "PathTexts$Drawing" (15 : Nat) "PathTexts$Drawing" "numbers" "[I") ∈ kw := kt_1 (List.mem_of_getElem? (i := 170) rfl) rfl
theorem kw_171 : (Jvm.Cond.fieldLink "PathTexts$Writer" (38 : Nat) "PathTexts$Drawing" "numbers" "[I") ∈ kw := kt_1 (List.mem_of_getElem? (i := 171) rfl) rfl
theorem kw_172 : (Jvm.Cond.fieldLink "PathTexts$Cover" (63 : Nat) "PathTexts$Drawing" "numbers" "[I") ∈ kw := kt_1 (List.mem_of_getElem? (i := 172) rfl) rfl
theorem kw_174 : (Jvm.Cond.fieldLink "PathTexts$Reader" (26 : Nat) "PathTexts$Drawing" "count" "I") ∈ kw := kt_1 (List.mem_of_getElem? (i := 174) rfl) rfl
theorem kw_175 : (Jvm.Cond.fieldLink "PathTexts$Drawing" (18 : Nat) "PathTexts$Drawing" "count" "I") ∈ kw := kt_1 (List.mem_of_getElem? (i := 175) rfl) rfl
theorem kw_176 : (Jvm.Cond.fieldLink "PathTexts$Writer" (15 : Nat) "PathTexts$Drawing" "count" "I") ∈ kw := kt_1 (List.mem_of_getElem? (i := 176) rfl) rfl
theorem kw_177 : (Jvm.Cond.fieldLink "PathTexts$Cover" (45 : Nat) "PathTexts$Drawing" "count" "I") ∈ kw := kt_1 (List.mem_of_getElem? (i := 177) rfl) rfl
theorem kw_178 : (Jvm.Cond.fieldLink "PathTexts" (78 : Nat) "PathTexts$Drawing" "count" "I") ∈ kw := kt_1 (List.mem_of_getElem? (i := 178) rfl) rfl
theorem kw_179 : (Jvm.Cond.laysFinal "PathTexts$Drawing" "PathTexts$Drawing" "kinds" "[I") ∈ kw := kt_1 (List.mem_of_getElem? (i := 179) rfl) rfl
theorem kw_181 : (Jvm.Cond.laysFinal "PathTexts$Drawing" "PathTexts$Drawing" "numbers" "[I") ∈ kw := kt_1 (List.mem_of_getElem? (i := 181) rfl) rfl
theorem kw_183 : (Jvm.Cond.lays "PathTexts$Drawing" "PathTexts$Drawing" "count" "I") ∈ kw := kt_1 (List.mem_of_getElem? (i := 183) rfl) rfl
theorem kw_186 : (Jvm.Cond.fieldLink "PathTexts" (14 : Nat) "PathTexts" "text" "LPathTexts$Row;") ∈ kw := kt_1 (List.mem_of_getElem? (i := 186) rfl) rfl
theorem kw_187 : (Jvm.Cond.fieldLink "PathTexts" (18 : Nat) "PathTexts" "written" "LPathTexts$Row;") ∈ kw := kt_1 (List.mem_of_getElem? (i := 187) rfl) rfl
theorem kw_189 : (Jvm.Cond.fieldLink "PathTexts" (33 : Nat) "PathTexts" "cover" "LPathTexts$Cover;") ∈ kw := kt_1 (List.mem_of_getElem? (i := 189) rfl) rfl
theorem kw_191 : (Jvm.Cond.fieldLink "PathTexts" (44 : Nat) "PathTexts" "drawing" "LPathTexts$Drawing;") ∈ kw := kt_1 (List.mem_of_getElem? (i := 191) rfl) rfl
theorem kw_193 : (Jvm.Cond.laysFinal "PathTexts" "PathTexts" "text" "LPathTexts$Row;") ∈ kw := kt_1 (List.mem_of_getElem? (i := 193) rfl) rfl
theorem kw_195 : (Jvm.Cond.laysFinal "PathTexts" "PathTexts" "written" "LPathTexts$Row;") ∈ kw := kt_1 (List.mem_of_getElem? (i := 195) rfl) rfl
theorem kw_197 : (Jvm.Cond.laysFinal "PathTexts" "PathTexts" "reader" "LPathTexts$Reader;") ∈ kw := kt_1 (List.mem_of_getElem? (i := 197) rfl) rfl
theorem kw_199 : (Jvm.Cond.laysFinal "PathTexts" "PathTexts" "cover" "LPathTexts$Cover;") ∈ kw := kt_1 (List.mem_of_getElem? (i := 199) rfl) rfl
theorem kw_201 : (Jvm.Cond.laysFinal "PathTexts" "PathTexts" "given" "[J") ∈ kw := kt_1 (List.mem_of_getElem? (i := 201) rfl) rfl
theorem kw_203 : (Jvm.Cond.lays "PathTexts" "PathTexts" "drawing" "LPathTexts$Drawing;") ∈ kw := kt_1 (List.mem_of_getElem? (i := 203) rfl) rfl
theorem kw_205 : (Jvm.Cond.lays "PathTexts" "PathTexts" "spare" "LPathTexts$Drawing;") ∈ kw := kt_1 (List.mem_of_getElem? (i := 205) rfl) rfl
theorem kw_216 : (Jvm.Cond.methodLink "PathTexts$Reader" (36 : Nat) ({ cls := "PathTexts$Matrices", name := "startOver", desc := "()V" } : Jvm.MethodName)) ∈ kw := kt_1 (List.mem_of_getElem? (i := 216) rfl) rfl
theorem kw_217 : (Jvm.Cond.instanceMethod ({ cls := "PathTexts$Matrices", name := "startOver", desc := "()V" } : Jvm.MethodName)) ∈ kw := kt_1 (List.mem_of_getElem? (i := 217) rfl) rfl
theorem kw_218 : (Jvm.Cond.selects "PathTexts$Matrices" ({ cls := "PathTexts$Matrices", name := "startOver", desc := "()V" } : Jvm.MethodName) ({ cls := "PathTexts$Matrices", name := "startOver", desc := "()V" } : Jvm.MethodName)) ∈ kw := kt_1 (List.mem_of_getElem? (i := 218) rfl) rfl
theorem kw_219 : (Jvm.Cond.code ({ cls := "PathTexts$Matrices", name := "startOver", desc := "()V" } : Jvm.MethodName) prog_4_method_2_code (1 : Nat) (Option.none : Option Jvm.ClassFile.FieldType)) ∈ kw := kt_1 (List.mem_of_getElem? (i := 219) rfl) rfl
theorem kw_220 : (Jvm.Cond.methodLink "PathTexts$Matrices" (19 : Nat) ({ cls := "java/util/Arrays", name := "fill", desc := "([JJ)V" } : Jvm.MethodName)) ∈ kw := kt_1 (List.mem_of_getElem? (i := 220) rfl) rfl
theorem kw_221 : (Jvm.Cond.static ({ cls := "java/util/Arrays", name := "fill", desc := "([JJ)V" } : Jvm.MethodName)) ∈ kw := kt_1 (List.mem_of_getElem? (i := 221) rfl) rfl
theorem kw_222 : (Jvm.Cond.code ({ cls := "java/util/Arrays", name := "fill", desc := "([JJ)V" } : Jvm.MethodName) prog_20_method_101_code (5 : Nat) (Option.none : Option Jvm.ClassFile.FieldType)) ∈ kw := kt_1 (List.mem_of_getElem? (i := 222) rfl) rfl
theorem kw_223 : (Jvm.Cond.constantLong "PathTexts$Matrices" (25 : Nat) (256 : Int64)) ∈ kw := kt_1 (List.mem_of_getElem? (i := 223) rfl) rfl
theorem kw_224 : (Jvm.Cond.methodLink "PathTexts$Reader" (41 : Nat) ({ cls := "PathTexts$Pen", name := "standAtZero", desc := "()V" } : Jvm.MethodName)) ∈ kw := kt_1 (List.mem_of_getElem? (i := 224) rfl) rfl
theorem kw_225 : (Jvm.Cond.instanceMethod ({ cls := "PathTexts$Pen", name := "standAtZero", desc := "()V" } : Jvm.MethodName)) ∈ kw := kt_1 (List.mem_of_getElem? (i := 225) rfl) rfl
theorem kw_226 : (Jvm.Cond.selects "PathTexts$Pen" ({ cls := "PathTexts$Pen", name := "standAtZero", desc := "()V" } : Jvm.MethodName) ({ cls := "PathTexts$Pen", name := "standAtZero", desc := "()V" } : Jvm.MethodName)) ∈ kw := kt_1 (List.mem_of_getElem? (i := 226) rfl) rfl
theorem kw_227 : (Jvm.Cond.code ({ cls := "PathTexts$Pen", name := "standAtZero", desc := "()V" } : Jvm.MethodName) prog_5_method_2_code (1 : Nat) (Option.none : Option Jvm.ClassFile.FieldType)) ∈ kw := kt_1 (List.mem_of_getElem? (i := 227) rfl) rfl
theorem kw_228 : (Jvm.Cond.methodLink "PathTexts$Reader" (51 : Nat) ({ cls := "PathTexts$Reader", name := "passBlanks", desc := "()V" } : Jvm.MethodName)) ∈ kw := kt_1 (List.mem_of_getElem? (i := 228) rfl) rfl
theorem kw_229 : (Jvm.Cond.instanceMethod ({ cls := "PathTexts$Reader", name := "passBlanks", desc := "()V" } : Jvm.MethodName)) ∈ kw := kt_1 (List.mem_of_getElem? (i := 229) rfl) rfl
theorem kw_230 : (Jvm.Cond.selects "PathTexts$Reader" ({ cls := "PathTexts$Reader", name := "passBlanks", desc := "()V" } : Jvm.MethodName) ({ cls := "PathTexts$Reader", name := "passBlanks", desc := "()V" } : Jvm.MethodName)) ∈ kw := kt_1 (List.mem_of_getElem? (i := 230) rfl) rfl
theorem kw_231 : (Jvm.Cond.code ({ cls := "PathTexts$Reader", name := "passBlanks", desc := "()V" } : Jvm.MethodName) prog_6_method_12_code (1 : Nat) (Option.none : Option Jvm.ClassFile.FieldType)) ∈ kw := kt_1 (List.mem_of_getElem? (i := 231) rfl) rfl
theorem kw_232 : (Jvm.Cond.methodLink "PathTexts$Reader" (62 : Nat) ({ cls := "PathTexts$Row", name := "at", desc := "(I)C" } : Jvm.MethodName)) ∈ kw := kt_1 (List.mem_of_getElem? (i := 232) rfl) rfl
theorem kw_233 : (Jvm.Cond.instanceMethod ({ cls := "PathTexts$Row", name := "at", desc := "(I)C" } : Jvm.MethodName)) ∈ kw := kt_1 (List.mem_of_getElem? (i := 233) rfl) rfl
theorem kw_234 : (Jvm.Cond.selects "PathTexts$Row" ({ cls := "PathTexts$Row", name := "at", desc := "(I)C" } : Jvm.MethodName) ({ cls := "PathTexts$Row", name := "at", desc := "(I)C" } : Jvm.MethodName)) ∈ kw := kt_1 (List.mem_of_getElem? (i := 234) rfl) rfl
theorem kw_235 : (Jvm.Cond.code ({ cls := "PathTexts$Row", name := "at", desc := "(I)C" } : Jvm.MethodName) prog_7_method_3_code (2 : Nat) (Option.some Jvm.ClassFile.FieldType.char)) ∈ kw := kt_1 (List.mem_of_getElem? (i := 235) rfl) rfl
theorem kw_236 : (Jvm.Cond.methodLink "PathTexts$Reader" (65 : Nat) ({ cls := "PathTexts$Reader", name := "takeOpening", desc := "(I)Z" } : Jvm.MethodName)) ∈ kw := kt_1 (List.mem_of_getElem? (i := 236) rfl) rfl
theorem kw_237 : (Jvm.Cond.instanceMethod ({ cls := "PathTexts$Reader", name := "takeOpening", desc := "(I)Z" } : Jvm.MethodName)) ∈ kw := kt_1 (List.mem_of_getElem? (i := 237) rfl) rfl
theorem kw_238 : (Jvm.Cond.selects "PathTexts$Reader" ({ cls := "PathTexts$Reader", name := "takeOpening", desc := "(I)Z" } : Jvm.MethodName) ({ cls := "PathTexts$Reader", name := "takeOpening", desc := "(I)Z" } : Jvm.MethodName)) ∈ kw := kt_1 (List.mem_of_getElem? (i := 238) rfl) rfl
theorem kw_239 : (Jvm.Cond.code ({ cls := "PathTexts$Reader", name := "takeOpening", desc := "(I)Z" } : Jvm.MethodName) prog_6_method_3_code (2 : Nat) (Option.some Jvm.ClassFile.FieldType.boolean)) ∈ kw := kt_1 (List.mem_of_getElem? (i := 239) rfl) rfl
theorem kw_240 : (Jvm.Cond.methodLink "PathTexts$Reader" (79 : Nat) ({ cls := "PathTexts$Matrices", name := "isFull", desc := "()Z" } : Jvm.MethodName)) ∈ kw := kt_2 (List.mem_of_getElem? (i := 0) rfl) rfl
theorem kw_241 : (Jvm.Cond.instanceMethod ({ cls := "PathTexts$Matrices", name := "isFull", desc := "()Z" } : Jvm.MethodName)) ∈ kw := kt_2 (List.mem_of_getElem? (i := 1) rfl) rfl
theorem kw_242 : (Jvm.Cond.selects "PathTexts$Matrices" ({ cls := "PathTexts$Matrices", name := "isFull", desc := "()Z" } : Jvm.MethodName) ({ cls := "PathTexts$Matrices", name := "isFull", desc := "()Z" } : Jvm.MethodName)) ∈ kw := kt_2 (List.mem_of_getElem? (i := 2) rfl) rfl
theorem kw_243 : (Jvm.Cond.code ({ cls := "PathTexts$Matrices", name := "isFull", desc := "()Z" } : Jvm.MethodName) prog_4_method_3_code (1 : Nat) (Option.some Jvm.ClassFile.FieldType.boolean)) ∈ kw := kt_2 (List.mem_of_getElem? (i := 3) rfl) rfl
theorem kw_244 : (Jvm.Cond.methodLink "PathTexts$Reader" (83 : Nat) ({ cls := "PathTexts$Reader", name := "seeWrong", desc := "(I)Z" } : Jvm.MethodName)) ∈ kw := kt_2 (List.mem_of_getElem? (i := 4) rfl) rfl
theorem kw_245 : (Jvm.Cond.instanceMethod ({ cls := "PathTexts$Reader", name := "seeWrong", desc := "(I)Z" } : Jvm.MethodName)) ∈ kw := kt_2 (List.mem_of_getElem? (i := 5) rfl) rfl
theorem kw_246 : (Jvm.Cond.selects "PathTexts$Reader" ({ cls := "PathTexts$Reader", name := "seeWrong", desc := "(I)Z" } : Jvm.MethodName) ({ cls := "PathTexts$Reader", name := "seeWrong", desc := "(I)Z" } : Jvm.MethodName)) ∈ kw := kt_2 (List.mem_of_getElem? (i := 6) rfl) rfl
theorem kw_247 : (Jvm.Cond.code ({ cls := "PathTexts$Reader", name := "seeWrong", desc := "(I)Z" } : Jvm.MethodName) prog_6_method_13_code (2 : Nat) (Option.some Jvm.ClassFile.FieldType.boolean)) ∈ kw := kt_2 (List.mem_of_getElem? (i := 7) rfl) rfl
theorem kw_248 : (Jvm.Cond.methodLink "PathTexts$Reader" (86 : Nat) ({ cls := "PathTexts$Reader", name := "takeNumbers", desc := "(I)Z" } : Jvm.MethodName)) ∈ kw := kt_2 (List.mem_of_getElem? (i := 8) rfl) rfl
theorem kw_249 : (Jvm.Cond.instanceMethod ({ cls := "PathTexts$Reader", name := "takeNumbers", desc := "(I)Z" } : Jvm.MethodName)) ∈ kw := kt_2 (List.mem_of_getElem? (i := 9) rfl) rfl
theorem kw_250 : (Jvm.Cond.selects "PathTexts$Reader" ({ cls := "PathTexts$Reader", name := "takeNumbers", desc := "(I)Z" } : Jvm.MethodName) ({ cls := "PathTexts$Reader", name := "takeNumbers", desc := "(I)Z" } : Jvm.MethodName)) ∈ kw := kt_2 (List.mem_of_getElem? (i := 10) rfl) rfl
theorem kw_251 : (Jvm.Cond.code ({ cls := "PathTexts$Reader", name := "takeNumbers", desc := "(I)Z" } : Jvm.MethodName) prog_6_method_8_code (3 : Nat) (Option.some Jvm.ClassFile.FieldType.boolean)) ∈ kw := kt_2 (List.mem_of_getElem? (i := 11) rfl) rfl
theorem kw_252 : (Jvm.Cond.methodLink "PathTexts$Reader" (114 : Nat) ({ cls := "PathTexts$Reader", name := "takeNumeral", desc := "(I)Z" } : Jvm.MethodName)) ∈ kw := kt_2 (List.mem_of_getElem? (i := 12) rfl) rfl
theorem kw_253 : (Jvm.Cond.instanceMethod ({ cls := "PathTexts$Reader", name := "takeNumeral", desc := "(I)Z" } : Jvm.MethodName)) ∈ kw := kt_2 (List.mem_of_getElem? (i := 13) rfl) rfl
theorem kw_254 : (Jvm.Cond.selects "PathTexts$Reader" ({ cls := "PathTexts$Reader", name := "takeNumeral", desc := "(I)Z" } : Jvm.MethodName) ({ cls := "PathTexts$Reader", name := "takeNumeral", desc := "(I)Z" } : Jvm.MethodName)) ∈ kw := kt_2 (List.mem_of_getElem? (i := 14) rfl) rfl
theorem kw_255 : (Jvm.Cond.code ({ cls := "PathTexts$Reader", name := "takeNumeral", desc := "(I)Z" } : Jvm.MethodName) prog_6_method_9_code (11 : Nat) (Option.some Jvm.ClassFile.FieldType.boolean)) ∈ kw := kt_2 (List.mem_of_getElem? (i := 15) rfl) rfl
theorem kw_256 : (Jvm.Cond.methodLink "PathTexts$Reader" (117 : Nat) ({ cls := "PathTexts$Reader", name := "isDigit", desc := "(C)Z" } : Jvm.MethodName)) ∈ kw := kt_2 (List.mem_of_getElem? (i := 16) rfl) rfl
theorem kw_257 : (Jvm.Cond.static ({ cls := "PathTexts$Reader", name := "isDigit", desc := "(C)Z" } : Jvm.MethodName)) ∈ kw := kt_2 (List.mem_of_getElem? (i := 17) rfl) rfl
theorem kw_258 : (Jvm.Cond.code ({ cls := "PathTexts$Reader", name := "isDigit", desc := "(C)Z" } : Jvm.MethodName) prog_6_method_11_code (1 : Nat) (Option.some Jvm.ClassFile.FieldType.boolean)) ∈ kw := kt_2 (List.mem_of_getElem? (i := 18) rfl) rfl
theorem kw_259 : (Jvm.Cond.constantLong "PathTexts$Reader" (121 : Nat) (10 : Int64)) ∈ kw := kt_2 (List.mem_of_getElem? (i := 19) rfl) rfl
theorem kw_262 : (Jvm.Cond.constantLong "PathTexts$Reader" (126 : Nat) (256 : Int64)) ∈ kw := kt_2 (List.mem_of_getElem? (i := 22) rfl) rfl
theorem kw_264 : (Jvm.Cond.static ({ cls := "PathTexts", name := "nearest", desc := "(JJ)J" } : Jvm.MethodName)) ∈ kw := kt_2 (List.mem_of_getElem? (i := 24) rfl) rfl
theorem kw_265 : (Jvm.Cond.code ({ cls := "PathTexts", name := "nearest", desc := "(JJ)J" } : Jvm.MethodName) prog_1_method_22_code (4 : Nat) (Option.some Jvm.ClassFile.FieldType.long)) ∈ kw := kt_2 (List.mem_of_getElem? (i := 25) rfl) rfl
theorem kw_266 : (Jvm.Cond.constantLong "PathTexts" (170 : Nat) (2 : Int64)) ∈ kw := kt_2 (List.mem_of_getElem? (i := 26) rfl) rfl
theorem kw_267 : (Jvm.Cond.methodLink "PathTexts" (172 : Nat) ({ cls := "java/lang/Math", name := "floorDiv", desc := "(JJ)J" } : Jvm.MethodName)) ∈ kw := kt_2 (List.mem_of_getElem? (i := 27) rfl) rfl
theorem kw_268 : (Jvm.Cond.static ({ cls := "java/lang/Math", name := "floorDiv", desc := "(JJ)J" } : Jvm.MethodName)) ∈ kw := kt_2 (List.mem_of_getElem? (i := 28) rfl) rfl
theorem kw_269 : (Jvm.Cond.code ({ cls := "java/lang/Math", name := "floorDiv", desc := "(JJ)J" } : Jvm.MethodName) prog_15_method_49_code (6 : Nat) (Option.some Jvm.ClassFile.FieldType.long)) ∈ kw := kt_2 (List.mem_of_getElem? (i := 29) rfl) rfl
theorem kw_271 : (Jvm.Cond.static ({ cls := "PathTexts", name := "isNumber", desc := "(J)Z" } : Jvm.MethodName)) ∈ kw := kt_2 (List.mem_of_getElem? (i := 31) rfl) rfl
theorem kw_272 : (Jvm.Cond.code ({ cls := "PathTexts", name := "isNumber", desc := "(J)Z" } : Jvm.MethodName) prog_1_method_20_code (2 : Nat) (Option.some Jvm.ClassFile.FieldType.boolean)) ∈ kw := kt_2 (List.mem_of_getElem? (i := 32) rfl) rfl
theorem kw_273 : (Jvm.Cond.constantLong "PathTexts" (162 : Nat) (-1048576 : Int64)) ∈ kw := kt_2 (List.mem_of_getElem? (i := 33) rfl) rfl
theorem kw_274 : (Jvm.Cond.constantLong "PathTexts" (164 : Nat) (1048576 : Int64)) ∈ kw := kt_2 (List.mem_of_getElem? (i := 34) rfl) rfl
theorem kw_275 : (Jvm.Cond.methodLink "PathTexts$Reader" (89 : Nat) ({ cls := "PathTexts$Matrices", name := "open", desc := "([J)Z" } : Jvm.MethodName)) ∈ kw := kt_2 (List.mem_of_getElem? (i := 35) rfl) rfl
theorem kw_276 : (Jvm.Cond.instanceMethod ({ cls := "PathTexts$Matrices", name := "open", desc := "([J)Z" } : Jvm.MethodName)) ∈ kw := kt_2 (List.mem_of_getElem? (i := 36) rfl) rfl
theorem kw_277 : (Jvm.Cond.selects "PathTexts$Matrices" ({ cls := "PathTexts$Matrices", name := "open", desc := "([J)Z" } : Jvm.MethodName) ({ cls := "PathTexts$Matrices", name := "open", desc := "([J)Z" } : Jvm.MethodName)) ∈ kw := kt_2 (List.mem_of_getElem? (i := 37) rfl) rfl
theorem kw_278 : (Jvm.Cond.code ({ cls := "PathTexts$Matrices", name := "open", desc := "([J)Z" } : Jvm.MethodName) prog_4_method_4_code (6 : Nat) (Option.some Jvm.ClassFile.FieldType.boolean)) ∈ kw := kt_2 (List.mem_of_getElem? (i := 38) rfl) rfl
theorem kw_279 : (Jvm.Cond.methodLink "PathTexts$Matrices" (27 : Nat) ({ cls := "PathTexts$Matrices", name := "isFull", desc := "()Z" } : Jvm.MethodName)) ∈ kw := kt_2 (List.mem_of_getElem? (i := 39) rfl) rfl
theorem kw_280 : (Jvm.Cond.methodLink "PathTexts$Matrices" (31 : Nat) ({ cls := "PathTexts$Matrices", name := "across", desc := "(JJIZ)J" } : Jvm.MethodName)) ∈ kw := kt_2 (List.mem_of_getElem? (i := 40) rfl) rfl
theorem kw_281 : (Jvm.Cond.instanceMethod ({ cls := "PathTexts$Matrices", name := "across", desc := "(JJIZ)J" } : Jvm.MethodName)) ∈ kw := kt_2 (List.mem_of_getElem? (i := 41) rfl) rfl
theorem kw_282 : (Jvm.Cond.selects "PathTexts$Matrices" ({ cls := "PathTexts$Matrices", name := "across", desc := "(JJIZ)J" } : Jvm.MethodName) ({ cls := "PathTexts$Matrices", name := "across", desc := "(JJIZ)J" } : Jvm.MethodName)) ∈ kw := kt_2 (List.mem_of_getElem? (i := 42) rfl) rfl
theorem kw_283 : (Jvm.Cond.code ({ cls := "PathTexts$Matrices", name := "across", desc := "(JJIZ)J" } : Jvm.MethodName) prog_4_method_6_code (10 : Nat) (Option.some Jvm.ClassFile.FieldType.long)) ∈ kw := kt_2 (List.mem_of_getElem? (i := 43) rfl) rfl
theorem kw_286 : (Jvm.Cond.methodLink "PathTexts$Reader" (93 : Nat) ({ cls := "PathTexts$Reader", name := "passBracket", desc := "()V" } : Jvm.MethodName)) ∈ kw := kt_2 (List.mem_of_getElem? (i := 46) rfl) rfl
theorem kw_287 : (Jvm.Cond.instanceMethod ({ cls := "PathTexts$Reader", name := "passBracket", desc := "()V" } : Jvm.MethodName)) ∈ kw := kt_2 (List.mem_of_getElem? (i := 47) rfl) rfl
theorem kw_288 : (Jvm.Cond.selects "PathTexts$Reader" ({ cls := "PathTexts$Reader", name := "passBracket", desc := "()V" } : Jvm.MethodName) ({ cls := "PathTexts$Reader", name := "passBracket", desc := "()V" } : Jvm.MethodName)) ∈ kw := kt_2 (List.mem_of_getElem? (i := 48) rfl) rfl
theorem kw_289 : (Jvm.Cond.code ({ cls := "PathTexts$Reader", name := "passBracket", desc := "()V" } : Jvm.MethodName) prog_6_method_5_code (1 : Nat) (Option.none : Option Jvm.ClassFile.FieldType)) ∈ kw := kt_2 (List.mem_of_getElem? (i := 49) rfl) rfl
theorem kw_290 : (Jvm.Cond.methodLink "PathTexts$Reader" (69 : Nat) ({ cls := "PathTexts$Reader", name := "takeClosing", desc := "(I)Z" } : Jvm.MethodName)) ∈ kw := kt_2 (List.mem_of_getElem? (i := 50) rfl) rfl
theorem kw_291 : (Jvm.Cond.instanceMethod ({ cls := "PathTexts$Reader", name := "takeClosing", desc := "(I)Z" } : Jvm.MethodName)) ∈ kw := kt_2 (List.mem_of_getElem? (i := 51) rfl) rfl
theorem kw_292 : (Jvm.Cond.selects "PathTexts$Reader" ({ cls := "PathTexts$Reader", name := "takeClosing", desc := "(I)Z" } : Jvm.MethodName) ({ cls := "PathTexts$Reader", name := "takeClosing", desc := "(I)Z" } : Jvm.MethodName)) ∈ kw := kt_2 (List.mem_of_getElem? (i := 52) rfl) rfl
theorem kw_293 : (Jvm.Cond.code ({ cls := "PathTexts$Reader", name := "takeClosing", desc := "(I)Z" } : Jvm.MethodName) prog_6_method_4_code (2 : Nat) (Option.some Jvm.ClassFile.FieldType.boolean)) ∈ kw := kt_2 (List.mem_of_getElem? (i := 53) rfl) rfl
theorem kw_294 : (Jvm.Cond.methodLink "PathTexts$Reader" (96 : Nat) ({ cls := "PathTexts$Matrices", name := "shut", desc := "()Z" } : Jvm.MethodName)) ∈ kw := kt_2 (List.mem_of_getElem? (i := 54) rfl) rfl
theorem kw_295 : (Jvm.Cond.instanceMethod ({ cls := "PathTexts$Matrices", name := "shut", desc := "()Z" } : Jvm.MethodName)) ∈ kw := kt_2 (List.mem_of_getElem? (i := 55) rfl) rfl
theorem kw_296 : (Jvm.Cond.selects "PathTexts$Matrices" ({ cls := "PathTexts$Matrices", name := "shut", desc := "()Z" } : Jvm.MethodName) ({ cls := "PathTexts$Matrices", name := "shut", desc := "()Z" } : Jvm.MethodName)) ∈ kw := kt_2 (List.mem_of_getElem? (i := 56) rfl) rfl
theorem kw_297 : (Jvm.Cond.code ({ cls := "PathTexts$Matrices", name := "shut", desc := "()Z" } : Jvm.MethodName) prog_4_method_5_code (1 : Nat) (Option.some Jvm.ClassFile.FieldType.boolean)) ∈ kw := kt_2 (List.mem_of_getElem? (i := 57) rfl) rfl
theorem kw_298 : (Jvm.Cond.methodLink "PathTexts$Reader" (72 : Nat) ({ cls := "PathTexts$Reader", name := "takeLetter", desc := "(CILPathTexts$Drawing;)Z" } : Jvm.MethodName)) ∈ kw := kt_2 (List.mem_of_getElem? (i := 58) rfl) rfl
theorem kw_299 : (Jvm.Cond.instanceMethod ({ cls := "PathTexts$Reader", name := "takeLetter", desc := "(CILPathTexts$Drawing;)Z" } : Jvm.MethodName)) ∈ kw := kt_2 (List.mem_of_getElem? (i := 59) rfl) rfl
theorem kw_300 : (Jvm.Cond.selects "PathTexts$Reader" ({ cls := "PathTexts$Reader", name := "takeLetter", desc := "(CILPathTexts$Drawing;)Z" } : Jvm.MethodName) ({ cls := "PathTexts$Reader", name := "takeLetter", desc := "(CILPathTexts$Drawing;)Z" } : Jvm.MethodName)) ∈ kw := kt_2 (List.mem_of_getElem? (i := 60) rfl) rfl
theorem kw_301 : (Jvm.Cond.code ({ cls := "PathTexts$Reader", name := "takeLetter", desc := "(CILPathTexts$Drawing;)Z" } : Jvm.MethodName) prog_6_method_6_code (10 : Nat) (Option.some Jvm.ClassFile.FieldType.boolean)) ∈ kw := kt_2 (List.mem_of_getElem? (i := 61) rfl) rfl
theorem kw_302 : (Jvm.Cond.methodLink "PathTexts$Reader" (99 : Nat) ({ cls := "PathTexts$Reader", name := "numbersBehind", desc := "(C)I" } : Jvm.MethodName)) ∈ kw := kt_2 (List.mem_of_getElem? (i := 62) rfl) rfl
theorem kw_303 : (Jvm.Cond.static ({ cls := "PathTexts$Reader", name := "numbersBehind", desc := "(C)I" } : Jvm.MethodName)) ∈ kw := kt_2 (List.mem_of_getElem? (i := 63) rfl) rfl
theorem kw_304 : (Jvm.Cond.code ({ cls := "PathTexts$Reader", name := "numbersBehind", desc := "(C)I" } : Jvm.MethodName) prog_6_method_7_code (1 : Nat) (Option.some Jvm.ClassFile.FieldType.int)) ∈ kw := kt_2 (List.mem_of_getElem? (i := 64) rfl) rfl
theorem kw_305 : (Jvm.Cond.methodLink "PathTexts$Reader" (103 : Nat) ({ cls := "PathTexts$Pen", name := "aim", desc := "(CZ[J)I" } : Jvm.MethodName)) ∈ kw := kt_2 (List.mem_of_getElem? (i := 65) rfl) rfl
theorem kw_306 : (Jvm.Cond.instanceMethod ({ cls := "PathTexts$Pen", name := "aim", desc := "(CZ[J)I" } : Jvm.MethodName)) ∈ kw := kt_2 (List.mem_of_getElem? (i := 66) rfl) rfl
theorem kw_307 : (Jvm.Cond.selects "PathTexts$Pen" ({ cls := "PathTexts$Pen", name := "aim", desc := "(CZ[J)I" } : Jvm.MethodName) ({ cls := "PathTexts$Pen", name := "aim", desc := "(CZ[J)I" } : Jvm.MethodName)) ∈ kw := kt_2 (List.mem_of_getElem? (i := 67) rfl) rfl
theorem kw_308 : (Jvm.Cond.code ({ cls := "PathTexts$Pen", name := "aim", desc := "(CZ[J)I" } : Jvm.MethodName) prog_5_method_3_code (5 : Nat) (Option.some Jvm.ClassFile.FieldType.int)) ∈ kw := kt_2 (List.mem_of_getElem? (i := 68) rfl) rfl
theorem kw_309 : (Jvm.Cond.methodLink "PathTexts$Pen" (36 : Nat) ({ cls := "PathTexts$Pen", name := "takePoints", desc := "(Z[J)V" } : Jvm.MethodName)) ∈ kw := kt_2 (List.mem_of_getElem? (i := 69) rfl) rfl
theorem kw_310 : (Jvm.Cond.instanceMethod ({ cls := "PathTexts$Pen", name := "takePoints", desc := "(Z[J)V" } : Jvm.MethodName)) ∈ kw := kt_2 (List.mem_of_getElem? (i := 70) rfl) rfl
theorem kw_311 : (Jvm.Cond.selects "PathTexts$Pen" ({ cls := "PathTexts$Pen", name := "takePoints", desc := "(Z[J)V" } : Jvm.MethodName) ({ cls := "PathTexts$Pen", name := "takePoints", desc := "(Z[J)V" } : Jvm.MethodName)) ∈ kw := kt_2 (List.mem_of_getElem? (i := 71) rfl) rfl
theorem kw_312 : (Jvm.Cond.code ({ cls := "PathTexts$Pen", name := "takePoints", desc := "(Z[J)V" } : Jvm.MethodName) prog_5_method_4_code (6 : Nat) (Option.none : Option Jvm.ClassFile.FieldType)) ∈ kw := kt_2 (List.mem_of_getElem? (i := 72) rfl) rfl
theorem kw_313 : (Jvm.Cond.methodLink "PathTexts$Pen" (46 : Nat) ({ cls := "PathTexts$Pen", name := "aimByTwoControls", desc := "()V" } : Jvm.MethodName)) ∈ kw := kt_2 (List.mem_of_getElem? (i := 73) rfl) rfl
theorem kw_314 : (Jvm.Cond.instanceMethod ({ cls := "PathTexts$Pen", name := "aimByTwoControls", desc := "()V" } : Jvm.MethodName)) ∈ kw := kt_2 (List.mem_of_getElem? (i := 74) rfl) rfl
theorem kw_315 : (Jvm.Cond.selects "PathTexts$Pen" ({ cls := "PathTexts$Pen", name := "aimByTwoControls", desc := "()V" } : Jvm.MethodName) ({ cls := "PathTexts$Pen", name := "aimByTwoControls", desc := "()V" } : Jvm.MethodName)) ∈ kw := kt_2 (List.mem_of_getElem? (i := 75) rfl) rfl
theorem kw_316 : (Jvm.Cond.code ({ cls := "PathTexts$Pen", name := "aimByTwoControls", desc := "()V" } : Jvm.MethodName) prog_5_method_6_code (1 : Nat) (Option.none : Option Jvm.ClassFile.FieldType)) ∈ kw := kt_2 (List.mem_of_getElem? (i := 76) rfl) rfl
theorem kw_317 : (Jvm.Cond.methodLink "PathTexts$Pen" (49 : Nat) ({ cls := "PathTexts$Pen", name := "putTurnedFirst", desc := "(Z)V" } : Jvm.MethodName)) ∈ kw := kt_2 (List.mem_of_getElem? (i := 77) rfl) rfl
theorem kw_318 : (Jvm.Cond.instanceMethod ({ cls := "PathTexts$Pen", name := "putTurnedFirst", desc := "(Z)V" } : Jvm.MethodName)) ∈ kw := kt_2 (List.mem_of_getElem? (i := 78) rfl) rfl
theorem kw_319 : (Jvm.Cond.selects "PathTexts$Pen" ({ cls := "PathTexts$Pen", name := "putTurnedFirst", desc := "(Z)V" } : Jvm.MethodName) ({ cls := "PathTexts$Pen", name := "putTurnedFirst", desc := "(Z)V" } : Jvm.MethodName)) ∈ kw := kt_2 (List.mem_of_getElem? (i := 79) rfl) rfl
theorem kw_320 : (Jvm.Cond.code ({ cls := "PathTexts$Pen", name := "putTurnedFirst", desc := "(Z)V" } : Jvm.MethodName) prog_5_method_5_code (3 : Nat) (Option.none : Option Jvm.ClassFile.FieldType)) ∈ kw := kt_2 (List.mem_of_getElem? (i := 80) rfl) rfl
theorem kw_321 : (Jvm.Cond.constantLong "PathTexts$Pen" (56 : Nat) (2 : Int64)) ∈ kw := kt_2 (List.mem_of_getElem? (i := 81) rfl) rfl
theorem kw_322 : (Jvm.Cond.methodLink "PathTexts$Pen" (53 : Nat) ({ cls := "PathTexts$Pen", name := "aimByOneControl", desc := "()V" } : Jvm.MethodName)) ∈ kw := kt_2 (List.mem_of_getElem? (i := 82) rfl) rfl
theorem kw_323 : (Jvm.Cond.instanceMethod ({ cls := "PathTexts$Pen", name := "aimByOneControl", desc := "()V" } : Jvm.MethodName)) ∈ kw := kt_2 (List.mem_of_getElem? (i := 83) rfl) rfl
theorem kw_324 : (Jvm.Cond.selects "PathTexts$Pen" ({ cls := "PathTexts$Pen", name := "aimByOneControl", desc := "()V" } : Jvm.MethodName) ({ cls := "PathTexts$Pen", name := "aimByOneControl", desc := "()V" } : Jvm.MethodName)) ∈ kw := kt_2 (List.mem_of_getElem? (i := 84) rfl) rfl
theorem kw_325 : (Jvm.Cond.code ({ cls := "PathTexts$Pen", name := "aimByOneControl", desc := "()V" } : Jvm.MethodName) prog_5_method_7_code (1 : Nat) (Option.none : Option Jvm.ClassFile.FieldType)) ∈ kw := kt_2 (List.mem_of_getElem? (i := 85) rfl) rfl
theorem kw_326 : (Jvm.Cond.constantLong "PathTexts$Pen" (64 : Nat) (3 : Int64)) ∈ kw := kt_2 (List.mem_of_getElem? (i := 86) rfl) rfl
theorem kw_328 : (Jvm.Cond.methodLink "PathTexts$Reader" (107 : Nat) ({ cls := "PathTexts$Pen", name := "draw", desc := "(ILPathTexts$Drawing;)Z" } : Jvm.MethodName)) ∈ kw := kt_2 (List.mem_of_getElem? (i := 88) rfl) rfl
theorem kw_329 : (Jvm.Cond.instanceMethod ({ cls := "PathTexts$Pen", name := "draw", desc := "(ILPathTexts$Drawing;)Z" } : Jvm.MethodName)) ∈ kw := kt_2 (List.mem_of_getElem? (i := 89) rfl) rfl
theorem kw_330 : (Jvm.Cond.selects "PathTexts$Pen" ({ cls := "PathTexts$Pen", name := "draw", desc := "(ILPathTexts$Drawing;)Z" } : Jvm.MethodName) ({ cls := "PathTexts$Pen", name := "draw", desc := "(ILPathTexts$Drawing;)Z" } : Jvm.MethodName)) ∈ kw := kt_2 (List.mem_of_getElem? (i := 90) rfl) rfl
theorem kw_331 : (Jvm.Cond.code ({ cls := "PathTexts$Pen", name := "draw", desc := "(ILPathTexts$Drawing;)Z" } : Jvm.MethodName) prog_5_method_8_code (5 : Nat) (Option.some Jvm.ClassFile.FieldType.boolean)) ∈ kw := kt_2 (List.mem_of_getElem? (i := 91) rfl) rfl
theorem kw_333 : (Jvm.Cond.static ({ cls := "PathTexts", name := "numbersOf", desc := "(I)I" } : Jvm.MethodName)) ∈ kw := kt_2 (List.mem_of_getElem? (i := 93) rfl) rfl
theorem kw_334 : (Jvm.Cond.code ({ cls := "PathTexts", name := "numbersOf", desc := "(I)I" } : Jvm.MethodName) prog_1_method_19_code (1 : Nat) (Option.some Jvm.ClassFile.FieldType.int)) ∈ kw := kt_2 (List.mem_of_getElem? (i := 94) rfl) rfl
theorem kw_335 : (Jvm.Cond.methodLink "PathTexts$Pen" (74 : Nat) ({ cls := "PathTexts$Matrices", name := "across", desc := "(JJIZ)J" } : Jvm.MethodName)) ∈ kw := kt_2 (List.mem_of_getElem? (i := 95) rfl) rfl
theorem kw_336 : (Jvm.Cond.methodLink "PathTexts$Pen" (78 : Nat) ({ cls := "PathTexts$Drawing", name := "add", desc := "(I[J)Z" } : Jvm.MethodName)) ∈ kw := kt_2 (List.mem_of_getElem? (i := 96) rfl) rfl
theorem kw_337 : (Jvm.Cond.instanceMethod ({ cls := "PathTexts$Drawing", name := "add", desc := "(I[J)Z" } : Jvm.MethodName)) ∈ kw := kt_2 (List.mem_of_getElem? (i := 97) rfl) rfl
theorem kw_338 : (Jvm.Cond.selects "PathTexts$Drawing" ({ cls := "PathTexts$Drawing", name := "add", desc := "(I[J)Z" } : Jvm.MethodName) ({ cls := "PathTexts$Drawing", name := "add", desc := "(I[J)Z" } : Jvm.MethodName)) ∈ kw := kt_2 (List.mem_of_getElem? (i := 98) rfl) rfl
theorem kw_339 : (Jvm.Cond.code ({ cls := "PathTexts$Drawing", name := "add", desc := "(I[J)Z" } : Jvm.MethodName) prog_3_method_3_code (5 : Nat) (Option.some Jvm.ClassFile.FieldType.boolean)) ∈ kw := kt_2 (List.mem_of_getElem? (i := 99) rfl) rfl
theorem kw_342 : (Jvm.Cond.static ({ cls := "PathTexts", name := "areNumbers", desc := "([JI)Z" } : Jvm.MethodName)) ∈ kw := kt_2 (List.mem_of_getElem? (i := 102) rfl) rfl
theorem kw_343 : (Jvm.Cond.code ({ cls := "PathTexts", name := "areNumbers", desc := "([JI)Z" } : Jvm.MethodName) prog_1_method_21_code (3 : Nat) (Option.some Jvm.ClassFile.FieldType.boolean)) ∈ kw := kt_2 (List.mem_of_getElem? (i := 103) rfl) rfl
theorem kw_344 : (Jvm.Cond.methodLink "PathTexts" (166 : Nat) ({ cls := "PathTexts", name := "isNumber", desc := "(J)Z" } : Jvm.MethodName)) ∈ kw := kt_2 (List.mem_of_getElem? (i := 104) rfl) rfl
theorem kw_345 : (Jvm.Cond.methodLink "PathTexts$Reader" (111 : Nat) ({ cls := "PathTexts$Reader", name := "numeralFollows", desc := "()Z" } : Jvm.MethodName)) ∈ kw := kt_2 (List.mem_of_getElem? (i := 105) rfl) rfl
theorem kw_346 : (Jvm.Cond.instanceMethod ({ cls := "PathTexts$Reader", name := "numeralFollows", desc := "()Z" } : Jvm.MethodName)) ∈ kw := kt_2 (List.mem_of_getElem? (i := 106) rfl) rfl
theorem kw_347 : (Jvm.Cond.selects "PathTexts$Reader" ({ cls := "PathTexts$Reader", name := "numeralFollows", desc := "()Z" } : Jvm.MethodName) ({ cls := "PathTexts$Reader", name := "numeralFollows", desc := "()Z" } : Jvm.MethodName)) ∈ kw := kt_2 (List.mem_of_getElem? (i := 107) rfl) rfl
theorem kw_348 : (Jvm.Cond.code ({ cls := "PathTexts$Reader", name := "numeralFollows", desc := "()Z" } : Jvm.MethodName) prog_6_method_10_code (2 : Nat) (Option.some Jvm.ClassFile.FieldType.boolean)) ∈ kw := kt_2 (List.mem_of_getElem? (i := 108) rfl) rfl
theorem kw_353 : (Jvm.Cond.methodLink "PathTexts" (106 : Nat) ({ cls := "PathTexts$Writer", name := "writeDrawing", desc := "(LPathTexts$Drawing;LPathTexts$Row;)V" } : Jvm.MethodName)) ∈ kw := kt_2 (List.mem_of_getElem? (i := 113) rfl) rfl
theorem kw_354 : (Jvm.Cond.static ({ cls := "PathTexts$Writer", name := "writeDrawing", desc := "(LPathTexts$Drawing;LPathTexts$Row;)V" } : Jvm.MethodName)) ∈ kw := kt_2 (List.mem_of_getElem? (i := 114) rfl) rfl
theorem kw_355 : (Jvm.Cond.code ({ cls := "PathTexts$Writer", name := "writeDrawing", desc := "(LPathTexts$Drawing;LPathTexts$Row;)V" } : Jvm.MethodName) prog_8_method_2_code (5 : Nat) (Option.none : Option Jvm.ClassFile.FieldType)) ∈ kw := kt_2 (List.mem_of_getElem? (i := 115) rfl) rfl
theorem kw_356 : (Jvm.Cond.methodLink "PathTexts$Writer" (24 : Nat) ({ cls := "PathTexts$Writer", name := "letterOf", desc := "(I)C" } : Jvm.MethodName)) ∈ kw := kt_2 (List.mem_of_getElem? (i := 116) rfl) rfl
theorem kw_357 : (Jvm.Cond.static ({ cls := "PathTexts$Writer", name := "letterOf", desc := "(I)C" } : Jvm.MethodName)) ∈ kw := kt_2 (List.mem_of_getElem? (i := 117) rfl) rfl
theorem kw_358 : (Jvm.Cond.code ({ cls := "PathTexts$Writer", name := "letterOf", desc := "(I)C" } : Jvm.MethodName) prog_8_method_3_code (1 : Nat) (Option.some Jvm.ClassFile.FieldType.char)) ∈ kw := kt_2 (List.mem_of_getElem? (i := 118) rfl) rfl
theorem kw_359 : (Jvm.Cond.methodLink "PathTexts$Writer" (30 : Nat) ({ cls := "PathTexts$Row", name := "put", desc := "(I)V" } : Jvm.MethodName)) ∈ kw := kt_2 (List.mem_of_getElem? (i := 119) rfl) rfl
theorem kw_360 : (Jvm.Cond.instanceMethod ({ cls := "PathTexts$Row", name := "put", desc := "(I)V" } : Jvm.MethodName)) ∈ kw := kt_2 (List.mem_of_getElem? (i := 120) rfl) rfl
theorem kw_361 : (Jvm.Cond.selects "PathTexts$Row" ({ cls := "PathTexts$Row", name := "put", desc := "(I)V" } : Jvm.MethodName) ({ cls := "PathTexts$Row", name := "put", desc := "(I)V" } : Jvm.MethodName)) ∈ kw := kt_2 (List.mem_of_getElem? (i := 121) rfl) rfl
theorem kw_362 : (Jvm.Cond.code ({ cls := "PathTexts$Row", name := "put", desc := "(I)V" } : Jvm.MethodName) prog_7_method_2_code (2 : Nat) (Option.none : Option Jvm.ClassFile.FieldType)) ∈ kw := kt_2 (List.mem_of_getElem? (i := 122) rfl) rfl
theorem kw_364 : (Jvm.Cond.methodLink "PathTexts$Writer" (41 : Nat) ({ cls := "PathTexts$Writer", name := "writeNumeral", desc := "(IZZLPathTexts$Row;)Z" } : Jvm.MethodName)) ∈ kw := kt_2 (List.mem_of_getElem? (i := 124) rfl) rfl
theorem kw_365 : (Jvm.Cond.static ({ cls := "PathTexts$Writer", name := "writeNumeral", desc := "(IZZLPathTexts$Row;)Z" } : Jvm.MethodName)) ∈ kw := kt_2 (List.mem_of_getElem? (i := 125) rfl) rfl
theorem kw_366 : (Jvm.Cond.code ({ cls := "PathTexts$Writer", name := "writeNumeral", desc := "(IZZLPathTexts$Row;)Z" } : Jvm.MethodName) prog_8_method_4_code (12 : Nat) (Option.some Jvm.ClassFile.FieldType.boolean)) ∈ kw := kt_2 (List.mem_of_getElem? (i := 126) rfl) rfl
theorem kw_367 : (Jvm.Cond.methodLink "PathTexts$Writer" (45 : Nat) ({ cls := "PathTexts$Writer", name := "leastDigitsBehind", desc := "(IJ)I" } : Jvm.MethodName)) ∈ kw := kt_2 (List.mem_of_getElem? (i := 127) rfl) rfl
theorem kw_368 : (Jvm.Cond.static ({ cls := "PathTexts$Writer", name := "leastDigitsBehind", desc := "(IJ)I" } : Jvm.MethodName)) ∈ kw := kt_2 (List.mem_of_getElem? (i := 128) rfl) rfl
theorem kw_369 : (Jvm.Cond.code ({ cls := "PathTexts$Writer", name := "leastDigitsBehind", desc := "(IJ)I" } : Jvm.MethodName) prog_8_method_5_code (8 : Nat) (Option.some Jvm.ClassFile.FieldType.int)) ∈ kw := kt_2 (List.mem_of_getElem? (i := 129) rfl) rfl
theorem kw_370 : (Jvm.Cond.methodLink "PathTexts$Writer" (49 : Nat) ({ cls := "PathTexts$Writer", name := "decimalNextTo", desc := "(JI)J" } : Jvm.MethodName)) ∈ kw := kt_2 (List.mem_of_getElem? (i := 130) rfl) rfl
theorem kw_371 : (Jvm.Cond.static ({ cls := "PathTexts$Writer", name := "decimalNextTo", desc := "(JI)J" } : Jvm.MethodName)) ∈ kw := kt_2 (List.mem_of_getElem? (i := 131) rfl) rfl
theorem kw_372 : (Jvm.Cond.code ({ cls := "PathTexts$Writer", name := "decimalNextTo", desc := "(JI)J" } : Jvm.MethodName) prog_8_method_6_code (3 : Nat) (Option.some Jvm.ClassFile.FieldType.long)) ∈ kw := kt_2 (List.mem_of_getElem? (i := 132) rfl) rfl
theorem kw_373 : (Jvm.Cond.constantLong "PathTexts$Writer" (71 : Nat) (2 : Int64)) ∈ kw := kt_2 (List.mem_of_getElem? (i := 133) rfl) rfl
theorem kw_374 : (Jvm.Cond.methodLink "PathTexts$Writer" (53 : Nat) ({ cls := "PathTexts$Writer", name := "tens", desc := "(I)J" } : Jvm.MethodName)) ∈ kw := kt_2 (List.mem_of_getElem? (i := 134) rfl) rfl
theorem kw_375 : (Jvm.Cond.static ({ cls := "PathTexts$Writer", name := "tens", desc := "(I)J" } : Jvm.MethodName)) ∈ kw := kt_2 (List.mem_of_getElem? (i := 135) rfl) rfl
theorem kw_376 : (Jvm.Cond.code ({ cls := "PathTexts$Writer", name := "tens", desc := "(I)J" } : Jvm.MethodName) prog_8_method_7_code (1 : Nat) (Option.some Jvm.ClassFile.FieldType.long)) ∈ kw := kt_2 (List.mem_of_getElem? (i := 136) rfl) rfl
theorem kw_378 : (Jvm.Cond.constantLong "PathTexts$Writer" (65 : Nat) (256 : Int64)) ∈ kw := kt_2 (List.mem_of_getElem? (i := 138) rfl) rfl
theorem kw_379 : (Jvm.Cond.constantLong "PathTexts$Writer" (73 : Nat) (512 : Int64)) ∈ kw := kt_2 (List.mem_of_getElem? (i := 139) rfl) rfl
theorem kw_380 : (Jvm.Cond.methodLink "PathTexts$Writer" (75 : Nat) ({ cls := "java/lang/Math", name := "floorDiv", desc := "(JJ)J" } : Jvm.MethodName)) ∈ kw := kt_2 (List.mem_of_getElem? (i := 140) rfl) rfl
theorem kw_382 : (Jvm.Cond.methodLink "PathTexts$Writer" (57 : Nat) ({ cls := "PathTexts$Writer", name := "putWhole", desc := "(JLPathTexts$Row;)V" } : Jvm.MethodName)) ∈ kw := kt_2 (List.mem_of_getElem? (i := 142) rfl) rfl
theorem kw_383 : (Jvm.Cond.static ({ cls := "PathTexts$Writer", name := "putWhole", desc := "(JLPathTexts$Row;)V" } : Jvm.MethodName)) ∈ kw := kt_2 (List.mem_of_getElem? (i := 143) rfl) rfl
theorem kw_384 : (Jvm.Cond.code ({ cls := "PathTexts$Writer", name := "putWhole", desc := "(JLPathTexts$Row;)V" } : Jvm.MethodName) prog_8_method_8_code (4 : Nat) (Option.none : Option Jvm.ClassFile.FieldType)) ∈ kw := kt_2 (List.mem_of_getElem? (i := 144) rfl) rfl
theorem kw_385 : (Jvm.Cond.methodLink "PathTexts$Writer" (61 : Nat) ({ cls := "PathTexts$Writer", name := "putDigits", desc := "(JILPathTexts$Row;)V" } : Jvm.MethodName)) ∈ kw := kt_2 (List.mem_of_getElem? (i := 145) rfl) rfl
theorem kw_386 : (Jvm.Cond.static ({ cls := "PathTexts$Writer", name := "putDigits", desc := "(JILPathTexts$Row;)V" } : Jvm.MethodName)) ∈ kw := kt_2 (List.mem_of_getElem? (i := 146) rfl) rfl
theorem kw_387 : (Jvm.Cond.code ({ cls := "PathTexts$Writer", name := "putDigits", desc := "(JILPathTexts$Row;)V" } : Jvm.MethodName) prog_8_method_9_code (5 : Nat) (Option.none : Option Jvm.ClassFile.FieldType)) ∈ kw := kt_2 (List.mem_of_getElem? (i := 147) rfl) rfl
theorem kw_388 : (Jvm.Cond.constantLong "PathTexts$Writer" (84 : Nat) (48 : Int64)) ∈ kw := kt_2 (List.mem_of_getElem? (i := 148) rfl) rfl
theorem kw_389 : (Jvm.Cond.constantLong "PathTexts$Writer" (86 : Nat) (10 : Int64)) ∈ kw := kt_2 (List.mem_of_getElem? (i := 149) rfl) rfl
theorem kw_394 : (Jvm.Cond.methodLink "PathTexts" (137 : Nat) ({ cls := "PathTexts$Drawing", name := "extreme", desc := "(IZ)I" } : Jvm.MethodName)) ∈ kw := kt_2 (List.mem_of_getElem? (i := 154) rfl) rfl
theorem kw_395 : (Jvm.Cond.instanceMethod ({ cls := "PathTexts$Drawing", name := "extreme", desc := "(IZ)I" } : Jvm.MethodName)) ∈ kw := kt_2 (List.mem_of_getElem? (i := 155) rfl) rfl
theorem kw_396 : (Jvm.Cond.selects "PathTexts$Drawing" ({ cls := "PathTexts$Drawing", name := "extreme", desc := "(IZ)I" } : Jvm.MethodName) ({ cls := "PathTexts$Drawing", name := "extreme", desc := "(IZ)I" } : Jvm.MethodName)) ∈ kw := kt_2 (List.mem_of_getElem? (i := 156) rfl) rfl
theorem kw_397 : (Jvm.Cond.code ({ cls := "PathTexts$Drawing", name := "extreme", desc := "(IZ)I" } : Jvm.MethodName) prog_3_method_4_code (8 : Nat) (Option.some Jvm.ClassFile.FieldType.int)) ∈ kw := kt_2 (List.mem_of_getElem? (i := 157) rfl) rfl
theorem kw_402 : (Jvm.Cond.methodLink "PathTexts" (141 : Nat) ({ cls := "PathTexts$Drawing", name := "edges", desc := "()I" } : Jvm.MethodName)) ∈ kw := kt_2 (List.mem_of_getElem? (i := 162) rfl) rfl
theorem kw_403 : (Jvm.Cond.instanceMethod ({ cls := "PathTexts$Drawing", name := "edges", desc := "()I" } : Jvm.MethodName)) ∈ kw := kt_2 (List.mem_of_getElem? (i := 163) rfl) rfl
theorem kw_404 : (Jvm.Cond.selects "PathTexts$Drawing" ({ cls := "PathTexts$Drawing", name := "edges", desc := "()I" } : Jvm.MethodName) ({ cls := "PathTexts$Drawing", name := "edges", desc := "()I" } : Jvm.MethodName)) ∈ kw := kt_2 (List.mem_of_getElem? (i := 164) rfl) rfl
theorem kw_405 : (Jvm.Cond.code ({ cls := "PathTexts$Drawing", name := "edges", desc := "()I" } : Jvm.MethodName) prog_3_method_5_code (4 : Nat) (Option.some Jvm.ClassFile.FieldType.int)) ∈ kw := kt_2 (List.mem_of_getElem? (i := 165) rfl) rfl
theorem kw_620 : (Jvm.Cond.methodLink "PathTexts$Cover" (25 : Nat) ({ cls := "java/util/Arrays", name := "fill", desc := "([II)V" } : Jvm.MethodName)) ∈ kw := kt_3 (List.mem_of_getElem? (i := 140) rfl) rfl
theorem kw_621 : (Jvm.Cond.static ({ cls := "java/util/Arrays", name := "fill", desc := "([II)V" } : Jvm.MethodName)) ∈ kw := kt_3 (List.mem_of_getElem? (i := 141) rfl) rfl
theorem kw_622 : (Jvm.Cond.code ({ cls := "java/util/Arrays", name := "fill", desc := "([II)V" } : Jvm.MethodName) prog_20_method_103_code (4 : Nat) (Option.none : Option Jvm.ClassFile.FieldType)) ∈ kw := kt_3 (List.mem_of_getElem? (i := 142) rfl) rfl
theorem kw_623 : (Jvm.Cond.constantLong "PathTexts$Cover" (31 : Nat) (256 : Int64)) ∈ kw := kt_3 (List.mem_of_getElem? (i := 143) rfl) rfl
theorem kw_624 : (Jvm.Cond.methodLink "PathTexts$Cover" (37 : Nat) ({ cls := "PathTexts$Cover", name := "addDrawing", desc := "(LPathTexts$Drawing;)V" } : Jvm.MethodName)) ∈ kw := kt_3 (List.mem_of_getElem? (i := 144) rfl) rfl
theorem kw_625 : (Jvm.Cond.instanceMethod ({ cls := "PathTexts$Cover", name := "addDrawing", desc := "(LPathTexts$Drawing;)V" } : Jvm.MethodName)) ∈ kw := kt_3 (List.mem_of_getElem? (i := 145) rfl) rfl
theorem kw_626 : (Jvm.Cond.selects "PathTexts$Cover" ({ cls := "PathTexts$Cover", name := "addDrawing", desc := "(LPathTexts$Drawing;)V" } : Jvm.MethodName) ({ cls := "PathTexts$Cover", name := "addDrawing", desc := "(LPathTexts$Drawing;)V" } : Jvm.MethodName)) ∈ kw := kt_3 (List.mem_of_getElem? (i := 146) rfl) rfl
theorem kw_627 : (Jvm.Cond.code ({ cls := "PathTexts$Cover", name := "addDrawing", desc := "(LPathTexts$Drawing;)V" } : Jvm.MethodName) prog_2_method_3_code (4 : Nat) (Option.none : Option Jvm.ClassFile.FieldType)) ∈ kw := kt_3 (List.mem_of_getElem? (i := 147) rfl) rfl
theorem kw_628 : (Jvm.Cond.methodLink "PathTexts$Cover" (59 : Nat) ({ cls := "PathTexts$Cover", name := "addEdge", desc := "(JJ)V" } : Jvm.MethodName)) ∈ kw := kt_3 (List.mem_of_getElem? (i := 148) rfl) rfl
theorem kw_629 : (Jvm.Cond.instanceMethod ({ cls := "PathTexts$Cover", name := "addEdge", desc := "(JJ)V" } : Jvm.MethodName)) ∈ kw := kt_3 (List.mem_of_getElem? (i := 149) rfl) rfl
theorem kw_630 : (Jvm.Cond.selects "PathTexts$Cover" ({ cls := "PathTexts$Cover", name := "addEdge", desc := "(JJ)V" } : Jvm.MethodName) ({ cls := "PathTexts$Cover", name := "addEdge", desc := "(JJ)V" } : Jvm.MethodName)) ∈ kw := kt_3 (List.mem_of_getElem? (i := 150) rfl) rfl
theorem kw_631 : (Jvm.Cond.code ({ cls := "PathTexts$Cover", name := "addEdge", desc := "(JJ)V" } : Jvm.MethodName) prog_2_method_6_code (5 : Nat) (Option.none : Option Jvm.ClassFile.FieldType)) ∈ kw := kt_3 (List.mem_of_getElem? (i := 151) rfl) rfl
theorem kw_632 : (Jvm.Cond.methodLink "PathTexts$Cover" (89 : Nat) ({ cls := "PathTexts$Cover", name := "addCrossings", desc := "(JJJJI)V" } : Jvm.MethodName)) ∈ kw := kt_3 (List.mem_of_getElem? (i := 152) rfl) rfl
theorem kw_633 : (Jvm.Cond.instanceMethod ({ cls := "PathTexts$Cover", name := "addCrossings", desc := "(JJJJI)V" } : Jvm.MethodName)) ∈ kw := kt_3 (List.mem_of_getElem? (i := 153) rfl) rfl
theorem kw_634 : (Jvm.Cond.selects "PathTexts$Cover" ({ cls := "PathTexts$Cover", name := "addCrossings", desc := "(JJJJI)V" } : Jvm.MethodName) ({ cls := "PathTexts$Cover", name := "addCrossings", desc := "(JJJJI)V" } : Jvm.MethodName)) ∈ kw := kt_3 (List.mem_of_getElem? (i := 154) rfl) rfl
theorem kw_635 : (Jvm.Cond.code ({ cls := "PathTexts$Cover", name := "addCrossings", desc := "(JJJJI)V" } : Jvm.MethodName) prog_2_method_7_code (20 : Nat) (Option.none : Option Jvm.ClassFile.FieldType)) ∈ kw := kt_3 (List.mem_of_getElem? (i := 155) rfl) rfl
theorem kw_636 : (Jvm.Cond.methodLink "PathTexts$Cover" (93 : Nat) ({ cls := "PathTexts$Cover", name := "firstPointFrom", desc := "(JI)I" } : Jvm.MethodName)) ∈ kw := kt_3 (List.mem_of_getElem? (i := 156) rfl) rfl
theorem kw_637 : (Jvm.Cond.static ({ cls := "PathTexts$Cover", name := "firstPointFrom", desc := "(JI)I" } : Jvm.MethodName)) ∈ kw := kt_3 (List.mem_of_getElem? (i := 157) rfl) rfl
theorem kw_638 : (Jvm.Cond.code ({ cls := "PathTexts$Cover", name := "firstPointFrom", desc := "(JI)I" } : Jvm.MethodName) prog_2_method_8_code (5 : Nat) (Option.some Jvm.ClassFile.FieldType.int)) ∈ kw := kt_3 (List.mem_of_getElem? (i := 158) rfl) rfl
theorem kw_639 : (Jvm.Cond.constantLong "PathTexts$Cover" (104 : Nat) (7 : Int64)) ∈ kw := kt_3 (List.mem_of_getElem? (i := 159) rfl) rfl
theorem kw_640 : (Jvm.Cond.constantLong "PathTexts$Cover" (97 : Nat) (8 : Int64)) ∈ kw := kt_3 (List.mem_of_getElem? (i := 160) rfl) rfl
theorem kw_641 : (Jvm.Cond.constantLong "PathTexts$Cover" (79 : Nat) (16 : Int64)) ∈ kw := kt_3 (List.mem_of_getElem? (i := 161) rfl) rfl
theorem kw_642 : (Jvm.Cond.methodLink "PathTexts$Cover" (99 : Nat) ({ cls := "java/lang/Math", name := "floorDiv", desc := "(JJ)J" } : Jvm.MethodName)) ∈ kw := kt_3 (List.mem_of_getElem? (i := 162) rfl) rfl
theorem kw_643 : (Jvm.Cond.methodLink "PathTexts$Cover" (72 : Nat) ({ cls := "PathTexts$Cover", name := "addCubic", desc := "([II)V" } : Jvm.MethodName)) ∈ kw := kt_3 (List.mem_of_getElem? (i := 163) rfl) rfl
theorem kw_644 : (Jvm.Cond.instanceMethod ({ cls := "PathTexts$Cover", name := "addCubic", desc := "([II)V" } : Jvm.MethodName)) ∈ kw := kt_3 (List.mem_of_getElem? (i := 164) rfl) rfl
theorem kw_645 : (Jvm.Cond.selects "PathTexts$Cover" ({ cls := "PathTexts$Cover", name := "addCubic", desc := "([II)V" } : Jvm.MethodName) ({ cls := "PathTexts$Cover", name := "addCubic", desc := "([II)V" } : Jvm.MethodName)) ∈ kw := kt_3 (List.mem_of_getElem? (i := 165) rfl) rfl
theorem kw_646 : (Jvm.Cond.code ({ cls := "PathTexts$Cover", name := "addCubic", desc := "([II)V" } : Jvm.MethodName) prog_2_method_4_code (12 : Nat) (Option.none : Option Jvm.ClassFile.FieldType)) ∈ kw := kt_3 (List.mem_of_getElem? (i := 166) rfl) rfl
theorem kw_647 : (Jvm.Cond.methodLink "PathTexts$Cover" (75 : Nat) ({ cls := "PathTexts$Cover", name := "onCurve", desc := "(JJJJJ)J" } : Jvm.MethodName)) ∈ kw := kt_3 (List.mem_of_getElem? (i := 167) rfl) rfl
theorem kw_648 : (Jvm.Cond.static ({ cls := "PathTexts$Cover", name := "onCurve", desc := "(JJJJJ)J" } : Jvm.MethodName)) ∈ kw := kt_3 (List.mem_of_getElem? (i := 168) rfl) rfl
theorem kw_649 : (Jvm.Cond.code ({ cls := "PathTexts$Cover", name := "onCurve", desc := "(JJJJJ)J" } : Jvm.MethodName) prog_2_method_5_code (14 : Nat) (Option.some Jvm.ClassFile.FieldType.long)) ∈ kw := kt_3 (List.mem_of_getElem? (i := 169) rfl) rfl
theorem kw_650 : (Jvm.Cond.constantLong "PathTexts$Cover" (81 : Nat) (3 : Int64)) ∈ kw := kt_3 (List.mem_of_getElem? (i := 170) rfl) rfl
theorem kw_651 : (Jvm.Cond.constantLong "PathTexts$Cover" (83 : Nat) (4096 : Int64)) ∈ kw := kt_3 (List.mem_of_getElem? (i := 171) rfl) rfl
theorem kw_653 : (Jvm.Cond.methodLink "PathTexts$Cover" (41 : Nat) ({ cls := "PathTexts$Cover", name := "countPoints", desc := "(II)I" } : Jvm.MethodName)) ∈ kw := kt_3 (List.mem_of_getElem? (i := 173) rfl) rfl
theorem kw_654 : (Jvm.Cond.instanceMethod ({ cls := "PathTexts$Cover", name := "countPoints", desc := "(II)I" } : Jvm.MethodName)) ∈ kw := kt_3 (List.mem_of_getElem? (i := 174) rfl) rfl
theorem kw_655 : (Jvm.Cond.selects "PathTexts$Cover" ({ cls := "PathTexts$Cover", name := "countPoints", desc := "(II)I" } : Jvm.MethodName) ({ cls := "PathTexts$Cover", name := "countPoints", desc := "(II)I" } : Jvm.MethodName)) ∈ kw := kt_3 (List.mem_of_getElem? (i := 175) rfl) rfl
theorem kw_656 : (Jvm.Cond.code ({ cls := "PathTexts$Cover", name := "countPoints", desc := "(II)I" } : Jvm.MethodName) prog_2_method_9_code (7 : Nat) (Option.some Jvm.ClassFile.FieldType.int)) ∈ kw := kt_3 (List.mem_of_getElem? (i := 176) rfl) rfl
theorem kw_671 : (Jvm.Cond.fieldLink "PathTextsModel" (50 : Nat) "PathTextsModel" "fault" "I") ∈ kw := kt_3 (List.mem_of_getElem? (i := 191) rfl) rfl
theorem kw_672 : (Jvm.Cond.fieldLink "PathTextsModel" (66 : Nat) "PathTextsModel" "size" "I") ∈ kw := kt_3 (List.mem_of_getElem? (i := 192) rfl) rfl
theorem kw_673 : (Jvm.Cond.fieldLink "PathTextsModel" (7 : Nat) "PathTextsModel" "text" "[I") ∈ kw := kt_3 (List.mem_of_getElem? (i := 193) rfl) rfl
theorem kw_674 : (Jvm.Cond.fieldLink "PathTextsModel" (186 : Nat) "PathTextsModel" "commands" "I") ∈ kw := kt_3 (List.mem_of_getElem? (i := 194) rfl) rfl
theorem kw_675 : (Jvm.Cond.fieldLink "PathTextsModel" (13 : Nat) "PathTextsModel" "kinds" "[I") ∈ kw := kt_3 (List.mem_of_getElem? (i := 195) rfl) rfl
theorem kw_676 : (Jvm.Cond.fieldLink "PathTextsModel" (16 : Nat) "PathTextsModel" "numbers" "[I") ∈ kw := kt_3 (List.mem_of_getElem? (i := 196) rfl) rfl
theorem kw_677 : (Jvm.Cond.fieldLink "PathTextsModel" (135 : Nat) "PathTextsModel" "drawn" "I") ∈ kw := kt_3 (List.mem_of_getElem? (i := 197) rfl) rfl
theorem kw_678 : (Jvm.Cond.fieldLink "PathTextsModel" (19 : Nat) "PathTextsModel" "drawnKinds" "[I") ∈ kw := kt_3 (List.mem_of_getElem? (i := 198) rfl) rfl
theorem kw_679 : (Jvm.Cond.fieldLink "PathTextsModel" (22 : Nat) "PathTextsModel" "drawnNumbers" "[I") ∈ kw := kt_3 (List.mem_of_getElem? (i := 199) rfl) rfl
theorem kw_680 : (Jvm.Cond.fieldLink "PathTextsModel" (124 : Nat) "PathTextsModel" "depth" "I") ∈ kw := kt_3 (List.mem_of_getElem? (i := 200) rfl) rfl
theorem kw_681 : (Jvm.Cond.fieldLink "PathTextsModel" (25 : Nat) "PathTextsModel" "matrix" "[J") ∈ kw := kt_3 (List.mem_of_getElem? (i := 201) rfl) rfl
theorem kw_682 : (Jvm.Cond.fieldLink "PathTextsModel" (69 : Nat) "PathTextsModel" "at" "I") ∈ kw := kt_3 (List.mem_of_getElem? (i := 202) rfl) rfl
theorem kw_683 : (Jvm.Cond.fieldLink "PathTextsModel" (114 : Nat) "PathTextsModel" "value" "J") ∈ kw := kt_3 (List.mem_of_getElem? (i := 203) rfl) rfl
theorem kw_684 : (Jvm.Cond.fieldLink "PathTextsModel" (97 : Nat) "PathTextsModel" "wrong" "I") ∈ kw := kt_3 (List.mem_of_getElem? (i := 204) rfl) rfl
theorem kw_685 : (Jvm.Cond.fieldLink "PathTextsModel" (131 : Nat) "PathTextsModel" "wantsMove" "Z") ∈ kw := kt_3 (List.mem_of_getElem? (i := 205) rfl) rfl
theorem kw_686 : (Jvm.Cond.fieldLink "PathTextsModel" (142 : Nat) "PathTextsModel" "x" "J") ∈ kw := kt_3 (List.mem_of_getElem? (i := 206) rfl) rfl
theorem kw_687 : (Jvm.Cond.fieldLink "PathTextsModel" (145 : Nat) "PathTextsModel" "y" "J") ∈ kw := kt_3 (List.mem_of_getElem? (i := 207) rfl) rfl
theorem kw_688 : (Jvm.Cond.fieldLink "PathTextsModel" (165 : Nat) "PathTextsModel" "startX" "J") ∈ kw := kt_3 (List.mem_of_getElem? (i := 208) rfl) rfl
theorem kw_689 : (Jvm.Cond.fieldLink "PathTextsModel" (168 : Nat) "PathTextsModel" "startY" "J") ∈ kw := kt_3 (List.mem_of_getElem? (i := 209) rfl) rfl
theorem kw_690 : (Jvm.Cond.fieldLink "PathTextsModel" (148 : Nat) "PathTextsModel" "before" "I") ∈ kw := kt_3 (List.mem_of_getElem? (i := 210) rfl) rfl
theorem kw_691 : (Jvm.Cond.fieldLink "PathTextsModel" (151 : Nat) "PathTextsModel" "turnX" "J") ∈ kw := kt_3 (List.mem_of_getElem? (i := 211) rfl) rfl
theorem kw_692 : (Jvm.Cond.fieldLink "PathTextsModel" (154 : Nat) "PathTextsModel" "turnY" "J") ∈ kw := kt_3 (List.mem_of_getElem? (i := 212) rfl) rfl
theorem kw_693 : (Jvm.Cond.fieldLink "PathTextsModel" (29 : Nat) "PathTextsModel" "given" "[J") ∈ kw := kt_3 (List.mem_of_getElem? (i := 213) rfl) rfl
theorem kw_694 : (Jvm.Cond.fieldLink "PathTextsModel" (204 : Nat) "PathTextsModel" "written" "I") ∈ kw := kt_3 (List.mem_of_getElem? (i := 214) rfl) rfl
theorem kw_695 : (Jvm.Cond.fieldLink "PathTextsModel" (32 : Nat) "PathTextsModel" "signs" "[I") ∈ kw := kt_3 (List.mem_of_getElem? (i := 215) rfl) rfl
theorem kw_696 : (Jvm.Cond.fieldLink "PathTextsModel" (229 : Nat) "PathTextsModel" "edges" "I") ∈ kw := kt_3 (List.mem_of_getElem? (i := 216) rfl) rfl
theorem kw_697 : (Jvm.Cond.fieldLink "PathTextsModel" (35 : Nat) "PathTextsModel" "fromX" "[I") ∈ kw := kt_3 (List.mem_of_getElem? (i := 217) rfl) rfl
theorem kw_698 : (Jvm.Cond.fieldLink "PathTextsModel" (38 : Nat) "PathTextsModel" "fromY" "[I") ∈ kw := kt_3 (List.mem_of_getElem? (i := 218) rfl) rfl
theorem kw_699 : (Jvm.Cond.fieldLink "PathTextsModel" (41 : Nat) "PathTextsModel" "toX" "[I") ∈ kw := kt_3 (List.mem_of_getElem? (i := 219) rfl) rfl
theorem kw_700 : (Jvm.Cond.fieldLink "PathTextsModel" (44 : Nat) "PathTextsModel" "toY" "[I") ∈ kw := kt_3 (List.mem_of_getElem? (i := 220) rfl) rfl
theorem kw_701 : (Jvm.Cond.fieldLink "PathTextsModel" (249 : Nat) "PathTextsModel" "wide" "I") ∈ kw := kt_3 (List.mem_of_getElem? (i := 221) rfl) rfl
theorem kw_702 : (Jvm.Cond.fieldLink "PathTextsModel" (252 : Nat) "PathTextsModel" "high" "I") ∈ kw := kt_3 (List.mem_of_getElem? (i := 222) rfl) rfl
theorem kw_703 : (Jvm.Cond.fieldLink "PathTextsModel" (47 : Nat) "PathTextsModel" "points" "[I") ∈ kw := kt_3 (List.mem_of_getElem? (i := 223) rfl) rfl
theorem kw_704 : (Jvm.Cond.fieldLink "PathTextsModel" (103 : Nat) "PathTextsModel" "behind" "I") ∈ kw := kt_3 (List.mem_of_getElem? (i := 224) rfl) rfl
theorem kw_705 : (Jvm.Cond.fieldLink "PathTextsModel" (80 : Nat) "PathTextsModel" "whole" "J") ∈ kw := kt_3 (List.mem_of_getElem? (i := 225) rfl) rfl
theorem kw_706 : (Jvm.Cond.lays "PathTextsModel" "PathTextsModel" "fault" "I") ∈ kw := kt_3 (List.mem_of_getElem? (i := 226) rfl) rfl
theorem kw_708 : (Jvm.Cond.lays "PathTextsModel" "PathTextsModel" "size" "I") ∈ kw := kt_3 (List.mem_of_getElem? (i := 228) rfl) rfl
theorem kw_710 : (Jvm.Cond.laysFinal "PathTextsModel" "PathTextsModel" "text" "[I") ∈ kw := kt_3 (List.mem_of_getElem? (i := 230) rfl) rfl
theorem kw_712 : (Jvm.Cond.lays "PathTextsModel" "PathTextsModel" "commands" "I") ∈ kw := kt_3 (List.mem_of_getElem? (i := 232) rfl) rfl
theorem kw_714 : (Jvm.Cond.laysFinal "PathTextsModel" "PathTextsModel" "kinds" "[I") ∈ kw := kt_3 (List.mem_of_getElem? (i := 234) rfl) rfl
theorem kw_716 : (Jvm.Cond.laysFinal "PathTextsModel" "PathTextsModel" "numbers" "[I") ∈ kw := kt_3 (List.mem_of_getElem? (i := 236) rfl) rfl
theorem kw_718 : (Jvm.Cond.lays "PathTextsModel" "PathTextsModel" "drawn" "I") ∈ kw := kt_3 (List.mem_of_getElem? (i := 238) rfl) rfl
theorem kw_720 : (Jvm.Cond.laysFinal "PathTextsModel" "PathTextsModel" "drawnKinds" "[I") ∈ kw := kt_4 (List.mem_of_getElem? (i := 0) rfl) rfl
theorem kw_722 : (Jvm.Cond.laysFinal "PathTextsModel" "PathTextsModel" "drawnNumbers" "[I") ∈ kw := kt_4 (List.mem_of_getElem? (i := 2) rfl) rfl
theorem kw_724 : (Jvm.Cond.lays "PathTextsModel" "PathTextsModel" "depth" "I") ∈ kw := kt_4 (List.mem_of_getElem? (i := 4) rfl) rfl
theorem kw_726 : (Jvm.Cond.laysFinal "PathTextsModel" "PathTextsModel" "matrix" "[J") ∈ kw := kt_4 (List.mem_of_getElem? (i := 6) rfl) rfl
theorem kw_728 : (Jvm.Cond.lays "PathTextsModel" "PathTextsModel" "at" "I") ∈ kw := kt_4 (List.mem_of_getElem? (i := 8) rfl) rfl
theorem kw_730 : (Jvm.Cond.lays "PathTextsModel" "PathTextsModel" "value" "J") ∈ kw := kt_4 (List.mem_of_getElem? (i := 10) rfl) rfl
theorem kw_732 : (Jvm.Cond.lays "PathTextsModel" "PathTextsModel" "wrong" "I") ∈ kw := kt_4 (List.mem_of_getElem? (i := 12) rfl) rfl
theorem kw_734 : (Jvm.Cond.lays "PathTextsModel" "PathTextsModel" "wantsMove" "Z") ∈ kw := kt_4 (List.mem_of_getElem? (i := 14) rfl) rfl
theorem kw_736 : (Jvm.Cond.lays "PathTextsModel" "PathTextsModel" "x" "J") ∈ kw := kt_4 (List.mem_of_getElem? (i := 16) rfl) rfl
theorem kw_738 : (Jvm.Cond.lays "PathTextsModel" "PathTextsModel" "y" "J") ∈ kw := kt_4 (List.mem_of_getElem? (i := 18) rfl) rfl
theorem kw_740 : (Jvm.Cond.lays "PathTextsModel" "PathTextsModel" "startX" "J") ∈ kw := kt_4 (List.mem_of_getElem? (i := 20) rfl) rfl
theorem kw_742 : (Jvm.Cond.lays "PathTextsModel" "PathTextsModel" "startY" "J") ∈ kw := kt_4 (List.mem_of_getElem? (i := 22) rfl) rfl
theorem kw_744 : (Jvm.Cond.lays "PathTextsModel" "PathTextsModel" "before" "I") ∈ kw := kt_4 (List.mem_of_getElem? (i := 24) rfl) rfl
theorem kw_746 : (Jvm.Cond.lays "PathTextsModel" "PathTextsModel" "turnX" "J") ∈ kw := kt_4 (List.mem_of_getElem? (i := 26) rfl) rfl
theorem kw_748 : (Jvm.Cond.lays "PathTextsModel" "PathTextsModel" "turnY" "J") ∈ kw := kt_4 (List.mem_of_getElem? (i := 28) rfl) rfl
theorem kw_750 : (Jvm.Cond.laysFinal "PathTextsModel" "PathTextsModel" "given" "[J") ∈ kw := kt_4 (List.mem_of_getElem? (i := 30) rfl) rfl
theorem kw_752 : (Jvm.Cond.lays "PathTextsModel" "PathTextsModel" "written" "I") ∈ kw := kt_4 (List.mem_of_getElem? (i := 32) rfl) rfl
theorem kw_754 : (Jvm.Cond.laysFinal "PathTextsModel" "PathTextsModel" "signs" "[I") ∈ kw := kt_4 (List.mem_of_getElem? (i := 34) rfl) rfl
theorem kw_756 : (Jvm.Cond.lays "PathTextsModel" "PathTextsModel" "edges" "I") ∈ kw := kt_4 (List.mem_of_getElem? (i := 36) rfl) rfl
theorem kw_758 : (Jvm.Cond.laysFinal "PathTextsModel" "PathTextsModel" "fromX" "[I") ∈ kw := kt_4 (List.mem_of_getElem? (i := 38) rfl) rfl
theorem kw_760 : (Jvm.Cond.laysFinal "PathTextsModel" "PathTextsModel" "fromY" "[I") ∈ kw := kt_4 (List.mem_of_getElem? (i := 40) rfl) rfl
theorem kw_762 : (Jvm.Cond.laysFinal "PathTextsModel" "PathTextsModel" "toX" "[I") ∈ kw := kt_4 (List.mem_of_getElem? (i := 42) rfl) rfl
theorem kw_764 : (Jvm.Cond.laysFinal "PathTextsModel" "PathTextsModel" "toY" "[I") ∈ kw := kt_4 (List.mem_of_getElem? (i := 44) rfl) rfl
theorem kw_766 : (Jvm.Cond.lays "PathTextsModel" "PathTextsModel" "wide" "I") ∈ kw := kt_4 (List.mem_of_getElem? (i := 46) rfl) rfl
theorem kw_768 : (Jvm.Cond.lays "PathTextsModel" "PathTextsModel" "high" "I") ∈ kw := kt_4 (List.mem_of_getElem? (i := 48) rfl) rfl
theorem kw_770 : (Jvm.Cond.laysFinal "PathTextsModel" "PathTextsModel" "points" "[I") ∈ kw := kt_4 (List.mem_of_getElem? (i := 50) rfl) rfl
theorem kw_772 : (Jvm.Cond.lays "PathTextsModel" "PathTextsModel" "behind" "I") ∈ kw := kt_4 (List.mem_of_getElem? (i := 52) rfl) rfl
theorem kw_774 : (Jvm.Cond.lays "PathTextsModel" "PathTextsModel" "whole" "J") ∈ kw := kt_4 (List.mem_of_getElem? (i := 54) rfl) rfl
theorem kw_785 : (Jvm.Cond.constantLong "PathTextsModel" (56 : Nat) (255 : Int64)) ∈ kw := kt_4 (List.mem_of_getElem? (i := 65) rfl) rfl
theorem kw_786 : (Jvm.Cond.constantLong "PathTextsModel" (58 : Nat) (32 : Int64)) ∈ kw := kt_4 (List.mem_of_getElem? (i := 66) rfl) rfl
theorem kw_787 : (Jvm.Cond.constantLong "PathTextsModel" (60 : Nat) (126 : Int64)) ∈ kw := kt_4 (List.mem_of_getElem? (i := 67) rfl) rfl
theorem kw_788 : (Jvm.Cond.methodLink "PathTextsModel" (62 : Nat) ({ cls := "PathTextsModel", name := "in", desc := "(JJJ)Z" } : Jvm.MethodName)) ∈ kw := kt_4 (List.mem_of_getElem? (i := 68) rfl) rfl
theorem kw_789 : (Jvm.Cond.static ({ cls := "PathTextsModel", name := "in", desc := "(JJJ)Z" } : Jvm.MethodName)) ∈ kw := kt_4 (List.mem_of_getElem? (i := 69) rfl) rfl
theorem kw_790 : (Jvm.Cond.code ({ cls := "PathTextsModel", name := "in", desc := "(JJJ)Z" } : Jvm.MethodName) prog_10_method_3_code (6 : Nat) (Option.some Jvm.ClassFile.FieldType.boolean)) ∈ kw := kt_4 (List.mem_of_getElem? (i := 70) rfl) rfl
theorem kw_795 : (Jvm.Cond.constantLong "PathTextsModel" (108 : Nat) (256 : Int64)) ∈ kw := kt_4 (List.mem_of_getElem? (i := 75) rfl) rfl
theorem kw_796 : (Jvm.Cond.methodLink "PathTextsModel" (90 : Nat) ({ cls := "PathTextsModel", name := "skip", desc := "()V" } : Jvm.MethodName)) ∈ kw := kt_4 (List.mem_of_getElem? (i := 76) rfl) rfl
theorem kw_798 : (Jvm.Cond.instanceMethod ({ cls := "PathTextsModel", name := "skip", desc := "()V" } : Jvm.MethodName)) ∈ kw := kt_4 (List.mem_of_getElem? (i := 78) rfl) rfl
theorem kw_799 : (Jvm.Cond.code ({ cls := "PathTextsModel", name := "skip", desc := "()V" } : Jvm.MethodName) prog_10_method_7_code (1 : Nat) (Option.none : Option Jvm.ClassFile.FieldType)) ∈ kw := kt_4 (List.mem_of_getElem? (i := 79) rfl) rfl
theorem kw_800 : (Jvm.Cond.methodLink "PathTextsModel" (72 : Nat) ({ cls := "PathTextsModel", name := "sign", desc := "()I" } : Jvm.MethodName)) ∈ kw := kt_4 (List.mem_of_getElem? (i := 80) rfl) rfl
theorem kw_802 : (Jvm.Cond.instanceMethod ({ cls := "PathTextsModel", name := "sign", desc := "()I" } : Jvm.MethodName)) ∈ kw := kt_4 (List.mem_of_getElem? (i := 82) rfl) rfl
theorem kw_803 : (Jvm.Cond.code ({ cls := "PathTextsModel", name := "sign", desc := "()I" } : Jvm.MethodName) prog_10_method_6_code (1 : Nat) (Option.some Jvm.ClassFile.FieldType.int)) ∈ kw := kt_4 (List.mem_of_getElem? (i := 83) rfl) rfl
theorem kw_804 : (Jvm.Cond.methodLink "PathTextsModel" (183 : Nat) ({ cls := "PathTextsModel", name := "readOne", desc := "()V" } : Jvm.MethodName)) ∈ kw := kt_4 (List.mem_of_getElem? (i := 84) rfl) rfl
theorem kw_806 : (Jvm.Cond.instanceMethod ({ cls := "PathTextsModel", name := "readOne", desc := "()V" } : Jvm.MethodName)) ∈ kw := kt_4 (List.mem_of_getElem? (i := 86) rfl) rfl
theorem kw_807 : (Jvm.Cond.code ({ cls := "PathTextsModel", name := "readOne", desc := "()V" } : Jvm.MethodName) prog_10_method_19_code (4 : Nat) (Option.none : Option Jvm.ClassFile.FieldType)) ∈ kw := kt_4 (List.mem_of_getElem? (i := 87) rfl) rfl
theorem kw_808 : (Jvm.Cond.methodLink "PathTextsModel" (176 : Nat) ({ cls := "PathTextsModel", name := "openGroup", desc := "(I)V" } : Jvm.MethodName)) ∈ kw := kt_4 (List.mem_of_getElem? (i := 88) rfl) rfl
theorem kw_810 : (Jvm.Cond.instanceMethod ({ cls := "PathTextsModel", name := "openGroup", desc := "(I)V" } : Jvm.MethodName)) ∈ kw := kt_4 (List.mem_of_getElem? (i := 90) rfl) rfl
theorem kw_811 : (Jvm.Cond.code ({ cls := "PathTextsModel", name := "openGroup", desc := "(I)V" } : Jvm.MethodName) prog_10_method_13_code (5 : Nat) (Option.none : Option Jvm.ClassFile.FieldType)) ∈ kw := kt_4 (List.mem_of_getElem? (i := 91) rfl) rfl
theorem kw_812 : (Jvm.Cond.methodLink "PathTextsModel" (127 : Nat) ({ cls := "PathTextsModel", name := "numerals", desc := "(I)V" } : Jvm.MethodName)) ∈ kw := kt_4 (List.mem_of_getElem? (i := 92) rfl) rfl
theorem kw_814 : (Jvm.Cond.instanceMethod ({ cls := "PathTextsModel", name := "numerals", desc := "(I)V" } : Jvm.MethodName)) ∈ kw := kt_4 (List.mem_of_getElem? (i := 94) rfl) rfl
theorem kw_815 : (Jvm.Cond.code ({ cls := "PathTextsModel", name := "numerals", desc := "(I)V" } : Jvm.MethodName) prog_10_method_12_code (3 : Nat) (Option.none : Option Jvm.ClassFile.FieldType)) ∈ kw := kt_4 (List.mem_of_getElem? (i := 95) rfl) rfl
theorem kw_816 : (Jvm.Cond.methodLink "PathTextsModel" (121 : Nat) ({ cls := "PathTextsModel", name := "numeral", desc := "()V" } : Jvm.MethodName)) ∈ kw := kt_4 (List.mem_of_getElem? (i := 96) rfl) rfl
theorem kw_818 : (Jvm.Cond.instanceMethod ({ cls := "PathTextsModel", name := "numeral", desc := "()V" } : Jvm.MethodName)) ∈ kw := kt_4 (List.mem_of_getElem? (i := 98) rfl) rfl
theorem kw_819 : (Jvm.Cond.code ({ cls := "PathTextsModel", name := "numeral", desc := "()V" } : Jvm.MethodName) prog_10_method_11_code (7 : Nat) (Option.none : Option Jvm.ClassFile.FieldType)) ∈ kw := kt_4 (List.mem_of_getElem? (i := 99) rfl) rfl
theorem kw_820 : (Jvm.Cond.methodLink "PathTextsModel" (93 : Nat) ({ cls := "PathTextsModel", name := "isNumeral", desc := "()Z" } : Jvm.MethodName)) ∈ kw := kt_4 (List.mem_of_getElem? (i := 100) rfl) rfl
theorem kw_822 : (Jvm.Cond.instanceMethod ({ cls := "PathTextsModel", name := "isNumeral", desc := "()Z" } : Jvm.MethodName)) ∈ kw := kt_4 (List.mem_of_getElem? (i := 102) rfl) rfl
theorem kw_823 : (Jvm.Cond.code ({ cls := "PathTextsModel", name := "isNumeral", desc := "()Z" } : Jvm.MethodName) prog_10_method_9_code (2 : Nat) (Option.some Jvm.ClassFile.FieldType.boolean)) ∈ kw := kt_4 (List.mem_of_getElem? (i := 103) rfl) rfl
theorem kw_824 : (Jvm.Cond.methodLink "PathTextsModel" (76 : Nat) ({ cls := "PathTextsModel", name := "isDigit", desc := "(I)Z" } : Jvm.MethodName)) ∈ kw := kt_4 (List.mem_of_getElem? (i := 104) rfl) rfl
theorem kw_825 : (Jvm.Cond.static ({ cls := "PathTextsModel", name := "isDigit", desc := "(I)Z" } : Jvm.MethodName)) ∈ kw := kt_4 (List.mem_of_getElem? (i := 105) rfl) rfl
theorem kw_826 : (Jvm.Cond.code ({ cls := "PathTextsModel", name := "isDigit", desc := "(I)Z" } : Jvm.MethodName) prog_10_method_8_code (1 : Nat) (Option.some Jvm.ClassFile.FieldType.boolean)) ∈ kw := kt_4 (List.mem_of_getElem? (i := 106) rfl) rfl
theorem kw_827 : (Jvm.Cond.methodLink "PathTextsModel" (100 : Nat) ({ cls := "PathTextsModel", name := "passDigits", desc := "()I" } : Jvm.MethodName)) ∈ kw := kt_4 (List.mem_of_getElem? (i := 107) rfl) rfl
theorem kw_829 : (Jvm.Cond.instanceMethod ({ cls := "PathTextsModel", name := "passDigits", desc := "()I" } : Jvm.MethodName)) ∈ kw := kt_4 (List.mem_of_getElem? (i := 109) rfl) rfl
theorem kw_830 : (Jvm.Cond.code ({ cls := "PathTextsModel", name := "passDigits", desc := "()I" } : Jvm.MethodName) prog_10_method_10_code (2 : Nat) (Option.some Jvm.ClassFile.FieldType.int)) ∈ kw := kt_4 (List.mem_of_getElem? (i := 110) rfl) rfl
theorem kw_831 : (Jvm.Cond.constantLong "PathTextsModel" (84 : Nat) (1000000000 : Int64)) ∈ kw := kt_4 (List.mem_of_getElem? (i := 111) rfl) rfl
theorem kw_832 : (Jvm.Cond.constantLong "PathTextsModel" (86 : Nat) (10 : Int64)) ∈ kw := kt_4 (List.mem_of_getElem? (i := 112) rfl) rfl
theorem kw_833 : (Jvm.Cond.constantLong "PathTextsModel" (88 : Nat) (48 : Int64)) ∈ kw := kt_4 (List.mem_of_getElem? (i := 113) rfl) rfl
theorem kw_834 : (Jvm.Cond.constantLong "PathTextsModel" (106 : Nat) (-256 : Int64)) ∈ kw := kt_4 (List.mem_of_getElem? (i := 114) rfl) rfl
theorem kw_835 : (Jvm.Cond.methodLink "PathTextsModel" (110 : Nat) ({ cls := "PathTextsModel", name := "nearest", desc := "(JJ)J" } : Jvm.MethodName)) ∈ kw := kt_4 (List.mem_of_getElem? (i := 115) rfl) rfl
theorem kw_836 : (Jvm.Cond.static ({ cls := "PathTextsModel", name := "nearest", desc := "(JJ)J" } : Jvm.MethodName)) ∈ kw := kt_4 (List.mem_of_getElem? (i := 116) rfl) rfl
theorem kw_837 : (Jvm.Cond.code ({ cls := "PathTextsModel", name := "nearest", desc := "(JJ)J" } : Jvm.MethodName) prog_10_method_4_code (8 : Nat) (Option.some Jvm.ClassFile.FieldType.long)) ∈ kw := kt_4 (List.mem_of_getElem? (i := 117) rfl) rfl
theorem kw_838 : (Jvm.Cond.constantLong "PathTextsModel" (54 : Nat) (2 : Int64)) ∈ kw := kt_4 (List.mem_of_getElem? (i := 118) rfl) rfl
theorem kw_839 : (Jvm.Cond.constantLong "PathTextsModel" (117 : Nat) (-1048576 : Int64)) ∈ kw := kt_4 (List.mem_of_getElem? (i := 119) rfl) rfl
theorem kw_840 : (Jvm.Cond.constantLong "PathTextsModel" (119 : Nat) (1048576 : Int64)) ∈ kw := kt_4 (List.mem_of_getElem? (i := 120) rfl) rfl
theorem kw_841 : (Jvm.Cond.methodLink "PathTextsModel" (157 : Nat) ({ cls := "PathTextsModel", name := "needs", desc := "(I)I" } : Jvm.MethodName)) ∈ kw := kt_4 (List.mem_of_getElem? (i := 121) rfl) rfl
theorem kw_842 : (Jvm.Cond.static ({ cls := "PathTextsModel", name := "needs", desc := "(I)I" } : Jvm.MethodName)) ∈ kw := kt_4 (List.mem_of_getElem? (i := 122) rfl) rfl
theorem kw_843 : (Jvm.Cond.code ({ cls := "PathTextsModel", name := "needs", desc := "(I)I" } : Jvm.MethodName) prog_10_method_16_code (1 : Nat) (Option.some Jvm.ClassFile.FieldType.int)) ∈ kw := kt_4 (List.mem_of_getElem? (i := 123) rfl) rfl
theorem kw_844 : (Jvm.Cond.methodLink "PathTextsModel" (179 : Nat) ({ cls := "PathTextsModel", name := "commandsOf", desc := "(II)V" } : Jvm.MethodName)) ∈ kw := kt_4 (List.mem_of_getElem? (i := 124) rfl) rfl
theorem kw_846 : (Jvm.Cond.instanceMethod ({ cls := "PathTextsModel", name := "commandsOf", desc := "(II)V" } : Jvm.MethodName)) ∈ kw := kt_4 (List.mem_of_getElem? (i := 126) rfl) rfl
theorem kw_847 : (Jvm.Cond.code ({ cls := "PathTextsModel", name := "commandsOf", desc := "(II)V" } : Jvm.MethodName) prog_10_method_18_code (7 : Nat) (Option.none : Option Jvm.ClassFile.FieldType)) ∈ kw := kt_4 (List.mem_of_getElem? (i := 127) rfl) rfl
theorem kw_848 : (Jvm.Cond.methodLink "PathTextsModel" (173 : Nat) ({ cls := "PathTextsModel", name := "command", desc := "(IJJI)V" } : Jvm.MethodName)) ∈ kw := kt_4 (List.mem_of_getElem? (i := 128) rfl) rfl
theorem kw_850 : (Jvm.Cond.instanceMethod ({ cls := "PathTextsModel", name := "command", desc := "(IJJI)V" } : Jvm.MethodName)) ∈ kw := kt_4 (List.mem_of_getElem? (i := 130) rfl) rfl
theorem kw_851 : (Jvm.Cond.code ({ cls := "PathTextsModel", name := "command", desc := "(IJJI)V" } : Jvm.MethodName) prog_10_method_17_code (22 : Nat) (Option.none : Option Jvm.ClassFile.FieldType)) ∈ kw := kt_4 (List.mem_of_getElem? (i := 131) rfl) rfl
theorem kw_852 : (Jvm.Cond.methodLink "PathTextsModel" (161 : Nat) ({ cls := "PathTextsModel", name := "draw", desc := "(IJJJJJJI)V" } : Jvm.MethodName)) ∈ kw := kt_4 (List.mem_of_getElem? (i := 132) rfl) rfl
theorem kw_854 : (Jvm.Cond.instanceMethod ({ cls := "PathTextsModel", name := "draw", desc := "(IJJJJJJI)V" } : Jvm.MethodName)) ∈ kw := kt_4 (List.mem_of_getElem? (i := 134) rfl) rfl
theorem kw_855 : (Jvm.Cond.code ({ cls := "PathTextsModel", name := "draw", desc := "(IJJJJJJI)V" } : Jvm.MethodName) prog_10_method_15_code (15 : Nat) (Option.none : Option Jvm.ClassFile.FieldType)) ∈ kw := kt_4 (List.mem_of_getElem? (i := 135) rfl) rfl
theorem kw_856 : (Jvm.Cond.methodLink "PathTextsModel" (138 : Nat) ({ cls := "PathTextsModel", name := "point", desc := "(IJJI)V" } : Jvm.MethodName)) ∈ kw := kt_4 (List.mem_of_getElem? (i := 136) rfl) rfl
theorem kw_858 : (Jvm.Cond.instanceMethod ({ cls := "PathTextsModel", name := "point", desc := "(IJJI)V" } : Jvm.MethodName)) ∈ kw := kt_4 (List.mem_of_getElem? (i := 138) rfl) rfl
theorem kw_859 : (Jvm.Cond.code ({ cls := "PathTextsModel", name := "point", desc := "(IJJI)V" } : Jvm.MethodName) prog_10_method_14_code (12 : Nat) (Option.none : Option Jvm.ClassFile.FieldType)) ∈ kw := kt_4 (List.mem_of_getElem? (i := 139) rfl) rfl
theorem kw_860 : (Jvm.Cond.constantLong "PathTextsModel" (171 : Nat) (3 : Int64)) ∈ kw := kt_4 (List.mem_of_getElem? (i := 140) rfl) rfl
theorem kw_865 : (Jvm.Cond.methodLink "PathTextsModel" (189 : Nat) ({ cls := "PathTextsModel", name := "isNumber", desc := "(I)Z" } : Jvm.MethodName)) ∈ kw := kt_4 (List.mem_of_getElem? (i := 145) rfl) rfl
theorem kw_866 : (Jvm.Cond.static ({ cls := "PathTextsModel", name := "isNumber", desc := "(I)Z" } : Jvm.MethodName)) ∈ kw := kt_4 (List.mem_of_getElem? (i := 146) rfl) rfl
theorem kw_867 : (Jvm.Cond.code ({ cls := "PathTextsModel", name := "isNumber", desc := "(I)Z" } : Jvm.MethodName) prog_10_method_22_code (1 : Nat) (Option.some Jvm.ClassFile.FieldType.boolean)) ∈ kw := kt_4 (List.mem_of_getElem? (i := 147) rfl) rfl
theorem kw_868 : (Jvm.Cond.methodLink "PathTextsModel" (192 : Nat) ({ cls := "PathTextsModel", name := "put", desc := "(II)V" } : Jvm.MethodName)) ∈ kw := kt_4 (List.mem_of_getElem? (i := 148) rfl) rfl
theorem kw_870 : (Jvm.Cond.instanceMethod ({ cls := "PathTextsModel", name := "put", desc := "(II)V" } : Jvm.MethodName)) ∈ kw := kt_4 (List.mem_of_getElem? (i := 150) rfl) rfl
theorem kw_871 : (Jvm.Cond.code ({ cls := "PathTextsModel", name := "put", desc := "(II)V" } : Jvm.MethodName) prog_10_method_23_code (3 : Nat) (Option.none : Option Jvm.ClassFile.FieldType)) ∈ kw := kt_4 (List.mem_of_getElem? (i := 151) rfl) rfl
theorem kw_872 : (Jvm.Cond.methodLink "PathTextsModel" (195 : Nat) ({ cls := "PathTextsModel", name := "add", desc := "(I)I" } : Jvm.MethodName)) ∈ kw := kt_4 (List.mem_of_getElem? (i := 152) rfl) rfl
theorem kw_874 : (Jvm.Cond.instanceMethod ({ cls := "PathTextsModel", name := "add", desc := "(I)I" } : Jvm.MethodName)) ∈ kw := kt_4 (List.mem_of_getElem? (i := 154) rfl) rfl
theorem kw_875 : (Jvm.Cond.code ({ cls := "PathTextsModel", name := "add", desc := "(I)I" } : Jvm.MethodName) prog_10_method_24_code (2 : Nat) (Option.some Jvm.ClassFile.FieldType.int)) ∈ kw := kt_4 (List.mem_of_getElem? (i := 155) rfl) rfl
theorem kw_880 : (Jvm.Cond.methodLink "PathTextsModel" (198 : Nat) ({ cls := "PathTextsModel", name := "hasMove", desc := "()Z" } : Jvm.MethodName)) ∈ kw := kt_4 (List.mem_of_getElem? (i := 160) rfl) rfl
theorem kw_882 : (Jvm.Cond.instanceMethod ({ cls := "PathTextsModel", name := "hasMove", desc := "()Z" } : Jvm.MethodName)) ∈ kw := kt_4 (List.mem_of_getElem? (i := 162) rfl) rfl
theorem kw_883 : (Jvm.Cond.code ({ cls := "PathTextsModel", name := "hasMove", desc := "()Z" } : Jvm.MethodName) prog_10_method_21_code (3 : Nat) (Option.some Jvm.ClassFile.FieldType.boolean)) ∈ kw := kt_4 (List.mem_of_getElem? (i := 163) rfl) rfl
theorem kw_900 : (Jvm.Cond.methodLink "PathTextsModel" (201 : Nat) ({ cls := "PathTextsModel", name := "many", desc := "(I)I" } : Jvm.MethodName)) ∈ kw := kt_4 (List.mem_of_getElem? (i := 180) rfl) rfl
theorem kw_901 : (Jvm.Cond.static ({ cls := "PathTextsModel", name := "many", desc := "(I)I" } : Jvm.MethodName)) ∈ kw := kt_4 (List.mem_of_getElem? (i := 181) rfl) rfl
theorem kw_902 : (Jvm.Cond.code ({ cls := "PathTextsModel", name := "many", desc := "(I)I" } : Jvm.MethodName) prog_10_method_30_code (1 : Nat) (Option.some Jvm.ClassFile.FieldType.int)) ∈ kw := kt_4 (List.mem_of_getElem? (i := 182) rfl) rfl
theorem kw_907 : (Jvm.Cond.methodLink "PathTextsModel" (216 : Nat) ({ cls := "PathTextsModel", name := "say", desc := "(I)V" } : Jvm.MethodName)) ∈ kw := kt_4 (List.mem_of_getElem? (i := 187) rfl) rfl
theorem kw_909 : (Jvm.Cond.instanceMethod ({ cls := "PathTextsModel", name := "say", desc := "(I)V" } : Jvm.MethodName)) ∈ kw := kt_4 (List.mem_of_getElem? (i := 189) rfl) rfl
theorem kw_910 : (Jvm.Cond.code ({ cls := "PathTextsModel", name := "say", desc := "(I)V" } : Jvm.MethodName) prog_10_method_32_code (2 : Nat) (Option.none : Option Jvm.ClassFile.FieldType)) ∈ kw := kt_4 (List.mem_of_getElem? (i := 190) rfl) rfl
theorem kw_911 : (Jvm.Cond.methodLink "PathTextsModel" (225 : Nat) ({ cls := "PathTextsModel", name := "sayNumeral", desc := "(IZZ)Z" } : Jvm.MethodName)) ∈ kw := kt_4 (List.mem_of_getElem? (i := 191) rfl) rfl
theorem kw_913 : (Jvm.Cond.instanceMethod ({ cls := "PathTextsModel", name := "sayNumeral", desc := "(IZZ)Z" } : Jvm.MethodName)) ∈ kw := kt_4 (List.mem_of_getElem? (i := 193) rfl) rfl
theorem kw_914 : (Jvm.Cond.code ({ cls := "PathTextsModel", name := "sayNumeral", desc := "(IZZ)Z" } : Jvm.MethodName) prog_10_method_35_code (9 : Nat) (Option.some Jvm.ClassFile.FieldType.boolean)) ∈ kw := kt_4 (List.mem_of_getElem? (i := 194) rfl) rfl
theorem kw_915 : (Jvm.Cond.methodLink "PathTextsModel" (213 : Nat) ({ cls := "PathTextsModel", name := "find", desc := "(I)V" } : Jvm.MethodName)) ∈ kw := kt_4 (List.mem_of_getElem? (i := 195) rfl) rfl
theorem kw_917 : (Jvm.Cond.instanceMethod ({ cls := "PathTextsModel", name := "find", desc := "(I)V" } : Jvm.MethodName)) ∈ kw := kt_4 (List.mem_of_getElem? (i := 197) rfl) rfl
theorem kw_918 : (Jvm.Cond.code ({ cls := "PathTextsModel", name := "find", desc := "(I)V" } : Jvm.MethodName) prog_10_method_33_code (14 : Nat) (Option.none : Option Jvm.ClassFile.FieldType)) ∈ kw := kt_4 (List.mem_of_getElem? (i := 198) rfl) rfl
theorem kw_919 : (Jvm.Cond.constantLong "PathTextsModel" (207 : Nat) (-1 : Int64)) ∈ kw := kt_4 (List.mem_of_getElem? (i := 199) rfl) rfl
theorem kw_920 : (Jvm.Cond.methodLink "PathTextsModel" (209 : Nat) ({ cls := "PathTextsModel", name := "off", desc := "(JJJ)J" } : Jvm.MethodName)) ∈ kw := kt_4 (List.mem_of_getElem? (i := 200) rfl) rfl
theorem kw_921 : (Jvm.Cond.static ({ cls := "PathTextsModel", name := "off", desc := "(JJJ)J" } : Jvm.MethodName)) ∈ kw := kt_4 (List.mem_of_getElem? (i := 201) rfl) rfl
theorem kw_922 : (Jvm.Cond.code ({ cls := "PathTextsModel", name := "off", desc := "(JJJ)J" } : Jvm.MethodName) prog_10_method_34_code (8 : Nat) (Option.some Jvm.ClassFile.FieldType.long)) ∈ kw := kt_4 (List.mem_of_getElem? (i := 202) rfl) rfl
theorem kw_923 : (Jvm.Cond.methodLink "PathTextsModel" (219 : Nat) ({ cls := "PathTextsModel", name := "sayDigits", desc := "(JI)V" } : Jvm.MethodName)) ∈ kw := kt_4 (List.mem_of_getElem? (i := 203) rfl) rfl
theorem kw_925 : (Jvm.Cond.instanceMethod ({ cls := "PathTextsModel", name := "sayDigits", desc := "(JI)V" } : Jvm.MethodName)) ∈ kw := kt_4 (List.mem_of_getElem? (i := 205) rfl) rfl
theorem kw_926 : (Jvm.Cond.code ({ cls := "PathTextsModel", name := "sayDigits", desc := "(JI)V" } : Jvm.MethodName) prog_10_method_36_code (7 : Nat) (Option.none : Option Jvm.ClassFile.FieldType)) ∈ kw := kt_4 (List.mem_of_getElem? (i := 206) rfl) rfl
theorem kw_927 : (Jvm.Cond.constantLong "PathTextsModel" (223 : Nat) (9 : Int64)) ∈ kw := kt_4 (List.mem_of_getElem? (i := 207) rfl) rfl
theorem kw_936 : (Jvm.Cond.constantLong "PathTextsModel" (244 : Nat) (8 : Int64)) ∈ kw := kt_4 (List.mem_of_getElem? (i := 216) rfl) rfl
theorem kw_937 : (Jvm.Cond.methodLink "PathTextsModel" (246 : Nat) ({ cls := "PathTextsModel", name := "makeEdges", desc := "()V" } : Jvm.MethodName)) ∈ kw := kt_4 (List.mem_of_getElem? (i := 217) rfl) rfl
theorem kw_939 : (Jvm.Cond.instanceMethod ({ cls := "PathTextsModel", name := "makeEdges", desc := "()V" } : Jvm.MethodName)) ∈ kw := kt_4 (List.mem_of_getElem? (i := 219) rfl) rfl
theorem kw_940 : (Jvm.Cond.code ({ cls := "PathTextsModel", name := "makeEdges", desc := "()V" } : Jvm.MethodName) prog_10_method_41_code (21 : Nat) (Option.none : Option Jvm.ClassFile.FieldType)) ∈ kw := kt_4 (List.mem_of_getElem? (i := 220) rfl) rfl
theorem kw_941 : (Jvm.Cond.methodLink "PathTextsModel" (236 : Nat) ({ cls := "PathTextsModel", name := "edge", desc := "(JJJJ)V" } : Jvm.MethodName)) ∈ kw := kt_4 (List.mem_of_getElem? (i := 221) rfl) rfl
theorem kw_943 : (Jvm.Cond.instanceMethod ({ cls := "PathTextsModel", name := "edge", desc := "(JJJJ)V" } : Jvm.MethodName)) ∈ kw := kt_4 (List.mem_of_getElem? (i := 223) rfl) rfl
theorem kw_944 : (Jvm.Cond.code ({ cls := "PathTextsModel", name := "edge", desc := "(JJJJ)V" } : Jvm.MethodName) prog_10_method_39_code (9 : Nat) (Option.none : Option Jvm.ClassFile.FieldType)) ∈ kw := kt_4 (List.mem_of_getElem? (i := 224) rfl) rfl
theorem kw_945 : (Jvm.Cond.methodLink "PathTextsModel" (240 : Nat) ({ cls := "PathTextsModel", name := "between", desc := "(JJJJI)J" } : Jvm.MethodName)) ∈ kw := kt_4 (List.mem_of_getElem? (i := 225) rfl) rfl
theorem kw_946 : (Jvm.Cond.static ({ cls := "PathTextsModel", name := "between", desc := "(JJJJI)J" } : Jvm.MethodName)) ∈ kw := kt_4 (List.mem_of_getElem? (i := 226) rfl) rfl
theorem kw_947 : (Jvm.Cond.code ({ cls := "PathTextsModel", name := "between", desc := "(JJJJI)J" } : Jvm.MethodName) prog_10_method_40_code (11 : Nat) (Option.some Jvm.ClassFile.FieldType.long)) ∈ kw := kt_4 (List.mem_of_getElem? (i := 227) rfl) rfl
theorem kw_948 : (Jvm.Cond.constantLong "PathTextsModel" (232 : Nat) (16 : Int64)) ∈ kw := kt_4 (List.mem_of_getElem? (i := 228) rfl) rfl
theorem kw_949 : (Jvm.Cond.constantLong "PathTextsModel" (234 : Nat) (4096 : Int64)) ∈ kw := kt_4 (List.mem_of_getElem? (i := 229) rfl) rfl
theorem kw_950 : (Jvm.Cond.methodLink "PathTextsModel" (255 : Nat) ({ cls := "PathTextsModel", name := "counts", desc := "(III)I" } : Jvm.MethodName)) ∈ kw := kt_4 (List.mem_of_getElem? (i := 230) rfl) rfl
theorem kw_952 : (Jvm.Cond.instanceMethod ({ cls := "PathTextsModel", name := "counts", desc := "(III)I" } : Jvm.MethodName)) ∈ kw := kt_4 (List.mem_of_getElem? (i := 232) rfl) rfl
theorem kw_953 : (Jvm.Cond.code ({ cls := "PathTextsModel", name := "counts", desc := "(III)I" } : Jvm.MethodName) prog_10_method_42_code (10 : Nat) (Option.some Jvm.ClassFile.FieldType.int)) ∈ kw := kt_4 (List.mem_of_getElem? (i := 233) rfl) rfl
def F_Cover : u_T := fun k => match k with
  | 0 => ("PathTexts$Cover", "squares", "[I", true)
  | 1 => ("PathTexts$Cover", "changes", "[I", true)
  | 2 => ("PathTexts$Cover", "width", "I", false)
  | 3 => ("PathTexts$Cover", "height", "I", false)
  | 4 => ("PathTexts$Cover", "top", "J", false)
  | 5 => ("PathTexts$Cover", "x", "J", false)
  | 6 => ("PathTexts$Cover", "y", "J", false)
  | 7 => ("PathTexts$Cover", "startX", "J", false)
  | _ => ("PathTexts$Cover", "startY", "J", false)
def t_Cover : Nat → FieldType := fun k => match k with
  | 0 => .array .int
  | 1 => .array .int
  | 2 => .int
  | 3 => .int
  | 4 => .long
  | 5 => .long
  | 6 => .long
  | 7 => .long
  | _ => .long
theorem n_Cover : ∀ a, a < 9 → ∀ b, b < 9 → a ≠ b → (F_Cover a).2.1 ≠ (F_Cover b).2.1 := by decide +kernel
theorem tk_Cover : ∀ k, k < 9 → parseFieldDescriptor (F_Cover k).2.2.1 = some (t_Cover k) := by decide +kernel
theorem in_Cover : ∀ w ∈ u_ws "PathTexts$Cover" F_Cover 9, w ∈ kw := show ∀ w ∈ [Cond.laysFinal "PathTexts$Cover" "PathTexts$Cover" "squares" "[I", Cond.laysFinal "PathTexts$Cover" "PathTexts$Cover" "changes" "[I", Cond.lays "PathTexts$Cover" "PathTexts$Cover" "width" "I", Cond.lays "PathTexts$Cover" "PathTexts$Cover" "height" "I", Cond.lays "PathTexts$Cover" "PathTexts$Cover" "top" "J", Cond.lays "PathTexts$Cover" "PathTexts$Cover" "x" "J", Cond.lays "PathTexts$Cover" "PathTexts$Cover" "y" "J", Cond.lays "PathTexts$Cover" "PathTexts$Cover" "startX" "J", Cond.lays "PathTexts$Cover" "PathTexts$Cover" "startY" "J"], w ∈ kw from List.forall_mem_cons.mpr ⟨kw_140, List.forall_mem_cons.mpr ⟨kw_142, List.forall_mem_cons.mpr ⟨kw_144, List.forall_mem_cons.mpr ⟨kw_146, List.forall_mem_cons.mpr ⟨kw_148, List.forall_mem_cons.mpr ⟨kw_150, List.forall_mem_cons.mpr ⟨kw_152, List.forall_mem_cons.mpr ⟨kw_154, List.forall_mem_cons.mpr ⟨kw_156, fun _ h => absurd h List.not_mem_nil⟩⟩⟩⟩⟩⟩⟩⟩⟩
def F_Drawing : u_T := fun k => match k with
  | 0 => ("PathTexts$Drawing", "kinds", "[I", true)
  | 1 => ("PathTexts$Drawing", "numbers", "[I", true)
  | _ => ("PathTexts$Drawing", "count", "I", false)
def t_Drawing : Nat → FieldType := fun k => match k with
  | 0 => .array .int
  | 1 => .array .int
  | _ => .int
theorem n_Drawing : ∀ a, a < 3 → ∀ b, b < 3 → a ≠ b → (F_Drawing a).2.1 ≠ (F_Drawing b).2.1 := by decide +kernel
theorem tk_Drawing : ∀ k, k < 3 → parseFieldDescriptor (F_Drawing k).2.2.1 = some (t_Drawing k) := by decide +kernel
theorem in_Drawing : ∀ w ∈ u_ws "PathTexts$Drawing" F_Drawing 3, w ∈ kw := show ∀ w ∈ [Cond.laysFinal "PathTexts$Drawing" "PathTexts$Drawing" "kinds" "[I", Cond.laysFinal "PathTexts$Drawing" "PathTexts$Drawing" "numbers" "[I", Cond.lays "PathTexts$Drawing" "PathTexts$Drawing" "count" "I"], w ∈ kw from List.forall_mem_cons.mpr ⟨kw_179, List.forall_mem_cons.mpr ⟨kw_181, List.forall_mem_cons.mpr ⟨kw_183, fun _ h => absurd h List.not_mem_nil⟩⟩⟩
def F_Matrices : u_T := fun k => match k with
  | 0 => ("PathTexts$Matrices", "rows", "[J", true)
  | _ => ("PathTexts$Matrices", "depth", "I", false)
def t_Matrices : Nat → FieldType := fun k => match k with
  | 0 => .array .long
  | _ => .int
theorem n_Matrices : ∀ a, a < 2 → ∀ b, b < 2 → a ≠ b → (F_Matrices a).2.1 ≠ (F_Matrices b).2.1 := by decide +kernel
theorem tk_Matrices : ∀ k, k < 2 → parseFieldDescriptor (F_Matrices k).2.2.1 = some (t_Matrices k) := by decide +kernel
theorem in_Matrices : ∀ w ∈ u_ws "PathTexts$Matrices" F_Matrices 2, w ∈ kw := show ∀ w ∈ [Cond.laysFinal "PathTexts$Matrices" "PathTexts$Matrices" "rows" "[J", Cond.lays "PathTexts$Matrices" "PathTexts$Matrices" "depth" "I"], w ∈ kw from List.forall_mem_cons.mpr ⟨kw_65, List.forall_mem_cons.mpr ⟨kw_67, fun _ h => absurd h List.not_mem_nil⟩⟩
def F_Pen : u_T := fun k => match k with
  | 0 => ("PathTexts$Pen", "matrices", "LPathTexts$Matrices;", true)
  | 1 => ("PathTexts$Pen", "points", "[J", true)
  | 2 => ("PathTexts$Pen", "drawn", "[J", true)
  | 3 => ("PathTexts$Pen", "x", "J", false)
  | 4 => ("PathTexts$Pen", "y", "J", false)
  | 5 => ("PathTexts$Pen", "startX", "J", false)
  | 6 => ("PathTexts$Pen", "startY", "J", false)
  | 7 => ("PathTexts$Pen", "controlX", "J", false)
  | 8 => ("PathTexts$Pen", "controlY", "J", false)
  | _ => ("PathTexts$Pen", "controlFor", "C", false)
def t_Pen : Nat → FieldType := fun k => match k with
  | 0 => .object "PathTexts$Matrices"
  | 1 => .array .long
  | 2 => .array .long
  | 3 => .long
  | 4 => .long
  | 5 => .long
  | 6 => .long
  | 7 => .long
  | 8 => .long
  | _ => .char
theorem n_Pen : ∀ a, a < 10 → ∀ b, b < 10 → a ≠ b → (F_Pen a).2.1 ≠ (F_Pen b).2.1 := by decide +kernel
theorem tk_Pen : ∀ k, k < 10 → parseFieldDescriptor (F_Pen k).2.2.1 = some (t_Pen k) := by decide +kernel
theorem in_Pen : ∀ w ∈ u_ws "PathTexts$Pen" F_Pen 10, w ∈ kw := show ∀ w ∈ [Cond.laysFinal "PathTexts$Pen" "PathTexts$Pen" "matrices" "LPathTexts$Matrices;", Cond.laysFinal "PathTexts$Pen" "PathTexts$Pen" "points" "[J", Cond.laysFinal "PathTexts$Pen" "PathTexts$Pen" "drawn" "[J", Cond.lays "PathTexts$Pen" "PathTexts$Pen" "x" "J", Cond.lays "PathTexts$Pen" "PathTexts$Pen" "y" "J", Cond.lays "PathTexts$Pen" "PathTexts$Pen" "startX" "J", Cond.lays "PathTexts$Pen" "PathTexts$Pen" "startY" "J", Cond.lays "PathTexts$Pen" "PathTexts$Pen" "controlX" "J", Cond.lays "PathTexts$Pen" "PathTexts$Pen" "controlY" "J", Cond.lays "PathTexts$Pen" "PathTexts$Pen" "controlFor" "C"], w ∈ kw from List.forall_mem_cons.mpr ⟨kw_82, List.forall_mem_cons.mpr ⟨kw_84, List.forall_mem_cons.mpr ⟨kw_86, List.forall_mem_cons.mpr ⟨kw_88, List.forall_mem_cons.mpr ⟨kw_90, List.forall_mem_cons.mpr ⟨kw_92, List.forall_mem_cons.mpr ⟨kw_94, List.forall_mem_cons.mpr ⟨kw_96, List.forall_mem_cons.mpr ⟨kw_98, List.forall_mem_cons.mpr ⟨kw_100, fun _ h => absurd h List.not_mem_nil⟩⟩⟩⟩⟩⟩⟩⟩⟩⟩
def F_Reader : u_T := fun k => match k with
  | 0 => ("PathTexts$Reader", "text", "LPathTexts$Row;", true)
  | 1 => ("PathTexts$Reader", "pen", "LPathTexts$Pen;", true)
  | 2 => ("PathTexts$Reader", "numbers", "[J", true)
  | 3 => ("PathTexts$Reader", "at", "I", false)
  | 4 => ("PathTexts$Reader", "wrong", "I", false)
  | _ => ("PathTexts$Reader", "moveIsDue", "Z", false)
def t_Reader : Nat → FieldType := fun k => match k with
  | 0 => .object "PathTexts$Row"
  | 1 => .object "PathTexts$Pen"
  | 2 => .array .long
  | 3 => .int
  | 4 => .int
  | _ => .boolean
theorem n_Reader : ∀ a, a < 6 → ∀ b, b < 6 → a ≠ b → (F_Reader a).2.1 ≠ (F_Reader b).2.1 := by decide +kernel
theorem tk_Reader : ∀ k, k < 6 → parseFieldDescriptor (F_Reader k).2.2.1 = some (t_Reader k) := by decide +kernel
theorem in_Reader : ∀ w ∈ u_ws "PathTexts$Reader" F_Reader 6, w ∈ kw := show ∀ w ∈ [Cond.laysFinal "PathTexts$Reader" "PathTexts$Reader" "text" "LPathTexts$Row;", Cond.laysFinal "PathTexts$Reader" "PathTexts$Reader" "pen" "LPathTexts$Pen;", Cond.laysFinal "PathTexts$Reader" "PathTexts$Reader" "numbers" "[J", Cond.lays "PathTexts$Reader" "PathTexts$Reader" "at" "I", Cond.lays "PathTexts$Reader" "PathTexts$Reader" "wrong" "I", Cond.lays "PathTexts$Reader" "PathTexts$Reader" "moveIsDue" "Z"], w ∈ kw from List.forall_mem_cons.mpr ⟨kw_109, List.forall_mem_cons.mpr ⟨kw_111, List.forall_mem_cons.mpr ⟨kw_113, List.forall_mem_cons.mpr ⟨kw_115, List.forall_mem_cons.mpr ⟨kw_117, List.forall_mem_cons.mpr ⟨kw_119, fun _ h => absurd h List.not_mem_nil⟩⟩⟩⟩⟩⟩
def F_Row : u_T := fun k => match k with
  | 0 => ("PathTexts$Row", "characters", "[C", true)
  | _ => ("PathTexts$Row", "length", "I", false)
def t_Row : Nat → FieldType := fun k => match k with
  | 0 => .array .char
  | _ => .int
theorem n_Row : ∀ a, a < 2 → ∀ b, b < 2 → a ≠ b → (F_Row a).2.1 ≠ (F_Row b).2.1 := by decide +kernel
theorem tk_Row : ∀ k, k < 2 → parseFieldDescriptor (F_Row k).2.2.1 = some (t_Row k) := by decide +kernel
theorem in_Row : ∀ w ∈ u_ws "PathTexts$Row" F_Row 2, w ∈ kw := show ∀ w ∈ [Cond.laysFinal "PathTexts$Row" "PathTexts$Row" "characters" "[C", Cond.lays "PathTexts$Row" "PathTexts$Row" "length" "I"], w ∈ kw from List.forall_mem_cons.mpr ⟨kw_38, List.forall_mem_cons.mpr ⟨kw_40, fun _ h => absurd h List.not_mem_nil⟩⟩
def F_P : u_T := fun k => match k with
  | 0 => ("PathTexts", "text", "LPathTexts$Row;", true)
  | 1 => ("PathTexts", "written", "LPathTexts$Row;", true)
  | 2 => ("PathTexts", "reader", "LPathTexts$Reader;", true)
  | 3 => ("PathTexts", "cover", "LPathTexts$Cover;", true)
  | 4 => ("PathTexts", "given", "[J", true)
  | 5 => ("PathTexts", "drawing", "LPathTexts$Drawing;", false)
  | _ => ("PathTexts", "spare", "LPathTexts$Drawing;", false)
def t_P : Nat → FieldType := fun k => match k with
  | 0 => .object "PathTexts$Row"
  | 1 => .object "PathTexts$Row"
  | 2 => .object "PathTexts$Reader"
  | 3 => .object "PathTexts$Cover"
  | 4 => .array .long
  | 5 => .object "PathTexts$Drawing"
  | _ => .object "PathTexts$Drawing"
theorem n_P : ∀ a, a < 7 → ∀ b, b < 7 → a ≠ b → (F_P a).2.1 ≠ (F_P b).2.1 := by decide +kernel
theorem tk_P : ∀ k, k < 7 → parseFieldDescriptor (F_P k).2.2.1 = some (t_P k) := by decide +kernel
theorem in_P : ∀ w ∈ u_ws "PathTexts" F_P 7, w ∈ kw := show ∀ w ∈ [Cond.laysFinal "PathTexts" "PathTexts" "text" "LPathTexts$Row;", Cond.laysFinal "PathTexts" "PathTexts" "written" "LPathTexts$Row;", Cond.laysFinal "PathTexts" "PathTexts" "reader" "LPathTexts$Reader;", Cond.laysFinal "PathTexts" "PathTexts" "cover" "LPathTexts$Cover;", Cond.laysFinal "PathTexts" "PathTexts" "given" "[J", Cond.lays "PathTexts" "PathTexts" "drawing" "LPathTexts$Drawing;", Cond.lays "PathTexts" "PathTexts" "spare" "LPathTexts$Drawing;"], w ∈ kw from List.forall_mem_cons.mpr ⟨kw_193, List.forall_mem_cons.mpr ⟨kw_195, List.forall_mem_cons.mpr ⟨kw_197, List.forall_mem_cons.mpr ⟨kw_199, List.forall_mem_cons.mpr ⟨kw_201, List.forall_mem_cons.mpr ⟨kw_203, List.forall_mem_cons.mpr ⟨kw_205, fun _ h => absurd h List.not_mem_nil⟩⟩⟩⟩⟩⟩⟩
def F_Model : u_T := fun k => match k with
  | 0 => ("PathTextsModel", "fault", "I", false)
  | 1 => ("PathTextsModel", "size", "I", false)
  | 2 => ("PathTextsModel", "text", "[I", true)
  | 3 => ("PathTextsModel", "commands", "I", false)
  | 4 => ("PathTextsModel", "kinds", "[I", true)
  | 5 => ("PathTextsModel", "numbers", "[I", true)
  | 6 => ("PathTextsModel", "drawn", "I", false)
  | 7 => ("PathTextsModel", "drawnKinds", "[I", true)
  | 8 => ("PathTextsModel", "drawnNumbers", "[I", true)
  | 9 => ("PathTextsModel", "depth", "I", false)
  | 10 => ("PathTextsModel", "matrix", "[J", true)
  | 11 => ("PathTextsModel", "at", "I", false)
  | 12 => ("PathTextsModel", "value", "J", false)
  | 13 => ("PathTextsModel", "wrong", "I", false)
  | 14 => ("PathTextsModel", "wantsMove", "Z", false)
  | 15 => ("PathTextsModel", "x", "J", false)
  | 16 => ("PathTextsModel", "y", "J", false)
  | 17 => ("PathTextsModel", "startX", "J", false)
  | 18 => ("PathTextsModel", "startY", "J", false)
  | 19 => ("PathTextsModel", "before", "I", false)
  | 20 => ("PathTextsModel", "turnX", "J", false)
  | 21 => ("PathTextsModel", "turnY", "J", false)
  | 22 => ("PathTextsModel", "given", "[J", true)
  | 23 => ("PathTextsModel", "written", "I", false)
  | 24 => ("PathTextsModel", "signs", "[I", true)
  | 25 => ("PathTextsModel", "edges", "I", false)
  | 26 => ("PathTextsModel", "fromX", "[I", true)
  | 27 => ("PathTextsModel", "fromY", "[I", true)
  | 28 => ("PathTextsModel", "toX", "[I", true)
  | 29 => ("PathTextsModel", "toY", "[I", true)
  | 30 => ("PathTextsModel", "wide", "I", false)
  | 31 => ("PathTextsModel", "high", "I", false)
  | 32 => ("PathTextsModel", "points", "[I", true)
  | 33 => ("PathTextsModel", "behind", "I", false)
  | _ => ("PathTextsModel", "whole", "J", false)
def t_Model : Nat → FieldType := fun k => match k with
  | 0 => .int
  | 1 => .int
  | 2 => .array .int
  | 3 => .int
  | 4 => .array .int
  | 5 => .array .int
  | 6 => .int
  | 7 => .array .int
  | 8 => .array .int
  | 9 => .int
  | 10 => .array .long
  | 11 => .int
  | 12 => .long
  | 13 => .int
  | 14 => .boolean
  | 15 => .long
  | 16 => .long
  | 17 => .long
  | 18 => .long
  | 19 => .int
  | 20 => .long
  | 21 => .long
  | 22 => .array .long
  | 23 => .int
  | 24 => .array .int
  | 25 => .int
  | 26 => .array .int
  | 27 => .array .int
  | 28 => .array .int
  | 29 => .array .int
  | 30 => .int
  | 31 => .int
  | 32 => .array .int
  | 33 => .int
  | _ => .long
theorem n_Model : ∀ a, a < 35 → ∀ b, b < 35 → a ≠ b → (F_Model a).2.1 ≠ (F_Model b).2.1 := by decide +kernel
theorem tk_Model : ∀ k, k < 35 → parseFieldDescriptor (F_Model k).2.2.1 = some (t_Model k) := by decide +kernel
theorem in_Model : ∀ w ∈ u_ws "PathTextsModel" F_Model 35, w ∈ kw := show ∀ w ∈ [Cond.lays "PathTextsModel" "PathTextsModel" "fault" "I", Cond.lays "PathTextsModel" "PathTextsModel" "size" "I", Cond.laysFinal "PathTextsModel" "PathTextsModel" "text" "[I", Cond.lays "PathTextsModel" "PathTextsModel" "commands" "I", Cond.laysFinal "PathTextsModel" "PathTextsModel" "kinds" "[I", Cond.laysFinal "PathTextsModel" "PathTextsModel" "numbers" "[I", Cond.lays "PathTextsModel" "PathTextsModel" "drawn" "I", Cond.laysFinal "PathTextsModel" "PathTextsModel" "drawnKinds" "[I", Cond.laysFinal "PathTextsModel" "PathTextsModel" "drawnNumbers" "[I", Cond.lays "PathTextsModel" "PathTextsModel" "depth" "I", Cond.laysFinal "PathTextsModel" "PathTextsModel" "matrix" "[J", Cond.lays "PathTextsModel" "PathTextsModel" "at" "I", Cond.lays "PathTextsModel" "PathTextsModel" "value" "J", Cond.lays "PathTextsModel" "PathTextsModel" "wrong" "I", Cond.lays "PathTextsModel" "PathTextsModel" "wantsMove" "Z", Cond.lays "PathTextsModel" "PathTextsModel" "x" "J", Cond.lays "PathTextsModel" "PathTextsModel" "y" "J", Cond.lays "PathTextsModel" "PathTextsModel" "startX" "J", Cond.lays "PathTextsModel" "PathTextsModel" "startY" "J", Cond.lays "PathTextsModel" "PathTextsModel" "before" "I", Cond.lays "PathTextsModel" "PathTextsModel" "turnX" "J", Cond.lays "PathTextsModel" "PathTextsModel" "turnY" "J", Cond.laysFinal "PathTextsModel" "PathTextsModel" "given" "[J", Cond.lays "PathTextsModel" "PathTextsModel" "written" "I", Cond.laysFinal "PathTextsModel" "PathTextsModel" "signs" "[I", Cond.lays "PathTextsModel" "PathTextsModel" "edges" "I", Cond.laysFinal "PathTextsModel" "PathTextsModel" "fromX" "[I", Cond.laysFinal "PathTextsModel" "PathTextsModel" "fromY" "[I", Cond.laysFinal "PathTextsModel" "PathTextsModel" "toX" "[I", Cond.laysFinal "PathTextsModel" "PathTextsModel" "toY" "[I", Cond.lays "PathTextsModel" "PathTextsModel" "wide" "I", Cond.lays "PathTextsModel" "PathTextsModel" "high" "I", Cond.laysFinal "PathTextsModel" "PathTextsModel" "points" "[I", Cond.lays "PathTextsModel" "PathTextsModel" "behind" "I", Cond.lays "PathTextsModel" "PathTextsModel" "whole" "J"], w ∈ kw from List.forall_mem_cons.mpr ⟨kw_706, List.forall_mem_cons.mpr ⟨kw_708, List.forall_mem_cons.mpr ⟨kw_710, List.forall_mem_cons.mpr ⟨kw_712, List.forall_mem_cons.mpr ⟨kw_714, List.forall_mem_cons.mpr ⟨kw_716, List.forall_mem_cons.mpr ⟨kw_718, List.forall_mem_cons.mpr ⟨kw_720, List.forall_mem_cons.mpr ⟨kw_722, List.forall_mem_cons.mpr ⟨kw_724, List.forall_mem_cons.mpr ⟨kw_726, List.forall_mem_cons.mpr ⟨kw_728, List.forall_mem_cons.mpr ⟨kw_730, List.forall_mem_cons.mpr ⟨kw_732, List.forall_mem_cons.mpr ⟨kw_734, List.forall_mem_cons.mpr ⟨kw_736, List.forall_mem_cons.mpr ⟨kw_738, List.forall_mem_cons.mpr ⟨kw_740, List.forall_mem_cons.mpr ⟨kw_742, List.forall_mem_cons.mpr ⟨kw_744, List.forall_mem_cons.mpr ⟨kw_746, List.forall_mem_cons.mpr ⟨kw_748, List.forall_mem_cons.mpr ⟨kw_750, List.forall_mem_cons.mpr ⟨kw_752, List.forall_mem_cons.mpr ⟨kw_754, List.forall_mem_cons.mpr ⟨kw_756, List.forall_mem_cons.mpr ⟨kw_758, List.forall_mem_cons.mpr ⟨kw_760, List.forall_mem_cons.mpr ⟨kw_762, List.forall_mem_cons.mpr ⟨kw_764, List.forall_mem_cons.mpr ⟨kw_766, List.forall_mem_cons.mpr ⟨kw_768, List.forall_mem_cons.mpr ⟨kw_770, List.forall_mem_cons.mpr ⟨kw_772, List.forall_mem_cons.mpr ⟨kw_774, fun _ h => absurd h List.not_mem_nil⟩⟩⟩⟩⟩⟩⟩⟩⟩⟩⟩⟩⟩⟩⟩⟩⟩⟩⟩⟩⟩⟩⟩⟩⟩⟩⟩⟩⟩⟩⟩⟩⟩⟩⟩
def f_Cover (a0 : Nat) (a1 : Nat) (a2 : Int32) (a3 : Int32) (a4 : Int64) (a5 : Int64) (a6 : Int64) (a7 : Int64) (a8 : Int64) : List Value := [.ref a0, .ref a1, .int a2, .int a3, .long a4, .long a5, .long a6, .long a7, .long a8]
theorem fg_Cover_0 {a0 : Nat} {a1 : Nat} {a2 : Int32} {a3 : Int32} {a4 : Int64} {a5 : Int64} {a6 : Int64} {a7 : Int64} {a8 : Int64} : (f_Cover a0 a1 a2 a3 a4 a5 a6 a7 a8)[0]? = some (.ref a0) := rfl
theorem fl_Cover_0 {a0 : Nat} {a1 : Nat} {a2 : Int32} {a3 : Int32} {a4 : Int64} {a5 : Int64} {a6 : Int64} {a7 : Int64} {a8 : Int64} : 0 < (f_Cover a0 a1 a2 a3 a4 a5 a6 a7 a8).length := Nat.le_of_ble_eq_true rfl
theorem fs_Cover_0 {a0 : Nat} {a1 : Nat} {a2 : Int32} {a3 : Int32} {a4 : Int64} {a5 : Int64} {a6 : Int64} {a7 : Int64} {a8 : Int64} {b : Nat} : (f_Cover a0 a1 a2 a3 a4 a5 a6 a7 a8).set 0 (.ref b) = f_Cover b a1 a2 a3 a4 a5 a6 a7 a8 := rfl
theorem fg_Cover_1 {a0 : Nat} {a1 : Nat} {a2 : Int32} {a3 : Int32} {a4 : Int64} {a5 : Int64} {a6 : Int64} {a7 : Int64} {a8 : Int64} : (f_Cover a0 a1 a2 a3 a4 a5 a6 a7 a8)[1]? = some (.ref a1) := rfl
theorem fl_Cover_1 {a0 : Nat} {a1 : Nat} {a2 : Int32} {a3 : Int32} {a4 : Int64} {a5 : Int64} {a6 : Int64} {a7 : Int64} {a8 : Int64} : 1 < (f_Cover a0 a1 a2 a3 a4 a5 a6 a7 a8).length := Nat.le_of_ble_eq_true rfl
theorem fs_Cover_1 {a0 : Nat} {a1 : Nat} {a2 : Int32} {a3 : Int32} {a4 : Int64} {a5 : Int64} {a6 : Int64} {a7 : Int64} {a8 : Int64} {b : Nat} : (f_Cover a0 a1 a2 a3 a4 a5 a6 a7 a8).set 1 (.ref b) = f_Cover a0 b a2 a3 a4 a5 a6 a7 a8 := rfl
theorem fg_Cover_2 {a0 : Nat} {a1 : Nat} {a2 : Int32} {a3 : Int32} {a4 : Int64} {a5 : Int64} {a6 : Int64} {a7 : Int64} {a8 : Int64} : (f_Cover a0 a1 a2 a3 a4 a5 a6 a7 a8)[2]? = some (.int a2) := rfl
theorem fl_Cover_2 {a0 : Nat} {a1 : Nat} {a2 : Int32} {a3 : Int32} {a4 : Int64} {a5 : Int64} {a6 : Int64} {a7 : Int64} {a8 : Int64} : 2 < (f_Cover a0 a1 a2 a3 a4 a5 a6 a7 a8).length := Nat.le_of_ble_eq_true rfl
theorem fs_Cover_2 {a0 : Nat} {a1 : Nat} {a2 : Int32} {a3 : Int32} {a4 : Int64} {a5 : Int64} {a6 : Int64} {a7 : Int64} {a8 : Int64} {b : Int32} : (f_Cover a0 a1 a2 a3 a4 a5 a6 a7 a8).set 2 (.int b) = f_Cover a0 a1 b a3 a4 a5 a6 a7 a8 := rfl
theorem fg_Cover_3 {a0 : Nat} {a1 : Nat} {a2 : Int32} {a3 : Int32} {a4 : Int64} {a5 : Int64} {a6 : Int64} {a7 : Int64} {a8 : Int64} : (f_Cover a0 a1 a2 a3 a4 a5 a6 a7 a8)[3]? = some (.int a3) := rfl
theorem fl_Cover_3 {a0 : Nat} {a1 : Nat} {a2 : Int32} {a3 : Int32} {a4 : Int64} {a5 : Int64} {a6 : Int64} {a7 : Int64} {a8 : Int64} : 3 < (f_Cover a0 a1 a2 a3 a4 a5 a6 a7 a8).length := Nat.le_of_ble_eq_true rfl
theorem fs_Cover_3 {a0 : Nat} {a1 : Nat} {a2 : Int32} {a3 : Int32} {a4 : Int64} {a5 : Int64} {a6 : Int64} {a7 : Int64} {a8 : Int64} {b : Int32} : (f_Cover a0 a1 a2 a3 a4 a5 a6 a7 a8).set 3 (.int b) = f_Cover a0 a1 a2 b a4 a5 a6 a7 a8 := rfl
theorem fg_Cover_4 {a0 : Nat} {a1 : Nat} {a2 : Int32} {a3 : Int32} {a4 : Int64} {a5 : Int64} {a6 : Int64} {a7 : Int64} {a8 : Int64} : (f_Cover a0 a1 a2 a3 a4 a5 a6 a7 a8)[4]? = some (.long a4) := rfl
theorem fl_Cover_4 {a0 : Nat} {a1 : Nat} {a2 : Int32} {a3 : Int32} {a4 : Int64} {a5 : Int64} {a6 : Int64} {a7 : Int64} {a8 : Int64} : 4 < (f_Cover a0 a1 a2 a3 a4 a5 a6 a7 a8).length := Nat.le_of_ble_eq_true rfl
theorem fs_Cover_4 {a0 : Nat} {a1 : Nat} {a2 : Int32} {a3 : Int32} {a4 : Int64} {a5 : Int64} {a6 : Int64} {a7 : Int64} {a8 : Int64} {b : Int64} : (f_Cover a0 a1 a2 a3 a4 a5 a6 a7 a8).set 4 (.long b) = f_Cover a0 a1 a2 a3 b a5 a6 a7 a8 := rfl
theorem fg_Cover_5 {a0 : Nat} {a1 : Nat} {a2 : Int32} {a3 : Int32} {a4 : Int64} {a5 : Int64} {a6 : Int64} {a7 : Int64} {a8 : Int64} : (f_Cover a0 a1 a2 a3 a4 a5 a6 a7 a8)[5]? = some (.long a5) := rfl
theorem fl_Cover_5 {a0 : Nat} {a1 : Nat} {a2 : Int32} {a3 : Int32} {a4 : Int64} {a5 : Int64} {a6 : Int64} {a7 : Int64} {a8 : Int64} : 5 < (f_Cover a0 a1 a2 a3 a4 a5 a6 a7 a8).length := Nat.le_of_ble_eq_true rfl
theorem fs_Cover_5 {a0 : Nat} {a1 : Nat} {a2 : Int32} {a3 : Int32} {a4 : Int64} {a5 : Int64} {a6 : Int64} {a7 : Int64} {a8 : Int64} {b : Int64} : (f_Cover a0 a1 a2 a3 a4 a5 a6 a7 a8).set 5 (.long b) = f_Cover a0 a1 a2 a3 a4 b a6 a7 a8 := rfl
theorem fg_Cover_6 {a0 : Nat} {a1 : Nat} {a2 : Int32} {a3 : Int32} {a4 : Int64} {a5 : Int64} {a6 : Int64} {a7 : Int64} {a8 : Int64} : (f_Cover a0 a1 a2 a3 a4 a5 a6 a7 a8)[6]? = some (.long a6) := rfl
theorem fl_Cover_6 {a0 : Nat} {a1 : Nat} {a2 : Int32} {a3 : Int32} {a4 : Int64} {a5 : Int64} {a6 : Int64} {a7 : Int64} {a8 : Int64} : 6 < (f_Cover a0 a1 a2 a3 a4 a5 a6 a7 a8).length := Nat.le_of_ble_eq_true rfl
theorem fs_Cover_6 {a0 : Nat} {a1 : Nat} {a2 : Int32} {a3 : Int32} {a4 : Int64} {a5 : Int64} {a6 : Int64} {a7 : Int64} {a8 : Int64} {b : Int64} : (f_Cover a0 a1 a2 a3 a4 a5 a6 a7 a8).set 6 (.long b) = f_Cover a0 a1 a2 a3 a4 a5 b a7 a8 := rfl
theorem fg_Cover_7 {a0 : Nat} {a1 : Nat} {a2 : Int32} {a3 : Int32} {a4 : Int64} {a5 : Int64} {a6 : Int64} {a7 : Int64} {a8 : Int64} : (f_Cover a0 a1 a2 a3 a4 a5 a6 a7 a8)[7]? = some (.long a7) := rfl
theorem fl_Cover_7 {a0 : Nat} {a1 : Nat} {a2 : Int32} {a3 : Int32} {a4 : Int64} {a5 : Int64} {a6 : Int64} {a7 : Int64} {a8 : Int64} : 7 < (f_Cover a0 a1 a2 a3 a4 a5 a6 a7 a8).length := Nat.le_of_ble_eq_true rfl
theorem fs_Cover_7 {a0 : Nat} {a1 : Nat} {a2 : Int32} {a3 : Int32} {a4 : Int64} {a5 : Int64} {a6 : Int64} {a7 : Int64} {a8 : Int64} {b : Int64} : (f_Cover a0 a1 a2 a3 a4 a5 a6 a7 a8).set 7 (.long b) = f_Cover a0 a1 a2 a3 a4 a5 a6 b a8 := rfl
theorem fg_Cover_8 {a0 : Nat} {a1 : Nat} {a2 : Int32} {a3 : Int32} {a4 : Int64} {a5 : Int64} {a6 : Int64} {a7 : Int64} {a8 : Int64} : (f_Cover a0 a1 a2 a3 a4 a5 a6 a7 a8)[8]? = some (.long a8) := rfl
theorem fl_Cover_8 {a0 : Nat} {a1 : Nat} {a2 : Int32} {a3 : Int32} {a4 : Int64} {a5 : Int64} {a6 : Int64} {a7 : Int64} {a8 : Int64} : 8 < (f_Cover a0 a1 a2 a3 a4 a5 a6 a7 a8).length := Nat.le_of_ble_eq_true rfl
theorem fs_Cover_8 {a0 : Nat} {a1 : Nat} {a2 : Int32} {a3 : Int32} {a4 : Int64} {a5 : Int64} {a6 : Int64} {a7 : Int64} {a8 : Int64} {b : Int64} : (f_Cover a0 a1 a2 a3 a4 a5 a6 a7 a8).set 8 (.long b) = f_Cover a0 a1 a2 a3 a4 a5 a6 a7 b := rfl
def f_Drawing (a0 : Nat) (a1 : Nat) (a2 : Int32) : List Value := [.ref a0, .ref a1, .int a2]
theorem fg_Drawing_0 {a0 : Nat} {a1 : Nat} {a2 : Int32} : (f_Drawing a0 a1 a2)[0]? = some (.ref a0) := rfl
theorem fl_Drawing_0 {a0 : Nat} {a1 : Nat} {a2 : Int32} : 0 < (f_Drawing a0 a1 a2).length := Nat.le_of_ble_eq_true rfl
theorem fs_Drawing_0 {a0 : Nat} {a1 : Nat} {a2 : Int32} {b : Nat} : (f_Drawing a0 a1 a2).set 0 (.ref b) = f_Drawing b a1 a2 := rfl
theorem fg_Drawing_1 {a0 : Nat} {a1 : Nat} {a2 : Int32} : (f_Drawing a0 a1 a2)[1]? = some (.ref a1) := rfl
theorem fl_Drawing_1 {a0 : Nat} {a1 : Nat} {a2 : Int32} : 1 < (f_Drawing a0 a1 a2).length := Nat.le_of_ble_eq_true rfl
theorem fs_Drawing_1 {a0 : Nat} {a1 : Nat} {a2 : Int32} {b : Nat} : (f_Drawing a0 a1 a2).set 1 (.ref b) = f_Drawing a0 b a2 := rfl
theorem fg_Drawing_2 {a0 : Nat} {a1 : Nat} {a2 : Int32} : (f_Drawing a0 a1 a2)[2]? = some (.int a2) := rfl
theorem fl_Drawing_2 {a0 : Nat} {a1 : Nat} {a2 : Int32} : 2 < (f_Drawing a0 a1 a2).length := Nat.le_of_ble_eq_true rfl
theorem fs_Drawing_2 {a0 : Nat} {a1 : Nat} {a2 : Int32} {b : Int32} : (f_Drawing a0 a1 a2).set 2 (.int b) = f_Drawing a0 a1 b := rfl
def f_Matrices (a0 : Nat) (a1 : Int32) : List Value := [.ref a0, .int a1]
theorem fg_Matrices_0 {a0 : Nat} {a1 : Int32} : (f_Matrices a0 a1)[0]? = some (.ref a0) := rfl
theorem fl_Matrices_0 {a0 : Nat} {a1 : Int32} : 0 < (f_Matrices a0 a1).length := Nat.le_of_ble_eq_true rfl
theorem fs_Matrices_0 {a0 : Nat} {a1 : Int32} {b : Nat} : (f_Matrices a0 a1).set 0 (.ref b) = f_Matrices b a1 := rfl
theorem fg_Matrices_1 {a0 : Nat} {a1 : Int32} : (f_Matrices a0 a1)[1]? = some (.int a1) := rfl
theorem fl_Matrices_1 {a0 : Nat} {a1 : Int32} : 1 < (f_Matrices a0 a1).length := Nat.le_of_ble_eq_true rfl
theorem fs_Matrices_1 {a0 : Nat} {a1 : Int32} {b : Int32} : (f_Matrices a0 a1).set 1 (.int b) = f_Matrices a0 b := rfl
def f_Pen (a0 : Nat) (a1 : Nat) (a2 : Nat) (a3 : Int64) (a4 : Int64) (a5 : Int64) (a6 : Int64) (a7 : Int64) (a8 : Int64) (a9 : Int32) : List Value := [.ref a0, .ref a1, .ref a2, .long a3, .long a4, .long a5, .long a6, .long a7, .long a8, .int a9]
theorem fg_Pen_0 {a0 : Nat} {a1 : Nat} {a2 : Nat} {a3 : Int64} {a4 : Int64} {a5 : Int64} {a6 : Int64} {a7 : Int64} {a8 : Int64} {a9 : Int32} : (f_Pen a0 a1 a2 a3 a4 a5 a6 a7 a8 a9)[0]? = some (.ref a0) := rfl
theorem fl_Pen_0 {a0 : Nat} {a1 : Nat} {a2 : Nat} {a3 : Int64} {a4 : Int64} {a5 : Int64} {a6 : Int64} {a7 : Int64} {a8 : Int64} {a9 : Int32} : 0 < (f_Pen a0 a1 a2 a3 a4 a5 a6 a7 a8 a9).length := Nat.le_of_ble_eq_true rfl
theorem fs_Pen_0 {a0 : Nat} {a1 : Nat} {a2 : Nat} {a3 : Int64} {a4 : Int64} {a5 : Int64} {a6 : Int64} {a7 : Int64} {a8 : Int64} {a9 : Int32} {b : Nat} : (f_Pen a0 a1 a2 a3 a4 a5 a6 a7 a8 a9).set 0 (.ref b) = f_Pen b a1 a2 a3 a4 a5 a6 a7 a8 a9 := rfl
theorem fg_Pen_1 {a0 : Nat} {a1 : Nat} {a2 : Nat} {a3 : Int64} {a4 : Int64} {a5 : Int64} {a6 : Int64} {a7 : Int64} {a8 : Int64} {a9 : Int32} : (f_Pen a0 a1 a2 a3 a4 a5 a6 a7 a8 a9)[1]? = some (.ref a1) := rfl
theorem fl_Pen_1 {a0 : Nat} {a1 : Nat} {a2 : Nat} {a3 : Int64} {a4 : Int64} {a5 : Int64} {a6 : Int64} {a7 : Int64} {a8 : Int64} {a9 : Int32} : 1 < (f_Pen a0 a1 a2 a3 a4 a5 a6 a7 a8 a9).length := Nat.le_of_ble_eq_true rfl
theorem fs_Pen_1 {a0 : Nat} {a1 : Nat} {a2 : Nat} {a3 : Int64} {a4 : Int64} {a5 : Int64} {a6 : Int64} {a7 : Int64} {a8 : Int64} {a9 : Int32} {b : Nat} : (f_Pen a0 a1 a2 a3 a4 a5 a6 a7 a8 a9).set 1 (.ref b) = f_Pen a0 b a2 a3 a4 a5 a6 a7 a8 a9 := rfl
theorem fg_Pen_2 {a0 : Nat} {a1 : Nat} {a2 : Nat} {a3 : Int64} {a4 : Int64} {a5 : Int64} {a6 : Int64} {a7 : Int64} {a8 : Int64} {a9 : Int32} : (f_Pen a0 a1 a2 a3 a4 a5 a6 a7 a8 a9)[2]? = some (.ref a2) := rfl
theorem fl_Pen_2 {a0 : Nat} {a1 : Nat} {a2 : Nat} {a3 : Int64} {a4 : Int64} {a5 : Int64} {a6 : Int64} {a7 : Int64} {a8 : Int64} {a9 : Int32} : 2 < (f_Pen a0 a1 a2 a3 a4 a5 a6 a7 a8 a9).length := Nat.le_of_ble_eq_true rfl
theorem fs_Pen_2 {a0 : Nat} {a1 : Nat} {a2 : Nat} {a3 : Int64} {a4 : Int64} {a5 : Int64} {a6 : Int64} {a7 : Int64} {a8 : Int64} {a9 : Int32} {b : Nat} : (f_Pen a0 a1 a2 a3 a4 a5 a6 a7 a8 a9).set 2 (.ref b) = f_Pen a0 a1 b a3 a4 a5 a6 a7 a8 a9 := rfl
theorem fg_Pen_3 {a0 : Nat} {a1 : Nat} {a2 : Nat} {a3 : Int64} {a4 : Int64} {a5 : Int64} {a6 : Int64} {a7 : Int64} {a8 : Int64} {a9 : Int32} : (f_Pen a0 a1 a2 a3 a4 a5 a6 a7 a8 a9)[3]? = some (.long a3) := rfl
theorem fl_Pen_3 {a0 : Nat} {a1 : Nat} {a2 : Nat} {a3 : Int64} {a4 : Int64} {a5 : Int64} {a6 : Int64} {a7 : Int64} {a8 : Int64} {a9 : Int32} : 3 < (f_Pen a0 a1 a2 a3 a4 a5 a6 a7 a8 a9).length := Nat.le_of_ble_eq_true rfl
theorem fs_Pen_3 {a0 : Nat} {a1 : Nat} {a2 : Nat} {a3 : Int64} {a4 : Int64} {a5 : Int64} {a6 : Int64} {a7 : Int64} {a8 : Int64} {a9 : Int32} {b : Int64} : (f_Pen a0 a1 a2 a3 a4 a5 a6 a7 a8 a9).set 3 (.long b) = f_Pen a0 a1 a2 b a4 a5 a6 a7 a8 a9 := rfl
theorem fg_Pen_4 {a0 : Nat} {a1 : Nat} {a2 : Nat} {a3 : Int64} {a4 : Int64} {a5 : Int64} {a6 : Int64} {a7 : Int64} {a8 : Int64} {a9 : Int32} : (f_Pen a0 a1 a2 a3 a4 a5 a6 a7 a8 a9)[4]? = some (.long a4) := rfl
theorem fl_Pen_4 {a0 : Nat} {a1 : Nat} {a2 : Nat} {a3 : Int64} {a4 : Int64} {a5 : Int64} {a6 : Int64} {a7 : Int64} {a8 : Int64} {a9 : Int32} : 4 < (f_Pen a0 a1 a2 a3 a4 a5 a6 a7 a8 a9).length := Nat.le_of_ble_eq_true rfl
theorem fs_Pen_4 {a0 : Nat} {a1 : Nat} {a2 : Nat} {a3 : Int64} {a4 : Int64} {a5 : Int64} {a6 : Int64} {a7 : Int64} {a8 : Int64} {a9 : Int32} {b : Int64} : (f_Pen a0 a1 a2 a3 a4 a5 a6 a7 a8 a9).set 4 (.long b) = f_Pen a0 a1 a2 a3 b a5 a6 a7 a8 a9 := rfl
theorem fg_Pen_5 {a0 : Nat} {a1 : Nat} {a2 : Nat} {a3 : Int64} {a4 : Int64} {a5 : Int64} {a6 : Int64} {a7 : Int64} {a8 : Int64} {a9 : Int32} : (f_Pen a0 a1 a2 a3 a4 a5 a6 a7 a8 a9)[5]? = some (.long a5) := rfl
theorem fl_Pen_5 {a0 : Nat} {a1 : Nat} {a2 : Nat} {a3 : Int64} {a4 : Int64} {a5 : Int64} {a6 : Int64} {a7 : Int64} {a8 : Int64} {a9 : Int32} : 5 < (f_Pen a0 a1 a2 a3 a4 a5 a6 a7 a8 a9).length := Nat.le_of_ble_eq_true rfl
theorem fs_Pen_5 {a0 : Nat} {a1 : Nat} {a2 : Nat} {a3 : Int64} {a4 : Int64} {a5 : Int64} {a6 : Int64} {a7 : Int64} {a8 : Int64} {a9 : Int32} {b : Int64} : (f_Pen a0 a1 a2 a3 a4 a5 a6 a7 a8 a9).set 5 (.long b) = f_Pen a0 a1 a2 a3 a4 b a6 a7 a8 a9 := rfl
theorem fg_Pen_6 {a0 : Nat} {a1 : Nat} {a2 : Nat} {a3 : Int64} {a4 : Int64} {a5 : Int64} {a6 : Int64} {a7 : Int64} {a8 : Int64} {a9 : Int32} : (f_Pen a0 a1 a2 a3 a4 a5 a6 a7 a8 a9)[6]? = some (.long a6) := rfl
theorem fl_Pen_6 {a0 : Nat} {a1 : Nat} {a2 : Nat} {a3 : Int64} {a4 : Int64} {a5 : Int64} {a6 : Int64} {a7 : Int64} {a8 : Int64} {a9 : Int32} : 6 < (f_Pen a0 a1 a2 a3 a4 a5 a6 a7 a8 a9).length := Nat.le_of_ble_eq_true rfl
theorem fs_Pen_6 {a0 : Nat} {a1 : Nat} {a2 : Nat} {a3 : Int64} {a4 : Int64} {a5 : Int64} {a6 : Int64} {a7 : Int64} {a8 : Int64} {a9 : Int32} {b : Int64} : (f_Pen a0 a1 a2 a3 a4 a5 a6 a7 a8 a9).set 6 (.long b) = f_Pen a0 a1 a2 a3 a4 a5 b a7 a8 a9 := rfl
theorem fg_Pen_7 {a0 : Nat} {a1 : Nat} {a2 : Nat} {a3 : Int64} {a4 : Int64} {a5 : Int64} {a6 : Int64} {a7 : Int64} {a8 : Int64} {a9 : Int32} : (f_Pen a0 a1 a2 a3 a4 a5 a6 a7 a8 a9)[7]? = some (.long a7) := rfl
theorem fl_Pen_7 {a0 : Nat} {a1 : Nat} {a2 : Nat} {a3 : Int64} {a4 : Int64} {a5 : Int64} {a6 : Int64} {a7 : Int64} {a8 : Int64} {a9 : Int32} : 7 < (f_Pen a0 a1 a2 a3 a4 a5 a6 a7 a8 a9).length := Nat.le_of_ble_eq_true rfl
theorem fs_Pen_7 {a0 : Nat} {a1 : Nat} {a2 : Nat} {a3 : Int64} {a4 : Int64} {a5 : Int64} {a6 : Int64} {a7 : Int64} {a8 : Int64} {a9 : Int32} {b : Int64} : (f_Pen a0 a1 a2 a3 a4 a5 a6 a7 a8 a9).set 7 (.long b) = f_Pen a0 a1 a2 a3 a4 a5 a6 b a8 a9 := rfl
theorem fg_Pen_8 {a0 : Nat} {a1 : Nat} {a2 : Nat} {a3 : Int64} {a4 : Int64} {a5 : Int64} {a6 : Int64} {a7 : Int64} {a8 : Int64} {a9 : Int32} : (f_Pen a0 a1 a2 a3 a4 a5 a6 a7 a8 a9)[8]? = some (.long a8) := rfl
theorem fl_Pen_8 {a0 : Nat} {a1 : Nat} {a2 : Nat} {a3 : Int64} {a4 : Int64} {a5 : Int64} {a6 : Int64} {a7 : Int64} {a8 : Int64} {a9 : Int32} : 8 < (f_Pen a0 a1 a2 a3 a4 a5 a6 a7 a8 a9).length := Nat.le_of_ble_eq_true rfl
theorem fs_Pen_8 {a0 : Nat} {a1 : Nat} {a2 : Nat} {a3 : Int64} {a4 : Int64} {a5 : Int64} {a6 : Int64} {a7 : Int64} {a8 : Int64} {a9 : Int32} {b : Int64} : (f_Pen a0 a1 a2 a3 a4 a5 a6 a7 a8 a9).set 8 (.long b) = f_Pen a0 a1 a2 a3 a4 a5 a6 a7 b a9 := rfl
theorem fg_Pen_9 {a0 : Nat} {a1 : Nat} {a2 : Nat} {a3 : Int64} {a4 : Int64} {a5 : Int64} {a6 : Int64} {a7 : Int64} {a8 : Int64} {a9 : Int32} : (f_Pen a0 a1 a2 a3 a4 a5 a6 a7 a8 a9)[9]? = some (.int a9) := rfl
theorem fl_Pen_9 {a0 : Nat} {a1 : Nat} {a2 : Nat} {a3 : Int64} {a4 : Int64} {a5 : Int64} {a6 : Int64} {a7 : Int64} {a8 : Int64} {a9 : Int32} : 9 < (f_Pen a0 a1 a2 a3 a4 a5 a6 a7 a8 a9).length := Nat.le_of_ble_eq_true rfl
theorem fs_Pen_9 {a0 : Nat} {a1 : Nat} {a2 : Nat} {a3 : Int64} {a4 : Int64} {a5 : Int64} {a6 : Int64} {a7 : Int64} {a8 : Int64} {a9 : Int32} {b : Int32} : (f_Pen a0 a1 a2 a3 a4 a5 a6 a7 a8 a9).set 9 (.int b) = f_Pen a0 a1 a2 a3 a4 a5 a6 a7 a8 b := rfl
def f_Reader (a0 : Nat) (a1 : Nat) (a2 : Nat) (a3 : Int32) (a4 : Int32) (a5 : Int32) : List Value := [.ref a0, .ref a1, .ref a2, .int a3, .int a4, .int a5]
theorem fg_Reader_0 {a0 : Nat} {a1 : Nat} {a2 : Nat} {a3 : Int32} {a4 : Int32} {a5 : Int32} : (f_Reader a0 a1 a2 a3 a4 a5)[0]? = some (.ref a0) := rfl
theorem fl_Reader_0 {a0 : Nat} {a1 : Nat} {a2 : Nat} {a3 : Int32} {a4 : Int32} {a5 : Int32} : 0 < (f_Reader a0 a1 a2 a3 a4 a5).length := Nat.le_of_ble_eq_true rfl
theorem fs_Reader_0 {a0 : Nat} {a1 : Nat} {a2 : Nat} {a3 : Int32} {a4 : Int32} {a5 : Int32} {b : Nat} : (f_Reader a0 a1 a2 a3 a4 a5).set 0 (.ref b) = f_Reader b a1 a2 a3 a4 a5 := rfl
theorem fg_Reader_1 {a0 : Nat} {a1 : Nat} {a2 : Nat} {a3 : Int32} {a4 : Int32} {a5 : Int32} : (f_Reader a0 a1 a2 a3 a4 a5)[1]? = some (.ref a1) := rfl
theorem fl_Reader_1 {a0 : Nat} {a1 : Nat} {a2 : Nat} {a3 : Int32} {a4 : Int32} {a5 : Int32} : 1 < (f_Reader a0 a1 a2 a3 a4 a5).length := Nat.le_of_ble_eq_true rfl
theorem fs_Reader_1 {a0 : Nat} {a1 : Nat} {a2 : Nat} {a3 : Int32} {a4 : Int32} {a5 : Int32} {b : Nat} : (f_Reader a0 a1 a2 a3 a4 a5).set 1 (.ref b) = f_Reader a0 b a2 a3 a4 a5 := rfl
theorem fg_Reader_2 {a0 : Nat} {a1 : Nat} {a2 : Nat} {a3 : Int32} {a4 : Int32} {a5 : Int32} : (f_Reader a0 a1 a2 a3 a4 a5)[2]? = some (.ref a2) := rfl
theorem fl_Reader_2 {a0 : Nat} {a1 : Nat} {a2 : Nat} {a3 : Int32} {a4 : Int32} {a5 : Int32} : 2 < (f_Reader a0 a1 a2 a3 a4 a5).length := Nat.le_of_ble_eq_true rfl
theorem fs_Reader_2 {a0 : Nat} {a1 : Nat} {a2 : Nat} {a3 : Int32} {a4 : Int32} {a5 : Int32} {b : Nat} : (f_Reader a0 a1 a2 a3 a4 a5).set 2 (.ref b) = f_Reader a0 a1 b a3 a4 a5 := rfl
theorem fg_Reader_3 {a0 : Nat} {a1 : Nat} {a2 : Nat} {a3 : Int32} {a4 : Int32} {a5 : Int32} : (f_Reader a0 a1 a2 a3 a4 a5)[3]? = some (.int a3) := rfl
theorem fl_Reader_3 {a0 : Nat} {a1 : Nat} {a2 : Nat} {a3 : Int32} {a4 : Int32} {a5 : Int32} : 3 < (f_Reader a0 a1 a2 a3 a4 a5).length := Nat.le_of_ble_eq_true rfl
theorem fs_Reader_3 {a0 : Nat} {a1 : Nat} {a2 : Nat} {a3 : Int32} {a4 : Int32} {a5 : Int32} {b : Int32} : (f_Reader a0 a1 a2 a3 a4 a5).set 3 (.int b) = f_Reader a0 a1 a2 b a4 a5 := rfl
theorem fg_Reader_4 {a0 : Nat} {a1 : Nat} {a2 : Nat} {a3 : Int32} {a4 : Int32} {a5 : Int32} : (f_Reader a0 a1 a2 a3 a4 a5)[4]? = some (.int a4) := rfl
theorem fl_Reader_4 {a0 : Nat} {a1 : Nat} {a2 : Nat} {a3 : Int32} {a4 : Int32} {a5 : Int32} : 4 < (f_Reader a0 a1 a2 a3 a4 a5).length := Nat.le_of_ble_eq_true rfl
theorem fs_Reader_4 {a0 : Nat} {a1 : Nat} {a2 : Nat} {a3 : Int32} {a4 : Int32} {a5 : Int32} {b : Int32} : (f_Reader a0 a1 a2 a3 a4 a5).set 4 (.int b) = f_Reader a0 a1 a2 a3 b a5 := rfl
theorem fg_Reader_5 {a0 : Nat} {a1 : Nat} {a2 : Nat} {a3 : Int32} {a4 : Int32} {a5 : Int32} : (f_Reader a0 a1 a2 a3 a4 a5)[5]? = some (.int a5) := rfl
theorem fl_Reader_5 {a0 : Nat} {a1 : Nat} {a2 : Nat} {a3 : Int32} {a4 : Int32} {a5 : Int32} : 5 < (f_Reader a0 a1 a2 a3 a4 a5).length := Nat.le_of_ble_eq_true rfl
theorem fs_Reader_5 {a0 : Nat} {a1 : Nat} {a2 : Nat} {a3 : Int32} {a4 : Int32} {a5 : Int32} {b : Int32} : (f_Reader a0 a1 a2 a3 a4 a5).set 5 (.int b) = f_Reader a0 a1 a2 a3 a4 b := rfl
def f_Row (a0 : Nat) (a1 : Int32) : List Value := [.ref a0, .int a1]
theorem fg_Row_0 {a0 : Nat} {a1 : Int32} : (f_Row a0 a1)[0]? = some (.ref a0) := rfl
theorem fl_Row_0 {a0 : Nat} {a1 : Int32} : 0 < (f_Row a0 a1).length := Nat.le_of_ble_eq_true rfl
theorem fs_Row_0 {a0 : Nat} {a1 : Int32} {b : Nat} : (f_Row a0 a1).set 0 (.ref b) = f_Row b a1 := rfl
theorem fg_Row_1 {a0 : Nat} {a1 : Int32} : (f_Row a0 a1)[1]? = some (.int a1) := rfl
theorem fl_Row_1 {a0 : Nat} {a1 : Int32} : 1 < (f_Row a0 a1).length := Nat.le_of_ble_eq_true rfl
theorem fs_Row_1 {a0 : Nat} {a1 : Int32} {b : Int32} : (f_Row a0 a1).set 1 (.int b) = f_Row a0 b := rfl
def f_P (a0 : Nat) (a1 : Nat) (a2 : Nat) (a3 : Nat) (a4 : Nat) (a5 : Nat) (a6 : Nat) : List Value := [.ref a0, .ref a1, .ref a2, .ref a3, .ref a4, .ref a5, .ref a6]
theorem fg_P_0 {a0 : Nat} {a1 : Nat} {a2 : Nat} {a3 : Nat} {a4 : Nat} {a5 : Nat} {a6 : Nat} : (f_P a0 a1 a2 a3 a4 a5 a6)[0]? = some (.ref a0) := rfl
theorem fl_P_0 {a0 : Nat} {a1 : Nat} {a2 : Nat} {a3 : Nat} {a4 : Nat} {a5 : Nat} {a6 : Nat} : 0 < (f_P a0 a1 a2 a3 a4 a5 a6).length := Nat.le_of_ble_eq_true rfl
theorem fs_P_0 {a0 : Nat} {a1 : Nat} {a2 : Nat} {a3 : Nat} {a4 : Nat} {a5 : Nat} {a6 : Nat} {b : Nat} : (f_P a0 a1 a2 a3 a4 a5 a6).set 0 (.ref b) = f_P b a1 a2 a3 a4 a5 a6 := rfl
theorem fg_P_1 {a0 : Nat} {a1 : Nat} {a2 : Nat} {a3 : Nat} {a4 : Nat} {a5 : Nat} {a6 : Nat} : (f_P a0 a1 a2 a3 a4 a5 a6)[1]? = some (.ref a1) := rfl
theorem fl_P_1 {a0 : Nat} {a1 : Nat} {a2 : Nat} {a3 : Nat} {a4 : Nat} {a5 : Nat} {a6 : Nat} : 1 < (f_P a0 a1 a2 a3 a4 a5 a6).length := Nat.le_of_ble_eq_true rfl
theorem fs_P_1 {a0 : Nat} {a1 : Nat} {a2 : Nat} {a3 : Nat} {a4 : Nat} {a5 : Nat} {a6 : Nat} {b : Nat} : (f_P a0 a1 a2 a3 a4 a5 a6).set 1 (.ref b) = f_P a0 b a2 a3 a4 a5 a6 := rfl
theorem fg_P_2 {a0 : Nat} {a1 : Nat} {a2 : Nat} {a3 : Nat} {a4 : Nat} {a5 : Nat} {a6 : Nat} : (f_P a0 a1 a2 a3 a4 a5 a6)[2]? = some (.ref a2) := rfl
theorem fl_P_2 {a0 : Nat} {a1 : Nat} {a2 : Nat} {a3 : Nat} {a4 : Nat} {a5 : Nat} {a6 : Nat} : 2 < (f_P a0 a1 a2 a3 a4 a5 a6).length := Nat.le_of_ble_eq_true rfl
theorem fs_P_2 {a0 : Nat} {a1 : Nat} {a2 : Nat} {a3 : Nat} {a4 : Nat} {a5 : Nat} {a6 : Nat} {b : Nat} : (f_P a0 a1 a2 a3 a4 a5 a6).set 2 (.ref b) = f_P a0 a1 b a3 a4 a5 a6 := rfl
theorem fg_P_3 {a0 : Nat} {a1 : Nat} {a2 : Nat} {a3 : Nat} {a4 : Nat} {a5 : Nat} {a6 : Nat} : (f_P a0 a1 a2 a3 a4 a5 a6)[3]? = some (.ref a3) := rfl
theorem fl_P_3 {a0 : Nat} {a1 : Nat} {a2 : Nat} {a3 : Nat} {a4 : Nat} {a5 : Nat} {a6 : Nat} : 3 < (f_P a0 a1 a2 a3 a4 a5 a6).length := Nat.le_of_ble_eq_true rfl
theorem fs_P_3 {a0 : Nat} {a1 : Nat} {a2 : Nat} {a3 : Nat} {a4 : Nat} {a5 : Nat} {a6 : Nat} {b : Nat} : (f_P a0 a1 a2 a3 a4 a5 a6).set 3 (.ref b) = f_P a0 a1 a2 b a4 a5 a6 := rfl
theorem fg_P_4 {a0 : Nat} {a1 : Nat} {a2 : Nat} {a3 : Nat} {a4 : Nat} {a5 : Nat} {a6 : Nat} : (f_P a0 a1 a2 a3 a4 a5 a6)[4]? = some (.ref a4) := rfl
theorem fl_P_4 {a0 : Nat} {a1 : Nat} {a2 : Nat} {a3 : Nat} {a4 : Nat} {a5 : Nat} {a6 : Nat} : 4 < (f_P a0 a1 a2 a3 a4 a5 a6).length := Nat.le_of_ble_eq_true rfl
theorem fs_P_4 {a0 : Nat} {a1 : Nat} {a2 : Nat} {a3 : Nat} {a4 : Nat} {a5 : Nat} {a6 : Nat} {b : Nat} : (f_P a0 a1 a2 a3 a4 a5 a6).set 4 (.ref b) = f_P a0 a1 a2 a3 b a5 a6 := rfl
theorem fg_P_5 {a0 : Nat} {a1 : Nat} {a2 : Nat} {a3 : Nat} {a4 : Nat} {a5 : Nat} {a6 : Nat} : (f_P a0 a1 a2 a3 a4 a5 a6)[5]? = some (.ref a5) := rfl
theorem fl_P_5 {a0 : Nat} {a1 : Nat} {a2 : Nat} {a3 : Nat} {a4 : Nat} {a5 : Nat} {a6 : Nat} : 5 < (f_P a0 a1 a2 a3 a4 a5 a6).length := Nat.le_of_ble_eq_true rfl
theorem fs_P_5 {a0 : Nat} {a1 : Nat} {a2 : Nat} {a3 : Nat} {a4 : Nat} {a5 : Nat} {a6 : Nat} {b : Nat} : (f_P a0 a1 a2 a3 a4 a5 a6).set 5 (.ref b) = f_P a0 a1 a2 a3 a4 b a6 := rfl
theorem fg_P_6 {a0 : Nat} {a1 : Nat} {a2 : Nat} {a3 : Nat} {a4 : Nat} {a5 : Nat} {a6 : Nat} : (f_P a0 a1 a2 a3 a4 a5 a6)[6]? = some (.ref a6) := rfl
theorem fl_P_6 {a0 : Nat} {a1 : Nat} {a2 : Nat} {a3 : Nat} {a4 : Nat} {a5 : Nat} {a6 : Nat} : 6 < (f_P a0 a1 a2 a3 a4 a5 a6).length := Nat.le_of_ble_eq_true rfl
theorem fs_P_6 {a0 : Nat} {a1 : Nat} {a2 : Nat} {a3 : Nat} {a4 : Nat} {a5 : Nat} {a6 : Nat} {b : Nat} : (f_P a0 a1 a2 a3 a4 a5 a6).set 6 (.ref b) = f_P a0 a1 a2 a3 a4 a5 b := rfl
def f_Model (a0 : Int32) (a1 : Int32) (a2 : Nat) (a3 : Int32) (a4 : Nat) (a5 : Nat) (a6 : Int32) (a7 : Nat) (a8 : Nat) (a9 : Int32) (a10 : Nat) (a11 : Int32) (a12 : Int64) (a13 : Int32) (a14 : Int32) (a15 : Int64) (a16 : Int64) (a17 : Int64) (a18 : Int64) (a19 : Int32) (a20 : Int64) (a21 : Int64) (a22 : Nat) (a23 : Int32) (a24 : Nat) (a25 : Int32) (a26 : Nat) (a27 : Nat) (a28 : Nat) (a29 : Nat) (a30 : Int32) (a31 : Int32) (a32 : Nat) (a33 : Int32) (a34 : Int64) : List Value := [.int a0, .int a1, .ref a2, .int a3, .ref a4, .ref a5, .int a6, .ref a7, .ref a8, .int a9, .ref a10, .int a11, .long a12, .int a13, .int a14, .long a15, .long a16, .long a17, .long a18, .int a19, .long a20, .long a21, .ref a22, .int a23, .ref a24, .int a25, .ref a26, .ref a27, .ref a28, .ref a29, .int a30, .int a31, .ref a32, .int a33, .long a34]
theorem fg_Model_0 {a0 : Int32} {a1 : Int32} {a2 : Nat} {a3 : Int32} {a4 : Nat} {a5 : Nat} {a6 : Int32} {a7 : Nat} {a8 : Nat} {a9 : Int32} {a10 : Nat} {a11 : Int32} {a12 : Int64} {a13 : Int32} {a14 : Int32} {a15 : Int64} {a16 : Int64} {a17 : Int64} {a18 : Int64} {a19 : Int32} {a20 : Int64} {a21 : Int64} {a22 : Nat} {a23 : Int32} {a24 : Nat} {a25 : Int32} {a26 : Nat} {a27 : Nat} {a28 : Nat} {a29 : Nat} {a30 : Int32} {a31 : Int32} {a32 : Nat} {a33 : Int32} {a34 : Int64} : (f_Model a0 a1 a2 a3 a4 a5 a6 a7 a8 a9 a10 a11 a12 a13 a14 a15 a16 a17 a18 a19 a20 a21 a22 a23 a24 a25 a26 a27 a28 a29 a30 a31 a32 a33 a34)[0]? = some (.int a0) := rfl
theorem fl_Model_0 {a0 : Int32} {a1 : Int32} {a2 : Nat} {a3 : Int32} {a4 : Nat} {a5 : Nat} {a6 : Int32} {a7 : Nat} {a8 : Nat} {a9 : Int32} {a10 : Nat} {a11 : Int32} {a12 : Int64} {a13 : Int32} {a14 : Int32} {a15 : Int64} {a16 : Int64} {a17 : Int64} {a18 : Int64} {a19 : Int32} {a20 : Int64} {a21 : Int64} {a22 : Nat} {a23 : Int32} {a24 : Nat} {a25 : Int32} {a26 : Nat} {a27 : Nat} {a28 : Nat} {a29 : Nat} {a30 : Int32} {a31 : Int32} {a32 : Nat} {a33 : Int32} {a34 : Int64} : 0 < (f_Model a0 a1 a2 a3 a4 a5 a6 a7 a8 a9 a10 a11 a12 a13 a14 a15 a16 a17 a18 a19 a20 a21 a22 a23 a24 a25 a26 a27 a28 a29 a30 a31 a32 a33 a34).length := Nat.le_of_ble_eq_true rfl
theorem fs_Model_0 {a0 : Int32} {a1 : Int32} {a2 : Nat} {a3 : Int32} {a4 : Nat} {a5 : Nat} {a6 : Int32} {a7 : Nat} {a8 : Nat} {a9 : Int32} {a10 : Nat} {a11 : Int32} {a12 : Int64} {a13 : Int32} {a14 : Int32} {a15 : Int64} {a16 : Int64} {a17 : Int64} {a18 : Int64} {a19 : Int32} {a20 : Int64} {a21 : Int64} {a22 : Nat} {a23 : Int32} {a24 : Nat} {a25 : Int32} {a26 : Nat} {a27 : Nat} {a28 : Nat} {a29 : Nat} {a30 : Int32} {a31 : Int32} {a32 : Nat} {a33 : Int32} {a34 : Int64} {b : Int32} : (f_Model a0 a1 a2 a3 a4 a5 a6 a7 a8 a9 a10 a11 a12 a13 a14 a15 a16 a17 a18 a19 a20 a21 a22 a23 a24 a25 a26 a27 a28 a29 a30 a31 a32 a33 a34).set 0 (.int b) = f_Model b a1 a2 a3 a4 a5 a6 a7 a8 a9 a10 a11 a12 a13 a14 a15 a16 a17 a18 a19 a20 a21 a22 a23 a24 a25 a26 a27 a28 a29 a30 a31 a32 a33 a34 := rfl
theorem fg_Model_1 {a0 : Int32} {a1 : Int32} {a2 : Nat} {a3 : Int32} {a4 : Nat} {a5 : Nat} {a6 : Int32} {a7 : Nat} {a8 : Nat} {a9 : Int32} {a10 : Nat} {a11 : Int32} {a12 : Int64} {a13 : Int32} {a14 : Int32} {a15 : Int64} {a16 : Int64} {a17 : Int64} {a18 : Int64} {a19 : Int32} {a20 : Int64} {a21 : Int64} {a22 : Nat} {a23 : Int32} {a24 : Nat} {a25 : Int32} {a26 : Nat} {a27 : Nat} {a28 : Nat} {a29 : Nat} {a30 : Int32} {a31 : Int32} {a32 : Nat} {a33 : Int32} {a34 : Int64} : (f_Model a0 a1 a2 a3 a4 a5 a6 a7 a8 a9 a10 a11 a12 a13 a14 a15 a16 a17 a18 a19 a20 a21 a22 a23 a24 a25 a26 a27 a28 a29 a30 a31 a32 a33 a34)[1]? = some (.int a1) := rfl
theorem fl_Model_1 {a0 : Int32} {a1 : Int32} {a2 : Nat} {a3 : Int32} {a4 : Nat} {a5 : Nat} {a6 : Int32} {a7 : Nat} {a8 : Nat} {a9 : Int32} {a10 : Nat} {a11 : Int32} {a12 : Int64} {a13 : Int32} {a14 : Int32} {a15 : Int64} {a16 : Int64} {a17 : Int64} {a18 : Int64} {a19 : Int32} {a20 : Int64} {a21 : Int64} {a22 : Nat} {a23 : Int32} {a24 : Nat} {a25 : Int32} {a26 : Nat} {a27 : Nat} {a28 : Nat} {a29 : Nat} {a30 : Int32} {a31 : Int32} {a32 : Nat} {a33 : Int32} {a34 : Int64} : 1 < (f_Model a0 a1 a2 a3 a4 a5 a6 a7 a8 a9 a10 a11 a12 a13 a14 a15 a16 a17 a18 a19 a20 a21 a22 a23 a24 a25 a26 a27 a28 a29 a30 a31 a32 a33 a34).length := Nat.le_of_ble_eq_true rfl
theorem fs_Model_1 {a0 : Int32} {a1 : Int32} {a2 : Nat} {a3 : Int32} {a4 : Nat} {a5 : Nat} {a6 : Int32} {a7 : Nat} {a8 : Nat} {a9 : Int32} {a10 : Nat} {a11 : Int32} {a12 : Int64} {a13 : Int32} {a14 : Int32} {a15 : Int64} {a16 : Int64} {a17 : Int64} {a18 : Int64} {a19 : Int32} {a20 : Int64} {a21 : Int64} {a22 : Nat} {a23 : Int32} {a24 : Nat} {a25 : Int32} {a26 : Nat} {a27 : Nat} {a28 : Nat} {a29 : Nat} {a30 : Int32} {a31 : Int32} {a32 : Nat} {a33 : Int32} {a34 : Int64} {b : Int32} : (f_Model a0 a1 a2 a3 a4 a5 a6 a7 a8 a9 a10 a11 a12 a13 a14 a15 a16 a17 a18 a19 a20 a21 a22 a23 a24 a25 a26 a27 a28 a29 a30 a31 a32 a33 a34).set 1 (.int b) = f_Model a0 b a2 a3 a4 a5 a6 a7 a8 a9 a10 a11 a12 a13 a14 a15 a16 a17 a18 a19 a20 a21 a22 a23 a24 a25 a26 a27 a28 a29 a30 a31 a32 a33 a34 := rfl
theorem fg_Model_2 {a0 : Int32} {a1 : Int32} {a2 : Nat} {a3 : Int32} {a4 : Nat} {a5 : Nat} {a6 : Int32} {a7 : Nat} {a8 : Nat} {a9 : Int32} {a10 : Nat} {a11 : Int32} {a12 : Int64} {a13 : Int32} {a14 : Int32} {a15 : Int64} {a16 : Int64} {a17 : Int64} {a18 : Int64} {a19 : Int32} {a20 : Int64} {a21 : Int64} {a22 : Nat} {a23 : Int32} {a24 : Nat} {a25 : Int32} {a26 : Nat} {a27 : Nat} {a28 : Nat} {a29 : Nat} {a30 : Int32} {a31 : Int32} {a32 : Nat} {a33 : Int32} {a34 : Int64} : (f_Model a0 a1 a2 a3 a4 a5 a6 a7 a8 a9 a10 a11 a12 a13 a14 a15 a16 a17 a18 a19 a20 a21 a22 a23 a24 a25 a26 a27 a28 a29 a30 a31 a32 a33 a34)[2]? = some (.ref a2) := rfl
theorem fl_Model_2 {a0 : Int32} {a1 : Int32} {a2 : Nat} {a3 : Int32} {a4 : Nat} {a5 : Nat} {a6 : Int32} {a7 : Nat} {a8 : Nat} {a9 : Int32} {a10 : Nat} {a11 : Int32} {a12 : Int64} {a13 : Int32} {a14 : Int32} {a15 : Int64} {a16 : Int64} {a17 : Int64} {a18 : Int64} {a19 : Int32} {a20 : Int64} {a21 : Int64} {a22 : Nat} {a23 : Int32} {a24 : Nat} {a25 : Int32} {a26 : Nat} {a27 : Nat} {a28 : Nat} {a29 : Nat} {a30 : Int32} {a31 : Int32} {a32 : Nat} {a33 : Int32} {a34 : Int64} : 2 < (f_Model a0 a1 a2 a3 a4 a5 a6 a7 a8 a9 a10 a11 a12 a13 a14 a15 a16 a17 a18 a19 a20 a21 a22 a23 a24 a25 a26 a27 a28 a29 a30 a31 a32 a33 a34).length := Nat.le_of_ble_eq_true rfl
theorem fs_Model_2 {a0 : Int32} {a1 : Int32} {a2 : Nat} {a3 : Int32} {a4 : Nat} {a5 : Nat} {a6 : Int32} {a7 : Nat} {a8 : Nat} {a9 : Int32} {a10 : Nat} {a11 : Int32} {a12 : Int64} {a13 : Int32} {a14 : Int32} {a15 : Int64} {a16 : Int64} {a17 : Int64} {a18 : Int64} {a19 : Int32} {a20 : Int64} {a21 : Int64} {a22 : Nat} {a23 : Int32} {a24 : Nat} {a25 : Int32} {a26 : Nat} {a27 : Nat} {a28 : Nat} {a29 : Nat} {a30 : Int32} {a31 : Int32} {a32 : Nat} {a33 : Int32} {a34 : Int64} {b : Nat} : (f_Model a0 a1 a2 a3 a4 a5 a6 a7 a8 a9 a10 a11 a12 a13 a14 a15 a16 a17 a18 a19 a20 a21 a22 a23 a24 a25 a26 a27 a28 a29 a30 a31 a32 a33 a34).set 2 (.ref b) = f_Model a0 a1 b a3 a4 a5 a6 a7 a8 a9 a10 a11 a12 a13 a14 a15 a16 a17 a18 a19 a20 a21 a22 a23 a24 a25 a26 a27 a28 a29 a30 a31 a32 a33 a34 := rfl
theorem fg_Model_3 {a0 : Int32} {a1 : Int32} {a2 : Nat} {a3 : Int32} {a4 : Nat} {a5 : Nat} {a6 : Int32} {a7 : Nat} {a8 : Nat} {a9 : Int32} {a10 : Nat} {a11 : Int32} {a12 : Int64} {a13 : Int32} {a14 : Int32} {a15 : Int64} {a16 : Int64} {a17 : Int64} {a18 : Int64} {a19 : Int32} {a20 : Int64} {a21 : Int64} {a22 : Nat} {a23 : Int32} {a24 : Nat} {a25 : Int32} {a26 : Nat} {a27 : Nat} {a28 : Nat} {a29 : Nat} {a30 : Int32} {a31 : Int32} {a32 : Nat} {a33 : Int32} {a34 : Int64} : (f_Model a0 a1 a2 a3 a4 a5 a6 a7 a8 a9 a10 a11 a12 a13 a14 a15 a16 a17 a18 a19 a20 a21 a22 a23 a24 a25 a26 a27 a28 a29 a30 a31 a32 a33 a34)[3]? = some (.int a3) := rfl
theorem fl_Model_3 {a0 : Int32} {a1 : Int32} {a2 : Nat} {a3 : Int32} {a4 : Nat} {a5 : Nat} {a6 : Int32} {a7 : Nat} {a8 : Nat} {a9 : Int32} {a10 : Nat} {a11 : Int32} {a12 : Int64} {a13 : Int32} {a14 : Int32} {a15 : Int64} {a16 : Int64} {a17 : Int64} {a18 : Int64} {a19 : Int32} {a20 : Int64} {a21 : Int64} {a22 : Nat} {a23 : Int32} {a24 : Nat} {a25 : Int32} {a26 : Nat} {a27 : Nat} {a28 : Nat} {a29 : Nat} {a30 : Int32} {a31 : Int32} {a32 : Nat} {a33 : Int32} {a34 : Int64} : 3 < (f_Model a0 a1 a2 a3 a4 a5 a6 a7 a8 a9 a10 a11 a12 a13 a14 a15 a16 a17 a18 a19 a20 a21 a22 a23 a24 a25 a26 a27 a28 a29 a30 a31 a32 a33 a34).length := Nat.le_of_ble_eq_true rfl
theorem fs_Model_3 {a0 : Int32} {a1 : Int32} {a2 : Nat} {a3 : Int32} {a4 : Nat} {a5 : Nat} {a6 : Int32} {a7 : Nat} {a8 : Nat} {a9 : Int32} {a10 : Nat} {a11 : Int32} {a12 : Int64} {a13 : Int32} {a14 : Int32} {a15 : Int64} {a16 : Int64} {a17 : Int64} {a18 : Int64} {a19 : Int32} {a20 : Int64} {a21 : Int64} {a22 : Nat} {a23 : Int32} {a24 : Nat} {a25 : Int32} {a26 : Nat} {a27 : Nat} {a28 : Nat} {a29 : Nat} {a30 : Int32} {a31 : Int32} {a32 : Nat} {a33 : Int32} {a34 : Int64} {b : Int32} : (f_Model a0 a1 a2 a3 a4 a5 a6 a7 a8 a9 a10 a11 a12 a13 a14 a15 a16 a17 a18 a19 a20 a21 a22 a23 a24 a25 a26 a27 a28 a29 a30 a31 a32 a33 a34).set 3 (.int b) = f_Model a0 a1 a2 b a4 a5 a6 a7 a8 a9 a10 a11 a12 a13 a14 a15 a16 a17 a18 a19 a20 a21 a22 a23 a24 a25 a26 a27 a28 a29 a30 a31 a32 a33 a34 := rfl
theorem fg_Model_4 {a0 : Int32} {a1 : Int32} {a2 : Nat} {a3 : Int32} {a4 : Nat} {a5 : Nat} {a6 : Int32} {a7 : Nat} {a8 : Nat} {a9 : Int32} {a10 : Nat} {a11 : Int32} {a12 : Int64} {a13 : Int32} {a14 : Int32} {a15 : Int64} {a16 : Int64} {a17 : Int64} {a18 : Int64} {a19 : Int32} {a20 : Int64} {a21 : Int64} {a22 : Nat} {a23 : Int32} {a24 : Nat} {a25 : Int32} {a26 : Nat} {a27 : Nat} {a28 : Nat} {a29 : Nat} {a30 : Int32} {a31 : Int32} {a32 : Nat} {a33 : Int32} {a34 : Int64} : (f_Model a0 a1 a2 a3 a4 a5 a6 a7 a8 a9 a10 a11 a12 a13 a14 a15 a16 a17 a18 a19 a20 a21 a22 a23 a24 a25 a26 a27 a28 a29 a30 a31 a32 a33 a34)[4]? = some (.ref a4) := rfl
theorem fl_Model_4 {a0 : Int32} {a1 : Int32} {a2 : Nat} {a3 : Int32} {a4 : Nat} {a5 : Nat} {a6 : Int32} {a7 : Nat} {a8 : Nat} {a9 : Int32} {a10 : Nat} {a11 : Int32} {a12 : Int64} {a13 : Int32} {a14 : Int32} {a15 : Int64} {a16 : Int64} {a17 : Int64} {a18 : Int64} {a19 : Int32} {a20 : Int64} {a21 : Int64} {a22 : Nat} {a23 : Int32} {a24 : Nat} {a25 : Int32} {a26 : Nat} {a27 : Nat} {a28 : Nat} {a29 : Nat} {a30 : Int32} {a31 : Int32} {a32 : Nat} {a33 : Int32} {a34 : Int64} : 4 < (f_Model a0 a1 a2 a3 a4 a5 a6 a7 a8 a9 a10 a11 a12 a13 a14 a15 a16 a17 a18 a19 a20 a21 a22 a23 a24 a25 a26 a27 a28 a29 a30 a31 a32 a33 a34).length := Nat.le_of_ble_eq_true rfl
theorem fs_Model_4 {a0 : Int32} {a1 : Int32} {a2 : Nat} {a3 : Int32} {a4 : Nat} {a5 : Nat} {a6 : Int32} {a7 : Nat} {a8 : Nat} {a9 : Int32} {a10 : Nat} {a11 : Int32} {a12 : Int64} {a13 : Int32} {a14 : Int32} {a15 : Int64} {a16 : Int64} {a17 : Int64} {a18 : Int64} {a19 : Int32} {a20 : Int64} {a21 : Int64} {a22 : Nat} {a23 : Int32} {a24 : Nat} {a25 : Int32} {a26 : Nat} {a27 : Nat} {a28 : Nat} {a29 : Nat} {a30 : Int32} {a31 : Int32} {a32 : Nat} {a33 : Int32} {a34 : Int64} {b : Nat} : (f_Model a0 a1 a2 a3 a4 a5 a6 a7 a8 a9 a10 a11 a12 a13 a14 a15 a16 a17 a18 a19 a20 a21 a22 a23 a24 a25 a26 a27 a28 a29 a30 a31 a32 a33 a34).set 4 (.ref b) = f_Model a0 a1 a2 a3 b a5 a6 a7 a8 a9 a10 a11 a12 a13 a14 a15 a16 a17 a18 a19 a20 a21 a22 a23 a24 a25 a26 a27 a28 a29 a30 a31 a32 a33 a34 := rfl
theorem fg_Model_5 {a0 : Int32} {a1 : Int32} {a2 : Nat} {a3 : Int32} {a4 : Nat} {a5 : Nat} {a6 : Int32} {a7 : Nat} {a8 : Nat} {a9 : Int32} {a10 : Nat} {a11 : Int32} {a12 : Int64} {a13 : Int32} {a14 : Int32} {a15 : Int64} {a16 : Int64} {a17 : Int64} {a18 : Int64} {a19 : Int32} {a20 : Int64} {a21 : Int64} {a22 : Nat} {a23 : Int32} {a24 : Nat} {a25 : Int32} {a26 : Nat} {a27 : Nat} {a28 : Nat} {a29 : Nat} {a30 : Int32} {a31 : Int32} {a32 : Nat} {a33 : Int32} {a34 : Int64} : (f_Model a0 a1 a2 a3 a4 a5 a6 a7 a8 a9 a10 a11 a12 a13 a14 a15 a16 a17 a18 a19 a20 a21 a22 a23 a24 a25 a26 a27 a28 a29 a30 a31 a32 a33 a34)[5]? = some (.ref a5) := rfl
theorem fl_Model_5 {a0 : Int32} {a1 : Int32} {a2 : Nat} {a3 : Int32} {a4 : Nat} {a5 : Nat} {a6 : Int32} {a7 : Nat} {a8 : Nat} {a9 : Int32} {a10 : Nat} {a11 : Int32} {a12 : Int64} {a13 : Int32} {a14 : Int32} {a15 : Int64} {a16 : Int64} {a17 : Int64} {a18 : Int64} {a19 : Int32} {a20 : Int64} {a21 : Int64} {a22 : Nat} {a23 : Int32} {a24 : Nat} {a25 : Int32} {a26 : Nat} {a27 : Nat} {a28 : Nat} {a29 : Nat} {a30 : Int32} {a31 : Int32} {a32 : Nat} {a33 : Int32} {a34 : Int64} : 5 < (f_Model a0 a1 a2 a3 a4 a5 a6 a7 a8 a9 a10 a11 a12 a13 a14 a15 a16 a17 a18 a19 a20 a21 a22 a23 a24 a25 a26 a27 a28 a29 a30 a31 a32 a33 a34).length := Nat.le_of_ble_eq_true rfl
theorem fs_Model_5 {a0 : Int32} {a1 : Int32} {a2 : Nat} {a3 : Int32} {a4 : Nat} {a5 : Nat} {a6 : Int32} {a7 : Nat} {a8 : Nat} {a9 : Int32} {a10 : Nat} {a11 : Int32} {a12 : Int64} {a13 : Int32} {a14 : Int32} {a15 : Int64} {a16 : Int64} {a17 : Int64} {a18 : Int64} {a19 : Int32} {a20 : Int64} {a21 : Int64} {a22 : Nat} {a23 : Int32} {a24 : Nat} {a25 : Int32} {a26 : Nat} {a27 : Nat} {a28 : Nat} {a29 : Nat} {a30 : Int32} {a31 : Int32} {a32 : Nat} {a33 : Int32} {a34 : Int64} {b : Nat} : (f_Model a0 a1 a2 a3 a4 a5 a6 a7 a8 a9 a10 a11 a12 a13 a14 a15 a16 a17 a18 a19 a20 a21 a22 a23 a24 a25 a26 a27 a28 a29 a30 a31 a32 a33 a34).set 5 (.ref b) = f_Model a0 a1 a2 a3 a4 b a6 a7 a8 a9 a10 a11 a12 a13 a14 a15 a16 a17 a18 a19 a20 a21 a22 a23 a24 a25 a26 a27 a28 a29 a30 a31 a32 a33 a34 := rfl
theorem fg_Model_6 {a0 : Int32} {a1 : Int32} {a2 : Nat} {a3 : Int32} {a4 : Nat} {a5 : Nat} {a6 : Int32} {a7 : Nat} {a8 : Nat} {a9 : Int32} {a10 : Nat} {a11 : Int32} {a12 : Int64} {a13 : Int32} {a14 : Int32} {a15 : Int64} {a16 : Int64} {a17 : Int64} {a18 : Int64} {a19 : Int32} {a20 : Int64} {a21 : Int64} {a22 : Nat} {a23 : Int32} {a24 : Nat} {a25 : Int32} {a26 : Nat} {a27 : Nat} {a28 : Nat} {a29 : Nat} {a30 : Int32} {a31 : Int32} {a32 : Nat} {a33 : Int32} {a34 : Int64} : (f_Model a0 a1 a2 a3 a4 a5 a6 a7 a8 a9 a10 a11 a12 a13 a14 a15 a16 a17 a18 a19 a20 a21 a22 a23 a24 a25 a26 a27 a28 a29 a30 a31 a32 a33 a34)[6]? = some (.int a6) := rfl
theorem fl_Model_6 {a0 : Int32} {a1 : Int32} {a2 : Nat} {a3 : Int32} {a4 : Nat} {a5 : Nat} {a6 : Int32} {a7 : Nat} {a8 : Nat} {a9 : Int32} {a10 : Nat} {a11 : Int32} {a12 : Int64} {a13 : Int32} {a14 : Int32} {a15 : Int64} {a16 : Int64} {a17 : Int64} {a18 : Int64} {a19 : Int32} {a20 : Int64} {a21 : Int64} {a22 : Nat} {a23 : Int32} {a24 : Nat} {a25 : Int32} {a26 : Nat} {a27 : Nat} {a28 : Nat} {a29 : Nat} {a30 : Int32} {a31 : Int32} {a32 : Nat} {a33 : Int32} {a34 : Int64} : 6 < (f_Model a0 a1 a2 a3 a4 a5 a6 a7 a8 a9 a10 a11 a12 a13 a14 a15 a16 a17 a18 a19 a20 a21 a22 a23 a24 a25 a26 a27 a28 a29 a30 a31 a32 a33 a34).length := Nat.le_of_ble_eq_true rfl
theorem fs_Model_6 {a0 : Int32} {a1 : Int32} {a2 : Nat} {a3 : Int32} {a4 : Nat} {a5 : Nat} {a6 : Int32} {a7 : Nat} {a8 : Nat} {a9 : Int32} {a10 : Nat} {a11 : Int32} {a12 : Int64} {a13 : Int32} {a14 : Int32} {a15 : Int64} {a16 : Int64} {a17 : Int64} {a18 : Int64} {a19 : Int32} {a20 : Int64} {a21 : Int64} {a22 : Nat} {a23 : Int32} {a24 : Nat} {a25 : Int32} {a26 : Nat} {a27 : Nat} {a28 : Nat} {a29 : Nat} {a30 : Int32} {a31 : Int32} {a32 : Nat} {a33 : Int32} {a34 : Int64} {b : Int32} : (f_Model a0 a1 a2 a3 a4 a5 a6 a7 a8 a9 a10 a11 a12 a13 a14 a15 a16 a17 a18 a19 a20 a21 a22 a23 a24 a25 a26 a27 a28 a29 a30 a31 a32 a33 a34).set 6 (.int b) = f_Model a0 a1 a2 a3 a4 a5 b a7 a8 a9 a10 a11 a12 a13 a14 a15 a16 a17 a18 a19 a20 a21 a22 a23 a24 a25 a26 a27 a28 a29 a30 a31 a32 a33 a34 := rfl
theorem fg_Model_7 {a0 : Int32} {a1 : Int32} {a2 : Nat} {a3 : Int32} {a4 : Nat} {a5 : Nat} {a6 : Int32} {a7 : Nat} {a8 : Nat} {a9 : Int32} {a10 : Nat} {a11 : Int32} {a12 : Int64} {a13 : Int32} {a14 : Int32} {a15 : Int64} {a16 : Int64} {a17 : Int64} {a18 : Int64} {a19 : Int32} {a20 : Int64} {a21 : Int64} {a22 : Nat} {a23 : Int32} {a24 : Nat} {a25 : Int32} {a26 : Nat} {a27 : Nat} {a28 : Nat} {a29 : Nat} {a30 : Int32} {a31 : Int32} {a32 : Nat} {a33 : Int32} {a34 : Int64} : (f_Model a0 a1 a2 a3 a4 a5 a6 a7 a8 a9 a10 a11 a12 a13 a14 a15 a16 a17 a18 a19 a20 a21 a22 a23 a24 a25 a26 a27 a28 a29 a30 a31 a32 a33 a34)[7]? = some (.ref a7) := rfl
theorem fl_Model_7 {a0 : Int32} {a1 : Int32} {a2 : Nat} {a3 : Int32} {a4 : Nat} {a5 : Nat} {a6 : Int32} {a7 : Nat} {a8 : Nat} {a9 : Int32} {a10 : Nat} {a11 : Int32} {a12 : Int64} {a13 : Int32} {a14 : Int32} {a15 : Int64} {a16 : Int64} {a17 : Int64} {a18 : Int64} {a19 : Int32} {a20 : Int64} {a21 : Int64} {a22 : Nat} {a23 : Int32} {a24 : Nat} {a25 : Int32} {a26 : Nat} {a27 : Nat} {a28 : Nat} {a29 : Nat} {a30 : Int32} {a31 : Int32} {a32 : Nat} {a33 : Int32} {a34 : Int64} : 7 < (f_Model a0 a1 a2 a3 a4 a5 a6 a7 a8 a9 a10 a11 a12 a13 a14 a15 a16 a17 a18 a19 a20 a21 a22 a23 a24 a25 a26 a27 a28 a29 a30 a31 a32 a33 a34).length := Nat.le_of_ble_eq_true rfl
theorem fs_Model_7 {a0 : Int32} {a1 : Int32} {a2 : Nat} {a3 : Int32} {a4 : Nat} {a5 : Nat} {a6 : Int32} {a7 : Nat} {a8 : Nat} {a9 : Int32} {a10 : Nat} {a11 : Int32} {a12 : Int64} {a13 : Int32} {a14 : Int32} {a15 : Int64} {a16 : Int64} {a17 : Int64} {a18 : Int64} {a19 : Int32} {a20 : Int64} {a21 : Int64} {a22 : Nat} {a23 : Int32} {a24 : Nat} {a25 : Int32} {a26 : Nat} {a27 : Nat} {a28 : Nat} {a29 : Nat} {a30 : Int32} {a31 : Int32} {a32 : Nat} {a33 : Int32} {a34 : Int64} {b : Nat} : (f_Model a0 a1 a2 a3 a4 a5 a6 a7 a8 a9 a10 a11 a12 a13 a14 a15 a16 a17 a18 a19 a20 a21 a22 a23 a24 a25 a26 a27 a28 a29 a30 a31 a32 a33 a34).set 7 (.ref b) = f_Model a0 a1 a2 a3 a4 a5 a6 b a8 a9 a10 a11 a12 a13 a14 a15 a16 a17 a18 a19 a20 a21 a22 a23 a24 a25 a26 a27 a28 a29 a30 a31 a32 a33 a34 := rfl
theorem fg_Model_8 {a0 : Int32} {a1 : Int32} {a2 : Nat} {a3 : Int32} {a4 : Nat} {a5 : Nat} {a6 : Int32} {a7 : Nat} {a8 : Nat} {a9 : Int32} {a10 : Nat} {a11 : Int32} {a12 : Int64} {a13 : Int32} {a14 : Int32} {a15 : Int64} {a16 : Int64} {a17 : Int64} {a18 : Int64} {a19 : Int32} {a20 : Int64} {a21 : Int64} {a22 : Nat} {a23 : Int32} {a24 : Nat} {a25 : Int32} {a26 : Nat} {a27 : Nat} {a28 : Nat} {a29 : Nat} {a30 : Int32} {a31 : Int32} {a32 : Nat} {a33 : Int32} {a34 : Int64} : (f_Model a0 a1 a2 a3 a4 a5 a6 a7 a8 a9 a10 a11 a12 a13 a14 a15 a16 a17 a18 a19 a20 a21 a22 a23 a24 a25 a26 a27 a28 a29 a30 a31 a32 a33 a34)[8]? = some (.ref a8) := rfl
theorem fl_Model_8 {a0 : Int32} {a1 : Int32} {a2 : Nat} {a3 : Int32} {a4 : Nat} {a5 : Nat} {a6 : Int32} {a7 : Nat} {a8 : Nat} {a9 : Int32} {a10 : Nat} {a11 : Int32} {a12 : Int64} {a13 : Int32} {a14 : Int32} {a15 : Int64} {a16 : Int64} {a17 : Int64} {a18 : Int64} {a19 : Int32} {a20 : Int64} {a21 : Int64} {a22 : Nat} {a23 : Int32} {a24 : Nat} {a25 : Int32} {a26 : Nat} {a27 : Nat} {a28 : Nat} {a29 : Nat} {a30 : Int32} {a31 : Int32} {a32 : Nat} {a33 : Int32} {a34 : Int64} : 8 < (f_Model a0 a1 a2 a3 a4 a5 a6 a7 a8 a9 a10 a11 a12 a13 a14 a15 a16 a17 a18 a19 a20 a21 a22 a23 a24 a25 a26 a27 a28 a29 a30 a31 a32 a33 a34).length := Nat.le_of_ble_eq_true rfl
theorem fs_Model_8 {a0 : Int32} {a1 : Int32} {a2 : Nat} {a3 : Int32} {a4 : Nat} {a5 : Nat} {a6 : Int32} {a7 : Nat} {a8 : Nat} {a9 : Int32} {a10 : Nat} {a11 : Int32} {a12 : Int64} {a13 : Int32} {a14 : Int32} {a15 : Int64} {a16 : Int64} {a17 : Int64} {a18 : Int64} {a19 : Int32} {a20 : Int64} {a21 : Int64} {a22 : Nat} {a23 : Int32} {a24 : Nat} {a25 : Int32} {a26 : Nat} {a27 : Nat} {a28 : Nat} {a29 : Nat} {a30 : Int32} {a31 : Int32} {a32 : Nat} {a33 : Int32} {a34 : Int64} {b : Nat} : (f_Model a0 a1 a2 a3 a4 a5 a6 a7 a8 a9 a10 a11 a12 a13 a14 a15 a16 a17 a18 a19 a20 a21 a22 a23 a24 a25 a26 a27 a28 a29 a30 a31 a32 a33 a34).set 8 (.ref b) = f_Model a0 a1 a2 a3 a4 a5 a6 a7 b a9 a10 a11 a12 a13 a14 a15 a16 a17 a18 a19 a20 a21 a22 a23 a24 a25 a26 a27 a28 a29 a30 a31 a32 a33 a34 := rfl
theorem fg_Model_9 {a0 : Int32} {a1 : Int32} {a2 : Nat} {a3 : Int32} {a4 : Nat} {a5 : Nat} {a6 : Int32} {a7 : Nat} {a8 : Nat} {a9 : Int32} {a10 : Nat} {a11 : Int32} {a12 : Int64} {a13 : Int32} {a14 : Int32} {a15 : Int64} {a16 : Int64} {a17 : Int64} {a18 : Int64} {a19 : Int32} {a20 : Int64} {a21 : Int64} {a22 : Nat} {a23 : Int32} {a24 : Nat} {a25 : Int32} {a26 : Nat} {a27 : Nat} {a28 : Nat} {a29 : Nat} {a30 : Int32} {a31 : Int32} {a32 : Nat} {a33 : Int32} {a34 : Int64} : (f_Model a0 a1 a2 a3 a4 a5 a6 a7 a8 a9 a10 a11 a12 a13 a14 a15 a16 a17 a18 a19 a20 a21 a22 a23 a24 a25 a26 a27 a28 a29 a30 a31 a32 a33 a34)[9]? = some (.int a9) := rfl
theorem fl_Model_9 {a0 : Int32} {a1 : Int32} {a2 : Nat} {a3 : Int32} {a4 : Nat} {a5 : Nat} {a6 : Int32} {a7 : Nat} {a8 : Nat} {a9 : Int32} {a10 : Nat} {a11 : Int32} {a12 : Int64} {a13 : Int32} {a14 : Int32} {a15 : Int64} {a16 : Int64} {a17 : Int64} {a18 : Int64} {a19 : Int32} {a20 : Int64} {a21 : Int64} {a22 : Nat} {a23 : Int32} {a24 : Nat} {a25 : Int32} {a26 : Nat} {a27 : Nat} {a28 : Nat} {a29 : Nat} {a30 : Int32} {a31 : Int32} {a32 : Nat} {a33 : Int32} {a34 : Int64} : 9 < (f_Model a0 a1 a2 a3 a4 a5 a6 a7 a8 a9 a10 a11 a12 a13 a14 a15 a16 a17 a18 a19 a20 a21 a22 a23 a24 a25 a26 a27 a28 a29 a30 a31 a32 a33 a34).length := Nat.le_of_ble_eq_true rfl
theorem fs_Model_9 {a0 : Int32} {a1 : Int32} {a2 : Nat} {a3 : Int32} {a4 : Nat} {a5 : Nat} {a6 : Int32} {a7 : Nat} {a8 : Nat} {a9 : Int32} {a10 : Nat} {a11 : Int32} {a12 : Int64} {a13 : Int32} {a14 : Int32} {a15 : Int64} {a16 : Int64} {a17 : Int64} {a18 : Int64} {a19 : Int32} {a20 : Int64} {a21 : Int64} {a22 : Nat} {a23 : Int32} {a24 : Nat} {a25 : Int32} {a26 : Nat} {a27 : Nat} {a28 : Nat} {a29 : Nat} {a30 : Int32} {a31 : Int32} {a32 : Nat} {a33 : Int32} {a34 : Int64} {b : Int32} : (f_Model a0 a1 a2 a3 a4 a5 a6 a7 a8 a9 a10 a11 a12 a13 a14 a15 a16 a17 a18 a19 a20 a21 a22 a23 a24 a25 a26 a27 a28 a29 a30 a31 a32 a33 a34).set 9 (.int b) = f_Model a0 a1 a2 a3 a4 a5 a6 a7 a8 b a10 a11 a12 a13 a14 a15 a16 a17 a18 a19 a20 a21 a22 a23 a24 a25 a26 a27 a28 a29 a30 a31 a32 a33 a34 := rfl
theorem fg_Model_10 {a0 : Int32} {a1 : Int32} {a2 : Nat} {a3 : Int32} {a4 : Nat} {a5 : Nat} {a6 : Int32} {a7 : Nat} {a8 : Nat} {a9 : Int32} {a10 : Nat} {a11 : Int32} {a12 : Int64} {a13 : Int32} {a14 : Int32} {a15 : Int64} {a16 : Int64} {a17 : Int64} {a18 : Int64} {a19 : Int32} {a20 : Int64} {a21 : Int64} {a22 : Nat} {a23 : Int32} {a24 : Nat} {a25 : Int32} {a26 : Nat} {a27 : Nat} {a28 : Nat} {a29 : Nat} {a30 : Int32} {a31 : Int32} {a32 : Nat} {a33 : Int32} {a34 : Int64} : (f_Model a0 a1 a2 a3 a4 a5 a6 a7 a8 a9 a10 a11 a12 a13 a14 a15 a16 a17 a18 a19 a20 a21 a22 a23 a24 a25 a26 a27 a28 a29 a30 a31 a32 a33 a34)[10]? = some (.ref a10) := rfl
theorem fl_Model_10 {a0 : Int32} {a1 : Int32} {a2 : Nat} {a3 : Int32} {a4 : Nat} {a5 : Nat} {a6 : Int32} {a7 : Nat} {a8 : Nat} {a9 : Int32} {a10 : Nat} {a11 : Int32} {a12 : Int64} {a13 : Int32} {a14 : Int32} {a15 : Int64} {a16 : Int64} {a17 : Int64} {a18 : Int64} {a19 : Int32} {a20 : Int64} {a21 : Int64} {a22 : Nat} {a23 : Int32} {a24 : Nat} {a25 : Int32} {a26 : Nat} {a27 : Nat} {a28 : Nat} {a29 : Nat} {a30 : Int32} {a31 : Int32} {a32 : Nat} {a33 : Int32} {a34 : Int64} : 10 < (f_Model a0 a1 a2 a3 a4 a5 a6 a7 a8 a9 a10 a11 a12 a13 a14 a15 a16 a17 a18 a19 a20 a21 a22 a23 a24 a25 a26 a27 a28 a29 a30 a31 a32 a33 a34).length := Nat.le_of_ble_eq_true rfl
theorem fs_Model_10 {a0 : Int32} {a1 : Int32} {a2 : Nat} {a3 : Int32} {a4 : Nat} {a5 : Nat} {a6 : Int32} {a7 : Nat} {a8 : Nat} {a9 : Int32} {a10 : Nat} {a11 : Int32} {a12 : Int64} {a13 : Int32} {a14 : Int32} {a15 : Int64} {a16 : Int64} {a17 : Int64} {a18 : Int64} {a19 : Int32} {a20 : Int64} {a21 : Int64} {a22 : Nat} {a23 : Int32} {a24 : Nat} {a25 : Int32} {a26 : Nat} {a27 : Nat} {a28 : Nat} {a29 : Nat} {a30 : Int32} {a31 : Int32} {a32 : Nat} {a33 : Int32} {a34 : Int64} {b : Nat} : (f_Model a0 a1 a2 a3 a4 a5 a6 a7 a8 a9 a10 a11 a12 a13 a14 a15 a16 a17 a18 a19 a20 a21 a22 a23 a24 a25 a26 a27 a28 a29 a30 a31 a32 a33 a34).set 10 (.ref b) = f_Model a0 a1 a2 a3 a4 a5 a6 a7 a8 a9 b a11 a12 a13 a14 a15 a16 a17 a18 a19 a20 a21 a22 a23 a24 a25 a26 a27 a28 a29 a30 a31 a32 a33 a34 := rfl
theorem fg_Model_11 {a0 : Int32} {a1 : Int32} {a2 : Nat} {a3 : Int32} {a4 : Nat} {a5 : Nat} {a6 : Int32} {a7 : Nat} {a8 : Nat} {a9 : Int32} {a10 : Nat} {a11 : Int32} {a12 : Int64} {a13 : Int32} {a14 : Int32} {a15 : Int64} {a16 : Int64} {a17 : Int64} {a18 : Int64} {a19 : Int32} {a20 : Int64} {a21 : Int64} {a22 : Nat} {a23 : Int32} {a24 : Nat} {a25 : Int32} {a26 : Nat} {a27 : Nat} {a28 : Nat} {a29 : Nat} {a30 : Int32} {a31 : Int32} {a32 : Nat} {a33 : Int32} {a34 : Int64} : (f_Model a0 a1 a2 a3 a4 a5 a6 a7 a8 a9 a10 a11 a12 a13 a14 a15 a16 a17 a18 a19 a20 a21 a22 a23 a24 a25 a26 a27 a28 a29 a30 a31 a32 a33 a34)[11]? = some (.int a11) := rfl
theorem fl_Model_11 {a0 : Int32} {a1 : Int32} {a2 : Nat} {a3 : Int32} {a4 : Nat} {a5 : Nat} {a6 : Int32} {a7 : Nat} {a8 : Nat} {a9 : Int32} {a10 : Nat} {a11 : Int32} {a12 : Int64} {a13 : Int32} {a14 : Int32} {a15 : Int64} {a16 : Int64} {a17 : Int64} {a18 : Int64} {a19 : Int32} {a20 : Int64} {a21 : Int64} {a22 : Nat} {a23 : Int32} {a24 : Nat} {a25 : Int32} {a26 : Nat} {a27 : Nat} {a28 : Nat} {a29 : Nat} {a30 : Int32} {a31 : Int32} {a32 : Nat} {a33 : Int32} {a34 : Int64} : 11 < (f_Model a0 a1 a2 a3 a4 a5 a6 a7 a8 a9 a10 a11 a12 a13 a14 a15 a16 a17 a18 a19 a20 a21 a22 a23 a24 a25 a26 a27 a28 a29 a30 a31 a32 a33 a34).length := Nat.le_of_ble_eq_true rfl
theorem fs_Model_11 {a0 : Int32} {a1 : Int32} {a2 : Nat} {a3 : Int32} {a4 : Nat} {a5 : Nat} {a6 : Int32} {a7 : Nat} {a8 : Nat} {a9 : Int32} {a10 : Nat} {a11 : Int32} {a12 : Int64} {a13 : Int32} {a14 : Int32} {a15 : Int64} {a16 : Int64} {a17 : Int64} {a18 : Int64} {a19 : Int32} {a20 : Int64} {a21 : Int64} {a22 : Nat} {a23 : Int32} {a24 : Nat} {a25 : Int32} {a26 : Nat} {a27 : Nat} {a28 : Nat} {a29 : Nat} {a30 : Int32} {a31 : Int32} {a32 : Nat} {a33 : Int32} {a34 : Int64} {b : Int32} : (f_Model a0 a1 a2 a3 a4 a5 a6 a7 a8 a9 a10 a11 a12 a13 a14 a15 a16 a17 a18 a19 a20 a21 a22 a23 a24 a25 a26 a27 a28 a29 a30 a31 a32 a33 a34).set 11 (.int b) = f_Model a0 a1 a2 a3 a4 a5 a6 a7 a8 a9 a10 b a12 a13 a14 a15 a16 a17 a18 a19 a20 a21 a22 a23 a24 a25 a26 a27 a28 a29 a30 a31 a32 a33 a34 := rfl
theorem fg_Model_12 {a0 : Int32} {a1 : Int32} {a2 : Nat} {a3 : Int32} {a4 : Nat} {a5 : Nat} {a6 : Int32} {a7 : Nat} {a8 : Nat} {a9 : Int32} {a10 : Nat} {a11 : Int32} {a12 : Int64} {a13 : Int32} {a14 : Int32} {a15 : Int64} {a16 : Int64} {a17 : Int64} {a18 : Int64} {a19 : Int32} {a20 : Int64} {a21 : Int64} {a22 : Nat} {a23 : Int32} {a24 : Nat} {a25 : Int32} {a26 : Nat} {a27 : Nat} {a28 : Nat} {a29 : Nat} {a30 : Int32} {a31 : Int32} {a32 : Nat} {a33 : Int32} {a34 : Int64} : (f_Model a0 a1 a2 a3 a4 a5 a6 a7 a8 a9 a10 a11 a12 a13 a14 a15 a16 a17 a18 a19 a20 a21 a22 a23 a24 a25 a26 a27 a28 a29 a30 a31 a32 a33 a34)[12]? = some (.long a12) := rfl
theorem fl_Model_12 {a0 : Int32} {a1 : Int32} {a2 : Nat} {a3 : Int32} {a4 : Nat} {a5 : Nat} {a6 : Int32} {a7 : Nat} {a8 : Nat} {a9 : Int32} {a10 : Nat} {a11 : Int32} {a12 : Int64} {a13 : Int32} {a14 : Int32} {a15 : Int64} {a16 : Int64} {a17 : Int64} {a18 : Int64} {a19 : Int32} {a20 : Int64} {a21 : Int64} {a22 : Nat} {a23 : Int32} {a24 : Nat} {a25 : Int32} {a26 : Nat} {a27 : Nat} {a28 : Nat} {a29 : Nat} {a30 : Int32} {a31 : Int32} {a32 : Nat} {a33 : Int32} {a34 : Int64} : 12 < (f_Model a0 a1 a2 a3 a4 a5 a6 a7 a8 a9 a10 a11 a12 a13 a14 a15 a16 a17 a18 a19 a20 a21 a22 a23 a24 a25 a26 a27 a28 a29 a30 a31 a32 a33 a34).length := Nat.le_of_ble_eq_true rfl
theorem fs_Model_12 {a0 : Int32} {a1 : Int32} {a2 : Nat} {a3 : Int32} {a4 : Nat} {a5 : Nat} {a6 : Int32} {a7 : Nat} {a8 : Nat} {a9 : Int32} {a10 : Nat} {a11 : Int32} {a12 : Int64} {a13 : Int32} {a14 : Int32} {a15 : Int64} {a16 : Int64} {a17 : Int64} {a18 : Int64} {a19 : Int32} {a20 : Int64} {a21 : Int64} {a22 : Nat} {a23 : Int32} {a24 : Nat} {a25 : Int32} {a26 : Nat} {a27 : Nat} {a28 : Nat} {a29 : Nat} {a30 : Int32} {a31 : Int32} {a32 : Nat} {a33 : Int32} {a34 : Int64} {b : Int64} : (f_Model a0 a1 a2 a3 a4 a5 a6 a7 a8 a9 a10 a11 a12 a13 a14 a15 a16 a17 a18 a19 a20 a21 a22 a23 a24 a25 a26 a27 a28 a29 a30 a31 a32 a33 a34).set 12 (.long b) = f_Model a0 a1 a2 a3 a4 a5 a6 a7 a8 a9 a10 a11 b a13 a14 a15 a16 a17 a18 a19 a20 a21 a22 a23 a24 a25 a26 a27 a28 a29 a30 a31 a32 a33 a34 := rfl
theorem fg_Model_13 {a0 : Int32} {a1 : Int32} {a2 : Nat} {a3 : Int32} {a4 : Nat} {a5 : Nat} {a6 : Int32} {a7 : Nat} {a8 : Nat} {a9 : Int32} {a10 : Nat} {a11 : Int32} {a12 : Int64} {a13 : Int32} {a14 : Int32} {a15 : Int64} {a16 : Int64} {a17 : Int64} {a18 : Int64} {a19 : Int32} {a20 : Int64} {a21 : Int64} {a22 : Nat} {a23 : Int32} {a24 : Nat} {a25 : Int32} {a26 : Nat} {a27 : Nat} {a28 : Nat} {a29 : Nat} {a30 : Int32} {a31 : Int32} {a32 : Nat} {a33 : Int32} {a34 : Int64} : (f_Model a0 a1 a2 a3 a4 a5 a6 a7 a8 a9 a10 a11 a12 a13 a14 a15 a16 a17 a18 a19 a20 a21 a22 a23 a24 a25 a26 a27 a28 a29 a30 a31 a32 a33 a34)[13]? = some (.int a13) := rfl
theorem fl_Model_13 {a0 : Int32} {a1 : Int32} {a2 : Nat} {a3 : Int32} {a4 : Nat} {a5 : Nat} {a6 : Int32} {a7 : Nat} {a8 : Nat} {a9 : Int32} {a10 : Nat} {a11 : Int32} {a12 : Int64} {a13 : Int32} {a14 : Int32} {a15 : Int64} {a16 : Int64} {a17 : Int64} {a18 : Int64} {a19 : Int32} {a20 : Int64} {a21 : Int64} {a22 : Nat} {a23 : Int32} {a24 : Nat} {a25 : Int32} {a26 : Nat} {a27 : Nat} {a28 : Nat} {a29 : Nat} {a30 : Int32} {a31 : Int32} {a32 : Nat} {a33 : Int32} {a34 : Int64} : 13 < (f_Model a0 a1 a2 a3 a4 a5 a6 a7 a8 a9 a10 a11 a12 a13 a14 a15 a16 a17 a18 a19 a20 a21 a22 a23 a24 a25 a26 a27 a28 a29 a30 a31 a32 a33 a34).length := Nat.le_of_ble_eq_true rfl
theorem fs_Model_13 {a0 : Int32} {a1 : Int32} {a2 : Nat} {a3 : Int32} {a4 : Nat} {a5 : Nat} {a6 : Int32} {a7 : Nat} {a8 : Nat} {a9 : Int32} {a10 : Nat} {a11 : Int32} {a12 : Int64} {a13 : Int32} {a14 : Int32} {a15 : Int64} {a16 : Int64} {a17 : Int64} {a18 : Int64} {a19 : Int32} {a20 : Int64} {a21 : Int64} {a22 : Nat} {a23 : Int32} {a24 : Nat} {a25 : Int32} {a26 : Nat} {a27 : Nat} {a28 : Nat} {a29 : Nat} {a30 : Int32} {a31 : Int32} {a32 : Nat} {a33 : Int32} {a34 : Int64} {b : Int32} : (f_Model a0 a1 a2 a3 a4 a5 a6 a7 a8 a9 a10 a11 a12 a13 a14 a15 a16 a17 a18 a19 a20 a21 a22 a23 a24 a25 a26 a27 a28 a29 a30 a31 a32 a33 a34).set 13 (.int b) = f_Model a0 a1 a2 a3 a4 a5 a6 a7 a8 a9 a10 a11 a12 b a14 a15 a16 a17 a18 a19 a20 a21 a22 a23 a24 a25 a26 a27 a28 a29 a30 a31 a32 a33 a34 := rfl
theorem fg_Model_14 {a0 : Int32} {a1 : Int32} {a2 : Nat} {a3 : Int32} {a4 : Nat} {a5 : Nat} {a6 : Int32} {a7 : Nat} {a8 : Nat} {a9 : Int32} {a10 : Nat} {a11 : Int32} {a12 : Int64} {a13 : Int32} {a14 : Int32} {a15 : Int64} {a16 : Int64} {a17 : Int64} {a18 : Int64} {a19 : Int32} {a20 : Int64} {a21 : Int64} {a22 : Nat} {a23 : Int32} {a24 : Nat} {a25 : Int32} {a26 : Nat} {a27 : Nat} {a28 : Nat} {a29 : Nat} {a30 : Int32} {a31 : Int32} {a32 : Nat} {a33 : Int32} {a34 : Int64} : (f_Model a0 a1 a2 a3 a4 a5 a6 a7 a8 a9 a10 a11 a12 a13 a14 a15 a16 a17 a18 a19 a20 a21 a22 a23 a24 a25 a26 a27 a28 a29 a30 a31 a32 a33 a34)[14]? = some (.int a14) := rfl
theorem fl_Model_14 {a0 : Int32} {a1 : Int32} {a2 : Nat} {a3 : Int32} {a4 : Nat} {a5 : Nat} {a6 : Int32} {a7 : Nat} {a8 : Nat} {a9 : Int32} {a10 : Nat} {a11 : Int32} {a12 : Int64} {a13 : Int32} {a14 : Int32} {a15 : Int64} {a16 : Int64} {a17 : Int64} {a18 : Int64} {a19 : Int32} {a20 : Int64} {a21 : Int64} {a22 : Nat} {a23 : Int32} {a24 : Nat} {a25 : Int32} {a26 : Nat} {a27 : Nat} {a28 : Nat} {a29 : Nat} {a30 : Int32} {a31 : Int32} {a32 : Nat} {a33 : Int32} {a34 : Int64} : 14 < (f_Model a0 a1 a2 a3 a4 a5 a6 a7 a8 a9 a10 a11 a12 a13 a14 a15 a16 a17 a18 a19 a20 a21 a22 a23 a24 a25 a26 a27 a28 a29 a30 a31 a32 a33 a34).length := Nat.le_of_ble_eq_true rfl
theorem fs_Model_14 {a0 : Int32} {a1 : Int32} {a2 : Nat} {a3 : Int32} {a4 : Nat} {a5 : Nat} {a6 : Int32} {a7 : Nat} {a8 : Nat} {a9 : Int32} {a10 : Nat} {a11 : Int32} {a12 : Int64} {a13 : Int32} {a14 : Int32} {a15 : Int64} {a16 : Int64} {a17 : Int64} {a18 : Int64} {a19 : Int32} {a20 : Int64} {a21 : Int64} {a22 : Nat} {a23 : Int32} {a24 : Nat} {a25 : Int32} {a26 : Nat} {a27 : Nat} {a28 : Nat} {a29 : Nat} {a30 : Int32} {a31 : Int32} {a32 : Nat} {a33 : Int32} {a34 : Int64} {b : Int32} : (f_Model a0 a1 a2 a3 a4 a5 a6 a7 a8 a9 a10 a11 a12 a13 a14 a15 a16 a17 a18 a19 a20 a21 a22 a23 a24 a25 a26 a27 a28 a29 a30 a31 a32 a33 a34).set 14 (.int b) = f_Model a0 a1 a2 a3 a4 a5 a6 a7 a8 a9 a10 a11 a12 a13 b a15 a16 a17 a18 a19 a20 a21 a22 a23 a24 a25 a26 a27 a28 a29 a30 a31 a32 a33 a34 := rfl
theorem fg_Model_15 {a0 : Int32} {a1 : Int32} {a2 : Nat} {a3 : Int32} {a4 : Nat} {a5 : Nat} {a6 : Int32} {a7 : Nat} {a8 : Nat} {a9 : Int32} {a10 : Nat} {a11 : Int32} {a12 : Int64} {a13 : Int32} {a14 : Int32} {a15 : Int64} {a16 : Int64} {a17 : Int64} {a18 : Int64} {a19 : Int32} {a20 : Int64} {a21 : Int64} {a22 : Nat} {a23 : Int32} {a24 : Nat} {a25 : Int32} {a26 : Nat} {a27 : Nat} {a28 : Nat} {a29 : Nat} {a30 : Int32} {a31 : Int32} {a32 : Nat} {a33 : Int32} {a34 : Int64} : (f_Model a0 a1 a2 a3 a4 a5 a6 a7 a8 a9 a10 a11 a12 a13 a14 a15 a16 a17 a18 a19 a20 a21 a22 a23 a24 a25 a26 a27 a28 a29 a30 a31 a32 a33 a34)[15]? = some (.long a15) := rfl
theorem fl_Model_15 {a0 : Int32} {a1 : Int32} {a2 : Nat} {a3 : Int32} {a4 : Nat} {a5 : Nat} {a6 : Int32} {a7 : Nat} {a8 : Nat} {a9 : Int32} {a10 : Nat} {a11 : Int32} {a12 : Int64} {a13 : Int32} {a14 : Int32} {a15 : Int64} {a16 : Int64} {a17 : Int64} {a18 : Int64} {a19 : Int32} {a20 : Int64} {a21 : Int64} {a22 : Nat} {a23 : Int32} {a24 : Nat} {a25 : Int32} {a26 : Nat} {a27 : Nat} {a28 : Nat} {a29 : Nat} {a30 : Int32} {a31 : Int32} {a32 : Nat} {a33 : Int32} {a34 : Int64} : 15 < (f_Model a0 a1 a2 a3 a4 a5 a6 a7 a8 a9 a10 a11 a12 a13 a14 a15 a16 a17 a18 a19 a20 a21 a22 a23 a24 a25 a26 a27 a28 a29 a30 a31 a32 a33 a34).length := Nat.le_of_ble_eq_true rfl
theorem fs_Model_15 {a0 : Int32} {a1 : Int32} {a2 : Nat} {a3 : Int32} {a4 : Nat} {a5 : Nat} {a6 : Int32} {a7 : Nat} {a8 : Nat} {a9 : Int32} {a10 : Nat} {a11 : Int32} {a12 : Int64} {a13 : Int32} {a14 : Int32} {a15 : Int64} {a16 : Int64} {a17 : Int64} {a18 : Int64} {a19 : Int32} {a20 : Int64} {a21 : Int64} {a22 : Nat} {a23 : Int32} {a24 : Nat} {a25 : Int32} {a26 : Nat} {a27 : Nat} {a28 : Nat} {a29 : Nat} {a30 : Int32} {a31 : Int32} {a32 : Nat} {a33 : Int32} {a34 : Int64} {b : Int64} : (f_Model a0 a1 a2 a3 a4 a5 a6 a7 a8 a9 a10 a11 a12 a13 a14 a15 a16 a17 a18 a19 a20 a21 a22 a23 a24 a25 a26 a27 a28 a29 a30 a31 a32 a33 a34).set 15 (.long b) = f_Model a0 a1 a2 a3 a4 a5 a6 a7 a8 a9 a10 a11 a12 a13 a14 b a16 a17 a18 a19 a20 a21 a22 a23 a24 a25 a26 a27 a28 a29 a30 a31 a32 a33 a34 := rfl
theorem fg_Model_16 {a0 : Int32} {a1 : Int32} {a2 : Nat} {a3 : Int32} {a4 : Nat} {a5 : Nat} {a6 : Int32} {a7 : Nat} {a8 : Nat} {a9 : Int32} {a10 : Nat} {a11 : Int32} {a12 : Int64} {a13 : Int32} {a14 : Int32} {a15 : Int64} {a16 : Int64} {a17 : Int64} {a18 : Int64} {a19 : Int32} {a20 : Int64} {a21 : Int64} {a22 : Nat} {a23 : Int32} {a24 : Nat} {a25 : Int32} {a26 : Nat} {a27 : Nat} {a28 : Nat} {a29 : Nat} {a30 : Int32} {a31 : Int32} {a32 : Nat} {a33 : Int32} {a34 : Int64} : (f_Model a0 a1 a2 a3 a4 a5 a6 a7 a8 a9 a10 a11 a12 a13 a14 a15 a16 a17 a18 a19 a20 a21 a22 a23 a24 a25 a26 a27 a28 a29 a30 a31 a32 a33 a34)[16]? = some (.long a16) := rfl
theorem fl_Model_16 {a0 : Int32} {a1 : Int32} {a2 : Nat} {a3 : Int32} {a4 : Nat} {a5 : Nat} {a6 : Int32} {a7 : Nat} {a8 : Nat} {a9 : Int32} {a10 : Nat} {a11 : Int32} {a12 : Int64} {a13 : Int32} {a14 : Int32} {a15 : Int64} {a16 : Int64} {a17 : Int64} {a18 : Int64} {a19 : Int32} {a20 : Int64} {a21 : Int64} {a22 : Nat} {a23 : Int32} {a24 : Nat} {a25 : Int32} {a26 : Nat} {a27 : Nat} {a28 : Nat} {a29 : Nat} {a30 : Int32} {a31 : Int32} {a32 : Nat} {a33 : Int32} {a34 : Int64} : 16 < (f_Model a0 a1 a2 a3 a4 a5 a6 a7 a8 a9 a10 a11 a12 a13 a14 a15 a16 a17 a18 a19 a20 a21 a22 a23 a24 a25 a26 a27 a28 a29 a30 a31 a32 a33 a34).length := Nat.le_of_ble_eq_true rfl
theorem fs_Model_16 {a0 : Int32} {a1 : Int32} {a2 : Nat} {a3 : Int32} {a4 : Nat} {a5 : Nat} {a6 : Int32} {a7 : Nat} {a8 : Nat} {a9 : Int32} {a10 : Nat} {a11 : Int32} {a12 : Int64} {a13 : Int32} {a14 : Int32} {a15 : Int64} {a16 : Int64} {a17 : Int64} {a18 : Int64} {a19 : Int32} {a20 : Int64} {a21 : Int64} {a22 : Nat} {a23 : Int32} {a24 : Nat} {a25 : Int32} {a26 : Nat} {a27 : Nat} {a28 : Nat} {a29 : Nat} {a30 : Int32} {a31 : Int32} {a32 : Nat} {a33 : Int32} {a34 : Int64} {b : Int64} : (f_Model a0 a1 a2 a3 a4 a5 a6 a7 a8 a9 a10 a11 a12 a13 a14 a15 a16 a17 a18 a19 a20 a21 a22 a23 a24 a25 a26 a27 a28 a29 a30 a31 a32 a33 a34).set 16 (.long b) = f_Model a0 a1 a2 a3 a4 a5 a6 a7 a8 a9 a10 a11 a12 a13 a14 a15 b a17 a18 a19 a20 a21 a22 a23 a24 a25 a26 a27 a28 a29 a30 a31 a32 a33 a34 := rfl
theorem fg_Model_17 {a0 : Int32} {a1 : Int32} {a2 : Nat} {a3 : Int32} {a4 : Nat} {a5 : Nat} {a6 : Int32} {a7 : Nat} {a8 : Nat} {a9 : Int32} {a10 : Nat} {a11 : Int32} {a12 : Int64} {a13 : Int32} {a14 : Int32} {a15 : Int64} {a16 : Int64} {a17 : Int64} {a18 : Int64} {a19 : Int32} {a20 : Int64} {a21 : Int64} {a22 : Nat} {a23 : Int32} {a24 : Nat} {a25 : Int32} {a26 : Nat} {a27 : Nat} {a28 : Nat} {a29 : Nat} {a30 : Int32} {a31 : Int32} {a32 : Nat} {a33 : Int32} {a34 : Int64} : (f_Model a0 a1 a2 a3 a4 a5 a6 a7 a8 a9 a10 a11 a12 a13 a14 a15 a16 a17 a18 a19 a20 a21 a22 a23 a24 a25 a26 a27 a28 a29 a30 a31 a32 a33 a34)[17]? = some (.long a17) := rfl
theorem fl_Model_17 {a0 : Int32} {a1 : Int32} {a2 : Nat} {a3 : Int32} {a4 : Nat} {a5 : Nat} {a6 : Int32} {a7 : Nat} {a8 : Nat} {a9 : Int32} {a10 : Nat} {a11 : Int32} {a12 : Int64} {a13 : Int32} {a14 : Int32} {a15 : Int64} {a16 : Int64} {a17 : Int64} {a18 : Int64} {a19 : Int32} {a20 : Int64} {a21 : Int64} {a22 : Nat} {a23 : Int32} {a24 : Nat} {a25 : Int32} {a26 : Nat} {a27 : Nat} {a28 : Nat} {a29 : Nat} {a30 : Int32} {a31 : Int32} {a32 : Nat} {a33 : Int32} {a34 : Int64} : 17 < (f_Model a0 a1 a2 a3 a4 a5 a6 a7 a8 a9 a10 a11 a12 a13 a14 a15 a16 a17 a18 a19 a20 a21 a22 a23 a24 a25 a26 a27 a28 a29 a30 a31 a32 a33 a34).length := Nat.le_of_ble_eq_true rfl
theorem fs_Model_17 {a0 : Int32} {a1 : Int32} {a2 : Nat} {a3 : Int32} {a4 : Nat} {a5 : Nat} {a6 : Int32} {a7 : Nat} {a8 : Nat} {a9 : Int32} {a10 : Nat} {a11 : Int32} {a12 : Int64} {a13 : Int32} {a14 : Int32} {a15 : Int64} {a16 : Int64} {a17 : Int64} {a18 : Int64} {a19 : Int32} {a20 : Int64} {a21 : Int64} {a22 : Nat} {a23 : Int32} {a24 : Nat} {a25 : Int32} {a26 : Nat} {a27 : Nat} {a28 : Nat} {a29 : Nat} {a30 : Int32} {a31 : Int32} {a32 : Nat} {a33 : Int32} {a34 : Int64} {b : Int64} : (f_Model a0 a1 a2 a3 a4 a5 a6 a7 a8 a9 a10 a11 a12 a13 a14 a15 a16 a17 a18 a19 a20 a21 a22 a23 a24 a25 a26 a27 a28 a29 a30 a31 a32 a33 a34).set 17 (.long b) = f_Model a0 a1 a2 a3 a4 a5 a6 a7 a8 a9 a10 a11 a12 a13 a14 a15 a16 b a18 a19 a20 a21 a22 a23 a24 a25 a26 a27 a28 a29 a30 a31 a32 a33 a34 := rfl
theorem fg_Model_18 {a0 : Int32} {a1 : Int32} {a2 : Nat} {a3 : Int32} {a4 : Nat} {a5 : Nat} {a6 : Int32} {a7 : Nat} {a8 : Nat} {a9 : Int32} {a10 : Nat} {a11 : Int32} {a12 : Int64} {a13 : Int32} {a14 : Int32} {a15 : Int64} {a16 : Int64} {a17 : Int64} {a18 : Int64} {a19 : Int32} {a20 : Int64} {a21 : Int64} {a22 : Nat} {a23 : Int32} {a24 : Nat} {a25 : Int32} {a26 : Nat} {a27 : Nat} {a28 : Nat} {a29 : Nat} {a30 : Int32} {a31 : Int32} {a32 : Nat} {a33 : Int32} {a34 : Int64} : (f_Model a0 a1 a2 a3 a4 a5 a6 a7 a8 a9 a10 a11 a12 a13 a14 a15 a16 a17 a18 a19 a20 a21 a22 a23 a24 a25 a26 a27 a28 a29 a30 a31 a32 a33 a34)[18]? = some (.long a18) := rfl
theorem fl_Model_18 {a0 : Int32} {a1 : Int32} {a2 : Nat} {a3 : Int32} {a4 : Nat} {a5 : Nat} {a6 : Int32} {a7 : Nat} {a8 : Nat} {a9 : Int32} {a10 : Nat} {a11 : Int32} {a12 : Int64} {a13 : Int32} {a14 : Int32} {a15 : Int64} {a16 : Int64} {a17 : Int64} {a18 : Int64} {a19 : Int32} {a20 : Int64} {a21 : Int64} {a22 : Nat} {a23 : Int32} {a24 : Nat} {a25 : Int32} {a26 : Nat} {a27 : Nat} {a28 : Nat} {a29 : Nat} {a30 : Int32} {a31 : Int32} {a32 : Nat} {a33 : Int32} {a34 : Int64} : 18 < (f_Model a0 a1 a2 a3 a4 a5 a6 a7 a8 a9 a10 a11 a12 a13 a14 a15 a16 a17 a18 a19 a20 a21 a22 a23 a24 a25 a26 a27 a28 a29 a30 a31 a32 a33 a34).length := Nat.le_of_ble_eq_true rfl
theorem fs_Model_18 {a0 : Int32} {a1 : Int32} {a2 : Nat} {a3 : Int32} {a4 : Nat} {a5 : Nat} {a6 : Int32} {a7 : Nat} {a8 : Nat} {a9 : Int32} {a10 : Nat} {a11 : Int32} {a12 : Int64} {a13 : Int32} {a14 : Int32} {a15 : Int64} {a16 : Int64} {a17 : Int64} {a18 : Int64} {a19 : Int32} {a20 : Int64} {a21 : Int64} {a22 : Nat} {a23 : Int32} {a24 : Nat} {a25 : Int32} {a26 : Nat} {a27 : Nat} {a28 : Nat} {a29 : Nat} {a30 : Int32} {a31 : Int32} {a32 : Nat} {a33 : Int32} {a34 : Int64} {b : Int64} : (f_Model a0 a1 a2 a3 a4 a5 a6 a7 a8 a9 a10 a11 a12 a13 a14 a15 a16 a17 a18 a19 a20 a21 a22 a23 a24 a25 a26 a27 a28 a29 a30 a31 a32 a33 a34).set 18 (.long b) = f_Model a0 a1 a2 a3 a4 a5 a6 a7 a8 a9 a10 a11 a12 a13 a14 a15 a16 a17 b a19 a20 a21 a22 a23 a24 a25 a26 a27 a28 a29 a30 a31 a32 a33 a34 := rfl
theorem fg_Model_19 {a0 : Int32} {a1 : Int32} {a2 : Nat} {a3 : Int32} {a4 : Nat} {a5 : Nat} {a6 : Int32} {a7 : Nat} {a8 : Nat} {a9 : Int32} {a10 : Nat} {a11 : Int32} {a12 : Int64} {a13 : Int32} {a14 : Int32} {a15 : Int64} {a16 : Int64} {a17 : Int64} {a18 : Int64} {a19 : Int32} {a20 : Int64} {a21 : Int64} {a22 : Nat} {a23 : Int32} {a24 : Nat} {a25 : Int32} {a26 : Nat} {a27 : Nat} {a28 : Nat} {a29 : Nat} {a30 : Int32} {a31 : Int32} {a32 : Nat} {a33 : Int32} {a34 : Int64} : (f_Model a0 a1 a2 a3 a4 a5 a6 a7 a8 a9 a10 a11 a12 a13 a14 a15 a16 a17 a18 a19 a20 a21 a22 a23 a24 a25 a26 a27 a28 a29 a30 a31 a32 a33 a34)[19]? = some (.int a19) := rfl
theorem fl_Model_19 {a0 : Int32} {a1 : Int32} {a2 : Nat} {a3 : Int32} {a4 : Nat} {a5 : Nat} {a6 : Int32} {a7 : Nat} {a8 : Nat} {a9 : Int32} {a10 : Nat} {a11 : Int32} {a12 : Int64} {a13 : Int32} {a14 : Int32} {a15 : Int64} {a16 : Int64} {a17 : Int64} {a18 : Int64} {a19 : Int32} {a20 : Int64} {a21 : Int64} {a22 : Nat} {a23 : Int32} {a24 : Nat} {a25 : Int32} {a26 : Nat} {a27 : Nat} {a28 : Nat} {a29 : Nat} {a30 : Int32} {a31 : Int32} {a32 : Nat} {a33 : Int32} {a34 : Int64} : 19 < (f_Model a0 a1 a2 a3 a4 a5 a6 a7 a8 a9 a10 a11 a12 a13 a14 a15 a16 a17 a18 a19 a20 a21 a22 a23 a24 a25 a26 a27 a28 a29 a30 a31 a32 a33 a34).length := Nat.le_of_ble_eq_true rfl
theorem fs_Model_19 {a0 : Int32} {a1 : Int32} {a2 : Nat} {a3 : Int32} {a4 : Nat} {a5 : Nat} {a6 : Int32} {a7 : Nat} {a8 : Nat} {a9 : Int32} {a10 : Nat} {a11 : Int32} {a12 : Int64} {a13 : Int32} {a14 : Int32} {a15 : Int64} {a16 : Int64} {a17 : Int64} {a18 : Int64} {a19 : Int32} {a20 : Int64} {a21 : Int64} {a22 : Nat} {a23 : Int32} {a24 : Nat} {a25 : Int32} {a26 : Nat} {a27 : Nat} {a28 : Nat} {a29 : Nat} {a30 : Int32} {a31 : Int32} {a32 : Nat} {a33 : Int32} {a34 : Int64} {b : Int32} : (f_Model a0 a1 a2 a3 a4 a5 a6 a7 a8 a9 a10 a11 a12 a13 a14 a15 a16 a17 a18 a19 a20 a21 a22 a23 a24 a25 a26 a27 a28 a29 a30 a31 a32 a33 a34).set 19 (.int b) = f_Model a0 a1 a2 a3 a4 a5 a6 a7 a8 a9 a10 a11 a12 a13 a14 a15 a16 a17 a18 b a20 a21 a22 a23 a24 a25 a26 a27 a28 a29 a30 a31 a32 a33 a34 := rfl
theorem fg_Model_20 {a0 : Int32} {a1 : Int32} {a2 : Nat} {a3 : Int32} {a4 : Nat} {a5 : Nat} {a6 : Int32} {a7 : Nat} {a8 : Nat} {a9 : Int32} {a10 : Nat} {a11 : Int32} {a12 : Int64} {a13 : Int32} {a14 : Int32} {a15 : Int64} {a16 : Int64} {a17 : Int64} {a18 : Int64} {a19 : Int32} {a20 : Int64} {a21 : Int64} {a22 : Nat} {a23 : Int32} {a24 : Nat} {a25 : Int32} {a26 : Nat} {a27 : Nat} {a28 : Nat} {a29 : Nat} {a30 : Int32} {a31 : Int32} {a32 : Nat} {a33 : Int32} {a34 : Int64} : (f_Model a0 a1 a2 a3 a4 a5 a6 a7 a8 a9 a10 a11 a12 a13 a14 a15 a16 a17 a18 a19 a20 a21 a22 a23 a24 a25 a26 a27 a28 a29 a30 a31 a32 a33 a34)[20]? = some (.long a20) := rfl
theorem fl_Model_20 {a0 : Int32} {a1 : Int32} {a2 : Nat} {a3 : Int32} {a4 : Nat} {a5 : Nat} {a6 : Int32} {a7 : Nat} {a8 : Nat} {a9 : Int32} {a10 : Nat} {a11 : Int32} {a12 : Int64} {a13 : Int32} {a14 : Int32} {a15 : Int64} {a16 : Int64} {a17 : Int64} {a18 : Int64} {a19 : Int32} {a20 : Int64} {a21 : Int64} {a22 : Nat} {a23 : Int32} {a24 : Nat} {a25 : Int32} {a26 : Nat} {a27 : Nat} {a28 : Nat} {a29 : Nat} {a30 : Int32} {a31 : Int32} {a32 : Nat} {a33 : Int32} {a34 : Int64} : 20 < (f_Model a0 a1 a2 a3 a4 a5 a6 a7 a8 a9 a10 a11 a12 a13 a14 a15 a16 a17 a18 a19 a20 a21 a22 a23 a24 a25 a26 a27 a28 a29 a30 a31 a32 a33 a34).length := Nat.le_of_ble_eq_true rfl
theorem fs_Model_20 {a0 : Int32} {a1 : Int32} {a2 : Nat} {a3 : Int32} {a4 : Nat} {a5 : Nat} {a6 : Int32} {a7 : Nat} {a8 : Nat} {a9 : Int32} {a10 : Nat} {a11 : Int32} {a12 : Int64} {a13 : Int32} {a14 : Int32} {a15 : Int64} {a16 : Int64} {a17 : Int64} {a18 : Int64} {a19 : Int32} {a20 : Int64} {a21 : Int64} {a22 : Nat} {a23 : Int32} {a24 : Nat} {a25 : Int32} {a26 : Nat} {a27 : Nat} {a28 : Nat} {a29 : Nat} {a30 : Int32} {a31 : Int32} {a32 : Nat} {a33 : Int32} {a34 : Int64} {b : Int64} : (f_Model a0 a1 a2 a3 a4 a5 a6 a7 a8 a9 a10 a11 a12 a13 a14 a15 a16 a17 a18 a19 a20 a21 a22 a23 a24 a25 a26 a27 a28 a29 a30 a31 a32 a33 a34).set 20 (.long b) = f_Model a0 a1 a2 a3 a4 a5 a6 a7 a8 a9 a10 a11 a12 a13 a14 a15 a16 a17 a18 a19 b a21 a22 a23 a24 a25 a26 a27 a28 a29 a30 a31 a32 a33 a34 := rfl
theorem fg_Model_21 {a0 : Int32} {a1 : Int32} {a2 : Nat} {a3 : Int32} {a4 : Nat} {a5 : Nat} {a6 : Int32} {a7 : Nat} {a8 : Nat} {a9 : Int32} {a10 : Nat} {a11 : Int32} {a12 : Int64} {a13 : Int32} {a14 : Int32} {a15 : Int64} {a16 : Int64} {a17 : Int64} {a18 : Int64} {a19 : Int32} {a20 : Int64} {a21 : Int64} {a22 : Nat} {a23 : Int32} {a24 : Nat} {a25 : Int32} {a26 : Nat} {a27 : Nat} {a28 : Nat} {a29 : Nat} {a30 : Int32} {a31 : Int32} {a32 : Nat} {a33 : Int32} {a34 : Int64} : (f_Model a0 a1 a2 a3 a4 a5 a6 a7 a8 a9 a10 a11 a12 a13 a14 a15 a16 a17 a18 a19 a20 a21 a22 a23 a24 a25 a26 a27 a28 a29 a30 a31 a32 a33 a34)[21]? = some (.long a21) := rfl
theorem fl_Model_21 {a0 : Int32} {a1 : Int32} {a2 : Nat} {a3 : Int32} {a4 : Nat} {a5 : Nat} {a6 : Int32} {a7 : Nat} {a8 : Nat} {a9 : Int32} {a10 : Nat} {a11 : Int32} {a12 : Int64} {a13 : Int32} {a14 : Int32} {a15 : Int64} {a16 : Int64} {a17 : Int64} {a18 : Int64} {a19 : Int32} {a20 : Int64} {a21 : Int64} {a22 : Nat} {a23 : Int32} {a24 : Nat} {a25 : Int32} {a26 : Nat} {a27 : Nat} {a28 : Nat} {a29 : Nat} {a30 : Int32} {a31 : Int32} {a32 : Nat} {a33 : Int32} {a34 : Int64} : 21 < (f_Model a0 a1 a2 a3 a4 a5 a6 a7 a8 a9 a10 a11 a12 a13 a14 a15 a16 a17 a18 a19 a20 a21 a22 a23 a24 a25 a26 a27 a28 a29 a30 a31 a32 a33 a34).length := Nat.le_of_ble_eq_true rfl
theorem fs_Model_21 {a0 : Int32} {a1 : Int32} {a2 : Nat} {a3 : Int32} {a4 : Nat} {a5 : Nat} {a6 : Int32} {a7 : Nat} {a8 : Nat} {a9 : Int32} {a10 : Nat} {a11 : Int32} {a12 : Int64} {a13 : Int32} {a14 : Int32} {a15 : Int64} {a16 : Int64} {a17 : Int64} {a18 : Int64} {a19 : Int32} {a20 : Int64} {a21 : Int64} {a22 : Nat} {a23 : Int32} {a24 : Nat} {a25 : Int32} {a26 : Nat} {a27 : Nat} {a28 : Nat} {a29 : Nat} {a30 : Int32} {a31 : Int32} {a32 : Nat} {a33 : Int32} {a34 : Int64} {b : Int64} : (f_Model a0 a1 a2 a3 a4 a5 a6 a7 a8 a9 a10 a11 a12 a13 a14 a15 a16 a17 a18 a19 a20 a21 a22 a23 a24 a25 a26 a27 a28 a29 a30 a31 a32 a33 a34).set 21 (.long b) = f_Model a0 a1 a2 a3 a4 a5 a6 a7 a8 a9 a10 a11 a12 a13 a14 a15 a16 a17 a18 a19 a20 b a22 a23 a24 a25 a26 a27 a28 a29 a30 a31 a32 a33 a34 := rfl
theorem fg_Model_22 {a0 : Int32} {a1 : Int32} {a2 : Nat} {a3 : Int32} {a4 : Nat} {a5 : Nat} {a6 : Int32} {a7 : Nat} {a8 : Nat} {a9 : Int32} {a10 : Nat} {a11 : Int32} {a12 : Int64} {a13 : Int32} {a14 : Int32} {a15 : Int64} {a16 : Int64} {a17 : Int64} {a18 : Int64} {a19 : Int32} {a20 : Int64} {a21 : Int64} {a22 : Nat} {a23 : Int32} {a24 : Nat} {a25 : Int32} {a26 : Nat} {a27 : Nat} {a28 : Nat} {a29 : Nat} {a30 : Int32} {a31 : Int32} {a32 : Nat} {a33 : Int32} {a34 : Int64} : (f_Model a0 a1 a2 a3 a4 a5 a6 a7 a8 a9 a10 a11 a12 a13 a14 a15 a16 a17 a18 a19 a20 a21 a22 a23 a24 a25 a26 a27 a28 a29 a30 a31 a32 a33 a34)[22]? = some (.ref a22) := rfl
theorem fl_Model_22 {a0 : Int32} {a1 : Int32} {a2 : Nat} {a3 : Int32} {a4 : Nat} {a5 : Nat} {a6 : Int32} {a7 : Nat} {a8 : Nat} {a9 : Int32} {a10 : Nat} {a11 : Int32} {a12 : Int64} {a13 : Int32} {a14 : Int32} {a15 : Int64} {a16 : Int64} {a17 : Int64} {a18 : Int64} {a19 : Int32} {a20 : Int64} {a21 : Int64} {a22 : Nat} {a23 : Int32} {a24 : Nat} {a25 : Int32} {a26 : Nat} {a27 : Nat} {a28 : Nat} {a29 : Nat} {a30 : Int32} {a31 : Int32} {a32 : Nat} {a33 : Int32} {a34 : Int64} : 22 < (f_Model a0 a1 a2 a3 a4 a5 a6 a7 a8 a9 a10 a11 a12 a13 a14 a15 a16 a17 a18 a19 a20 a21 a22 a23 a24 a25 a26 a27 a28 a29 a30 a31 a32 a33 a34).length := Nat.le_of_ble_eq_true rfl
theorem fs_Model_22 {a0 : Int32} {a1 : Int32} {a2 : Nat} {a3 : Int32} {a4 : Nat} {a5 : Nat} {a6 : Int32} {a7 : Nat} {a8 : Nat} {a9 : Int32} {a10 : Nat} {a11 : Int32} {a12 : Int64} {a13 : Int32} {a14 : Int32} {a15 : Int64} {a16 : Int64} {a17 : Int64} {a18 : Int64} {a19 : Int32} {a20 : Int64} {a21 : Int64} {a22 : Nat} {a23 : Int32} {a24 : Nat} {a25 : Int32} {a26 : Nat} {a27 : Nat} {a28 : Nat} {a29 : Nat} {a30 : Int32} {a31 : Int32} {a32 : Nat} {a33 : Int32} {a34 : Int64} {b : Nat} : (f_Model a0 a1 a2 a3 a4 a5 a6 a7 a8 a9 a10 a11 a12 a13 a14 a15 a16 a17 a18 a19 a20 a21 a22 a23 a24 a25 a26 a27 a28 a29 a30 a31 a32 a33 a34).set 22 (.ref b) = f_Model a0 a1 a2 a3 a4 a5 a6 a7 a8 a9 a10 a11 a12 a13 a14 a15 a16 a17 a18 a19 a20 a21 b a23 a24 a25 a26 a27 a28 a29 a30 a31 a32 a33 a34 := rfl
theorem fg_Model_23 {a0 : Int32} {a1 : Int32} {a2 : Nat} {a3 : Int32} {a4 : Nat} {a5 : Nat} {a6 : Int32} {a7 : Nat} {a8 : Nat} {a9 : Int32} {a10 : Nat} {a11 : Int32} {a12 : Int64} {a13 : Int32} {a14 : Int32} {a15 : Int64} {a16 : Int64} {a17 : Int64} {a18 : Int64} {a19 : Int32} {a20 : Int64} {a21 : Int64} {a22 : Nat} {a23 : Int32} {a24 : Nat} {a25 : Int32} {a26 : Nat} {a27 : Nat} {a28 : Nat} {a29 : Nat} {a30 : Int32} {a31 : Int32} {a32 : Nat} {a33 : Int32} {a34 : Int64} : (f_Model a0 a1 a2 a3 a4 a5 a6 a7 a8 a9 a10 a11 a12 a13 a14 a15 a16 a17 a18 a19 a20 a21 a22 a23 a24 a25 a26 a27 a28 a29 a30 a31 a32 a33 a34)[23]? = some (.int a23) := rfl
theorem fl_Model_23 {a0 : Int32} {a1 : Int32} {a2 : Nat} {a3 : Int32} {a4 : Nat} {a5 : Nat} {a6 : Int32} {a7 : Nat} {a8 : Nat} {a9 : Int32} {a10 : Nat} {a11 : Int32} {a12 : Int64} {a13 : Int32} {a14 : Int32} {a15 : Int64} {a16 : Int64} {a17 : Int64} {a18 : Int64} {a19 : Int32} {a20 : Int64} {a21 : Int64} {a22 : Nat} {a23 : Int32} {a24 : Nat} {a25 : Int32} {a26 : Nat} {a27 : Nat} {a28 : Nat} {a29 : Nat} {a30 : Int32} {a31 : Int32} {a32 : Nat} {a33 : Int32} {a34 : Int64} : 23 < (f_Model a0 a1 a2 a3 a4 a5 a6 a7 a8 a9 a10 a11 a12 a13 a14 a15 a16 a17 a18 a19 a20 a21 a22 a23 a24 a25 a26 a27 a28 a29 a30 a31 a32 a33 a34).length := Nat.le_of_ble_eq_true rfl
theorem fs_Model_23 {a0 : Int32} {a1 : Int32} {a2 : Nat} {a3 : Int32} {a4 : Nat} {a5 : Nat} {a6 : Int32} {a7 : Nat} {a8 : Nat} {a9 : Int32} {a10 : Nat} {a11 : Int32} {a12 : Int64} {a13 : Int32} {a14 : Int32} {a15 : Int64} {a16 : Int64} {a17 : Int64} {a18 : Int64} {a19 : Int32} {a20 : Int64} {a21 : Int64} {a22 : Nat} {a23 : Int32} {a24 : Nat} {a25 : Int32} {a26 : Nat} {a27 : Nat} {a28 : Nat} {a29 : Nat} {a30 : Int32} {a31 : Int32} {a32 : Nat} {a33 : Int32} {a34 : Int64} {b : Int32} : (f_Model a0 a1 a2 a3 a4 a5 a6 a7 a8 a9 a10 a11 a12 a13 a14 a15 a16 a17 a18 a19 a20 a21 a22 a23 a24 a25 a26 a27 a28 a29 a30 a31 a32 a33 a34).set 23 (.int b) = f_Model a0 a1 a2 a3 a4 a5 a6 a7 a8 a9 a10 a11 a12 a13 a14 a15 a16 a17 a18 a19 a20 a21 a22 b a24 a25 a26 a27 a28 a29 a30 a31 a32 a33 a34 := rfl
theorem fg_Model_24 {a0 : Int32} {a1 : Int32} {a2 : Nat} {a3 : Int32} {a4 : Nat} {a5 : Nat} {a6 : Int32} {a7 : Nat} {a8 : Nat} {a9 : Int32} {a10 : Nat} {a11 : Int32} {a12 : Int64} {a13 : Int32} {a14 : Int32} {a15 : Int64} {a16 : Int64} {a17 : Int64} {a18 : Int64} {a19 : Int32} {a20 : Int64} {a21 : Int64} {a22 : Nat} {a23 : Int32} {a24 : Nat} {a25 : Int32} {a26 : Nat} {a27 : Nat} {a28 : Nat} {a29 : Nat} {a30 : Int32} {a31 : Int32} {a32 : Nat} {a33 : Int32} {a34 : Int64} : (f_Model a0 a1 a2 a3 a4 a5 a6 a7 a8 a9 a10 a11 a12 a13 a14 a15 a16 a17 a18 a19 a20 a21 a22 a23 a24 a25 a26 a27 a28 a29 a30 a31 a32 a33 a34)[24]? = some (.ref a24) := rfl
theorem fl_Model_24 {a0 : Int32} {a1 : Int32} {a2 : Nat} {a3 : Int32} {a4 : Nat} {a5 : Nat} {a6 : Int32} {a7 : Nat} {a8 : Nat} {a9 : Int32} {a10 : Nat} {a11 : Int32} {a12 : Int64} {a13 : Int32} {a14 : Int32} {a15 : Int64} {a16 : Int64} {a17 : Int64} {a18 : Int64} {a19 : Int32} {a20 : Int64} {a21 : Int64} {a22 : Nat} {a23 : Int32} {a24 : Nat} {a25 : Int32} {a26 : Nat} {a27 : Nat} {a28 : Nat} {a29 : Nat} {a30 : Int32} {a31 : Int32} {a32 : Nat} {a33 : Int32} {a34 : Int64} : 24 < (f_Model a0 a1 a2 a3 a4 a5 a6 a7 a8 a9 a10 a11 a12 a13 a14 a15 a16 a17 a18 a19 a20 a21 a22 a23 a24 a25 a26 a27 a28 a29 a30 a31 a32 a33 a34).length := Nat.le_of_ble_eq_true rfl
theorem fs_Model_24 {a0 : Int32} {a1 : Int32} {a2 : Nat} {a3 : Int32} {a4 : Nat} {a5 : Nat} {a6 : Int32} {a7 : Nat} {a8 : Nat} {a9 : Int32} {a10 : Nat} {a11 : Int32} {a12 : Int64} {a13 : Int32} {a14 : Int32} {a15 : Int64} {a16 : Int64} {a17 : Int64} {a18 : Int64} {a19 : Int32} {a20 : Int64} {a21 : Int64} {a22 : Nat} {a23 : Int32} {a24 : Nat} {a25 : Int32} {a26 : Nat} {a27 : Nat} {a28 : Nat} {a29 : Nat} {a30 : Int32} {a31 : Int32} {a32 : Nat} {a33 : Int32} {a34 : Int64} {b : Nat} : (f_Model a0 a1 a2 a3 a4 a5 a6 a7 a8 a9 a10 a11 a12 a13 a14 a15 a16 a17 a18 a19 a20 a21 a22 a23 a24 a25 a26 a27 a28 a29 a30 a31 a32 a33 a34).set 24 (.ref b) = f_Model a0 a1 a2 a3 a4 a5 a6 a7 a8 a9 a10 a11 a12 a13 a14 a15 a16 a17 a18 a19 a20 a21 a22 a23 b a25 a26 a27 a28 a29 a30 a31 a32 a33 a34 := rfl
theorem fg_Model_25 {a0 : Int32} {a1 : Int32} {a2 : Nat} {a3 : Int32} {a4 : Nat} {a5 : Nat} {a6 : Int32} {a7 : Nat} {a8 : Nat} {a9 : Int32} {a10 : Nat} {a11 : Int32} {a12 : Int64} {a13 : Int32} {a14 : Int32} {a15 : Int64} {a16 : Int64} {a17 : Int64} {a18 : Int64} {a19 : Int32} {a20 : Int64} {a21 : Int64} {a22 : Nat} {a23 : Int32} {a24 : Nat} {a25 : Int32} {a26 : Nat} {a27 : Nat} {a28 : Nat} {a29 : Nat} {a30 : Int32} {a31 : Int32} {a32 : Nat} {a33 : Int32} {a34 : Int64} : (f_Model a0 a1 a2 a3 a4 a5 a6 a7 a8 a9 a10 a11 a12 a13 a14 a15 a16 a17 a18 a19 a20 a21 a22 a23 a24 a25 a26 a27 a28 a29 a30 a31 a32 a33 a34)[25]? = some (.int a25) := rfl
theorem fl_Model_25 {a0 : Int32} {a1 : Int32} {a2 : Nat} {a3 : Int32} {a4 : Nat} {a5 : Nat} {a6 : Int32} {a7 : Nat} {a8 : Nat} {a9 : Int32} {a10 : Nat} {a11 : Int32} {a12 : Int64} {a13 : Int32} {a14 : Int32} {a15 : Int64} {a16 : Int64} {a17 : Int64} {a18 : Int64} {a19 : Int32} {a20 : Int64} {a21 : Int64} {a22 : Nat} {a23 : Int32} {a24 : Nat} {a25 : Int32} {a26 : Nat} {a27 : Nat} {a28 : Nat} {a29 : Nat} {a30 : Int32} {a31 : Int32} {a32 : Nat} {a33 : Int32} {a34 : Int64} : 25 < (f_Model a0 a1 a2 a3 a4 a5 a6 a7 a8 a9 a10 a11 a12 a13 a14 a15 a16 a17 a18 a19 a20 a21 a22 a23 a24 a25 a26 a27 a28 a29 a30 a31 a32 a33 a34).length := Nat.le_of_ble_eq_true rfl
theorem fs_Model_25 {a0 : Int32} {a1 : Int32} {a2 : Nat} {a3 : Int32} {a4 : Nat} {a5 : Nat} {a6 : Int32} {a7 : Nat} {a8 : Nat} {a9 : Int32} {a10 : Nat} {a11 : Int32} {a12 : Int64} {a13 : Int32} {a14 : Int32} {a15 : Int64} {a16 : Int64} {a17 : Int64} {a18 : Int64} {a19 : Int32} {a20 : Int64} {a21 : Int64} {a22 : Nat} {a23 : Int32} {a24 : Nat} {a25 : Int32} {a26 : Nat} {a27 : Nat} {a28 : Nat} {a29 : Nat} {a30 : Int32} {a31 : Int32} {a32 : Nat} {a33 : Int32} {a34 : Int64} {b : Int32} : (f_Model a0 a1 a2 a3 a4 a5 a6 a7 a8 a9 a10 a11 a12 a13 a14 a15 a16 a17 a18 a19 a20 a21 a22 a23 a24 a25 a26 a27 a28 a29 a30 a31 a32 a33 a34).set 25 (.int b) = f_Model a0 a1 a2 a3 a4 a5 a6 a7 a8 a9 a10 a11 a12 a13 a14 a15 a16 a17 a18 a19 a20 a21 a22 a23 a24 b a26 a27 a28 a29 a30 a31 a32 a33 a34 := rfl
theorem fg_Model_26 {a0 : Int32} {a1 : Int32} {a2 : Nat} {a3 : Int32} {a4 : Nat} {a5 : Nat} {a6 : Int32} {a7 : Nat} {a8 : Nat} {a9 : Int32} {a10 : Nat} {a11 : Int32} {a12 : Int64} {a13 : Int32} {a14 : Int32} {a15 : Int64} {a16 : Int64} {a17 : Int64} {a18 : Int64} {a19 : Int32} {a20 : Int64} {a21 : Int64} {a22 : Nat} {a23 : Int32} {a24 : Nat} {a25 : Int32} {a26 : Nat} {a27 : Nat} {a28 : Nat} {a29 : Nat} {a30 : Int32} {a31 : Int32} {a32 : Nat} {a33 : Int32} {a34 : Int64} : (f_Model a0 a1 a2 a3 a4 a5 a6 a7 a8 a9 a10 a11 a12 a13 a14 a15 a16 a17 a18 a19 a20 a21 a22 a23 a24 a25 a26 a27 a28 a29 a30 a31 a32 a33 a34)[26]? = some (.ref a26) := rfl
theorem fl_Model_26 {a0 : Int32} {a1 : Int32} {a2 : Nat} {a3 : Int32} {a4 : Nat} {a5 : Nat} {a6 : Int32} {a7 : Nat} {a8 : Nat} {a9 : Int32} {a10 : Nat} {a11 : Int32} {a12 : Int64} {a13 : Int32} {a14 : Int32} {a15 : Int64} {a16 : Int64} {a17 : Int64} {a18 : Int64} {a19 : Int32} {a20 : Int64} {a21 : Int64} {a22 : Nat} {a23 : Int32} {a24 : Nat} {a25 : Int32} {a26 : Nat} {a27 : Nat} {a28 : Nat} {a29 : Nat} {a30 : Int32} {a31 : Int32} {a32 : Nat} {a33 : Int32} {a34 : Int64} : 26 < (f_Model a0 a1 a2 a3 a4 a5 a6 a7 a8 a9 a10 a11 a12 a13 a14 a15 a16 a17 a18 a19 a20 a21 a22 a23 a24 a25 a26 a27 a28 a29 a30 a31 a32 a33 a34).length := Nat.le_of_ble_eq_true rfl
theorem fs_Model_26 {a0 : Int32} {a1 : Int32} {a2 : Nat} {a3 : Int32} {a4 : Nat} {a5 : Nat} {a6 : Int32} {a7 : Nat} {a8 : Nat} {a9 : Int32} {a10 : Nat} {a11 : Int32} {a12 : Int64} {a13 : Int32} {a14 : Int32} {a15 : Int64} {a16 : Int64} {a17 : Int64} {a18 : Int64} {a19 : Int32} {a20 : Int64} {a21 : Int64} {a22 : Nat} {a23 : Int32} {a24 : Nat} {a25 : Int32} {a26 : Nat} {a27 : Nat} {a28 : Nat} {a29 : Nat} {a30 : Int32} {a31 : Int32} {a32 : Nat} {a33 : Int32} {a34 : Int64} {b : Nat} : (f_Model a0 a1 a2 a3 a4 a5 a6 a7 a8 a9 a10 a11 a12 a13 a14 a15 a16 a17 a18 a19 a20 a21 a22 a23 a24 a25 a26 a27 a28 a29 a30 a31 a32 a33 a34).set 26 (.ref b) = f_Model a0 a1 a2 a3 a4 a5 a6 a7 a8 a9 a10 a11 a12 a13 a14 a15 a16 a17 a18 a19 a20 a21 a22 a23 a24 a25 b a27 a28 a29 a30 a31 a32 a33 a34 := rfl
theorem fg_Model_27 {a0 : Int32} {a1 : Int32} {a2 : Nat} {a3 : Int32} {a4 : Nat} {a5 : Nat} {a6 : Int32} {a7 : Nat} {a8 : Nat} {a9 : Int32} {a10 : Nat} {a11 : Int32} {a12 : Int64} {a13 : Int32} {a14 : Int32} {a15 : Int64} {a16 : Int64} {a17 : Int64} {a18 : Int64} {a19 : Int32} {a20 : Int64} {a21 : Int64} {a22 : Nat} {a23 : Int32} {a24 : Nat} {a25 : Int32} {a26 : Nat} {a27 : Nat} {a28 : Nat} {a29 : Nat} {a30 : Int32} {a31 : Int32} {a32 : Nat} {a33 : Int32} {a34 : Int64} : (f_Model a0 a1 a2 a3 a4 a5 a6 a7 a8 a9 a10 a11 a12 a13 a14 a15 a16 a17 a18 a19 a20 a21 a22 a23 a24 a25 a26 a27 a28 a29 a30 a31 a32 a33 a34)[27]? = some (.ref a27) := rfl
theorem fl_Model_27 {a0 : Int32} {a1 : Int32} {a2 : Nat} {a3 : Int32} {a4 : Nat} {a5 : Nat} {a6 : Int32} {a7 : Nat} {a8 : Nat} {a9 : Int32} {a10 : Nat} {a11 : Int32} {a12 : Int64} {a13 : Int32} {a14 : Int32} {a15 : Int64} {a16 : Int64} {a17 : Int64} {a18 : Int64} {a19 : Int32} {a20 : Int64} {a21 : Int64} {a22 : Nat} {a23 : Int32} {a24 : Nat} {a25 : Int32} {a26 : Nat} {a27 : Nat} {a28 : Nat} {a29 : Nat} {a30 : Int32} {a31 : Int32} {a32 : Nat} {a33 : Int32} {a34 : Int64} : 27 < (f_Model a0 a1 a2 a3 a4 a5 a6 a7 a8 a9 a10 a11 a12 a13 a14 a15 a16 a17 a18 a19 a20 a21 a22 a23 a24 a25 a26 a27 a28 a29 a30 a31 a32 a33 a34).length := Nat.le_of_ble_eq_true rfl
theorem fs_Model_27 {a0 : Int32} {a1 : Int32} {a2 : Nat} {a3 : Int32} {a4 : Nat} {a5 : Nat} {a6 : Int32} {a7 : Nat} {a8 : Nat} {a9 : Int32} {a10 : Nat} {a11 : Int32} {a12 : Int64} {a13 : Int32} {a14 : Int32} {a15 : Int64} {a16 : Int64} {a17 : Int64} {a18 : Int64} {a19 : Int32} {a20 : Int64} {a21 : Int64} {a22 : Nat} {a23 : Int32} {a24 : Nat} {a25 : Int32} {a26 : Nat} {a27 : Nat} {a28 : Nat} {a29 : Nat} {a30 : Int32} {a31 : Int32} {a32 : Nat} {a33 : Int32} {a34 : Int64} {b : Nat} : (f_Model a0 a1 a2 a3 a4 a5 a6 a7 a8 a9 a10 a11 a12 a13 a14 a15 a16 a17 a18 a19 a20 a21 a22 a23 a24 a25 a26 a27 a28 a29 a30 a31 a32 a33 a34).set 27 (.ref b) = f_Model a0 a1 a2 a3 a4 a5 a6 a7 a8 a9 a10 a11 a12 a13 a14 a15 a16 a17 a18 a19 a20 a21 a22 a23 a24 a25 a26 b a28 a29 a30 a31 a32 a33 a34 := rfl
theorem fg_Model_28 {a0 : Int32} {a1 : Int32} {a2 : Nat} {a3 : Int32} {a4 : Nat} {a5 : Nat} {a6 : Int32} {a7 : Nat} {a8 : Nat} {a9 : Int32} {a10 : Nat} {a11 : Int32} {a12 : Int64} {a13 : Int32} {a14 : Int32} {a15 : Int64} {a16 : Int64} {a17 : Int64} {a18 : Int64} {a19 : Int32} {a20 : Int64} {a21 : Int64} {a22 : Nat} {a23 : Int32} {a24 : Nat} {a25 : Int32} {a26 : Nat} {a27 : Nat} {a28 : Nat} {a29 : Nat} {a30 : Int32} {a31 : Int32} {a32 : Nat} {a33 : Int32} {a34 : Int64} : (f_Model a0 a1 a2 a3 a4 a5 a6 a7 a8 a9 a10 a11 a12 a13 a14 a15 a16 a17 a18 a19 a20 a21 a22 a23 a24 a25 a26 a27 a28 a29 a30 a31 a32 a33 a34)[28]? = some (.ref a28) := rfl
theorem fl_Model_28 {a0 : Int32} {a1 : Int32} {a2 : Nat} {a3 : Int32} {a4 : Nat} {a5 : Nat} {a6 : Int32} {a7 : Nat} {a8 : Nat} {a9 : Int32} {a10 : Nat} {a11 : Int32} {a12 : Int64} {a13 : Int32} {a14 : Int32} {a15 : Int64} {a16 : Int64} {a17 : Int64} {a18 : Int64} {a19 : Int32} {a20 : Int64} {a21 : Int64} {a22 : Nat} {a23 : Int32} {a24 : Nat} {a25 : Int32} {a26 : Nat} {a27 : Nat} {a28 : Nat} {a29 : Nat} {a30 : Int32} {a31 : Int32} {a32 : Nat} {a33 : Int32} {a34 : Int64} : 28 < (f_Model a0 a1 a2 a3 a4 a5 a6 a7 a8 a9 a10 a11 a12 a13 a14 a15 a16 a17 a18 a19 a20 a21 a22 a23 a24 a25 a26 a27 a28 a29 a30 a31 a32 a33 a34).length := Nat.le_of_ble_eq_true rfl
theorem fs_Model_28 {a0 : Int32} {a1 : Int32} {a2 : Nat} {a3 : Int32} {a4 : Nat} {a5 : Nat} {a6 : Int32} {a7 : Nat} {a8 : Nat} {a9 : Int32} {a10 : Nat} {a11 : Int32} {a12 : Int64} {a13 : Int32} {a14 : Int32} {a15 : Int64} {a16 : Int64} {a17 : Int64} {a18 : Int64} {a19 : Int32} {a20 : Int64} {a21 : Int64} {a22 : Nat} {a23 : Int32} {a24 : Nat} {a25 : Int32} {a26 : Nat} {a27 : Nat} {a28 : Nat} {a29 : Nat} {a30 : Int32} {a31 : Int32} {a32 : Nat} {a33 : Int32} {a34 : Int64} {b : Nat} : (f_Model a0 a1 a2 a3 a4 a5 a6 a7 a8 a9 a10 a11 a12 a13 a14 a15 a16 a17 a18 a19 a20 a21 a22 a23 a24 a25 a26 a27 a28 a29 a30 a31 a32 a33 a34).set 28 (.ref b) = f_Model a0 a1 a2 a3 a4 a5 a6 a7 a8 a9 a10 a11 a12 a13 a14 a15 a16 a17 a18 a19 a20 a21 a22 a23 a24 a25 a26 a27 b a29 a30 a31 a32 a33 a34 := rfl
theorem fg_Model_29 {a0 : Int32} {a1 : Int32} {a2 : Nat} {a3 : Int32} {a4 : Nat} {a5 : Nat} {a6 : Int32} {a7 : Nat} {a8 : Nat} {a9 : Int32} {a10 : Nat} {a11 : Int32} {a12 : Int64} {a13 : Int32} {a14 : Int32} {a15 : Int64} {a16 : Int64} {a17 : Int64} {a18 : Int64} {a19 : Int32} {a20 : Int64} {a21 : Int64} {a22 : Nat} {a23 : Int32} {a24 : Nat} {a25 : Int32} {a26 : Nat} {a27 : Nat} {a28 : Nat} {a29 : Nat} {a30 : Int32} {a31 : Int32} {a32 : Nat} {a33 : Int32} {a34 : Int64} : (f_Model a0 a1 a2 a3 a4 a5 a6 a7 a8 a9 a10 a11 a12 a13 a14 a15 a16 a17 a18 a19 a20 a21 a22 a23 a24 a25 a26 a27 a28 a29 a30 a31 a32 a33 a34)[29]? = some (.ref a29) := rfl
theorem fl_Model_29 {a0 : Int32} {a1 : Int32} {a2 : Nat} {a3 : Int32} {a4 : Nat} {a5 : Nat} {a6 : Int32} {a7 : Nat} {a8 : Nat} {a9 : Int32} {a10 : Nat} {a11 : Int32} {a12 : Int64} {a13 : Int32} {a14 : Int32} {a15 : Int64} {a16 : Int64} {a17 : Int64} {a18 : Int64} {a19 : Int32} {a20 : Int64} {a21 : Int64} {a22 : Nat} {a23 : Int32} {a24 : Nat} {a25 : Int32} {a26 : Nat} {a27 : Nat} {a28 : Nat} {a29 : Nat} {a30 : Int32} {a31 : Int32} {a32 : Nat} {a33 : Int32} {a34 : Int64} : 29 < (f_Model a0 a1 a2 a3 a4 a5 a6 a7 a8 a9 a10 a11 a12 a13 a14 a15 a16 a17 a18 a19 a20 a21 a22 a23 a24 a25 a26 a27 a28 a29 a30 a31 a32 a33 a34).length := Nat.le_of_ble_eq_true rfl
theorem fs_Model_29 {a0 : Int32} {a1 : Int32} {a2 : Nat} {a3 : Int32} {a4 : Nat} {a5 : Nat} {a6 : Int32} {a7 : Nat} {a8 : Nat} {a9 : Int32} {a10 : Nat} {a11 : Int32} {a12 : Int64} {a13 : Int32} {a14 : Int32} {a15 : Int64} {a16 : Int64} {a17 : Int64} {a18 : Int64} {a19 : Int32} {a20 : Int64} {a21 : Int64} {a22 : Nat} {a23 : Int32} {a24 : Nat} {a25 : Int32} {a26 : Nat} {a27 : Nat} {a28 : Nat} {a29 : Nat} {a30 : Int32} {a31 : Int32} {a32 : Nat} {a33 : Int32} {a34 : Int64} {b : Nat} : (f_Model a0 a1 a2 a3 a4 a5 a6 a7 a8 a9 a10 a11 a12 a13 a14 a15 a16 a17 a18 a19 a20 a21 a22 a23 a24 a25 a26 a27 a28 a29 a30 a31 a32 a33 a34).set 29 (.ref b) = f_Model a0 a1 a2 a3 a4 a5 a6 a7 a8 a9 a10 a11 a12 a13 a14 a15 a16 a17 a18 a19 a20 a21 a22 a23 a24 a25 a26 a27 a28 b a30 a31 a32 a33 a34 := rfl
theorem fg_Model_30 {a0 : Int32} {a1 : Int32} {a2 : Nat} {a3 : Int32} {a4 : Nat} {a5 : Nat} {a6 : Int32} {a7 : Nat} {a8 : Nat} {a9 : Int32} {a10 : Nat} {a11 : Int32} {a12 : Int64} {a13 : Int32} {a14 : Int32} {a15 : Int64} {a16 : Int64} {a17 : Int64} {a18 : Int64} {a19 : Int32} {a20 : Int64} {a21 : Int64} {a22 : Nat} {a23 : Int32} {a24 : Nat} {a25 : Int32} {a26 : Nat} {a27 : Nat} {a28 : Nat} {a29 : Nat} {a30 : Int32} {a31 : Int32} {a32 : Nat} {a33 : Int32} {a34 : Int64} : (f_Model a0 a1 a2 a3 a4 a5 a6 a7 a8 a9 a10 a11 a12 a13 a14 a15 a16 a17 a18 a19 a20 a21 a22 a23 a24 a25 a26 a27 a28 a29 a30 a31 a32 a33 a34)[30]? = some (.int a30) := rfl
theorem fl_Model_30 {a0 : Int32} {a1 : Int32} {a2 : Nat} {a3 : Int32} {a4 : Nat} {a5 : Nat} {a6 : Int32} {a7 : Nat} {a8 : Nat} {a9 : Int32} {a10 : Nat} {a11 : Int32} {a12 : Int64} {a13 : Int32} {a14 : Int32} {a15 : Int64} {a16 : Int64} {a17 : Int64} {a18 : Int64} {a19 : Int32} {a20 : Int64} {a21 : Int64} {a22 : Nat} {a23 : Int32} {a24 : Nat} {a25 : Int32} {a26 : Nat} {a27 : Nat} {a28 : Nat} {a29 : Nat} {a30 : Int32} {a31 : Int32} {a32 : Nat} {a33 : Int32} {a34 : Int64} : 30 < (f_Model a0 a1 a2 a3 a4 a5 a6 a7 a8 a9 a10 a11 a12 a13 a14 a15 a16 a17 a18 a19 a20 a21 a22 a23 a24 a25 a26 a27 a28 a29 a30 a31 a32 a33 a34).length := Nat.le_of_ble_eq_true rfl
theorem fs_Model_30 {a0 : Int32} {a1 : Int32} {a2 : Nat} {a3 : Int32} {a4 : Nat} {a5 : Nat} {a6 : Int32} {a7 : Nat} {a8 : Nat} {a9 : Int32} {a10 : Nat} {a11 : Int32} {a12 : Int64} {a13 : Int32} {a14 : Int32} {a15 : Int64} {a16 : Int64} {a17 : Int64} {a18 : Int64} {a19 : Int32} {a20 : Int64} {a21 : Int64} {a22 : Nat} {a23 : Int32} {a24 : Nat} {a25 : Int32} {a26 : Nat} {a27 : Nat} {a28 : Nat} {a29 : Nat} {a30 : Int32} {a31 : Int32} {a32 : Nat} {a33 : Int32} {a34 : Int64} {b : Int32} : (f_Model a0 a1 a2 a3 a4 a5 a6 a7 a8 a9 a10 a11 a12 a13 a14 a15 a16 a17 a18 a19 a20 a21 a22 a23 a24 a25 a26 a27 a28 a29 a30 a31 a32 a33 a34).set 30 (.int b) = f_Model a0 a1 a2 a3 a4 a5 a6 a7 a8 a9 a10 a11 a12 a13 a14 a15 a16 a17 a18 a19 a20 a21 a22 a23 a24 a25 a26 a27 a28 a29 b a31 a32 a33 a34 := rfl
theorem fg_Model_31 {a0 : Int32} {a1 : Int32} {a2 : Nat} {a3 : Int32} {a4 : Nat} {a5 : Nat} {a6 : Int32} {a7 : Nat} {a8 : Nat} {a9 : Int32} {a10 : Nat} {a11 : Int32} {a12 : Int64} {a13 : Int32} {a14 : Int32} {a15 : Int64} {a16 : Int64} {a17 : Int64} {a18 : Int64} {a19 : Int32} {a20 : Int64} {a21 : Int64} {a22 : Nat} {a23 : Int32} {a24 : Nat} {a25 : Int32} {a26 : Nat} {a27 : Nat} {a28 : Nat} {a29 : Nat} {a30 : Int32} {a31 : Int32} {a32 : Nat} {a33 : Int32} {a34 : Int64} : (f_Model a0 a1 a2 a3 a4 a5 a6 a7 a8 a9 a10 a11 a12 a13 a14 a15 a16 a17 a18 a19 a20 a21 a22 a23 a24 a25 a26 a27 a28 a29 a30 a31 a32 a33 a34)[31]? = some (.int a31) := rfl
theorem fl_Model_31 {a0 : Int32} {a1 : Int32} {a2 : Nat} {a3 : Int32} {a4 : Nat} {a5 : Nat} {a6 : Int32} {a7 : Nat} {a8 : Nat} {a9 : Int32} {a10 : Nat} {a11 : Int32} {a12 : Int64} {a13 : Int32} {a14 : Int32} {a15 : Int64} {a16 : Int64} {a17 : Int64} {a18 : Int64} {a19 : Int32} {a20 : Int64} {a21 : Int64} {a22 : Nat} {a23 : Int32} {a24 : Nat} {a25 : Int32} {a26 : Nat} {a27 : Nat} {a28 : Nat} {a29 : Nat} {a30 : Int32} {a31 : Int32} {a32 : Nat} {a33 : Int32} {a34 : Int64} : 31 < (f_Model a0 a1 a2 a3 a4 a5 a6 a7 a8 a9 a10 a11 a12 a13 a14 a15 a16 a17 a18 a19 a20 a21 a22 a23 a24 a25 a26 a27 a28 a29 a30 a31 a32 a33 a34).length := Nat.le_of_ble_eq_true rfl
theorem fs_Model_31 {a0 : Int32} {a1 : Int32} {a2 : Nat} {a3 : Int32} {a4 : Nat} {a5 : Nat} {a6 : Int32} {a7 : Nat} {a8 : Nat} {a9 : Int32} {a10 : Nat} {a11 : Int32} {a12 : Int64} {a13 : Int32} {a14 : Int32} {a15 : Int64} {a16 : Int64} {a17 : Int64} {a18 : Int64} {a19 : Int32} {a20 : Int64} {a21 : Int64} {a22 : Nat} {a23 : Int32} {a24 : Nat} {a25 : Int32} {a26 : Nat} {a27 : Nat} {a28 : Nat} {a29 : Nat} {a30 : Int32} {a31 : Int32} {a32 : Nat} {a33 : Int32} {a34 : Int64} {b : Int32} : (f_Model a0 a1 a2 a3 a4 a5 a6 a7 a8 a9 a10 a11 a12 a13 a14 a15 a16 a17 a18 a19 a20 a21 a22 a23 a24 a25 a26 a27 a28 a29 a30 a31 a32 a33 a34).set 31 (.int b) = f_Model a0 a1 a2 a3 a4 a5 a6 a7 a8 a9 a10 a11 a12 a13 a14 a15 a16 a17 a18 a19 a20 a21 a22 a23 a24 a25 a26 a27 a28 a29 a30 b a32 a33 a34 := rfl
theorem fg_Model_32 {a0 : Int32} {a1 : Int32} {a2 : Nat} {a3 : Int32} {a4 : Nat} {a5 : Nat} {a6 : Int32} {a7 : Nat} {a8 : Nat} {a9 : Int32} {a10 : Nat} {a11 : Int32} {a12 : Int64} {a13 : Int32} {a14 : Int32} {a15 : Int64} {a16 : Int64} {a17 : Int64} {a18 : Int64} {a19 : Int32} {a20 : Int64} {a21 : Int64} {a22 : Nat} {a23 : Int32} {a24 : Nat} {a25 : Int32} {a26 : Nat} {a27 : Nat} {a28 : Nat} {a29 : Nat} {a30 : Int32} {a31 : Int32} {a32 : Nat} {a33 : Int32} {a34 : Int64} : (f_Model a0 a1 a2 a3 a4 a5 a6 a7 a8 a9 a10 a11 a12 a13 a14 a15 a16 a17 a18 a19 a20 a21 a22 a23 a24 a25 a26 a27 a28 a29 a30 a31 a32 a33 a34)[32]? = some (.ref a32) := rfl
theorem fl_Model_32 {a0 : Int32} {a1 : Int32} {a2 : Nat} {a3 : Int32} {a4 : Nat} {a5 : Nat} {a6 : Int32} {a7 : Nat} {a8 : Nat} {a9 : Int32} {a10 : Nat} {a11 : Int32} {a12 : Int64} {a13 : Int32} {a14 : Int32} {a15 : Int64} {a16 : Int64} {a17 : Int64} {a18 : Int64} {a19 : Int32} {a20 : Int64} {a21 : Int64} {a22 : Nat} {a23 : Int32} {a24 : Nat} {a25 : Int32} {a26 : Nat} {a27 : Nat} {a28 : Nat} {a29 : Nat} {a30 : Int32} {a31 : Int32} {a32 : Nat} {a33 : Int32} {a34 : Int64} : 32 < (f_Model a0 a1 a2 a3 a4 a5 a6 a7 a8 a9 a10 a11 a12 a13 a14 a15 a16 a17 a18 a19 a20 a21 a22 a23 a24 a25 a26 a27 a28 a29 a30 a31 a32 a33 a34).length := Nat.le_of_ble_eq_true rfl
theorem fs_Model_32 {a0 : Int32} {a1 : Int32} {a2 : Nat} {a3 : Int32} {a4 : Nat} {a5 : Nat} {a6 : Int32} {a7 : Nat} {a8 : Nat} {a9 : Int32} {a10 : Nat} {a11 : Int32} {a12 : Int64} {a13 : Int32} {a14 : Int32} {a15 : Int64} {a16 : Int64} {a17 : Int64} {a18 : Int64} {a19 : Int32} {a20 : Int64} {a21 : Int64} {a22 : Nat} {a23 : Int32} {a24 : Nat} {a25 : Int32} {a26 : Nat} {a27 : Nat} {a28 : Nat} {a29 : Nat} {a30 : Int32} {a31 : Int32} {a32 : Nat} {a33 : Int32} {a34 : Int64} {b : Nat} : (f_Model a0 a1 a2 a3 a4 a5 a6 a7 a8 a9 a10 a11 a12 a13 a14 a15 a16 a17 a18 a19 a20 a21 a22 a23 a24 a25 a26 a27 a28 a29 a30 a31 a32 a33 a34).set 32 (.ref b) = f_Model a0 a1 a2 a3 a4 a5 a6 a7 a8 a9 a10 a11 a12 a13 a14 a15 a16 a17 a18 a19 a20 a21 a22 a23 a24 a25 a26 a27 a28 a29 a30 a31 b a33 a34 := rfl
theorem fg_Model_33 {a0 : Int32} {a1 : Int32} {a2 : Nat} {a3 : Int32} {a4 : Nat} {a5 : Nat} {a6 : Int32} {a7 : Nat} {a8 : Nat} {a9 : Int32} {a10 : Nat} {a11 : Int32} {a12 : Int64} {a13 : Int32} {a14 : Int32} {a15 : Int64} {a16 : Int64} {a17 : Int64} {a18 : Int64} {a19 : Int32} {a20 : Int64} {a21 : Int64} {a22 : Nat} {a23 : Int32} {a24 : Nat} {a25 : Int32} {a26 : Nat} {a27 : Nat} {a28 : Nat} {a29 : Nat} {a30 : Int32} {a31 : Int32} {a32 : Nat} {a33 : Int32} {a34 : Int64} : (f_Model a0 a1 a2 a3 a4 a5 a6 a7 a8 a9 a10 a11 a12 a13 a14 a15 a16 a17 a18 a19 a20 a21 a22 a23 a24 a25 a26 a27 a28 a29 a30 a31 a32 a33 a34)[33]? = some (.int a33) := rfl
theorem fl_Model_33 {a0 : Int32} {a1 : Int32} {a2 : Nat} {a3 : Int32} {a4 : Nat} {a5 : Nat} {a6 : Int32} {a7 : Nat} {a8 : Nat} {a9 : Int32} {a10 : Nat} {a11 : Int32} {a12 : Int64} {a13 : Int32} {a14 : Int32} {a15 : Int64} {a16 : Int64} {a17 : Int64} {a18 : Int64} {a19 : Int32} {a20 : Int64} {a21 : Int64} {a22 : Nat} {a23 : Int32} {a24 : Nat} {a25 : Int32} {a26 : Nat} {a27 : Nat} {a28 : Nat} {a29 : Nat} {a30 : Int32} {a31 : Int32} {a32 : Nat} {a33 : Int32} {a34 : Int64} : 33 < (f_Model a0 a1 a2 a3 a4 a5 a6 a7 a8 a9 a10 a11 a12 a13 a14 a15 a16 a17 a18 a19 a20 a21 a22 a23 a24 a25 a26 a27 a28 a29 a30 a31 a32 a33 a34).length := Nat.le_of_ble_eq_true rfl
theorem fs_Model_33 {a0 : Int32} {a1 : Int32} {a2 : Nat} {a3 : Int32} {a4 : Nat} {a5 : Nat} {a6 : Int32} {a7 : Nat} {a8 : Nat} {a9 : Int32} {a10 : Nat} {a11 : Int32} {a12 : Int64} {a13 : Int32} {a14 : Int32} {a15 : Int64} {a16 : Int64} {a17 : Int64} {a18 : Int64} {a19 : Int32} {a20 : Int64} {a21 : Int64} {a22 : Nat} {a23 : Int32} {a24 : Nat} {a25 : Int32} {a26 : Nat} {a27 : Nat} {a28 : Nat} {a29 : Nat} {a30 : Int32} {a31 : Int32} {a32 : Nat} {a33 : Int32} {a34 : Int64} {b : Int32} : (f_Model a0 a1 a2 a3 a4 a5 a6 a7 a8 a9 a10 a11 a12 a13 a14 a15 a16 a17 a18 a19 a20 a21 a22 a23 a24 a25 a26 a27 a28 a29 a30 a31 a32 a33 a34).set 33 (.int b) = f_Model a0 a1 a2 a3 a4 a5 a6 a7 a8 a9 a10 a11 a12 a13 a14 a15 a16 a17 a18 a19 a20 a21 a22 a23 a24 a25 a26 a27 a28 a29 a30 a31 a32 b a34 := rfl
theorem fg_Model_34 {a0 : Int32} {a1 : Int32} {a2 : Nat} {a3 : Int32} {a4 : Nat} {a5 : Nat} {a6 : Int32} {a7 : Nat} {a8 : Nat} {a9 : Int32} {a10 : Nat} {a11 : Int32} {a12 : Int64} {a13 : Int32} {a14 : Int32} {a15 : Int64} {a16 : Int64} {a17 : Int64} {a18 : Int64} {a19 : Int32} {a20 : Int64} {a21 : Int64} {a22 : Nat} {a23 : Int32} {a24 : Nat} {a25 : Int32} {a26 : Nat} {a27 : Nat} {a28 : Nat} {a29 : Nat} {a30 : Int32} {a31 : Int32} {a32 : Nat} {a33 : Int32} {a34 : Int64} : (f_Model a0 a1 a2 a3 a4 a5 a6 a7 a8 a9 a10 a11 a12 a13 a14 a15 a16 a17 a18 a19 a20 a21 a22 a23 a24 a25 a26 a27 a28 a29 a30 a31 a32 a33 a34)[34]? = some (.long a34) := rfl
theorem fl_Model_34 {a0 : Int32} {a1 : Int32} {a2 : Nat} {a3 : Int32} {a4 : Nat} {a5 : Nat} {a6 : Int32} {a7 : Nat} {a8 : Nat} {a9 : Int32} {a10 : Nat} {a11 : Int32} {a12 : Int64} {a13 : Int32} {a14 : Int32} {a15 : Int64} {a16 : Int64} {a17 : Int64} {a18 : Int64} {a19 : Int32} {a20 : Int64} {a21 : Int64} {a22 : Nat} {a23 : Int32} {a24 : Nat} {a25 : Int32} {a26 : Nat} {a27 : Nat} {a28 : Nat} {a29 : Nat} {a30 : Int32} {a31 : Int32} {a32 : Nat} {a33 : Int32} {a34 : Int64} : 34 < (f_Model a0 a1 a2 a3 a4 a5 a6 a7 a8 a9 a10 a11 a12 a13 a14 a15 a16 a17 a18 a19 a20 a21 a22 a23 a24 a25 a26 a27 a28 a29 a30 a31 a32 a33 a34).length := Nat.le_of_ble_eq_true rfl
theorem fs_Model_34 {a0 : Int32} {a1 : Int32} {a2 : Nat} {a3 : Int32} {a4 : Nat} {a5 : Nat} {a6 : Int32} {a7 : Nat} {a8 : Nat} {a9 : Int32} {a10 : Nat} {a11 : Int32} {a12 : Int64} {a13 : Int32} {a14 : Int32} {a15 : Int64} {a16 : Int64} {a17 : Int64} {a18 : Int64} {a19 : Int32} {a20 : Int64} {a21 : Int64} {a22 : Nat} {a23 : Int32} {a24 : Nat} {a25 : Int32} {a26 : Nat} {a27 : Nat} {a28 : Nat} {a29 : Nat} {a30 : Int32} {a31 : Int32} {a32 : Nat} {a33 : Int32} {a34 : Int64} {b : Int64} : (f_Model a0 a1 a2 a3 a4 a5 a6 a7 a8 a9 a10 a11 a12 a13 a14 a15 a16 a17 a18 a19 a20 a21 a22 a23 a24 a25 a26 a27 a28 a29 a30 a31 a32 a33 a34).set 34 (.long b) = f_Model a0 a1 a2 a3 a4 a5 a6 a7 a8 a9 a10 a11 a12 a13 a14 a15 a16 a17 a18 a19 a20 a21 a22 a23 a24 a25 a26 a27 a28 a29 a30 a31 a32 a33 b := rfl
abbrev clz : List vw_C := [("PathTexts$Cover", F_Cover, 9), ("PathTexts$Drawing", F_Drawing, 3), ("PathTexts$Matrices", F_Matrices, 2), ("PathTexts$Pen", F_Pen, 10), ("PathTexts$Reader", F_Reader, 6), ("PathTexts$Row", F_Row, 2), ("PathTexts", F_P, 7), ("PathTextsModel", F_Model, 35)]
abbrev y_jMath_floorDiv : MethodName := ⟨"java/lang/Math", "floorDiv", "(JJ)J"⟩
abbrev w_jMath_floorDiv : List Cond := .code y_jMath_floorDiv prog_15_method_49_code 6 (some .long) :: kw
abbrev y_jArrays_fillJ : MethodName := ⟨"java/util/Arrays", "fill", "([JJ)V"⟩
abbrev w_jArrays_fillJ : List Cond := .code y_jArrays_fillJ prog_20_method_101_code 5 none :: kw
abbrev y_jArrays_fillI : MethodName := ⟨"java/util/Arrays", "fill", "([II)V"⟩
abbrev w_jArrays_fillI : List Cond := .code y_jArrays_fillI prog_20_method_103_code 4 none :: kw
abbrev y_xP_clear : MethodName := ⟨"PathTexts", "clear", "()V"⟩
abbrev w_xP_clear : List Cond := .code y_xP_clear prog_1_method_16_code 1 none :: kw
abbrev y_xP_byteOf : MethodName := ⟨"PathTexts", "byteOf", "(JI)I"⟩
abbrev w_xP_byteOf : List Cond := .code y_xP_byteOf prog_1_method_18_code 3 (some .int) :: kw
abbrev y_xP_numbersOf : MethodName := ⟨"PathTexts", "numbersOf", "(I)I"⟩
abbrev w_xP_numbersOf : List Cond := .code y_xP_numbersOf prog_1_method_19_code 1 (some .int) :: kw
abbrev y_xP_isNumber : MethodName := ⟨"PathTexts", "isNumber", "(J)Z"⟩
abbrev w_xP_isNumber : List Cond := .code y_xP_isNumber prog_1_method_20_code 2 (some .boolean) :: kw
abbrev y_xP_areNumbers : MethodName := ⟨"PathTexts", "areNumbers", "([JI)Z"⟩
abbrev w_xP_areNumbers : List Cond := .code y_xP_areNumbers prog_1_method_21_code 3 (some .boolean) :: kw
abbrev y_xP_nearest : MethodName := ⟨"PathTexts", "nearest", "(JJ)J"⟩
abbrev w_xP_nearest : List Cond := .code y_xP_nearest prog_1_method_22_code 4 (some .long) :: kw
abbrev y_xRow_put : MethodName := ⟨"PathTexts$Row", "put", "(I)V"⟩
abbrev w_xRow_put : List Cond := .code y_xRow_put prog_7_method_2_code 2 none :: kw
abbrev y_xRow_at : MethodName := ⟨"PathTexts$Row", "at", "(I)C"⟩
abbrev w_xRow_at : List Cond := .code y_xRow_at prog_7_method_3_code 2 (some .char) :: kw
abbrev y_xDrawing_has : MethodName := ⟨"PathTexts$Drawing", "has", "(I)Z"⟩
abbrev w_xDrawing_has : List Cond := .code y_xDrawing_has prog_3_method_2_code 2 (some .boolean) :: kw
abbrev y_xDrawing_add : MethodName := ⟨"PathTexts$Drawing", "add", "(I[J)Z"⟩
abbrev w_xDrawing_add : List Cond := .code y_xDrawing_add prog_3_method_3_code 5 (some .boolean) :: kw
abbrev y_xDrawing_extreme : MethodName := ⟨"PathTexts$Drawing", "extreme", "(IZ)I"⟩
abbrev w_xDrawing_extreme : List Cond := .code y_xDrawing_extreme prog_3_method_4_code 8 (some .int) :: kw
abbrev y_xDrawing_edges : MethodName := ⟨"PathTexts$Drawing", "edges", "()I"⟩
abbrev w_xDrawing_edges : List Cond := .code y_xDrawing_edges prog_3_method_5_code 4 (some .int) :: kw
abbrev y_xMatrices_startOver : MethodName := ⟨"PathTexts$Matrices", "startOver", "()V"⟩
abbrev w_xMatrices_startOver : List Cond := .code y_xMatrices_startOver prog_4_method_2_code 1 none :: kw
abbrev y_xMatrices_isFull : MethodName := ⟨"PathTexts$Matrices", "isFull", "()Z"⟩
abbrev w_xMatrices_isFull : List Cond := .code y_xMatrices_isFull prog_4_method_3_code 1 (some .boolean) :: kw
abbrev y_xMatrices_shut : MethodName := ⟨"PathTexts$Matrices", "shut", "()Z"⟩
abbrev w_xMatrices_shut : List Cond := .code y_xMatrices_shut prog_4_method_5_code 1 (some .boolean) :: kw
abbrev y_xMatrices_across : MethodName := ⟨"PathTexts$Matrices", "across", "(JJIZ)J"⟩
abbrev w_xMatrices_across : List Cond := .code y_xMatrices_across prog_4_method_6_code 10 (some .long) :: kw
abbrev y_xPen_standAtZero : MethodName := ⟨"PathTexts$Pen", "standAtZero", "()V"⟩
abbrev w_xPen_standAtZero : List Cond := .code y_xPen_standAtZero prog_5_method_2_code 1 none :: kw
abbrev y_xPen_takePoints : MethodName := ⟨"PathTexts$Pen", "takePoints", "(Z[J)V"⟩
abbrev w_xPen_takePoints : List Cond := .code y_xPen_takePoints prog_5_method_4_code 6 none :: kw
abbrev y_xPen_putTurnedFirst : MethodName := ⟨"PathTexts$Pen", "putTurnedFirst", "(Z)V"⟩
abbrev w_xPen_putTurnedFirst : List Cond := .code y_xPen_putTurnedFirst prog_5_method_5_code 3 none :: kw
abbrev y_xPen_aimByTwoControls : MethodName := ⟨"PathTexts$Pen", "aimByTwoControls", "()V"⟩
abbrev w_xPen_aimByTwoControls : List Cond := .code y_xPen_aimByTwoControls prog_5_method_6_code 1 none :: kw
abbrev y_xPen_aimByOneControl : MethodName := ⟨"PathTexts$Pen", "aimByOneControl", "()V"⟩
abbrev w_xPen_aimByOneControl : List Cond := .code y_xPen_aimByOneControl prog_5_method_7_code 1 none :: kw
abbrev y_xPen_draw : MethodName := ⟨"PathTexts$Pen", "draw", "(ILPathTexts$Drawing;)Z"⟩
abbrev w_xPen_draw : List Cond := .code y_xPen_draw prog_5_method_8_code 5 (some .boolean) :: kw
abbrev y_xReader_passBracket : MethodName := ⟨"PathTexts$Reader", "passBracket", "()V"⟩
abbrev w_xReader_passBracket : List Cond := .code y_xReader_passBracket prog_6_method_5_code 1 none :: kw
abbrev y_xReader_numbersBehind : MethodName := ⟨"PathTexts$Reader", "numbersBehind", "(C)I"⟩
abbrev w_xReader_numbersBehind : List Cond := .code y_xReader_numbersBehind prog_6_method_7_code 1 (some .int) :: kw
abbrev y_xReader_isDigit : MethodName := ⟨"PathTexts$Reader", "isDigit", "(C)Z"⟩
abbrev w_xReader_isDigit : List Cond := .code y_xReader_isDigit prog_6_method_11_code 1 (some .boolean) :: kw
abbrev y_xReader_passBlanks : MethodName := ⟨"PathTexts$Reader", "passBlanks", "()V"⟩
abbrev w_xReader_passBlanks : List Cond := .code y_xReader_passBlanks prog_6_method_12_code 1 none :: kw
abbrev y_xReader_seeWrong : MethodName := ⟨"PathTexts$Reader", "seeWrong", "(I)Z"⟩
abbrev w_xReader_seeWrong : List Cond := .code y_xReader_seeWrong prog_6_method_13_code 2 (some .boolean) :: kw
abbrev y_xWriter_letterOf : MethodName := ⟨"PathTexts$Writer", "letterOf", "(I)C"⟩
abbrev w_xWriter_letterOf : List Cond := .code y_xWriter_letterOf prog_8_method_3_code 1 (some .char) :: kw
abbrev y_xWriter_tens : MethodName := ⟨"PathTexts$Writer", "tens", "(I)J"⟩
abbrev w_xWriter_tens : List Cond := .code y_xWriter_tens prog_8_method_7_code 1 (some .long) :: kw
abbrev y_xWriter_putDigits : MethodName := ⟨"PathTexts$Writer", "putDigits", "(JILPathTexts$Row;)V"⟩
abbrev w_xWriter_putDigits : List Cond := .code y_xWriter_putDigits prog_8_method_9_code 5 none :: kw
abbrev y_xCover_onCurve : MethodName := ⟨"PathTexts$Cover", "onCurve", "(JJJJJ)J"⟩
abbrev w_xCover_onCurve : List Cond := .code y_xCover_onCurve prog_2_method_5_code 14 (some .long) :: kw
abbrev y_xCover_firstPointFrom : MethodName := ⟨"PathTexts$Cover", "firstPointFrom", "(JI)I"⟩
abbrev w_xCover_firstPointFrom : List Cond := .code y_xCover_firstPointFrom prog_2_method_8_code 5 (some .int) :: kw
abbrev y_xCover_countPoints : MethodName := ⟨"PathTexts$Cover", "countPoints", "(II)I"⟩
abbrev w_xCover_countPoints : List Cond := .code y_xCover_countPoints prog_2_method_9_code 7 (some .int) :: kw
abbrev y_m_thrown : MethodName := ⟨"PathTextsModel", "thrown", "()I"⟩
abbrev w_m_thrown : List Cond := .code y_m_thrown prog_10_method_2_code 1 (some .int) :: kw
abbrev y_m_in : MethodName := ⟨"PathTextsModel", "in", "(JJJ)Z"⟩
abbrev w_m_in : List Cond := .code y_m_in prog_10_method_3_code 6 (some .boolean) :: kw
abbrev y_m_nearest : MethodName := ⟨"PathTextsModel", "nearest", "(JJ)J"⟩
abbrev w_m_nearest : List Cond := .code y_m_nearest prog_10_method_4_code 8 (some .long) :: kw
abbrev y_m_text : MethodName := ⟨"PathTextsModel", "text", "(J)I"⟩
abbrev w_m_text : List Cond := .code y_m_text prog_10_method_5_code 7 (some .int) :: kw
abbrev y_m_sign : MethodName := ⟨"PathTextsModel", "sign", "()I"⟩
abbrev w_m_sign : List Cond := .code y_m_sign prog_10_method_6_code 1 (some .int) :: kw
abbrev y_m_skip : MethodName := ⟨"PathTextsModel", "skip", "()V"⟩
abbrev w_m_skip : List Cond := .code y_m_skip prog_10_method_7_code 1 none :: kw
abbrev y_m_isDigit : MethodName := ⟨"PathTextsModel", "isDigit", "(I)Z"⟩
abbrev w_m_isDigit : List Cond := .code y_m_isDigit prog_10_method_8_code 1 (some .boolean) :: kw
abbrev y_m_isNumeral : MethodName := ⟨"PathTextsModel", "isNumeral", "()Z"⟩
abbrev w_m_isNumeral : List Cond := .code y_m_isNumeral prog_10_method_9_code 2 (some .boolean) :: kw
abbrev y_m_passDigits : MethodName := ⟨"PathTextsModel", "passDigits", "()I"⟩
abbrev w_m_passDigits : List Cond := .code y_m_passDigits prog_10_method_10_code 2 (some .int) :: kw
abbrev y_m_numeral : MethodName := ⟨"PathTextsModel", "numeral", "()V"⟩
abbrev w_m_numeral : List Cond := .code y_m_numeral prog_10_method_11_code 7 none :: kw
abbrev y_m_numerals : MethodName := ⟨"PathTextsModel", "numerals", "(I)V"⟩
abbrev w_m_numerals : List Cond := .code y_m_numerals prog_10_method_12_code 3 none :: kw
abbrev y_m_openGroup : MethodName := ⟨"PathTextsModel", "openGroup", "(I)V"⟩
abbrev w_m_openGroup : List Cond := .code y_m_openGroup prog_10_method_13_code 5 none :: kw
abbrev y_m_point : MethodName := ⟨"PathTextsModel", "point", "(IJJI)V"⟩
abbrev w_m_point : List Cond := .code y_m_point prog_10_method_14_code 12 none :: kw
abbrev y_m_draw : MethodName := ⟨"PathTextsModel", "draw", "(IJJJJJJI)V"⟩
abbrev w_m_draw : List Cond := .code y_m_draw prog_10_method_15_code 15 none :: kw
abbrev y_m_needs : MethodName := ⟨"PathTextsModel", "needs", "(I)I"⟩
abbrev w_m_needs : List Cond := .code y_m_needs prog_10_method_16_code 1 (some .int) :: kw
abbrev y_m_command4 : MethodName := ⟨"PathTextsModel", "command", "(IJJI)V"⟩
abbrev w_m_command4 : List Cond := .code y_m_command4 prog_10_method_17_code 22 none :: kw
abbrev y_m_commandsOf : MethodName := ⟨"PathTextsModel", "commandsOf", "(II)V"⟩
abbrev w_m_commandsOf : List Cond := .code y_m_commandsOf prog_10_method_18_code 7 none :: kw
abbrev y_m_readOne : MethodName := ⟨"PathTextsModel", "readOne", "()V"⟩
abbrev w_m_readOne : List Cond := .code y_m_readOne prog_10_method_19_code 4 none :: kw
abbrev y_m_read : MethodName := ⟨"PathTextsModel", "read", "()I"⟩
abbrev w_m_read : List Cond := .code y_m_read prog_10_method_20_code 3 (some .int) :: kw
abbrev y_m_hasMove : MethodName := ⟨"PathTextsModel", "hasMove", "()Z"⟩
abbrev w_m_hasMove : List Cond := .code y_m_hasMove prog_10_method_21_code 3 (some .boolean) :: kw
abbrev y_m_isNumber : MethodName := ⟨"PathTextsModel", "isNumber", "(I)Z"⟩
abbrev w_m_isNumber : List Cond := .code y_m_isNumber prog_10_method_22_code 1 (some .boolean) :: kw
abbrev y_m_put : MethodName := ⟨"PathTextsModel", "put", "(II)V"⟩
abbrev w_m_put : List Cond := .code y_m_put prog_10_method_23_code 3 none :: kw
abbrev y_m_add : MethodName := ⟨"PathTextsModel", "add", "(I)I"⟩
abbrev w_m_add : List Cond := .code y_m_add prog_10_method_24_code 2 (some .int) :: kw
abbrev y_m_move : MethodName := ⟨"PathTextsModel", "move", "(II)I"⟩
abbrev w_m_move : List Cond := .code y_m_move prog_10_method_25_code 3 (some .int) :: kw
abbrev y_m_line : MethodName := ⟨"PathTextsModel", "line", "(II)I"⟩
abbrev w_m_line : List Cond := .code y_m_line prog_10_method_26_code 3 (some .int) :: kw
abbrev y_m_cubic : MethodName := ⟨"PathTextsModel", "cubic", "(IIIIII)I"⟩
abbrev w_m_cubic : List Cond := .code y_m_cubic prog_10_method_27_code 8 (some .int) :: kw
abbrev y_m_close : MethodName := ⟨"PathTextsModel", "close", "()I"⟩
abbrev w_m_close : List Cond := .code y_m_close prog_10_method_28_code 1 (some .int) :: kw
abbrev y_m_command1 : MethodName := ⟨"PathTextsModel", "command", "(I)I"⟩
abbrev w_m_command1 : List Cond := .code y_m_command1 prog_10_method_29_code 2 (some .int) :: kw
abbrev y_m_many : MethodName := ⟨"PathTextsModel", "many", "(I)I"⟩
abbrev w_m_many : List Cond := .code y_m_many prog_10_method_30_code 1 (some .int) :: kw
abbrev y_m_number : MethodName := ⟨"PathTextsModel", "number", "(II)I"⟩
abbrev w_m_number : List Cond := .code y_m_number prog_10_method_31_code 3 (some .int) :: kw
abbrev y_m_say : MethodName := ⟨"PathTextsModel", "say", "(I)V"⟩
abbrev w_m_say : List Cond := .code y_m_say prog_10_method_32_code 2 none :: kw
abbrev y_m_off : MethodName := ⟨"PathTextsModel", "off", "(JJJ)J"⟩
abbrev w_m_off : List Cond := .code y_m_off prog_10_method_34_code 8 (some .long) :: kw
abbrev y_m_sayDigits : MethodName := ⟨"PathTextsModel", "sayDigits", "(JI)V"⟩
abbrev w_m_sayDigits : List Cond := .code y_m_sayDigits prog_10_method_36_code 7 none :: kw
abbrev y_m_charAt : MethodName := ⟨"PathTextsModel", "charAt", "(I)I"⟩
abbrev w_m_charAt : List Cond := .code y_m_charAt prog_10_method_38_code 2 (some .int) :: kw
abbrev y_m_edge : MethodName := ⟨"PathTextsModel", "edge", "(JJJJ)V"⟩
abbrev w_m_edge : List Cond := .code y_m_edge prog_10_method_39_code 9 none :: kw
abbrev y_m_between : MethodName := ⟨"PathTextsModel", "between", "(JJJJI)J"⟩
abbrev w_m_between : List Cond := .code y_m_between prog_10_method_40_code 11 (some .long) :: kw
abbrev y_m_makeEdges : MethodName := ⟨"PathTextsModel", "makeEdges", "()V"⟩
abbrev w_m_makeEdges : List Cond := .code y_m_makeEdges prog_10_method_41_code 21 none :: kw
abbrev y_m_counts : MethodName := ⟨"PathTextsModel", "counts", "(III)I"⟩
abbrev w_m_counts : List Cond := .code y_m_counts prog_10_method_42_code 10 (some .int) :: kw
abbrev y_m_render : MethodName := ⟨"PathTextsModel", "render", "(III)I"⟩
abbrev w_m_render : List Cond := .code y_m_render prog_10_method_43_code 9 (some .int) :: kw
abbrev y_m_covered : MethodName := ⟨"PathTextsModel", "covered", "(II)I"⟩
abbrev w_m_covered : List Cond := .code y_m_covered prog_10_method_44_code 3 (some .int) :: kw
abbrev y_m_bound : MethodName := ⟨"PathTextsModel", "bound", "(I)I"⟩
abbrev w_m_bound : List Cond := .code y_m_bound prog_10_method_45_code 7 (some .int) :: kw
abbrev y_m_told : MethodName := ⟨"PathTextsModel", "told", "(I)I"⟩
abbrev w_m_told : List Cond := .code y_m_told prog_10_method_46_code 2 (some .int) :: kw
abbrev y_m_clear : MethodName := ⟨"PathTextsModel", "clear", "()V"⟩
abbrev w_m_clear : List Cond := .code y_m_clear prog_10_method_47_code 1 none :: kw
abbrev y_xP_bound : MethodName := ⟨"PathTexts", "bound", "(I)I"⟩
abbrev w_xP_bound : List Cond := .code y_xP_bound prog_1_method_14_code 2 (some .int) :: kw
abbrev y_xP_told : MethodName := ⟨"PathTexts", "told", "(I)I"⟩
abbrev w_xP_told : List Cond := .code y_xP_told prog_1_method_15_code 2 (some .int) :: kw
abbrev y_xMatrices_open : MethodName := ⟨"PathTexts$Matrices", "open", "([J)Z"⟩
abbrev w_xMatrices_open : List Cond := .code y_xMatrices_open prog_4_method_4_code 6 (some .boolean) :: kw
abbrev y_xPen_aim : MethodName := ⟨"PathTexts$Pen", "aim", "(CZ[J)I"⟩
abbrev w_xPen_aim : List Cond := .code y_xPen_aim prog_5_method_3_code 5 (some .int) :: kw
abbrev y_xReader_takeClosing : MethodName := ⟨"PathTexts$Reader", "takeClosing", "(I)Z"⟩
abbrev w_xReader_takeClosing : List Cond := .code y_xReader_takeClosing prog_6_method_4_code 2 (some .boolean) :: kw
abbrev y_xReader_takeNumeral : MethodName := ⟨"PathTexts$Reader", "takeNumeral", "(I)Z"⟩
abbrev w_xReader_takeNumeral : List Cond := .code y_xReader_takeNumeral prog_6_method_9_code 11 (some .boolean) :: kw
abbrev y_xReader_numeralFollows : MethodName := ⟨"PathTexts$Reader", "numeralFollows", "()Z"⟩
abbrev w_xReader_numeralFollows : List Cond := .code y_xReader_numeralFollows prog_6_method_10_code 2 (some .boolean) :: kw
abbrev y_xWriter_decimalNextTo : MethodName := ⟨"PathTexts$Writer", "decimalNextTo", "(JI)J"⟩
abbrev w_xWriter_decimalNextTo : List Cond := .code y_xWriter_decimalNextTo prog_8_method_6_code 3 (some .long) :: kw
abbrev y_xWriter_putWhole : MethodName := ⟨"PathTexts$Writer", "putWhole", "(JLPathTexts$Row;)V"⟩
abbrev w_xWriter_putWhole : List Cond := .code y_xWriter_putWhole prog_8_method_8_code 4 none :: kw
abbrev y_xCover_addCrossings : MethodName := ⟨"PathTexts$Cover", "addCrossings", "(JJJJI)V"⟩
abbrev w_xCover_addCrossings : List Cond := .code y_xCover_addCrossings prog_2_method_7_code 20 none :: kw
abbrev y_m_find : MethodName := ⟨"PathTextsModel", "find", "(I)V"⟩
abbrev w_m_find : List Cond := .code y_m_find prog_10_method_33_code 14 none :: kw
abbrev y_m_sayNumeral : MethodName := ⟨"PathTextsModel", "sayNumeral", "(IZZ)Z"⟩
abbrev w_m_sayNumeral : List Cond := .code y_m_sayNumeral prog_10_method_35_code 9 (some .boolean) :: kw
abbrev y_m_write : MethodName := ⟨"PathTextsModel", "write", "()I"⟩
abbrev w_m_write : List Cond := .code y_m_write prog_10_method_37_code 4 (some .int) :: kw
abbrev y_xReader_takeNumbers : MethodName := ⟨"PathTexts$Reader", "takeNumbers", "(I)Z"⟩
abbrev w_xReader_takeNumbers : List Cond := .code y_xReader_takeNumbers prog_6_method_8_code 3 (some .boolean) :: kw
abbrev y_xWriter_leastDigitsBehind : MethodName := ⟨"PathTexts$Writer", "leastDigitsBehind", "(IJ)I"⟩
abbrev w_xWriter_leastDigitsBehind : List Cond := .code y_xWriter_leastDigitsBehind prog_8_method_5_code 8 (some .int) :: kw
abbrev y_xCover_addEdge : MethodName := ⟨"PathTexts$Cover", "addEdge", "(JJ)V"⟩
abbrev w_xCover_addEdge : List Cond := .code y_xCover_addEdge prog_2_method_6_code 5 none :: kw
abbrev y_xReader_takeOpening : MethodName := ⟨"PathTexts$Reader", "takeOpening", "(I)Z"⟩
abbrev w_xReader_takeOpening : List Cond := .code y_xReader_takeOpening prog_6_method_3_code 2 (some .boolean) :: kw
abbrev y_xReader_takeLetter : MethodName := ⟨"PathTexts$Reader", "takeLetter", "(CILPathTexts$Drawing;)Z"⟩
abbrev w_xReader_takeLetter : List Cond := .code y_xReader_takeLetter prog_6_method_6_code 10 (some .boolean) :: kw
abbrev y_xWriter_writeNumeral : MethodName := ⟨"PathTexts$Writer", "writeNumeral", "(IZZLPathTexts$Row;)Z"⟩
abbrev w_xWriter_writeNumeral : List Cond := .code y_xWriter_writeNumeral prog_8_method_4_code 12 (some .boolean) :: kw
abbrev y_xCover_addCubicI : MethodName := ⟨"PathTexts$Cover", "addCubic", "([II)V"⟩
abbrev w_xCover_addCubicI : List Cond := .code y_xCover_addCubicI prog_2_method_4_code 12 none :: kw
abbrev y_xReader_placeOfWrong : MethodName := ⟨"PathTexts$Reader", "placeOfWrong", "(LPathTexts$Drawing;)I"⟩
abbrev w_xReader_placeOfWrong : List Cond := .code y_xReader_placeOfWrong prog_6_method_2_code 6 (some .int) :: kw
abbrev y_xWriter_writeDrawing : MethodName := ⟨"PathTexts$Writer", "writeDrawing", "(LPathTexts$Drawing;LPathTexts$Row;)V"⟩
abbrev w_xWriter_writeDrawing : List Cond := .code y_xWriter_writeDrawing prog_8_method_2_code 5 none :: kw
abbrev y_xCover_addDrawing : MethodName := ⟨"PathTexts$Cover", "addDrawing", "(LPathTexts$Drawing;)V"⟩
abbrev w_xCover_addDrawing : List Cond := .code y_xCover_addDrawing prog_2_method_3_code 4 none :: kw
abbrev y_xP_write : MethodName := ⟨"PathTexts", "write", "()I"⟩
abbrev w_xP_write : List Cond := .code y_xP_write prog_1_method_10_code 1 (some .int) :: kw
abbrev y_xCover_coverSquares : MethodName := ⟨"PathTexts$Cover", "coverSquares", "(LPathTexts$Drawing;III)I"⟩
abbrev w_xCover_coverSquares : List Cond := .code y_xCover_coverSquares prog_2_method_2_code 7 (some .int) :: kw
