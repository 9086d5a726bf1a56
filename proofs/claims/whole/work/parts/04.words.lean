/-- the tables' words that may go along with a call -/
def TB : List Cond := lw_tbl.filter goodWord
theorem tbM {i : Nat} {w : Cond} (h : lw_tbl[i]? = some w) (g : goodWord w = true) : w ∈ TB := List.mem_filter.mpr ⟨List.mem_of_getElem? h, g⟩
theorem p0 : Cond.selects "HedgehogLots$Reader" ⟨"HedgehogLots$Reader", "advance", "()V"⟩ ⟨"HedgehogLots$Reader", "advance", "()V"⟩ ∈ TB := tbM (i := 0) (by decide +kernel) rfl
theorem p1 : Cond.selects "HedgehogLots$Reader" ⟨"HedgehogLots$Reader", "valueNumber", "()V"⟩ ⟨"HedgehogLots$Reader", "valueNumber", "()V"⟩ ∈ TB := tbM (i := 1) (by decide +kernel) rfl
theorem p2 : Cond.selects "HedgehogLots$Reader" ⟨"HedgehogLots$Reader", "fail", "(I)V"⟩ ⟨"HedgehogLots$Reader", "fail", "(I)V"⟩ ∈ TB := tbM (i := 2) (by decide +kernel) rfl
theorem p3 : Cond.selects "HedgehogLots$Reader" ⟨"HedgehogLots$Reader", "readLine", "()V"⟩ ⟨"HedgehogLots$Reader", "readLine", "()V"⟩ ∈ TB := tbM (i := 3) (by decide +kernel) rfl
theorem p4 : Cond.selects "HedgehogLots$Reader" ⟨"HedgehogLots$Reader", "isNamed", "(Ljava/lang/String;)Z"⟩ ⟨"HedgehogLots$Reader", "isNamed", "(Ljava/lang/String;)Z"⟩ ∈ TB := tbM (i := 4) (by decide +kernel) rfl
theorem p5 : Cond.selects "HedgehogLots$Reader" ⟨"HedgehogLots$Reader", "readPeg", "()V"⟩ ⟨"HedgehogLots$Reader", "readPeg", "()V"⟩ ∈ TB := tbM (i := 5) (by decide +kernel) rfl
theorem p6 : Cond.selects "HedgehogLots$Reader" ⟨"HedgehogLots$Reader", "takeNumber", "(II)I"⟩ ⟨"HedgehogLots$Reader", "takeNumber", "(II)I"⟩ ∈ TB := tbM (i := 6) (by decide +kernel) rfl
theorem p7 : Cond.selects "HedgehogLots$Reader" ⟨"HedgehogLots$Reader", "mustBeFree", "(I)V"⟩ ⟨"HedgehogLots$Reader", "mustBeFree", "(I)V"⟩ ∈ TB := tbM (i := 7) (by decide +kernel) rfl
theorem p8 : Cond.selects "HedgehogLots$Reader" ⟨"HedgehogLots$Reader", "takeSemicolon", "()V"⟩ ⟨"HedgehogLots$Reader", "takeSemicolon", "()V"⟩ ∈ TB := tbM (i := 8) (by decide +kernel) rfl
theorem p9 : Cond.selects "HedgehogLots$Slope" ⟨"HedgehogLots$Slope", "stand", "(II)V"⟩ ⟨"HedgehogLots$Slope", "stand", "(II)V"⟩ ∈ TB := tbM (i := 9) (by decide +kernel) rfl
theorem p10 : Cond.selects "HedgehogLots$Reader" ⟨"HedgehogLots$Reader", "readSlug", "()V"⟩ ⟨"HedgehogLots$Reader", "readSlug", "()V"⟩ ∈ TB := tbM (i := 10) (by decide +kernel) rfl
theorem p11 : Cond.selects "HedgehogLots$Reader" ⟨"HedgehogLots$Reader", "readSuit", "()V"⟩ ⟨"HedgehogLots$Reader", "readSuit", "()V"⟩ ∈ TB := tbM (i := 11) (by decide +kernel) rfl
theorem p12 : Cond.selects "HedgehogLots$Reader" ⟨"HedgehogLots$Reader", "readHedgehog", "(I)V"⟩ ⟨"HedgehogLots$Reader", "readHedgehog", "(I)V"⟩ ∈ TB := tbM (i := 12) (by decide +kernel) rfl
theorem p13 : Cond.selects "HedgehogLots" ⟨"HedgehogLots", "canLetGo", "(II)Z"⟩ ⟨"HedgehogLots", "canLetGo", "(II)Z"⟩ ∈ TB := tbM (i := 13) (by decide +kernel) rfl
theorem p14 : Cond.selects "HedgehogLots$Advice" ⟨"HedgehogLots$Advice", "seekFrom", "(I)V"⟩ ⟨"HedgehogLots$Advice", "seekFrom", "(I)V"⟩ ∈ TB := tbM (i := 14) (by decide +kernel) rfl
theorem p15 : Cond.selects "HedgehogLots$Advice" ⟨"HedgehogLots$Advice", "offerMost", "(II)V"⟩ ⟨"HedgehogLots$Advice", "offerMost", "(II)V"⟩ ∈ TB := tbM (i := 15) (by decide +kernel) rfl
theorem p16 : Cond.selects "HedgehogLots$Advice" ⟨"HedgehogLots$Advice", "offerFewest", "(II)V"⟩ ⟨"HedgehogLots$Advice", "offerFewest", "(II)V"⟩ ∈ TB := tbM (i := 16) (by decide +kernel) rfl
theorem p17 : Cond.selects "HedgehogLots$Odds" ⟨"HedgehogLots$Odds", "meet", "(IIIIZ)V"⟩ ⟨"HedgehogLots$Odds", "meet", "(IIIIZ)V"⟩ ∈ TB := tbM (i := 17) (by decide +kernel) rfl
theorem p18 : Cond.selects "HedgehogLots$Odds" ⟨"HedgehogLots$Odds", "goOn", "(I)V"⟩ ⟨"HedgehogLots$Odds", "goOn", "(I)V"⟩ ∈ TB := tbM (i := 18) (by decide +kernel) rfl
theorem p19 : Cond.selects "HedgehogLots$Seen" ⟨"HedgehogLots$Seen", "holds", "(LHedgehogLots$Court;)Z"⟩ ⟨"HedgehogLots$Seen", "holds", "(LHedgehogLots$Court;)Z"⟩ ∈ TB := tbM (i := 19) (by decide +kernel) rfl
theorem p20 : Cond.selects "HedgehogLots$Advice" ⟨"HedgehogLots$Advice", "leftAtWorst", "(III)I"⟩ ⟨"HedgehogLots$Advice", "leftAtWorst", "(III)I"⟩ ∈ TB := tbM (i := 20) (by decide +kernel) rfl
theorem p21 : Cond.selects "HedgehogLots" ⟨"HedgehogLots", "driftOnce", "(I)I"⟩ ⟨"HedgehogLots", "driftOnce", "(I)I"⟩ ∈ TB := tbM (i := 21) (by decide +kernel) rfl
theorem p22 : Cond.selects "HedgehogLots" ⟨"HedgehogLots", "keptImages", "()I"⟩ ⟨"HedgehogLots", "keptImages", "()I"⟩ ∈ TB := tbM (i := 22) (by decide +kernel) rfl
theorem p23 : Cond.selects "HedgehogLotsModel" ⟨"HedgehogLotsModel", "step", "()V"⟩ ⟨"HedgehogLotsModel", "step", "()V"⟩ ∈ TB := tbM (i := 23) (by decide +kernel) rfl
theorem p24 : Cond.selects "HedgehogLotsModel" ⟨"HedgehogLotsModel", "byteAt", "(I)I"⟩ ⟨"HedgehogLotsModel", "byteAt", "(I)I"⟩ ∈ TB := tbM (i := 24) (by decide +kernel) rfl
theorem p25 : Cond.selects "HedgehogLotsModel" ⟨"HedgehogLotsModel", "fails", "(I)V"⟩ ⟨"HedgehogLotsModel", "fails", "(I)V"⟩ ∈ TB := tbM (i := 25) (by decide +kernel) rfl
theorem p26 : Cond.selects "HedgehogLotsModel" ⟨"HedgehogLotsModel", "readLine", "()V"⟩ ⟨"HedgehogLotsModel", "readLine", "()V"⟩ ∈ TB := tbM (i := 26) (by decide +kernel) rfl
theorem p27 : Cond.selects "HedgehogLotsModel" ⟨"HedgehogLotsModel", "nameHere", "()I"⟩ ⟨"HedgehogLotsModel", "nameHere", "()I"⟩ ∈ TB := tbM (i := 27) (by decide +kernel) rfl
theorem p28 : Cond.selects "HedgehogLotsModel" ⟨"HedgehogLotsModel", "isFull", "(I)Z"⟩ ⟨"HedgehogLotsModel", "isFull", "(I)Z"⟩ ∈ TB := tbM (i := 28) (by decide +kernel) rfl
theorem p29 : Cond.selects "HedgehogLotsModel" ⟨"HedgehogLotsModel", "readMore", "(I)V"⟩ ⟨"HedgehogLotsModel", "readMore", "(I)V"⟩ ∈ TB := tbM (i := 29) (by decide +kernel) rfl
theorem p30 : Cond.selects "HedgehogLotsModel" ⟨"HedgehogLotsModel", "number", "(II)I"⟩ ⟨"HedgehogLotsModel", "number", "(II)I"⟩ ∈ TB := tbM (i := 30) (by decide +kernel) rfl
theorem p31 : Cond.selects "HedgehogLotsModel" ⟨"HedgehogLotsModel", "cellHere", "()I"⟩ ⟨"HedgehogLotsModel", "cellHere", "()I"⟩ ∈ TB := tbM (i := 31) (by decide +kernel) rfl
theorem p32 : Cond.selects "HedgehogLotsModel" ⟨"HedgehogLotsModel", "isReadCell", "(I)Z"⟩ ⟨"HedgehogLotsModel", "isReadCell", "(I)Z"⟩ ∈ TB := tbM (i := 32) (by decide +kernel) rfl
theorem p33 : Cond.selects "HedgehogLotsModel" ⟨"HedgehogLotsModel", "runsOn", "(IIII)V"⟩ ⟨"HedgehogLotsModel", "runsOn", "(IIII)V"⟩ ∈ TB := tbM (i := 33) (by decide +kernel) rfl
theorem p34 : Cond.selects "HedgehogLotsModel" ⟨"HedgehogLotsModel", "pegOn", "(II)I"⟩ ⟨"HedgehogLotsModel", "pegOn", "(II)I"⟩ ∈ TB := tbM (i := 34) (by decide +kernel) rfl
theorem p35 : Cond.selects "HedgehogLotsModel" ⟨"HedgehogLotsModel", "slugOn", "(II)I"⟩ ⟨"HedgehogLotsModel", "slugOn", "(II)I"⟩ ∈ TB := tbM (i := 35) (by decide +kernel) rfl
theorem p36 : Cond.selects "HedgehogLotsModel" ⟨"HedgehogLotsModel", "winsOn", "(II)I"⟩ ⟨"HedgehogLotsModel", "winsOn", "(II)I"⟩ ∈ TB := tbM (i := 36) (by decide +kernel) rfl
theorem p37 : Cond.selects "HedgehogLotsModel" ⟨"HedgehogLotsModel", "winnerOn", "(III)I"⟩ ⟨"HedgehogLotsModel", "winnerOn", "(III)I"⟩ ∈ TB := tbM (i := 37) (by decide +kernel) rfl
theorem p38 : Cond.selects "HedgehogLotsModel" ⟨"HedgehogLotsModel", "isPeg", "(I)Z"⟩ ⟨"HedgehogLotsModel", "isPeg", "(I)Z"⟩ ∈ TB := tbM (i := 38) (by decide +kernel) rfl
theorem p39 : Cond.selects "HedgehogLotsModel" ⟨"HedgehogLotsModel", "isHog", "(I)Z"⟩ ⟨"HedgehogLotsModel", "isHog", "(I)Z"⟩ ∈ TB := tbM (i := 39) (by decide +kernel) rfl
theorem p40 : Cond.selects "HedgehogLotsModel" ⟨"HedgehogLotsModel", "isSuit", "(I)Z"⟩ ⟨"HedgehogLotsModel", "isSuit", "(I)Z"⟩ ∈ TB := tbM (i := 40) (by decide +kernel) rfl
theorem p41 : Cond.selects "HedgehogLotsModel" ⟨"HedgehogLotsModel", "isFreeOn", "(II)Z"⟩ ⟨"HedgehogLotsModel", "isFreeOn", "(II)Z"⟩ ∈ TB := tbM (i := 41) (by decide +kernel) rfl
theorem p42 : Cond.selects "HedgehogLotsModel" ⟨"HedgehogLotsModel", "puts", "(ZII)I"⟩ ⟨"HedgehogLotsModel", "puts", "(ZII)I"⟩ ∈ TB := tbM (i := 42) (by decide +kernel) rfl
theorem p43 : Cond.selects "HedgehogLotsModel" ⟨"HedgehogLotsModel", "drives", "(II)I"⟩ ⟨"HedgehogLotsModel", "drives", "(II)I"⟩ ∈ TB := tbM (i := 43) (by decide +kernel) rfl
theorem p44 : Cond.selects "HedgehogLotsModel" ⟨"HedgehogLotsModel", "drivesOn", "(III)V"⟩ ⟨"HedgehogLotsModel", "drivesOn", "(III)V"⟩ ∈ TB := tbM (i := 44) (by decide +kernel) rfl
theorem p45 : Cond.selects "HedgehogLotsModel" ⟨"HedgehogLotsModel", "laysOn", "(II)V"⟩ ⟨"HedgehogLotsModel", "laysOn", "(II)V"⟩ ∈ TB := tbM (i := 45) (by decide +kernel) rfl
theorem p46 : Cond.selects "HedgehogLotsModel" ⟨"HedgehogLotsModel", "copies", "(II)V"⟩ ⟨"HedgehogLotsModel", "copies", "(II)V"⟩ ∈ TB := tbM (i := 46) (by decide +kernel) rfl
theorem p47 : Cond.selects "HedgehogLotsModel" ⟨"HedgehogLotsModel", "byTurns", "(IIIII)J"⟩ ⟨"HedgehogLotsModel", "byTurns", "(IIIII)J"⟩ ∈ TB := tbM (i := 47) (by decide +kernel) rfl
theorem p48 : Cond.selects "HedgehogLotsModel" ⟨"HedgehogLotsModel", "isAsSeen", "(I)Z"⟩ ⟨"HedgehogLotsModel", "isAsSeen", "(I)Z"⟩ ∈ TB := tbM (i := 48) (by decide +kernel) rfl
theorem p49 : Cond.selects "HedgehogLotsModel" ⟨"HedgehogLotsModel", "speedsOf", "(I)I"⟩ ⟨"HedgehogLotsModel", "speedsOf", "(I)I"⟩ ∈ TB := tbM (i := 49) (by decide +kernel) rfl
theorem q0 : (Cond.initialized "HedgehogLotsLaw") ∈ TB := tbM (i := 50) (by decide +kernel) rfl
theorem q1 : (Cond.initialized "HedgehogLots") ∈ TB := tbM (i := 51) (by decide +kernel) rfl
theorem q2 : (Cond.initialized "HedgehogLots$Slope") ∈ TB := tbM (i := 52) (by decide +kernel) rfl
theorem q3 : (Cond.initialized "java/util/Arrays") ∈ TB := tbM (i := 53) (by decide +kernel) rfl
theorem q4 : (Cond.initialized "HedgehogLots$Court") ∈ TB := tbM (i := 54) (by decide +kernel) rfl
theorem q5 : (Cond.initialized "HedgehogLots$Course") ∈ TB := tbM (i := 55) (by decide +kernel) rfl
theorem q6 : (Cond.initialized "HedgehogLots$Advice") ∈ TB := tbM (i := 56) (by decide +kernel) rfl
theorem q7 : (Cond.initialized "HedgehogLots$Odds") ∈ TB := tbM (i := 57) (by decide +kernel) rfl
theorem q8 : (Cond.initialized "HedgehogLots$Seen") ∈ TB := tbM (i := 58) (by decide +kernel) rfl
theorem q9 : (Cond.initialized "HedgehogLots$Tape") ∈ TB := tbM (i := 59) (by decide +kernel) rfl
theorem q10 : (Cond.initialized "HedgehogLots$Reader") ∈ TB := tbM (i := 60) (by decide +kernel) rfl
theorem q11 : (Cond.initialized "HedgehogLots$Sheet") ∈ TB := tbM (i := 61) (by decide +kernel) rfl
theorem q12 : (Cond.initialized "HedgehogLotsModel") ∈ TB := tbM (i := 62) (by decide +kernel) rfl
theorem q13 : (Cond.initialized "java/lang/Math") ∈ TB := tbM (i := 63) (by decide +kernel) rfl
theorem q14 : (Cond.initialized "java/lang/String") ∈ TB := tbM (i := 64) (by decide +kernel) rfl
theorem q15 : (Cond.initialized "java/lang/StringLatin1") ∈ TB := tbM (i := 65) (by decide +kernel) rfl
theorem q16 : (Cond.initialized "jdk/internal/util/Preconditions") ∈ TB := tbM (i := 66) (by decide +kernel) rfl
theorem q17 : (Cond.initialized "java/lang/StringUTF16") ∈ TB := tbM (i := 67) (by decide +kernel) rfl
theorem q18 : (Cond.initialized "java/lang/System") ∈ TB := tbM (i := 68) (by decide +kernel) rfl
theorem q19 : (Cond.initialized "java/lang/Integer") ∈ TB := tbM (i := 69) (by decide +kernel) rfl
theorem q20 : (Cond.classLink "HedgehogLotsLaw" (7 : Nat) "HedgehogLots") ∈ TB := tbM (i := 70) (by decide +kernel) rfl
theorem q21 : (Cond.instantiable "HedgehogLots" (14 : Nat)) ∈ TB := tbM (i := 71) (by decide +kernel) rfl
theorem q22 : (Cond.methodLink "HedgehogLotsLaw" (9 : Nat) ({ cls := "HedgehogLots", name := "<init>", desc := "()V" } : MethodName)) ∈ TB := tbM (i := 72) (by decide +kernel) rfl
theorem q23 : (Cond.instanceMethod ({ cls := "HedgehogLots", name := "<init>", desc := "()V" } : MethodName)) ∈ TB := tbM (i := 73) (by decide +kernel) rfl
theorem q24 : (Cond.code ({ cls := "HedgehogLots", name := "<init>", desc := "()V" } : MethodName) prog_1_method_1_code (2 : Nat) (Option.none : Option FieldType)) ∈ TB := tbM (i := 74) (by decide +kernel) rfl
theorem q25 : (Cond.methodLink "HedgehogLots" (1 : Nat) ({ cls := "java/lang/Object", name := "<init>", desc := "()V" } : MethodName)) ∈ TB := tbM (i := 75) (by decide +kernel) rfl
theorem q26 : (Cond.instanceMethod ({ cls := "java/lang/Object", name := "<init>", desc := "()V" } : MethodName)) ∈ TB := tbM (i := 76) (by decide +kernel) rfl
theorem q27 : (Cond.code ({ cls := "java/lang/Object", name := "<init>", desc := "()V" } : MethodName) object_method_1_code (1 : Nat) (Option.none : Option FieldType)) ∈ TB := tbM (i := 77) (by decide +kernel) rfl
theorem q28 : (Cond.classLink "HedgehogLots" (7 : Nat) "HedgehogLots$Slope") ∈ TB := tbM (i := 78) (by decide +kernel) rfl
theorem q29 : (Cond.instantiable "HedgehogLots$Slope" (12 : Nat)) ∈ TB := tbM (i := 79) (by decide +kernel) rfl
theorem q30 : (Cond.methodLink "HedgehogLots" (9 : Nat) ({ cls := "HedgehogLots$Slope", name := "<init>", desc := "()V" } : MethodName)) ∈ TB := tbM (i := 80) (by decide +kernel) rfl
theorem q31 : (Cond.instanceMethod ({ cls := "HedgehogLots$Slope", name := "<init>", desc := "()V" } : MethodName)) ∈ TB := tbM (i := 81) (by decide +kernel) rfl
theorem q32 : (Cond.code ({ cls := "HedgehogLots$Slope", name := "<init>", desc := "()V" } : MethodName) prog_9_method_1_code (1 : Nat) (Option.none : Option FieldType)) ∈ TB := tbM (i := 82) (by decide +kernel) rfl
theorem q33 : (Cond.methodLink "HedgehogLots$Slope" (3 : Nat) ({ cls := "java/lang/Object", name := "<init>", desc := "()V" } : MethodName)) ∈ TB := tbM (i := 83) (by decide +kernel) rfl
theorem q34 : (Cond.methodLink "HedgehogLots$Slope" (49 : Nat) ({ cls := "java/util/Arrays", name := "fill", desc := "([II)V" } : MethodName)) ∈ TB := tbM (i := 84) (by decide +kernel) rfl
theorem q35 : (Cond.static ({ cls := "java/util/Arrays", name := "fill", desc := "([II)V" } : MethodName)) ∈ TB := tbM (i := 85) (by decide +kernel) rfl
theorem q36 : (Cond.code ({ cls := "java/util/Arrays", name := "fill", desc := "([II)V" } : MethodName) prog_19_method_103_code (4 : Nat) (Option.none : Option FieldType)) ∈ TB := tbM (i := 86) (by decide +kernel) rfl
theorem q37 : (Cond.fieldLink "HedgehogLots$Slope" (9 : Nat) "HedgehogLots$Slope" "pegCell" "[I") ∈ TB := tbM (i := 87) (by decide +kernel) rfl
theorem q38 : (Cond.fieldLink "HedgehogLots$Advice" (66 : Nat) "HedgehogLots$Slope" "pegCell" "[I") ∈ TB := tbM (i := 88) (by decide +kernel) rfl
theorem q39 : (Cond.fieldLink "HedgehogLots" (137 : Nat) "HedgehogLots$Slope" "pegCell" "[I") ∈ TB := tbM (i := 89) (by decide +kernel) rfl
theorem q40 : (Cond.fieldLink "HedgehogLots$Slope" (15 : Nat) "HedgehogLots$Slope" "pegRag" "[I") ∈ TB := tbM (i := 90) (by decide +kernel) rfl
theorem q41 : (Cond.fieldLink "HedgehogLots$Odds" (60 : Nat) "HedgehogLots$Slope" "pegRag" "[I") ∈ TB := tbM (i := 91) (by decide +kernel) rfl
theorem q42 : (Cond.fieldLink "HedgehogLots$Course" (57 : Nat) "HedgehogLots$Slope" "pegRag" "[I") ∈ TB := tbM (i := 92) (by decide +kernel) rfl
theorem q43 : (Cond.fieldLink "HedgehogLots$Advice" (69 : Nat) "HedgehogLots$Slope" "pegRag" "[I") ∈ TB := tbM (i := 93) (by decide +kernel) rfl
theorem q44 : (Cond.fieldLink "HedgehogLots" (141 : Nat) "HedgehogLots$Slope" "pegRag" "[I") ∈ TB := tbM (i := 94) (by decide +kernel) rfl
theorem q45 : (Cond.fieldLink "HedgehogLots$Slope" (18 : Nat) "HedgehogLots$Slope" "pegs" "I") ∈ TB := tbM (i := 95) (by decide +kernel) rfl
theorem q46 : (Cond.fieldLink "HedgehogLots$Advice" (37 : Nat) "HedgehogLots$Slope" "pegs" "I") ∈ TB := tbM (i := 96) (by decide +kernel) rfl
theorem q47 : (Cond.fieldLink "HedgehogLots" (115 : Nat) "HedgehogLots$Slope" "pegs" "I") ∈ TB := tbM (i := 97) (by decide +kernel) rfl
theorem q48 : (Cond.fieldLink "HedgehogLots$Reader" (120 : Nat) "HedgehogLots$Slope" "pegs" "I") ∈ TB := tbM (i := 98) (by decide +kernel) rfl
theorem q49 : (Cond.fieldLink "HedgehogLots$Slope" (22 : Nat) "HedgehogLots$Slope" "slugCell" "[I") ∈ TB := tbM (i := 99) (by decide +kernel) rfl
theorem q50 : (Cond.fieldLink "HedgehogLots" (150 : Nat) "HedgehogLots$Slope" "slugCell" "[I") ∈ TB := tbM (i := 100) (by decide +kernel) rfl
theorem q51 : (Cond.fieldLink "HedgehogLots$Slope" (25 : Nat) "HedgehogLots$Slope" "slugs" "I") ∈ TB := tbM (i := 101) (by decide +kernel) rfl
theorem q52 : (Cond.fieldLink "HedgehogLots" (118 : Nat) "HedgehogLots$Slope" "slugs" "I") ∈ TB := tbM (i := 102) (by decide +kernel) rfl
theorem q53 : (Cond.fieldLink "HedgehogLots$Advice" (78 : Nat) "HedgehogLots$Slope" "slugs" "I") ∈ TB := tbM (i := 103) (by decide +kernel) rfl
theorem q54 : (Cond.fieldLink "HedgehogLots$Reader" (136 : Nat) "HedgehogLots$Slope" "slugs" "I") ∈ TB := tbM (i := 104) (by decide +kernel) rfl
theorem q55 : (Cond.fieldLink "HedgehogLots$Slope" (28 : Nat) "HedgehogLots$Slope" "kind" "[I") ∈ TB := tbM (i := 105) (by decide +kernel) rfl
theorem q56 : (Cond.fieldLink "HedgehogLots$Court" (31 : Nat) "HedgehogLots$Slope" "kind" "[I") ∈ TB := tbM (i := 106) (by decide +kernel) rfl
theorem q57 : (Cond.fieldLink "HedgehogLots$Odds" (40 : Nat) "HedgehogLots$Slope" "kind" "[I") ∈ TB := tbM (i := 107) (by decide +kernel) rfl
theorem q58 : (Cond.fieldLink "HedgehogLots$Seen" (46 : Nat) "HedgehogLots$Slope" "kind" "[I") ∈ TB := tbM (i := 108) (by decide +kernel) rfl
theorem q59 : (Cond.fieldLink "HedgehogLots" (156 : Nat) "HedgehogLots$Slope" "kind" "[I") ∈ TB := tbM (i := 109) (by decide +kernel) rfl
theorem q60 : (Cond.fieldLink "HedgehogLots$Slope" (31 : Nat) "HedgehogLots$Slope" "speed" "[I") ∈ TB := tbM (i := 110) (by decide +kernel) rfl
theorem q61 : (Cond.fieldLink "HedgehogLots$Court" (35 : Nat) "HedgehogLots$Slope" "speed" "[I") ∈ TB := tbM (i := 111) (by decide +kernel) rfl
theorem q62 : (Cond.fieldLink "HedgehogLots$Odds" (44 : Nat) "HedgehogLots$Slope" "speed" "[I") ∈ TB := tbM (i := 112) (by decide +kernel) rfl
theorem q63 : (Cond.fieldLink "HedgehogLots$Seen" (53 : Nat) "HedgehogLots$Slope" "speed" "[I") ∈ TB := tbM (i := 113) (by decide +kernel) rfl
theorem q64 : (Cond.fieldLink "HedgehogLots" (159 : Nat) "HedgehogLots$Slope" "speed" "[I") ∈ TB := tbM (i := 114) (by decide +kernel) rfl
theorem q65 : (Cond.fieldLink "HedgehogLots$Slope" (34 : Nat) "HedgehogLots$Slope" "hedgehogs" "I") ∈ TB := tbM (i := 115) (by decide +kernel) rfl
theorem q66 : (Cond.fieldLink "HedgehogLots" (121 : Nat) "HedgehogLots$Slope" "hedgehogs" "I") ∈ TB := tbM (i := 116) (by decide +kernel) rfl
theorem q67 : (Cond.fieldLink "HedgehogLots$Advice" (93 : Nat) "HedgehogLots$Slope" "hedgehogs" "I") ∈ TB := tbM (i := 117) (by decide +kernel) rfl
theorem q68 : (Cond.fieldLink "HedgehogLots$Reader" (142 : Nat) "HedgehogLots$Slope" "hedgehogs" "I") ∈ TB := tbM (i := 118) (by decide +kernel) rfl
theorem q69 : (Cond.fieldLink "HedgehogLots$Slope" (37 : Nat) "HedgehogLots$Slope" "suitHedgehog" "[I") ∈ TB := tbM (i := 119) (by decide +kernel) rfl
theorem q70 : (Cond.fieldLink "HedgehogLots$Reader" (53 : Nat) "HedgehogLots$Slope" "suitHedgehog" "[I") ∈ TB := tbM (i := 120) (by decide +kernel) rfl
theorem q71 : (Cond.fieldLink "HedgehogLots$Court" (45 : Nat) "HedgehogLots$Slope" "suitHedgehog" "[I") ∈ TB := tbM (i := 121) (by decide +kernel) rfl
theorem q72 : (Cond.fieldLink "HedgehogLots" (173 : Nat) "HedgehogLots$Slope" "suitHedgehog" "[I") ∈ TB := tbM (i := 122) (by decide +kernel) rfl
theorem q73 : (Cond.fieldLink "HedgehogLots$Slope" (40 : Nat) "HedgehogLots$Slope" "suitColumn" "[I") ∈ TB := tbM (i := 123) (by decide +kernel) rfl
theorem q74 : (Cond.fieldLink "HedgehogLots$Court" (48 : Nat) "HedgehogLots$Slope" "suitColumn" "[I") ∈ TB := tbM (i := 124) (by decide +kernel) rfl
theorem q75 : (Cond.fieldLink "HedgehogLots" (176 : Nat) "HedgehogLots$Slope" "suitColumn" "[I") ∈ TB := tbM (i := 125) (by decide +kernel) rfl
theorem q76 : (Cond.fieldLink "HedgehogLots$Slope" (43 : Nat) "HedgehogLots$Slope" "suits" "I") ∈ TB := tbM (i := 126) (by decide +kernel) rfl
theorem q77 : (Cond.fieldLink "HedgehogLots$Reader" (50 : Nat) "HedgehogLots$Slope" "suits" "I") ∈ TB := tbM (i := 127) (by decide +kernel) rfl
theorem q78 : (Cond.fieldLink "HedgehogLots$Court" (51 : Nat) "HedgehogLots$Slope" "suits" "I") ∈ TB := tbM (i := 128) (by decide +kernel) rfl
theorem q79 : (Cond.fieldLink "HedgehogLots" (124 : Nat) "HedgehogLots$Slope" "suits" "I") ∈ TB := tbM (i := 129) (by decide +kernel) rfl
theorem q80 : (Cond.fieldLink "HedgehogLots$Slope" (46 : Nat) "HedgehogLots$Slope" "ground" "[I") ∈ TB := tbM (i := 130) (by decide +kernel) rfl
theorem q81 : (Cond.laysFinal "HedgehogLots$Slope" "HedgehogLots$Slope" "pegCell" "[I") ∈ TB := tbM (i := 131) (by decide +kernel) rfl
theorem q83 : (Cond.laysFinal "HedgehogLots$Slope" "HedgehogLots$Slope" "pegRag" "[I") ∈ TB := tbM (i := 133) (by decide +kernel) rfl
theorem q85 : (Cond.lays "HedgehogLots$Slope" "HedgehogLots$Slope" "pegs" "I") ∈ TB := tbM (i := 135) (by decide +kernel) rfl
theorem q87 : (Cond.laysFinal "HedgehogLots$Slope" "HedgehogLots$Slope" "slugCell" "[I") ∈ TB := tbM (i := 137) (by decide +kernel) rfl
theorem q89 : (Cond.lays "HedgehogLots$Slope" "HedgehogLots$Slope" "slugs" "I") ∈ TB := tbM (i := 139) (by decide +kernel) rfl
theorem q91 : (Cond.laysFinal "HedgehogLots$Slope" "HedgehogLots$Slope" "kind" "[I") ∈ TB := tbM (i := 141) (by decide +kernel) rfl
theorem q93 : (Cond.laysFinal "HedgehogLots$Slope" "HedgehogLots$Slope" "speed" "[I") ∈ TB := tbM (i := 143) (by decide +kernel) rfl
theorem q95 : (Cond.lays "HedgehogLots$Slope" "HedgehogLots$Slope" "hedgehogs" "I") ∈ TB := tbM (i := 145) (by decide +kernel) rfl
theorem q97 : (Cond.laysFinal "HedgehogLots$Slope" "HedgehogLots$Slope" "suitHedgehog" "[I") ∈ TB := tbM (i := 147) (by decide +kernel) rfl
theorem q99 : (Cond.laysFinal "HedgehogLots$Slope" "HedgehogLots$Slope" "suitColumn" "[I") ∈ TB := tbM (i := 149) (by decide +kernel) rfl
theorem q101 : (Cond.lays "HedgehogLots$Slope" "HedgehogLots$Slope" "suits" "I") ∈ TB := tbM (i := 151) (by decide +kernel) rfl
theorem q103 : (Cond.laysFinal "HedgehogLots$Slope" "HedgehogLots$Slope" "ground" "[I") ∈ TB := tbM (i := 153) (by decide +kernel) rfl
theorem q106 : (Cond.arrayClass FieldType.int) ∈ TB := tbM (i := 156) (by decide +kernel) rfl
theorem q107 : (Cond.classLink "HedgehogLots" (16 : Nat) "HedgehogLots$Court") ∈ TB := tbM (i := 157) (by decide +kernel) rfl
theorem q108 : (Cond.instantiable "HedgehogLots$Court" (2 : Nat)) ∈ TB := tbM (i := 158) (by decide +kernel) rfl
theorem q109 : (Cond.methodLink "HedgehogLots" (18 : Nat) ({ cls := "HedgehogLots$Court", name := "<init>", desc := "(LHedgehogLots$Slope;)V" } : MethodName)) ∈ TB := tbM (i := 159) (by decide +kernel) rfl
theorem q110 : (Cond.instanceMethod ({ cls := "HedgehogLots$Court", name := "<init>", desc := "(LHedgehogLots$Slope;)V" } : MethodName)) ∈ TB := tbM (i := 160) (by decide +kernel) rfl
theorem q111 : (Cond.code ({ cls := "HedgehogLots$Court", name := "<init>", desc := "(LHedgehogLots$Slope;)V" } : MethodName) prog_4_method_1_code (2 : Nat) (Option.none : Option FieldType)) ∈ TB := tbM (i := 161) (by decide +kernel) rfl
theorem q112 : (Cond.methodLink "HedgehogLots$Court" (3 : Nat) ({ cls := "java/lang/Object", name := "<init>", desc := "()V" } : MethodName)) ∈ TB := tbM (i := 162) (by decide +kernel) rfl
theorem q113 : (Cond.classLink "HedgehogLots$Court" (9 : Nat) "HedgehogLots$Course") ∈ TB := tbM (i := 163) (by decide +kernel) rfl
theorem q114 : (Cond.instantiable "HedgehogLots$Course" (6 : Nat)) ∈ TB := tbM (i := 164) (by decide +kernel) rfl
theorem q116 : (Cond.instanceMethod ({ cls := "HedgehogLots$Course", name := "<init>", desc := "()V" } : MethodName)) ∈ TB := tbM (i := 166) (by decide +kernel) rfl
theorem q117 : (Cond.code ({ cls := "HedgehogLots$Course", name := "<init>", desc := "()V" } : MethodName) prog_3_method_1_code (1 : Nat) (Option.none : Option FieldType)) ∈ TB := tbM (i := 167) (by decide +kernel) rfl
theorem q118 : (Cond.methodLink "HedgehogLots$Course" (3 : Nat) ({ cls := "java/lang/Object", name := "<init>", desc := "()V" } : MethodName)) ∈ TB := tbM (i := 168) (by decide +kernel) rfl
theorem q119 : (Cond.fieldLink "HedgehogLots$Course" (9 : Nat) "HedgehogLots$Course" "rest" "I") ∈ TB := tbM (i := 169) (by decide +kernel) rfl
theorem q120 : (Cond.fieldLink "HedgehogLots$Seen" (41 : Nat) "HedgehogLots$Course" "rest" "I") ∈ TB := tbM (i := 170) (by decide +kernel) rfl
theorem q121 : (Cond.fieldLink "HedgehogLots$Court" (66 : Nat) "HedgehogLots$Course" "rest" "I") ∈ TB := tbM (i := 171) (by decide +kernel) rfl
theorem q122 : (Cond.fieldLink "HedgehogLots$Advice" (119 : Nat) "HedgehogLots$Course" "rest" "I") ∈ TB := tbM (i := 172) (by decide +kernel) rfl
theorem q123 : (Cond.fieldLink "HedgehogLots" (221 : Nat) "HedgehogLots$Course" "rest" "I") ∈ TB := tbM (i := 173) (by decide +kernel) rfl
theorem q124 : (Cond.fieldLink "HedgehogLots$Course" (15 : Nat) "HedgehogLots$Course" "winner" "I") ∈ TB := tbM (i := 174) (by decide +kernel) rfl
theorem q125 : (Cond.fieldLink "HedgehogLots$Court" (59 : Nat) "HedgehogLots$Course" "winner" "I") ∈ TB := tbM (i := 175) (by decide +kernel) rfl
theorem q126 : (Cond.fieldLink "HedgehogLots" (183 : Nat) "HedgehogLots$Course" "winner" "I") ∈ TB := tbM (i := 176) (by decide +kernel) rfl
theorem q127 : (Cond.fieldLink "HedgehogLots$Course" (18 : Nat) "HedgehogLots$Course" "endRow" "I") ∈ TB := tbM (i := 177) (by decide +kernel) rfl
theorem q128 : (Cond.fieldLink "HedgehogLots" (224 : Nat) "HedgehogLots$Course" "endRow" "I") ∈ TB := tbM (i := 178) (by decide +kernel) rfl
theorem q129 : (Cond.fieldLink "HedgehogLots$Course" (21 : Nat) "HedgehogLots$Course" "met" "I") ∈ TB := tbM (i := 179) (by decide +kernel) rfl
theorem q130 : (Cond.fieldLink "HedgehogLots" (227 : Nat) "HedgehogLots$Course" "met" "I") ∈ TB := tbM (i := 180) (by decide +kernel) rfl
theorem q131 : (Cond.fieldLink "HedgehogLots$Course" (24 : Nat) "HedgehogLots$Course" "opens" "Z") ∈ TB := tbM (i := 181) (by decide +kernel) rfl
theorem q132 : (Cond.fieldLink "HedgehogLots$Court" (62 : Nat) "HedgehogLots$Course" "opens" "Z") ∈ TB := tbM (i := 182) (by decide +kernel) rfl
theorem q133 : (Cond.fieldLink "HedgehogLots" (230 : Nat) "HedgehogLots$Course" "opens" "Z") ∈ TB := tbM (i := 183) (by decide +kernel) rfl
theorem q134 : (Cond.fieldLink "HedgehogLots$Course" (28 : Nat) "HedgehogLots$Course" "columnIn" "[I") ∈ TB := tbM (i := 184) (by decide +kernel) rfl
theorem q135 : (Cond.fieldLink "HedgehogLots" (234 : Nat) "HedgehogLots$Course" "columnIn" "[I") ∈ TB := tbM (i := 185) (by decide +kernel) rfl
theorem q136 : (Cond.lays "HedgehogLots$Course" "HedgehogLots$Course" "rest" "I") ∈ TB := tbM (i := 186) (by decide +kernel) rfl
theorem q138 : (Cond.lays "HedgehogLots$Course" "HedgehogLots$Course" "winner" "I") ∈ TB := tbM (i := 188) (by decide +kernel) rfl
theorem q140 : (Cond.lays "HedgehogLots$Course" "HedgehogLots$Course" "endRow" "I") ∈ TB := tbM (i := 190) (by decide +kernel) rfl
theorem q142 : (Cond.lays "HedgehogLots$Course" "HedgehogLots$Course" "met" "I") ∈ TB := tbM (i := 192) (by decide +kernel) rfl
theorem q144 : (Cond.lays "HedgehogLots$Course" "HedgehogLots$Course" "opens" "Z") ∈ TB := tbM (i := 194) (by decide +kernel) rfl
theorem q146 : (Cond.laysFinal "HedgehogLots$Course" "HedgehogLots$Course" "columnIn" "[I") ∈ TB := tbM (i := 196) (by decide +kernel) rfl
theorem q149 : (Cond.fieldLink "HedgehogLots$Court" (18 : Nat) "HedgehogLots$Court" "slope" "LHedgehogLots$Slope;") ∈ TB := tbM (i := 199) (by decide +kernel) rfl
theorem q150 : (Cond.fieldLink "HedgehogLots$Advice" (26 : Nat) "HedgehogLots$Court" "slope" "LHedgehogLots$Slope;") ∈ TB := tbM (i := 200) (by decide +kernel) rfl
theorem q151 : (Cond.fieldLink "HedgehogLots$Seen" (25 : Nat) "HedgehogLots$Court" "slope" "LHedgehogLots$Slope;") ∈ TB := tbM (i := 201) (by decide +kernel) rfl
theorem q152 : (Cond.fieldLink "HedgehogLots$Court" (12 : Nat) "HedgehogLots$Court" "course" "LHedgehogLots$Course;") ∈ TB := tbM (i := 202) (by decide +kernel) rfl
theorem q153 : (Cond.laysFinal "HedgehogLots$Court" "HedgehogLots$Court" "slope" "LHedgehogLots$Slope;") ∈ TB := tbM (i := 203) (by decide +kernel) rfl
theorem q155 : (Cond.laysFinal "HedgehogLots$Court" "HedgehogLots$Court" "course" "LHedgehogLots$Course;") ∈ TB := tbM (i := 205) (by decide +kernel) rfl
theorem q158 : (Cond.classLink "HedgehogLots" (31 : Nat) "HedgehogLots$Advice") ∈ TB := tbM (i := 208) (by decide +kernel) rfl
theorem q159 : (Cond.instantiable "HedgehogLots$Advice" (5 : Nat)) ∈ TB := tbM (i := 209) (by decide +kernel) rfl
theorem q160 : (Cond.methodLink "HedgehogLots" (33 : Nat) ({ cls := "HedgehogLots$Advice", name := "<init>", desc := "(LHedgehogLots$Court;)V" } : MethodName)) ∈ TB := tbM (i := 210) (by decide +kernel) rfl
theorem q161 : (Cond.instanceMethod ({ cls := "HedgehogLots$Advice", name := "<init>", desc := "(LHedgehogLots$Court;)V" } : MethodName)) ∈ TB := tbM (i := 211) (by decide +kernel) rfl
theorem q162 : (Cond.code ({ cls := "HedgehogLots$Advice", name := "<init>", desc := "(LHedgehogLots$Court;)V" } : MethodName) prog_2_method_1_code (2 : Nat) (Option.none : Option FieldType)) ∈ TB := tbM (i := 212) (by decide +kernel) rfl
theorem q163 : (Cond.methodLink "HedgehogLots$Advice" (3 : Nat) ({ cls := "java/lang/Object", name := "<init>", desc := "()V" } : MethodName)) ∈ TB := tbM (i := 213) (by decide +kernel) rfl
theorem q164 : (Cond.fieldLink "HedgehogLots$Advice" (22 : Nat) "HedgehogLots$Advice" "court" "LHedgehogLots$Court;") ∈ TB := tbM (i := 214) (by decide +kernel) rfl
theorem q165 : (Cond.fieldLink "HedgehogLots$Advice" (32 : Nat) "HedgehogLots$Advice" "slope" "LHedgehogLots$Slope;") ∈ TB := tbM (i := 215) (by decide +kernel) rfl
theorem q166 : (Cond.fieldLink "HedgehogLots$Advice" (9 : Nat) "HedgehogLots$Advice" "best" "I") ∈ TB := tbM (i := 216) (by decide +kernel) rfl
theorem q167 : (Cond.fieldLink "HedgehogLots$Advice" (15 : Nat) "HedgehogLots$Advice" "number" "I") ∈ TB := tbM (i := 217) (by decide +kernel) rfl
theorem q168 : (Cond.fieldLink "HedgehogLots$Advice" (18 : Nat) "HedgehogLots$Advice" "speedsByEnd" "[I") ∈ TB := tbM (i := 218) (by decide +kernel) rfl
theorem q169 : (Cond.laysFinal "HedgehogLots$Advice" "HedgehogLots$Advice" "court" "LHedgehogLots$Court;") ∈ TB := tbM (i := 219) (by decide +kernel) rfl
theorem q171 : (Cond.laysFinal "HedgehogLots$Advice" "HedgehogLots$Advice" "slope" "LHedgehogLots$Slope;") ∈ TB := tbM (i := 221) (by decide +kernel) rfl
theorem q173 : (Cond.lays "HedgehogLots$Advice" "HedgehogLots$Advice" "best" "I") ∈ TB := tbM (i := 223) (by decide +kernel) rfl
theorem q175 : (Cond.lays "HedgehogLots$Advice" "HedgehogLots$Advice" "number" "I") ∈ TB := tbM (i := 225) (by decide +kernel) rfl
theorem q177 : (Cond.laysFinal "HedgehogLots$Advice" "HedgehogLots$Advice" "speedsByEnd" "[I") ∈ TB := tbM (i := 227) (by decide +kernel) rfl
theorem q180 : (Cond.classLink "HedgehogLots" (40 : Nat) "HedgehogLots$Odds") ∈ TB := tbM (i := 230) (by decide +kernel) rfl
theorem q181 : (Cond.instantiable "HedgehogLots$Odds" (4 : Nat)) ∈ TB := tbM (i := 231) (by decide +kernel) rfl
theorem q183 : (Cond.instanceMethod ({ cls := "HedgehogLots$Odds", name := "<init>", desc := "()V" } : MethodName)) ∈ TB := tbM (i := 233) (by decide +kernel) rfl
theorem q184 : (Cond.code ({ cls := "HedgehogLots$Odds", name := "<init>", desc := "()V" } : MethodName) prog_5_method_1_code (1 : Nat) (Option.none : Option FieldType)) ∈ TB := tbM (i := 234) (by decide +kernel) rfl
theorem q185 : (Cond.methodLink "HedgehogLots$Odds" (3 : Nat) ({ cls := "java/lang/Object", name := "<init>", desc := "()V" } : MethodName)) ∈ TB := tbM (i := 235) (by decide +kernel) rfl
theorem q186 : (Cond.fieldLink "HedgehogLots$Odds" (9 : Nat) "HedgehogLots$Odds" "won" "J") ∈ TB := tbM (i := 236) (by decide +kernel) rfl
theorem q187 : (Cond.fieldLink "HedgehogLots" (285 : Nat) "HedgehogLots$Odds" "won" "J") ∈ TB := tbM (i := 237) (by decide +kernel) rfl
theorem q188 : (Cond.fieldLink "HedgehogLots$Odds" (15 : Nat) "HedgehogLots$Odds" "met" "J") ∈ TB := tbM (i := 238) (by decide +kernel) rfl
theorem q189 : (Cond.fieldLink "HedgehogLots" (293 : Nat) "HedgehogLots$Odds" "met" "J") ∈ TB := tbM (i := 239) (by decide +kernel) rfl
theorem q190 : (Cond.fieldLink "HedgehogLots$Odds" (18 : Nat) "HedgehogLots$Odds" "here" "[J") ∈ TB := tbM (i := 240) (by decide +kernel) rfl
theorem q191 : (Cond.fieldLink "HedgehogLots$Odds" (22 : Nat) "HedgehogLots$Odds" "below" "[J") ∈ TB := tbM (i := 241) (by decide +kernel) rfl
theorem q192 : (Cond.lays "HedgehogLots$Odds" "HedgehogLots$Odds" "won" "J") ∈ TB := tbM (i := 242) (by decide +kernel) rfl
theorem q194 : (Cond.lays "HedgehogLots$Odds" "HedgehogLots$Odds" "met" "J") ∈ TB := tbM (i := 244) (by decide +kernel) rfl
theorem q196 : (Cond.laysFinal "HedgehogLots$Odds" "HedgehogLots$Odds" "here" "[J") ∈ TB := tbM (i := 246) (by decide +kernel) rfl
theorem q198 : (Cond.laysFinal "HedgehogLots$Odds" "HedgehogLots$Odds" "below" "[J") ∈ TB := tbM (i := 248) (by decide +kernel) rfl
theorem q201 : (Cond.arrayClass FieldType.long) ∈ TB := tbM (i := 251) (by decide +kernel) rfl
theorem q202 : (Cond.classLink "HedgehogLots" (47 : Nat) "HedgehogLots$Seen") ∈ TB := tbM (i := 252) (by decide +kernel) rfl
theorem q203 : (Cond.instantiable "HedgehogLots$Seen" (4 : Nat)) ∈ TB := tbM (i := 253) (by decide +kernel) rfl
theorem q205 : (Cond.instanceMethod ({ cls := "HedgehogLots$Seen", name := "<init>", desc := "()V" } : MethodName)) ∈ TB := tbM (i := 255) (by decide +kernel) rfl
theorem q206 : (Cond.code ({ cls := "HedgehogLots$Seen", name := "<init>", desc := "()V" } : MethodName) prog_7_method_1_code (1 : Nat) (Option.none : Option FieldType)) ∈ TB := tbM (i := 256) (by decide +kernel) rfl
theorem q207 : (Cond.methodLink "HedgehogLots$Seen" (3 : Nat) ({ cls := "java/lang/Object", name := "<init>", desc := "()V" } : MethodName)) ∈ TB := tbM (i := 257) (by decide +kernel) rfl
theorem q208 : (Cond.fieldLink "HedgehogLots$Seen" (9 : Nat) "HedgehogLots$Seen" "hedgehog" "[I") ∈ TB := tbM (i := 258) (by decide +kernel) rfl
theorem q209 : (Cond.fieldLink "HedgehogLots$Seen" (15 : Nat) "HedgehogLots$Seen" "column" "[I") ∈ TB := tbM (i := 259) (by decide +kernel) rfl
theorem q210 : (Cond.fieldLink "HedgehogLots$Seen" (18 : Nat) "HedgehogLots$Seen" "peg" "[I") ∈ TB := tbM (i := 260) (by decide +kernel) rfl
theorem q211 : (Cond.fieldLink "HedgehogLots$Seen" (21 : Nat) "HedgehogLots$Seen" "size" "I") ∈ TB := tbM (i := 261) (by decide +kernel) rfl
theorem q212 : (Cond.fieldLink "HedgehogLots" (112 : Nat) "HedgehogLots$Seen" "size" "I") ∈ TB := tbM (i := 262) (by decide +kernel) rfl
theorem q213 : (Cond.laysFinal "HedgehogLots$Seen" "HedgehogLots$Seen" "hedgehog" "[I") ∈ TB := tbM (i := 263) (by decide +kernel) rfl
theorem q215 : (Cond.laysFinal "HedgehogLots$Seen" "HedgehogLots$Seen" "column" "[I") ∈ TB := tbM (i := 265) (by decide +kernel) rfl
theorem q217 : (Cond.laysFinal "HedgehogLots$Seen" "HedgehogLots$Seen" "peg" "[I") ∈ TB := tbM (i := 267) (by decide +kernel) rfl
theorem q219 : (Cond.lays "HedgehogLots$Seen" "HedgehogLots$Seen" "size" "I") ∈ TB := tbM (i := 269) (by decide +kernel) rfl
theorem q223 : (Cond.classLink "HedgehogLots" (62 : Nat) "HedgehogLots$Tape") ∈ TB := tbM (i := 273) (by decide +kernel) rfl
theorem q224 : (Cond.instantiable "HedgehogLots$Tape" (2 : Nat)) ∈ TB := tbM (i := 274) (by decide +kernel) rfl
theorem q226 : (Cond.instanceMethod ({ cls := "HedgehogLots$Tape", name := "<init>", desc := "()V" } : MethodName)) ∈ TB := tbM (i := 276) (by decide +kernel) rfl
theorem q227 : (Cond.code ({ cls := "HedgehogLots$Tape", name := "<init>", desc := "()V" } : MethodName) prog_10_method_1_code (1 : Nat) (Option.none : Option FieldType)) ∈ TB := tbM (i := 277) (by decide +kernel) rfl
theorem q228 : (Cond.methodLink "HedgehogLots$Tape" (3 : Nat) ({ cls := "java/lang/Object", name := "<init>", desc := "()V" } : MethodName)) ∈ TB := tbM (i := 278) (by decide +kernel) rfl
theorem q229 : (Cond.fieldLink "HedgehogLots$Tape" (9 : Nat) "HedgehogLots$Tape" "bytes" "[I") ∈ TB := tbM (i := 279) (by decide +kernel) rfl
theorem q230 : (Cond.fieldLink "HedgehogLots$Tape" (15 : Nat) "HedgehogLots$Tape" "length" "I") ∈ TB := tbM (i := 280) (by decide +kernel) rfl
theorem q231 : (Cond.fieldLink "HedgehogLots" (96 : Nat) "HedgehogLots$Tape" "length" "I") ∈ TB := tbM (i := 281) (by decide +kernel) rfl
theorem q232 : (Cond.fieldLink "HedgehogLots$Reader" (75 : Nat) "HedgehogLots$Tape" "length" "I") ∈ TB := tbM (i := 282) (by decide +kernel) rfl
theorem q233 : (Cond.laysFinal "HedgehogLots$Tape" "HedgehogLots$Tape" "bytes" "[I") ∈ TB := tbM (i := 283) (by decide +kernel) rfl
theorem q235 : (Cond.lays "HedgehogLots$Tape" "HedgehogLots$Tape" "length" "I") ∈ TB := tbM (i := 285) (by decide +kernel) rfl
theorem q238 : (Cond.arrayClass FieldType.boolean) ∈ TB := tbM (i := 288) (by decide +kernel) rfl
theorem q239 : (Cond.classLink "HedgehogLots" (69 : Nat) "HedgehogLots$Reader") ∈ TB := tbM (i := 289) (by decide +kernel) rfl
theorem q240 : (Cond.instantiable "HedgehogLots$Reader" (8 : Nat)) ∈ TB := tbM (i := 290) (by decide +kernel) rfl
theorem q241 : (Cond.methodLink "HedgehogLots" (71 : Nat) ({ cls := "HedgehogLots$Reader", name := "<init>", desc := "(LHedgehogLots$Tape;)V" } : MethodName)) ∈ TB := tbM (i := 291) (by decide +kernel) rfl
theorem q242 : (Cond.instanceMethod ({ cls := "HedgehogLots$Reader", name := "<init>", desc := "(LHedgehogLots$Tape;)V" } : MethodName)) ∈ TB := tbM (i := 292) (by decide +kernel) rfl
theorem q243 : (Cond.code ({ cls := "HedgehogLots$Reader", name := "<init>", desc := "(LHedgehogLots$Tape;)V" } : MethodName) prog_6_method_1_code (2 : Nat) (Option.none : Option FieldType)) ∈ TB := tbM (i := 293) (by decide +kernel) rfl
theorem q244 : (Cond.methodLink "HedgehogLots$Reader" (3 : Nat) ({ cls := "java/lang/Object", name := "<init>", desc := "()V" } : MethodName)) ∈ TB := tbM (i := 294) (by decide +kernel) rfl
theorem q245 : (Cond.classLink "HedgehogLots$Reader" (9 : Nat) "HedgehogLots$Slope") ∈ TB := tbM (i := 295) (by decide +kernel) rfl
theorem q246 : (Cond.methodLink "HedgehogLots$Reader" (11 : Nat) ({ cls := "HedgehogLots$Slope", name := "<init>", desc := "()V" } : MethodName)) ∈ TB := tbM (i := 296) (by decide +kernel) rfl
theorem q247 : (Cond.fieldLink "HedgehogLots$Reader" (12 : Nat) "HedgehogLots$Reader" "draft" "LHedgehogLots$Slope;") ∈ TB := tbM (i := 297) (by decide +kernel) rfl
theorem q248 : (Cond.fieldLink "HedgehogLots" (106 : Nat) "HedgehogLots$Reader" "draft" "LHedgehogLots$Slope;") ∈ TB := tbM (i := 298) (by decide +kernel) rfl
theorem q249 : (Cond.fieldLink "HedgehogLots$Reader" (18 : Nat) "HedgehogLots$Reader" "trouble" "I") ∈ TB := tbM (i := 299) (by decide +kernel) rfl
theorem q250 : (Cond.fieldLink "HedgehogLots" (103 : Nat) "HedgehogLots$Reader" "trouble" "I") ∈ TB := tbM (i := 300) (by decide +kernel) rfl
theorem q251 : (Cond.fieldLink "HedgehogLots$Reader" (37 : Nat) "HedgehogLots$Reader" "tape" "LHedgehogLots$Tape;") ∈ TB := tbM (i := 301) (by decide +kernel) rfl
theorem q252 : (Cond.fieldLink "HedgehogLots$Reader" (22 : Nat) "HedgehogLots$Reader" "troublePlace" "I") ∈ TB := tbM (i := 302) (by decide +kernel) rfl
theorem q253 : (Cond.fieldLink "HedgehogLots$Reader" (25 : Nat) "HedgehogLots$Reader" "token" "I") ∈ TB := tbM (i := 303) (by decide +kernel) rfl
theorem q254 : (Cond.fieldLink "HedgehogLots$Reader" (28 : Nat) "HedgehogLots$Reader" "tokenStart" "I") ∈ TB := tbM (i := 304) (by decide +kernel) rfl
theorem q255 : (Cond.fieldLink "HedgehogLots$Reader" (31 : Nat) "HedgehogLots$Reader" "tokenEnd" "I") ∈ TB := tbM (i := 305) (by decide +kernel) rfl
theorem q256 : (Cond.fieldLink "HedgehogLots$Reader" (34 : Nat) "HedgehogLots$Reader" "value" "I") ∈ TB := tbM (i := 306) (by decide +kernel) rfl
theorem q257 : (Cond.laysFinal "HedgehogLots$Reader" "HedgehogLots$Reader" "draft" "LHedgehogLots$Slope;") ∈ TB := tbM (i := 307) (by decide +kernel) rfl
theorem q259 : (Cond.lays "HedgehogLots$Reader" "HedgehogLots$Reader" "trouble" "I") ∈ TB := tbM (i := 309) (by decide +kernel) rfl
theorem q261 : (Cond.laysFinal "HedgehogLots$Reader" "HedgehogLots$Reader" "tape" "LHedgehogLots$Tape;") ∈ TB := tbM (i := 311) (by decide +kernel) rfl
theorem q263 : (Cond.lays "HedgehogLots$Reader" "HedgehogLots$Reader" "troublePlace" "I") ∈ TB := tbM (i := 313) (by decide +kernel) rfl
theorem q265 : (Cond.lays "HedgehogLots$Reader" "HedgehogLots$Reader" "token" "I") ∈ TB := tbM (i := 315) (by decide +kernel) rfl
theorem q267 : (Cond.lays "HedgehogLots$Reader" "HedgehogLots$Reader" "tokenStart" "I") ∈ TB := tbM (i := 317) (by decide +kernel) rfl
theorem q269 : (Cond.lays "HedgehogLots$Reader" "HedgehogLots$Reader" "tokenEnd" "I") ∈ TB := tbM (i := 319) (by decide +kernel) rfl
theorem q271 : (Cond.lays "HedgehogLots$Reader" "HedgehogLots$Reader" "value" "I") ∈ TB := tbM (i := 321) (by decide +kernel) rfl
theorem q274 : (Cond.classLink "HedgehogLots" (82 : Nat) "HedgehogLots$Sheet") ∈ TB := tbM (i := 324) (by decide +kernel) rfl
theorem q276 : (Cond.instantiable "HedgehogLots$Sheet" (3 : Nat)) ∈ TB := tbM (i := 326) (by decide +kernel) rfl
theorem q278 : (Cond.instanceMethod ({ cls := "HedgehogLots$Sheet", name := "<init>", desc := "()V" } : MethodName)) ∈ TB := tbM (i := 328) (by decide +kernel) rfl
theorem q279 : (Cond.code ({ cls := "HedgehogLots$Sheet", name := "<init>", desc := "()V" } : MethodName) prog_8_method_1_code (1 : Nat) (Option.none : Option FieldType)) ∈ TB := tbM (i := 329) (by decide +kernel) rfl
theorem q280 : (Cond.methodLink "HedgehogLots$Sheet" (3 : Nat) ({ cls := "java/lang/Object", name := "<init>", desc := "()V" } : MethodName)) ∈ TB := tbM (i := 330) (by decide +kernel) rfl
theorem q281 : (Cond.fieldLink "HedgehogLots$Sheet" (11 : Nat) "HedgehogLots$Sheet" "lane" "I") ∈ TB := tbM (i := 331) (by decide +kernel) rfl
theorem q282 : (Cond.fieldLink "HedgehogLots" (324 : Nat) "HedgehogLots$Sheet" "lane" "I") ∈ TB := tbM (i := 332) (by decide +kernel) rfl
theorem q283 : (Cond.fieldLink "HedgehogLots$Sheet" (15 : Nat) "HedgehogLots$Sheet" "size" "I") ∈ TB := tbM (i := 333) (by decide +kernel) rfl
theorem q284 : (Cond.fieldLink "HedgehogLots" (345 : Nat) "HedgehogLots$Sheet" "size" "I") ∈ TB := tbM (i := 334) (by decide +kernel) rfl
theorem q285 : (Cond.fieldLink "HedgehogLots$Sheet" (18 : Nat) "HedgehogLots$Sheet" "cells" "[I") ∈ TB := tbM (i := 335) (by decide +kernel) rfl
theorem q286 : (Cond.lays "HedgehogLots$Sheet" "HedgehogLots$Sheet" "lane" "I") ∈ TB := tbM (i := 336) (by decide +kernel) rfl
theorem q288 : (Cond.lays "HedgehogLots$Sheet" "HedgehogLots$Sheet" "size" "I") ∈ TB := tbM (i := 338) (by decide +kernel) rfl
theorem q290 : (Cond.laysFinal "HedgehogLots$Sheet" "HedgehogLots$Sheet" "cells" "[I") ∈ TB := tbM (i := 340) (by decide +kernel) rfl
theorem q293 : (Cond.fieldLink "HedgehogLots" (10 : Nat) "HedgehogLots" "slope" "LHedgehogLots$Slope;") ∈ TB := tbM (i := 343) (by decide +kernel) rfl
theorem q294 : (Cond.fieldLink "HedgehogLots" (21 : Nat) "HedgehogLots" "court" "LHedgehogLots$Court;") ∈ TB := tbM (i := 344) (by decide +kernel) rfl
theorem q295 : (Cond.fieldLink "HedgehogLots" (25 : Nat) "HedgehogLots" "trial" "LHedgehogLots$Slope;") ∈ TB := tbM (i := 345) (by decide +kernel) rfl
theorem q296 : (Cond.fieldLink "HedgehogLots" (28 : Nat) "HedgehogLots" "trialCourt" "LHedgehogLots$Court;") ∈ TB := tbM (i := 346) (by decide +kernel) rfl
theorem q297 : (Cond.fieldLink "HedgehogLots" (36 : Nat) "HedgehogLots" "advice" "LHedgehogLots$Advice;") ∈ TB := tbM (i := 347) (by decide +kernel) rfl
theorem q298 : (Cond.fieldLink "HedgehogLots" (43 : Nat) "HedgehogLots" "odds" "LHedgehogLots$Odds;") ∈ TB := tbM (i := 348) (by decide +kernel) rfl
theorem q299 : (Cond.fieldLink "HedgehogLots" (50 : Nat) "HedgehogLots" "seen" "LHedgehogLots$Seen;") ∈ TB := tbM (i := 349) (by decide +kernel) rfl
theorem q300 : (Cond.fieldLink "HedgehogLots" (54 : Nat) "HedgehogLots" "images" "[LHedgehogLots$Slope;") ∈ TB := tbM (i := 350) (by decide +kernel) rfl
theorem q301 : (Cond.fieldLink "HedgehogLots" (58 : Nat) "HedgehogLots" "kept" "[Z") ∈ TB := tbM (i := 351) (by decide +kernel) rfl
theorem q302 : (Cond.fieldLink "HedgehogLots" (65 : Nat) "HedgehogLots" "tape" "LHedgehogLots$Tape;") ∈ TB := tbM (i := 352) (by decide +kernel) rfl
theorem q303 : (Cond.fieldLink "HedgehogLots" (74 : Nat) "HedgehogLots" "reader" "LHedgehogLots$Reader;") ∈ TB := tbM (i := 353) (by decide +kernel) rfl
theorem q304 : (Cond.fieldLink "HedgehogLots" (78 : Nat) "HedgehogLots" "latestFault" "I") ∈ TB := tbM (i := 354) (by decide +kernel) rfl
theorem q305 : (Cond.fieldLink "HedgehogLots" (84 : Nat) "HedgehogLots" "sheets" "[LHedgehogLots$Sheet;") ∈ TB := tbM (i := 355) (by decide +kernel) rfl
theorem q306 : (Cond.fieldLink "HedgehogLots" (89 : Nat) "HedgehogLots" "latestTear" "I") ∈ TB := tbM (i := 356) (by decide +kernel) rfl
theorem q307 : (Cond.laysFinal "HedgehogLots" "HedgehogLots" "slope" "LHedgehogLots$Slope;") ∈ TB := tbM (i := 357) (by decide +kernel) rfl
theorem q309 : (Cond.laysFinal "HedgehogLots" "HedgehogLots" "court" "LHedgehogLots$Court;") ∈ TB := tbM (i := 359) (by decide +kernel) rfl
theorem q311 : (Cond.laysFinal "HedgehogLots" "HedgehogLots" "trial" "LHedgehogLots$Slope;") ∈ TB := tbM (i := 361) (by decide +kernel) rfl
theorem q313 : (Cond.laysFinal "HedgehogLots" "HedgehogLots" "trialCourt" "LHedgehogLots$Court;") ∈ TB := tbM (i := 363) (by decide +kernel) rfl
theorem q315 : (Cond.laysFinal "HedgehogLots" "HedgehogLots" "advice" "LHedgehogLots$Advice;") ∈ TB := tbM (i := 365) (by decide +kernel) rfl
theorem q317 : (Cond.laysFinal "HedgehogLots" "HedgehogLots" "odds" "LHedgehogLots$Odds;") ∈ TB := tbM (i := 367) (by decide +kernel) rfl
theorem q319 : (Cond.laysFinal "HedgehogLots" "HedgehogLots" "seen" "LHedgehogLots$Seen;") ∈ TB := tbM (i := 369) (by decide +kernel) rfl
theorem q321 : (Cond.laysFinal "HedgehogLots" "HedgehogLots" "images" "[LHedgehogLots$Slope;") ∈ TB := tbM (i := 371) (by decide +kernel) rfl
theorem q323 : (Cond.laysFinal "HedgehogLots" "HedgehogLots" "kept" "[Z") ∈ TB := tbM (i := 373) (by decide +kernel) rfl
theorem q325 : (Cond.laysFinal "HedgehogLots" "HedgehogLots" "tape" "LHedgehogLots$Tape;") ∈ TB := tbM (i := 375) (by decide +kernel) rfl
theorem q327 : (Cond.laysFinal "HedgehogLots" "HedgehogLots" "reader" "LHedgehogLots$Reader;") ∈ TB := tbM (i := 377) (by decide +kernel) rfl
theorem q329 : (Cond.lays "HedgehogLots" "HedgehogLots" "latestFault" "I") ∈ TB := tbM (i := 379) (by decide +kernel) rfl
theorem q331 : (Cond.laysFinal "HedgehogLots" "HedgehogLots" "sheets" "[LHedgehogLots$Sheet;") ∈ TB := tbM (i := 381) (by decide +kernel) rfl
theorem q333 : (Cond.lays "HedgehogLots" "HedgehogLots" "latestTear" "I") ∈ TB := tbM (i := 383) (by decide +kernel) rfl
theorem q336 : (Cond.methodLink "HedgehogLotsLaw" (13 : Nat) ({ cls := "HedgehogLots", name := "feed", desc := "(I)I" } : MethodName)) ∈ TB := tbM (i := 386) (by decide +kernel) rfl
theorem q337 : (Cond.instanceMethod ({ cls := "HedgehogLots", name := "feed", desc := "(I)I" } : MethodName)) ∈ TB := tbM (i := 387) (by decide +kernel) rfl
theorem q338 : (Cond.selects "HedgehogLots" ({ cls := "HedgehogLots", name := "feed", desc := "(I)I" } : MethodName) ({ cls := "HedgehogLots", name := "feed", desc := "(I)I" } : MethodName)) ∈ TB := tbM (i := 388) (by decide +kernel) rfl
theorem q339 : (Cond.code ({ cls := "HedgehogLots", name := "feed", desc := "(I)I" } : MethodName) prog_1_method_2_code (2 : Nat) (Option.some FieldType.int)) ∈ TB := tbM (i := 389) (by decide +kernel) rfl
theorem q340 : (Cond.methodLink "HedgehogLots" (92 : Nat) ({ cls := "HedgehogLots$Tape", name := "add", desc := "(I)I" } : MethodName)) ∈ TB := tbM (i := 390) (by decide +kernel) rfl
theorem q341 : (Cond.instanceMethod ({ cls := "HedgehogLots$Tape", name := "add", desc := "(I)I" } : MethodName)) ∈ TB := tbM (i := 391) (by decide +kernel) rfl
theorem q342 : (Cond.selects "HedgehogLots$Tape" ({ cls := "HedgehogLots$Tape", name := "add", desc := "(I)I" } : MethodName) ({ cls := "HedgehogLots$Tape", name := "add", desc := "(I)I" } : MethodName)) ∈ TB := tbM (i := 392) (by decide +kernel) rfl
theorem q343 : (Cond.code ({ cls := "HedgehogLots$Tape", name := "add", desc := "(I)I" } : MethodName) prog_10_method_2_code (2 : Nat) (Option.some FieldType.int)) ∈ TB := tbM (i := 393) (by decide +kernel) rfl
theorem q344 : (Cond.methodLink "HedgehogLotsLaw" (18 : Nat) ({ cls := "HedgehogLots", name := "end", desc := "(I)I" } : MethodName)) ∈ TB := tbM (i := 394) (by decide +kernel) rfl
theorem q345 : (Cond.instanceMethod ({ cls := "HedgehogLots", name := "end", desc := "(I)I" } : MethodName)) ∈ TB := tbM (i := 395) (by decide +kernel) rfl
theorem q346 : (Cond.selects "HedgehogLots" ({ cls := "HedgehogLots", name := "end", desc := "(I)I" } : MethodName) ({ cls := "HedgehogLots", name := "end", desc := "(I)I" } : MethodName)) ∈ TB := tbM (i := 396) (by decide +kernel) rfl
theorem q347 : (Cond.code ({ cls := "HedgehogLots", name := "end", desc := "(I)I" } : MethodName) prog_1_method_3_code (3 : Nat) (Option.some FieldType.int)) ∈ TB := tbM (i := 397) (by decide +kernel) rfl
theorem q348 : (Cond.methodLink "HedgehogLotsLaw" (22 : Nat) ({ cls := "HedgehogLots", name := "text", desc := "()I" } : MethodName)) ∈ TB := tbM (i := 398) (by decide +kernel) rfl
theorem q349 : (Cond.instanceMethod ({ cls := "HedgehogLots", name := "text", desc := "()I" } : MethodName)) ∈ TB := tbM (i := 399) (by decide +kernel) rfl
theorem q350 : (Cond.selects "HedgehogLots" ({ cls := "HedgehogLots", name := "text", desc := "()I" } : MethodName) ({ cls := "HedgehogLots", name := "text", desc := "()I" } : MethodName)) ∈ TB := tbM (i := 400) (by decide +kernel) rfl
theorem q351 : (Cond.code ({ cls := "HedgehogLots", name := "text", desc := "()I" } : MethodName) prog_1_method_4_code (3 : Nat) (Option.some FieldType.int)) ∈ TB := tbM (i := 401) (by decide +kernel) rfl
theorem q352 : (Cond.methodLink "HedgehogLots" (99 : Nat) ({ cls := "HedgehogLots$Reader", name := "readAll", desc := "()I" } : MethodName)) ∈ TB := tbM (i := 402) (by decide +kernel) rfl
theorem q353 : (Cond.instanceMethod ({ cls := "HedgehogLots$Reader", name := "readAll", desc := "()I" } : MethodName)) ∈ TB := tbM (i := 403) (by decide +kernel) rfl
theorem q354 : (Cond.selects "HedgehogLots$Reader" ({ cls := "HedgehogLots$Reader", name := "readAll", desc := "()I" } : MethodName) ({ cls := "HedgehogLots$Reader", name := "readAll", desc := "()I" } : MethodName)) ∈ TB := tbM (i := 404) (by decide +kernel) rfl
theorem q355 : (Cond.code ({ cls := "HedgehogLots$Reader", name := "readAll", desc := "()I" } : MethodName) prog_6_method_2_code (3 : Nat) (Option.some FieldType.int)) ∈ TB := tbM (i := 405) (by decide +kernel) rfl
theorem q356 : (Cond.methodLink "HedgehogLots$Reader" (41 : Nat) ({ cls := "HedgehogLots$Slope", name := "empty", desc := "()V" } : MethodName)) ∈ TB := tbM (i := 406) (by decide +kernel) rfl
theorem q357 : (Cond.instanceMethod ({ cls := "HedgehogLots$Slope", name := "empty", desc := "()V" } : MethodName)) ∈ TB := tbM (i := 407) (by decide +kernel) rfl
theorem q358 : (Cond.selects "HedgehogLots$Slope" ({ cls := "HedgehogLots$Slope", name := "empty", desc := "()V" } : MethodName) ({ cls := "HedgehogLots$Slope", name := "empty", desc := "()V" } : MethodName)) ∈ TB := tbM (i := 408) (by decide +kernel) rfl
theorem q359 : (Cond.code ({ cls := "HedgehogLots$Slope", name := "empty", desc := "()V" } : MethodName) prog_9_method_11_code (1 : Nat) (Option.none : Option FieldType)) ∈ TB := tbM (i := 409) (by decide +kernel) rfl
theorem q360 : (Cond.methodLink "HedgehogLots$Reader" (44 : Nat) ({ cls := "HedgehogLots$Reader", name := "advance", desc := "()V" } : MethodName)) ∈ TB := tbM (i := 410) (by decide +kernel) rfl
theorem q362 : (Cond.instanceMethod ({ cls := "HedgehogLots$Reader", name := "advance", desc := "()V" } : MethodName)) ∈ TB := tbM (i := 412) (by decide +kernel) rfl
theorem q363 : (Cond.code ({ cls := "HedgehogLots$Reader", name := "advance", desc := "()V" } : MethodName) prog_6_method_4_code (2 : Nat) (Option.none : Option FieldType)) ∈ TB := tbM (i := 413) (by decide +kernel) rfl
theorem q364 : (Cond.methodLink "HedgehogLots$Reader" (65 : Nat) ({ cls := "HedgehogLots$Tape", name := "endOfRun", desc := "(III)I" } : MethodName)) ∈ TB := tbM (i := 414) (by decide +kernel) rfl
theorem q365 : (Cond.instanceMethod ({ cls := "HedgehogLots$Tape", name := "endOfRun", desc := "(III)I" } : MethodName)) ∈ TB := tbM (i := 415) (by decide +kernel) rfl
theorem q366 : (Cond.selects "HedgehogLots$Tape" ({ cls := "HedgehogLots$Tape", name := "endOfRun", desc := "(III)I" } : MethodName) ({ cls := "HedgehogLots$Tape", name := "endOfRun", desc := "(III)I" } : MethodName)) ∈ TB := tbM (i := 416) (by decide +kernel) rfl
theorem q367 : (Cond.code ({ cls := "HedgehogLots$Tape", name := "endOfRun", desc := "(III)I" } : MethodName) prog_10_method_4_code (5 : Nat) (Option.some FieldType.int)) ∈ TB := tbM (i := 417) (by decide +kernel) rfl
theorem q368 : (Cond.methodLink "HedgehogLots$Tape" (19 : Nat) ({ cls := "java/lang/Math", name := "max", desc := "(II)I" } : MethodName)) ∈ TB := tbM (i := 418) (by decide +kernel) rfl
theorem q369 : (Cond.static ({ cls := "java/lang/Math", name := "max", desc := "(II)I" } : MethodName)) ∈ TB := tbM (i := 419) (by decide +kernel) rfl
theorem q370 : (Cond.code ({ cls := "java/lang/Math", name := "max", desc := "(II)I" } : MethodName) prog_14_method_65_code (2 : Nat) (Option.some FieldType.int)) ∈ TB := tbM (i := 420) (by decide +kernel) rfl
theorem q371 : (Cond.methodLink "HedgehogLots$Reader" (71 : Nat) ({ cls := "HedgehogLots$Tape", name := "byteAt", desc := "(I)I" } : MethodName)) ∈ TB := tbM (i := 421) (by decide +kernel) rfl
theorem q372 : (Cond.instanceMethod ({ cls := "HedgehogLots$Tape", name := "byteAt", desc := "(I)I" } : MethodName)) ∈ TB := tbM (i := 422) (by decide +kernel) rfl
theorem q373 : (Cond.selects "HedgehogLots$Tape" ({ cls := "HedgehogLots$Tape", name := "byteAt", desc := "(I)I" } : MethodName) ({ cls := "HedgehogLots$Tape", name := "byteAt", desc := "(I)I" } : MethodName)) ∈ TB := tbM (i := 423) (by decide +kernel) rfl
theorem q374 : (Cond.code ({ cls := "HedgehogLots$Tape", name := "byteAt", desc := "(I)I" } : MethodName) prog_10_method_3_code (2 : Nat) (Option.some FieldType.int)) ∈ TB := tbM (i := 424) (by decide +kernel) rfl
theorem q375 : (Cond.methodLink "HedgehogLots$Reader" (78 : Nat) ({ cls := "HedgehogLots$Reader", name := "valueNumber", desc := "()V" } : MethodName)) ∈ TB := tbM (i := 425) (by decide +kernel) rfl
theorem q377 : (Cond.instanceMethod ({ cls := "HedgehogLots$Reader", name := "valueNumber", desc := "()V" } : MethodName)) ∈ TB := tbM (i := 427) (by decide +kernel) rfl
theorem q378 : (Cond.code ({ cls := "HedgehogLots$Reader", name := "valueNumber", desc := "()V" } : MethodName) prog_6_method_5_code (3 : Nat) (Option.none : Option FieldType)) ∈ TB := tbM (i := 428) (by decide +kernel) rfl
theorem q379 : (Cond.methodLink "HedgehogLots$Reader" (61 : Nat) ({ cls := "HedgehogLots$Reader", name := "fail", desc := "(I)V" } : MethodName)) ∈ TB := tbM (i := 429) (by decide +kernel) rfl
theorem q381 : (Cond.instanceMethod ({ cls := "HedgehogLots$Reader", name := "fail", desc := "(I)V" } : MethodName)) ∈ TB := tbM (i := 431) (by decide +kernel) rfl
theorem q382 : (Cond.code ({ cls := "HedgehogLots$Reader", name := "fail", desc := "(I)V" } : MethodName) prog_6_method_3_code (2 : Nat) (Option.none : Option FieldType)) ∈ TB := tbM (i := 432) (by decide +kernel) rfl
theorem q383 : (Cond.methodLink "HedgehogLots$Reader" (47 : Nat) ({ cls := "HedgehogLots$Reader", name := "readLine", desc := "()V" } : MethodName)) ∈ TB := tbM (i := 433) (by decide +kernel) rfl
theorem q385 : (Cond.instanceMethod ({ cls := "HedgehogLots$Reader", name := "readLine", desc := "()V" } : MethodName)) ∈ TB := tbM (i := 435) (by decide +kernel) rfl
theorem q386 : (Cond.code ({ cls := "HedgehogLots$Reader", name := "readLine", desc := "()V" } : MethodName) prog_6_method_7_code (1 : Nat) (Option.none : Option FieldType)) ∈ TB := tbM (i := 436) (by decide +kernel) rfl
theorem q388 : (Cond.methodLink "HedgehogLots$Reader" (92 : Nat) ({ cls := "HedgehogLots$Reader", name := "isNamed", desc := "(Ljava/lang/String;)Z" } : MethodName)) ∈ TB := tbM (i := 438) (by decide +kernel) rfl
theorem q390 : (Cond.instanceMethod ({ cls := "HedgehogLots$Reader", name := "isNamed", desc := "(Ljava/lang/String;)Z" } : MethodName)) ∈ TB := tbM (i := 440) (by decide +kernel) rfl
theorem q391 : (Cond.code ({ cls := "HedgehogLots$Reader", name := "isNamed", desc := "(Ljava/lang/String;)Z" } : MethodName) prog_6_method_6_code (3 : Nat) (Option.some FieldType.boolean)) ∈ TB := tbM (i := 441) (by decide +kernel) rfl
theorem q392 : (Cond.methodLink "HedgehogLots$Reader" (81 : Nat) ({ cls := "java/lang/String", name := "length", desc := "()I" } : MethodName)) ∈ TB := tbM (i := 442) (by decide +kernel) rfl
theorem q393 : (Cond.instanceMethod ({ cls := "java/lang/String", name := "length", desc := "()I" } : MethodName)) ∈ TB := tbM (i := 443) (by decide +kernel) rfl
theorem q394 : (Cond.selects "java/lang/String" ({ cls := "java/lang/String", name := "length", desc := "()I" } : MethodName) ({ cls := "java/lang/String", name := "length", desc := "()I" } : MethodName)) ∈ TB := tbM (i := 444) (by decide +kernel) rfl
theorem q395 : (Cond.code ({ cls := "java/lang/String", name := "length", desc := "()I" } : MethodName) prog_15_method_54_code (1 : Nat) (Option.some FieldType.int)) ∈ TB := tbM (i := 445) (by decide +kernel) rfl
theorem q396 : (Cond.methodLink "java/lang/String" (335 : Nat) ({ cls := "java/lang/String", name := "coder", desc := "()B" } : MethodName)) ∈ TB := tbM (i := 446) (by decide +kernel) rfl
theorem q397 : (Cond.instanceMethod ({ cls := "java/lang/String", name := "coder", desc := "()B" } : MethodName)) ∈ TB := tbM (i := 447) (by decide +kernel) rfl
theorem q398 : (Cond.selects "java/lang/String" ({ cls := "java/lang/String", name := "coder", desc := "()B" } : MethodName) ({ cls := "java/lang/String", name := "coder", desc := "()B" } : MethodName)) ∈ TB := tbM (i := 448) (by decide +kernel) rfl
theorem q399 : (Cond.code ({ cls := "java/lang/String", name := "coder", desc := "()B" } : MethodName) prog_15_method_152_code (1 : Nat) (Option.some FieldType.byte)) ∈ TB := tbM (i := 449) (by decide +kernel) rfl
theorem q400 : (Cond.fieldLink "java/lang/String" (38 : Nat) "java/lang/String" "COMPACT_STRINGS" "Z") ∈ TB := tbM (i := 450) (by decide +kernel) rfl
theorem q402 : (Cond.methodLink "HedgehogLots$Reader" (86 : Nat) ({ cls := "java/lang/String", name := "charAt", desc := "(I)C" } : MethodName)) ∈ TB := tbM (i := 452) (by decide +kernel) rfl
theorem q403 : (Cond.instanceMethod ({ cls := "java/lang/String", name := "charAt", desc := "(I)C" } : MethodName)) ∈ TB := tbM (i := 453) (by decide +kernel) rfl
theorem q404 : (Cond.selects "java/lang/String" ({ cls := "java/lang/String", name := "charAt", desc := "(I)C" } : MethodName) ({ cls := "java/lang/String", name := "charAt", desc := "(I)C" } : MethodName)) ∈ TB := tbM (i := 454) (by decide +kernel) rfl
theorem q405 : (Cond.code ({ cls := "java/lang/String", name := "charAt", desc := "(I)C" } : MethodName) prog_15_method_56_code (2 : Nat) (Option.some FieldType.char)) ∈ TB := tbM (i := 455) (by decide +kernel) rfl
theorem q406 : (Cond.methodLink "java/lang/String" (492 : Nat) ({ cls := "java/lang/String", name := "isLatin1", desc := "()Z" } : MethodName)) ∈ TB := tbM (i := 456) (by decide +kernel) rfl
theorem q407 : (Cond.instanceMethod ({ cls := "java/lang/String", name := "isLatin1", desc := "()Z" } : MethodName)) ∈ TB := tbM (i := 457) (by decide +kernel) rfl
theorem q408 : (Cond.selects "java/lang/String" ({ cls := "java/lang/String", name := "isLatin1", desc := "()Z" } : MethodName) ({ cls := "java/lang/String", name := "isLatin1", desc := "()Z" } : MethodName)) ∈ TB := tbM (i := 458) (by decide +kernel) rfl
theorem q409 : (Cond.code ({ cls := "java/lang/String", name := "isLatin1", desc := "()Z" } : MethodName) prog_15_method_154_code (1 : Nat) (Option.some FieldType.boolean)) ∈ TB := tbM (i := 459) (by decide +kernel) rfl
theorem q410 : (Cond.methodLink "java/lang/String" (495 : Nat) ({ cls := "java/lang/StringLatin1", name := "charAt", desc := "([BI)C" } : MethodName)) ∈ TB := tbM (i := 460) (by decide +kernel) rfl
theorem q411 : (Cond.static ({ cls := "java/lang/StringLatin1", name := "charAt", desc := "([BI)C" } : MethodName)) ∈ TB := tbM (i := 461) (by decide +kernel) rfl
theorem q412 : (Cond.code ({ cls := "java/lang/StringLatin1", name := "charAt", desc := "([BI)C" } : MethodName) prog_16_method_2_code (2 : Nat) (Option.some FieldType.char)) ∈ TB := tbM (i := 462) (by decide +kernel) rfl
theorem q413 : (Cond.methodLink "java/lang/StringLatin1" (9 : Nat) ({ cls := "java/lang/String", name := "checkIndex", desc := "(II)V" } : MethodName)) ∈ TB := tbM (i := 463) (by decide +kernel) rfl
theorem q414 : (Cond.static ({ cls := "java/lang/String", name := "checkIndex", desc := "(II)V" } : MethodName)) ∈ TB := tbM (i := 464) (by decide +kernel) rfl
theorem q415 : (Cond.code ({ cls := "java/lang/String", name := "checkIndex", desc := "(II)V" } : MethodName) prog_15_method_155_code (2 : Nat) (Option.none : Option FieldType)) ∈ TB := tbM (i := 465) (by decide +kernel) rfl
theorem q416 : (Cond.fieldLink "java/lang/String" (1053 : Nat) "jdk/internal/util/Preconditions" "SIOOBE_FORMATTER" "Ljava/util/function/BiFunction;") ∈ TB := tbM (i := 466) (by decide +kernel) rfl
theorem q418 : (Cond.methodLink "java/lang/String" (1059 : Nat) ({ cls := "jdk/internal/util/Preconditions", name := "checkIndex", desc := "(IILjava/util/function/BiFunction;)I" } : MethodName)) ∈ TB := tbM (i := 468) (by decide +kernel) rfl
theorem q419 : (Cond.static ({ cls := "jdk/internal/util/Preconditions", name := "checkIndex", desc := "(IILjava/util/function/BiFunction;)I" } : MethodName)) ∈ TB := tbM (i := 469) (by decide +kernel) rfl
theorem q420 : (Cond.code ({ cls := "jdk/internal/util/Preconditions", name := "checkIndex", desc := "(IILjava/util/function/BiFunction;)I" } : MethodName) prog_20_method_11_code (3 : Nat) (Option.some FieldType.int)) ∈ TB := tbM (i := 470) (by decide +kernel) rfl
theorem q421 : (Cond.methodLink "java/lang/String" (498 : Nat) ({ cls := "java/lang/StringUTF16", name := "charAt", desc := "([BI)C" } : MethodName)) ∈ TB := tbM (i := 471) (by decide +kernel) rfl
theorem q422 : (Cond.static ({ cls := "java/lang/StringUTF16", name := "charAt", desc := "([BI)C" } : MethodName)) ∈ TB := tbM (i := 472) (by decide +kernel) rfl
theorem q423 : (Cond.code ({ cls := "java/lang/StringUTF16", name := "charAt", desc := "([BI)C" } : MethodName) prog_17_method_83_code (2 : Nat) (Option.some FieldType.char)) ∈ TB := tbM (i := 473) (by decide +kernel) rfl
theorem q424 : (Cond.methodLink "java/lang/StringUTF16" (67 : Nat) ({ cls := "java/lang/StringUTF16", name := "checkIndex", desc := "(I[B)V" } : MethodName)) ∈ TB := tbM (i := 474) (by decide +kernel) rfl
theorem q425 : (Cond.static ({ cls := "java/lang/StringUTF16", name := "checkIndex", desc := "(I[B)V" } : MethodName)) ∈ TB := tbM (i := 475) (by decide +kernel) rfl
theorem q426 : (Cond.code ({ cls := "java/lang/StringUTF16", name := "checkIndex", desc := "(I[B)V" } : MethodName) prog_17_method_91_code (2 : Nat) (Option.none : Option FieldType)) ∈ TB := tbM (i := 476) (by decide +kernel) rfl
theorem q427 : (Cond.methodLink "java/lang/StringUTF16" (48 : Nat) ({ cls := "java/lang/StringUTF16", name := "length", desc := "([B)I" } : MethodName)) ∈ TB := tbM (i := 477) (by decide +kernel) rfl
theorem q428 : (Cond.static ({ cls := "java/lang/StringUTF16", name := "length", desc := "([B)I" } : MethodName)) ∈ TB := tbM (i := 478) (by decide +kernel) rfl
theorem q429 : (Cond.code ({ cls := "java/lang/StringUTF16", name := "length", desc := "([B)I" } : MethodName) prog_17_method_6_code (1 : Nat) (Option.some FieldType.int)) ∈ TB := tbM (i := 479) (by decide +kernel) rfl
theorem q430 : (Cond.methodLink "java/lang/StringUTF16" (414 : Nat) ({ cls := "java/lang/String", name := "checkIndex", desc := "(II)V" } : MethodName)) ∈ TB := tbM (i := 480) (by decide +kernel) rfl
theorem q431 : (Cond.methodLink "java/lang/StringUTF16" (71 : Nat) ({ cls := "java/lang/StringUTF16", name := "getChar", desc := "([BI)C" } : MethodName)) ∈ TB := tbM (i := 481) (by decide +kernel) rfl
theorem q432 : (Cond.static ({ cls := "java/lang/StringUTF16", name := "getChar", desc := "([BI)C" } : MethodName)) ∈ TB := tbM (i := 482) (by decide +kernel) rfl
theorem q433 : (Cond.code ({ cls := "java/lang/StringUTF16", name := "getChar", desc := "([BI)C" } : MethodName) prog_17_method_5_code (2 : Nat) (Option.some FieldType.char)) ∈ TB := tbM (i := 483) (by decide +kernel) rfl
theorem q434 : (Cond.fieldLink "java/lang/StringUTF16" (44 : Nat) "java/lang/StringUTF16" "$assertionsDisabled" "Z") ∈ TB := tbM (i := 484) (by decide +kernel) rfl
theorem q436 : (Cond.fieldLink "java/lang/StringUTF16" (59 : Nat) "java/lang/StringUTF16" "HI_BYTE_SHIFT" "I") ∈ TB := tbM (i := 486) (by decide +kernel) rfl
theorem q438 : (Cond.fieldLink "java/lang/StringUTF16" (63 : Nat) "java/lang/StringUTF16" "LO_BYTE_SHIFT" "I") ∈ TB := tbM (i := 488) (by decide +kernel) rfl
theorem q440 : (Cond.methodLink "HedgehogLots$Reader" (96 : Nat) ({ cls := "HedgehogLots$Reader", name := "readPeg", desc := "()V" } : MethodName)) ∈ TB := tbM (i := 490) (by decide +kernel) rfl
theorem q442 : (Cond.instanceMethod ({ cls := "HedgehogLots$Reader", name := "readPeg", desc := "()V" } : MethodName)) ∈ TB := tbM (i := 492) (by decide +kernel) rfl
theorem q443 : (Cond.code ({ cls := "HedgehogLots$Reader", name := "readPeg", desc := "()V" } : MethodName) prog_6_method_8_code (3 : Nat) (Option.none : Option FieldType)) ∈ TB := tbM (i := 493) (by decide +kernel) rfl
theorem q444 : (Cond.methodLink "HedgehogLots$Reader" (123 : Nat) ({ cls := "HedgehogLots$Reader", name := "takeNumber", desc := "(II)I" } : MethodName)) ∈ TB := tbM (i := 494) (by decide +kernel) rfl
theorem q446 : (Cond.instanceMethod ({ cls := "HedgehogLots$Reader", name := "takeNumber", desc := "(II)I" } : MethodName)) ∈ TB := tbM (i := 496) (by decide +kernel) rfl
theorem q447 : (Cond.code ({ cls := "HedgehogLots$Reader", name := "takeNumber", desc := "(II)I" } : MethodName) prog_6_method_12_code (3 : Nat) (Option.some FieldType.int)) ∈ TB := tbM (i := 497) (by decide +kernel) rfl
theorem q448 : (Cond.methodLink "HedgehogLots$Reader" (127 : Nat) ({ cls := "HedgehogLots$Reader", name := "mustBeFree", desc := "(I)V" } : MethodName)) ∈ TB := tbM (i := 498) (by decide +kernel) rfl
theorem q450 : (Cond.instanceMethod ({ cls := "HedgehogLots$Reader", name := "mustBeFree", desc := "(I)V" } : MethodName)) ∈ TB := tbM (i := 500) (by decide +kernel) rfl
theorem q451 : (Cond.code ({ cls := "HedgehogLots$Reader", name := "mustBeFree", desc := "(I)V" } : MethodName) prog_6_method_13_code (2 : Nat) (Option.none : Option FieldType)) ∈ TB := tbM (i := 501) (by decide +kernel) rfl
theorem q452 : (Cond.methodLink "HedgehogLots$Reader" (151 : Nat) ({ cls := "HedgehogLots$Slope", name := "isCell", desc := "(I)Z" } : MethodName)) ∈ TB := tbM (i := 502) (by decide +kernel) rfl
theorem q453 : (Cond.static ({ cls := "HedgehogLots$Slope", name := "isCell", desc := "(I)Z" } : MethodName)) ∈ TB := tbM (i := 503) (by decide +kernel) rfl
theorem q454 : (Cond.code ({ cls := "HedgehogLots$Slope", name := "isCell", desc := "(I)Z" } : MethodName) prog_9_method_3_code (1 : Nat) (Option.some FieldType.boolean)) ∈ TB := tbM (i := 504) (by decide +kernel) rfl
theorem q455 : (Cond.methodLink "HedgehogLots$Reader" (154 : Nat) ({ cls := "HedgehogLots$Slope", name := "isFree", desc := "(I)Z" } : MethodName)) ∈ TB := tbM (i := 505) (by decide +kernel) rfl
theorem q456 : (Cond.instanceMethod ({ cls := "HedgehogLots$Slope", name := "isFree", desc := "(I)Z" } : MethodName)) ∈ TB := tbM (i := 506) (by decide +kernel) rfl
theorem q457 : (Cond.selects "HedgehogLots$Slope" ({ cls := "HedgehogLots$Slope", name := "isFree", desc := "(I)Z" } : MethodName) ({ cls := "HedgehogLots$Slope", name := "isFree", desc := "(I)Z" } : MethodName)) ∈ TB := tbM (i := 507) (by decide +kernel) rfl
theorem q458 : (Cond.code ({ cls := "HedgehogLots$Slope", name := "isFree", desc := "(I)Z" } : MethodName) prog_9_method_10_code (2 : Nat) (Option.some FieldType.boolean)) ∈ TB := tbM (i := 508) (by decide +kernel) rfl
theorem q459 : (Cond.methodLink "HedgehogLots$Slope" (55 : Nat) ({ cls := "HedgehogLots$Slope", name := "isCell", desc := "(I)Z" } : MethodName)) ∈ TB := tbM (i := 509) (by decide +kernel) rfl
theorem q460 : (Cond.methodLink "HedgehogLots$Reader" (130 : Nat) ({ cls := "HedgehogLots$Reader", name := "takeSemicolon", desc := "()V" } : MethodName)) ∈ TB := tbM (i := 510) (by decide +kernel) rfl
theorem q462 : (Cond.instanceMethod ({ cls := "HedgehogLots$Reader", name := "takeSemicolon", desc := "()V" } : MethodName)) ∈ TB := tbM (i := 512) (by decide +kernel) rfl
theorem q463 : (Cond.code ({ cls := "HedgehogLots$Reader", name := "takeSemicolon", desc := "()V" } : MethodName) prog_6_method_14_code (1 : Nat) (Option.none : Option FieldType)) ∈ TB := tbM (i := 513) (by decide +kernel) rfl
theorem q464 : (Cond.methodLink "HedgehogLots$Reader" (133 : Nat) ({ cls := "HedgehogLots$Slope", name := "addPeg", desc := "(II)I" } : MethodName)) ∈ TB := tbM (i := 514) (by decide +kernel) rfl
theorem q465 : (Cond.instanceMethod ({ cls := "HedgehogLots$Slope", name := "addPeg", desc := "(II)I" } : MethodName)) ∈ TB := tbM (i := 515) (by decide +kernel) rfl
theorem q466 : (Cond.selects "HedgehogLots$Slope" ({ cls := "HedgehogLots$Slope", name := "addPeg", desc := "(II)I" } : MethodName) ({ cls := "HedgehogLots$Slope", name := "addPeg", desc := "(II)I" } : MethodName)) ∈ TB := tbM (i := 516) (by decide +kernel) rfl
theorem q467 : (Cond.code ({ cls := "HedgehogLots$Slope", name := "addPeg", desc := "(II)I" } : MethodName) prog_9_method_13_code (3 : Nat) (Option.some FieldType.int)) ∈ TB := tbM (i := 517) (by decide +kernel) rfl
theorem q469 : (Cond.static ({ cls := "HedgehogLots", name := "isRag", desc := "(I)Z" } : MethodName)) ∈ TB := tbM (i := 519) (by decide +kernel) rfl
theorem q470 : (Cond.code ({ cls := "HedgehogLots", name := "isRag", desc := "(I)Z" } : MethodName) prog_1_method_49_code (1 : Nat) (Option.some FieldType.boolean)) ∈ TB := tbM (i := 520) (by decide +kernel) rfl
theorem q471 : (Cond.methodLink "HedgehogLots$Slope" (68 : Nat) ({ cls := "HedgehogLots$Slope", name := "isFree", desc := "(I)Z" } : MethodName)) ∈ TB := tbM (i := 521) (by decide +kernel) rfl
theorem q472 : (Cond.methodLink "HedgehogLots$Slope" (71 : Nat) ({ cls := "HedgehogLots$Slope", name := "stand", desc := "(II)V" } : MethodName)) ∈ TB := tbM (i := 522) (by decide +kernel) rfl
theorem q474 : (Cond.instanceMethod ({ cls := "HedgehogLots$Slope", name := "stand", desc := "(II)V" } : MethodName)) ∈ TB := tbM (i := 524) (by decide +kernel) rfl
theorem q475 : (Cond.code ({ cls := "HedgehogLots$Slope", name := "stand", desc := "(II)V" } : MethodName) prog_9_method_9_code (3 : Nat) (Option.none : Option FieldType)) ∈ TB := tbM (i := 525) (by decide +kernel) rfl
theorem q477 : (Cond.methodLink "HedgehogLots$Reader" (101 : Nat) ({ cls := "HedgehogLots$Reader", name := "readSlug", desc := "()V" } : MethodName)) ∈ TB := tbM (i := 527) (by decide +kernel) rfl
theorem q479 : (Cond.instanceMethod ({ cls := "HedgehogLots$Reader", name := "readSlug", desc := "()V" } : MethodName)) ∈ TB := tbM (i := 529) (by decide +kernel) rfl
theorem q480 : (Cond.code ({ cls := "HedgehogLots$Reader", name := "readSlug", desc := "()V" } : MethodName) prog_6_method_9_code (2 : Nat) (Option.none : Option FieldType)) ∈ TB := tbM (i := 530) (by decide +kernel) rfl
theorem q481 : (Cond.methodLink "HedgehogLots$Reader" (139 : Nat) ({ cls := "HedgehogLots$Slope", name := "addSlug", desc := "(I)I" } : MethodName)) ∈ TB := tbM (i := 531) (by decide +kernel) rfl
theorem q482 : (Cond.instanceMethod ({ cls := "HedgehogLots$Slope", name := "addSlug", desc := "(I)I" } : MethodName)) ∈ TB := tbM (i := 532) (by decide +kernel) rfl
theorem q483 : (Cond.selects "HedgehogLots$Slope" ({ cls := "HedgehogLots$Slope", name := "addSlug", desc := "(I)I" } : MethodName) ({ cls := "HedgehogLots$Slope", name := "addSlug", desc := "(I)I" } : MethodName)) ∈ TB := tbM (i := 533) (by decide +kernel) rfl
theorem q484 : (Cond.code ({ cls := "HedgehogLots$Slope", name := "addSlug", desc := "(I)I" } : MethodName) prog_9_method_18_code (2 : Nat) (Option.some FieldType.int)) ∈ TB := tbM (i := 534) (by decide +kernel) rfl
theorem q486 : (Cond.methodLink "HedgehogLots$Reader" (106 : Nat) ({ cls := "HedgehogLots$Reader", name := "readSuit", desc := "()V" } : MethodName)) ∈ TB := tbM (i := 536) (by decide +kernel) rfl
theorem q488 : (Cond.instanceMethod ({ cls := "HedgehogLots$Reader", name := "readSuit", desc := "()V" } : MethodName)) ∈ TB := tbM (i := 538) (by decide +kernel) rfl
theorem q489 : (Cond.code ({ cls := "HedgehogLots$Reader", name := "readSuit", desc := "()V" } : MethodName) prog_6_method_11_code (3 : Nat) (Option.none : Option FieldType)) ∈ TB := tbM (i := 539) (by decide +kernel) rfl
theorem q490 : (Cond.methodLink "HedgehogLots$Reader" (148 : Nat) ({ cls := "HedgehogLots$Slope", name := "addSuit", desc := "(II)I" } : MethodName)) ∈ TB := tbM (i := 540) (by decide +kernel) rfl
theorem q491 : (Cond.instanceMethod ({ cls := "HedgehogLots$Slope", name := "addSuit", desc := "(II)I" } : MethodName)) ∈ TB := tbM (i := 541) (by decide +kernel) rfl
theorem q492 : (Cond.selects "HedgehogLots$Slope" ({ cls := "HedgehogLots$Slope", name := "addSuit", desc := "(II)I" } : MethodName) ({ cls := "HedgehogLots$Slope", name := "addSuit", desc := "(II)I" } : MethodName)) ∈ TB := tbM (i := 542) (by decide +kernel) rfl
theorem q493 : (Cond.code ({ cls := "HedgehogLots$Slope", name := "addSuit", desc := "(II)I" } : MethodName) prog_9_method_22_code (3 : Nat) (Option.some FieldType.int)) ∈ TB := tbM (i := 543) (by decide +kernel) rfl
theorem q495 : (Cond.methodLink "HedgehogLots$Reader" (111 : Nat) ({ cls := "HedgehogLots$Reader", name := "readHedgehog", desc := "(I)V" } : MethodName)) ∈ TB := tbM (i := 545) (by decide +kernel) rfl
theorem q497 : (Cond.instanceMethod ({ cls := "HedgehogLots$Reader", name := "readHedgehog", desc := "(I)V" } : MethodName)) ∈ TB := tbM (i := 547) (by decide +kernel) rfl
theorem q498 : (Cond.code ({ cls := "HedgehogLots$Reader", name := "readHedgehog", desc := "(I)V" } : MethodName) prog_6_method_10_code (3 : Nat) (Option.none : Option FieldType)) ∈ TB := tbM (i := 548) (by decide +kernel) rfl
theorem q499 : (Cond.methodLink "HedgehogLots$Reader" (145 : Nat) ({ cls := "HedgehogLots$Slope", name := "addHedgehog", desc := "(II)I" } : MethodName)) ∈ TB := tbM (i := 549) (by decide +kernel) rfl
theorem q500 : (Cond.instanceMethod ({ cls := "HedgehogLots$Slope", name := "addHedgehog", desc := "(II)I" } : MethodName)) ∈ TB := tbM (i := 550) (by decide +kernel) rfl
theorem q501 : (Cond.selects "HedgehogLots$Slope" ({ cls := "HedgehogLots$Slope", name := "addHedgehog", desc := "(II)I" } : MethodName) ({ cls := "HedgehogLots$Slope", name := "addHedgehog", desc := "(II)I" } : MethodName)) ∈ TB := tbM (i := 551) (by decide +kernel) rfl
theorem q502 : (Cond.code ({ cls := "HedgehogLots$Slope", name := "addHedgehog", desc := "(II)I" } : MethodName) prog_9_method_20_code (3 : Nat) (Option.some FieldType.int)) ∈ TB := tbM (i := 552) (by decide +kernel) rfl
theorem q506 : (Cond.methodLink "HedgehogLots$Reader" (57 : Nat) ({ cls := "HedgehogLots$Slope", name := "isHedgehog", desc := "(I)Z" } : MethodName)) ∈ TB := tbM (i := 556) (by decide +kernel) rfl
theorem q507 : (Cond.instanceMethod ({ cls := "HedgehogLots$Slope", name := "isHedgehog", desc := "(I)Z" } : MethodName)) ∈ TB := tbM (i := 557) (by decide +kernel) rfl
theorem q508 : (Cond.selects "HedgehogLots$Slope" ({ cls := "HedgehogLots$Slope", name := "isHedgehog", desc := "(I)Z" } : MethodName) ({ cls := "HedgehogLots$Slope", name := "isHedgehog", desc := "(I)Z" } : MethodName)) ∈ TB := tbM (i := 558) (by decide +kernel) rfl
theorem q509 : (Cond.code ({ cls := "HedgehogLots$Slope", name := "isHedgehog", desc := "(I)Z" } : MethodName) prog_9_method_6_code (2 : Nat) (Option.some FieldType.boolean)) ∈ TB := tbM (i := 559) (by decide +kernel) rfl
theorem q510 : (Cond.methodLink "HedgehogLots" (109 : Nat) ({ cls := "HedgehogLots$Slope", name := "copyFrom", desc := "(LHedgehogLots$Slope;)V" } : MethodName)) ∈ TB := tbM (i := 560) (by decide +kernel) rfl
theorem q511 : (Cond.instanceMethod ({ cls := "HedgehogLots$Slope", name := "copyFrom", desc := "(LHedgehogLots$Slope;)V" } : MethodName)) ∈ TB := tbM (i := 561) (by decide +kernel) rfl
theorem q512 : (Cond.selects "HedgehogLots$Slope" ({ cls := "HedgehogLots$Slope", name := "copyFrom", desc := "(LHedgehogLots$Slope;)V" } : MethodName) ({ cls := "HedgehogLots$Slope", name := "copyFrom", desc := "(LHedgehogLots$Slope;)V" } : MethodName)) ∈ TB := tbM (i := 562) (by decide +kernel) rfl
theorem q513 : (Cond.code ({ cls := "HedgehogLots$Slope", name := "copyFrom", desc := "(LHedgehogLots$Slope;)V" } : MethodName) prog_9_method_12_code (2 : Nat) (Option.none : Option FieldType)) ∈ TB := tbM (i := 563) (by decide +kernel) rfl
theorem q514 : (Cond.methodLink "HedgehogLots$Slope" (59 : Nat) ({ cls := "java/lang/System", name := "arraycopy", desc := "(Ljava/lang/Object;ILjava/lang/Object;II)V" } : MethodName)) ∈ TB := tbM (i := 564) (by decide +kernel) rfl
theorem q515 : (Cond.static ({ cls := "java/lang/System", name := "arraycopy", desc := "(Ljava/lang/Object;ILjava/lang/Object;II)V" } : MethodName)) ∈ TB := tbM (i := 565) (by decide +kernel) rfl
theorem q516 : (Cond.native ({ cls := "java/lang/System", name := "arraycopy", desc := "(Ljava/lang/Object;ILjava/lang/Object;II)V" } : MethodName)) ∈ TB := tbM (i := 566) (by decide +kernel) rfl
theorem q517 : (Cond.arrayClass FieldType.byte) ∈ TB := tbM (i := 567) (by decide +kernel) rfl
theorem q518 : (Cond.methodLink "HedgehogLotsLaw" (27 : Nat) ({ cls := "HedgehogLots", name := "fault", desc := "()I" } : MethodName)) ∈ TB := tbM (i := 568) (by decide +kernel) rfl
theorem q519 : (Cond.instanceMethod ({ cls := "HedgehogLots", name := "fault", desc := "()I" } : MethodName)) ∈ TB := tbM (i := 569) (by decide +kernel) rfl
theorem q520 : (Cond.selects "HedgehogLots" ({ cls := "HedgehogLots", name := "fault", desc := "()I" } : MethodName) ({ cls := "HedgehogLots", name := "fault", desc := "()I" } : MethodName)) ∈ TB := tbM (i := 570) (by decide +kernel) rfl
theorem q521 : (Cond.code ({ cls := "HedgehogLots", name := "fault", desc := "()I" } : MethodName) prog_1_method_5_code (1 : Nat) (Option.some FieldType.int)) ∈ TB := tbM (i := 571) (by decide +kernel) rfl
theorem q522 : (Cond.methodLink "HedgehogLotsLaw" (31 : Nat) ({ cls := "HedgehogLots", name := "rule", desc := "(I)I" } : MethodName)) ∈ TB := tbM (i := 572) (by decide +kernel) rfl
theorem q523 : (Cond.instanceMethod ({ cls := "HedgehogLots", name := "rule", desc := "(I)I" } : MethodName)) ∈ TB := tbM (i := 573) (by decide +kernel) rfl
theorem q524 : (Cond.selects "HedgehogLots" ({ cls := "HedgehogLots", name := "rule", desc := "(I)I" } : MethodName) ({ cls := "HedgehogLots", name := "rule", desc := "(I)I" } : MethodName)) ∈ TB := tbM (i := 574) (by decide +kernel) rfl
theorem q525 : (Cond.code ({ cls := "HedgehogLots", name := "rule", desc := "(I)I" } : MethodName) prog_1_method_6_code (2 : Nat) (Option.some FieldType.int)) ∈ TB := tbM (i := 575) (by decide +kernel) rfl
theorem q526 : (Cond.methodLink "HedgehogLots" (127 : Nat) ({ cls := "HedgehogLots$Court", name := "decided", desc := "()I" } : MethodName)) ∈ TB := tbM (i := 576) (by decide +kernel) rfl
theorem q527 : (Cond.instanceMethod ({ cls := "HedgehogLots$Court", name := "decided", desc := "()I" } : MethodName)) ∈ TB := tbM (i := 577) (by decide +kernel) rfl
theorem q528 : (Cond.selects "HedgehogLots$Court" ({ cls := "HedgehogLots$Court", name := "decided", desc := "()I" } : MethodName) ({ cls := "HedgehogLots$Court", name := "decided", desc := "()I" } : MethodName)) ∈ TB := tbM (i := 578) (by decide +kernel) rfl
theorem q529 : (Cond.code ({ cls := "HedgehogLots$Court", name := "decided", desc := "()I" } : MethodName) prog_4_method_5_code (3 : Nat) (Option.some FieldType.int)) ∈ TB := tbM (i := 579) (by decide +kernel) rfl
theorem q530 : (Cond.methodLink "HedgehogLots$Court" (55 : Nat) ({ cls := "HedgehogLots$Court", name := "letGoInSuit", desc := "(I)LHedgehogLots$Course;" } : MethodName)) ∈ TB := tbM (i := 580) (by decide +kernel) rfl
theorem q531 : (Cond.instanceMethod ({ cls := "HedgehogLots$Court", name := "letGoInSuit", desc := "(I)LHedgehogLots$Course;" } : MethodName)) ∈ TB := tbM (i := 581) (by decide +kernel) rfl
theorem q532 : (Cond.selects "HedgehogLots$Court" ({ cls := "HedgehogLots$Court", name := "letGoInSuit", desc := "(I)LHedgehogLots$Course;" } : MethodName) ({ cls := "HedgehogLots$Court", name := "letGoInSuit", desc := "(I)LHedgehogLots$Course;" } : MethodName)) ∈ TB := tbM (i := 582) (by decide +kernel) rfl
theorem q533 : (Cond.code ({ cls := "HedgehogLots$Court", name := "letGoInSuit", desc := "(I)LHedgehogLots$Course;" } : MethodName) prog_4_method_4_code (3 : Nat) (Option.some (FieldType.object "HedgehogLots$Course"))) ∈ TB := tbM (i := 583) (by decide +kernel) rfl
theorem q534 : (Cond.methodLink "HedgehogLots$Court" (22 : Nat) ({ cls := "HedgehogLots$Course", name := "startAfresh", desc := "()V" } : MethodName)) ∈ TB := tbM (i := 584) (by decide +kernel) rfl
theorem q535 : (Cond.instanceMethod ({ cls := "HedgehogLots$Course", name := "startAfresh", desc := "()V" } : MethodName)) ∈ TB := tbM (i := 585) (by decide +kernel) rfl
theorem q536 : (Cond.selects "HedgehogLots$Course" ({ cls := "HedgehogLots$Course", name := "startAfresh", desc := "()V" } : MethodName) ({ cls := "HedgehogLots$Course", name := "startAfresh", desc := "()V" } : MethodName)) ∈ TB := tbM (i := 586) (by decide +kernel) rfl
theorem q537 : (Cond.code ({ cls := "HedgehogLots$Course", name := "startAfresh", desc := "()V" } : MethodName) prog_3_method_5_code (1 : Nat) (Option.none : Option FieldType)) ∈ TB := tbM (i := 587) (by decide +kernel) rfl
theorem q538 : (Cond.methodLink "HedgehogLots$Court" (42 : Nat) ({ cls := "HedgehogLots$Slope", name := "isSuit", desc := "(I)Z" } : MethodName)) ∈ TB := tbM (i := 588) (by decide +kernel) rfl
theorem q539 : (Cond.instanceMethod ({ cls := "HedgehogLots$Slope", name := "isSuit", desc := "(I)Z" } : MethodName)) ∈ TB := tbM (i := 589) (by decide +kernel) rfl
theorem q540 : (Cond.selects "HedgehogLots$Slope" ({ cls := "HedgehogLots$Slope", name := "isSuit", desc := "(I)Z" } : MethodName) ({ cls := "HedgehogLots$Slope", name := "isSuit", desc := "(I)Z" } : MethodName)) ∈ TB := tbM (i := 590) (by decide +kernel) rfl
theorem q541 : (Cond.code ({ cls := "HedgehogLots$Slope", name := "isSuit", desc := "(I)Z" } : MethodName) prog_9_method_7_code (2 : Nat) (Option.some FieldType.boolean)) ∈ TB := tbM (i := 591) (by decide +kernel) rfl
theorem q542 : (Cond.methodLink "HedgehogLots$Court" (25 : Nat) ({ cls := "HedgehogLots$Slope", name := "isHedgehog", desc := "(I)Z" } : MethodName)) ∈ TB := tbM (i := 592) (by decide +kernel) rfl
theorem q543 : (Cond.methodLink "HedgehogLots$Court" (38 : Nat) ({ cls := "HedgehogLots$Course", name := "follow", desc := "(LHedgehogLots$Slope;III)V" } : MethodName)) ∈ TB := tbM (i := 593) (by decide +kernel) rfl
theorem q544 : (Cond.instanceMethod ({ cls := "HedgehogLots$Course", name := "follow", desc := "(LHedgehogLots$Slope;III)V" } : MethodName)) ∈ TB := tbM (i := 594) (by decide +kernel) rfl
theorem q545 : (Cond.selects "HedgehogLots$Course" ({ cls := "HedgehogLots$Course", name := "follow", desc := "(LHedgehogLots$Slope;III)V" } : MethodName) ({ cls := "HedgehogLots$Course", name := "follow", desc := "(LHedgehogLots$Slope;III)V" } : MethodName)) ∈ TB := tbM (i := 595) (by decide +kernel) rfl
theorem q546 : (Cond.code ({ cls := "HedgehogLots$Course", name := "follow", desc := "(LHedgehogLots$Slope;III)V" } : MethodName) prog_3_method_6_code (9 : Nat) (Option.none : Option FieldType)) ∈ TB := tbM (i := 596) (by decide +kernel) rfl
theorem q547 : (Cond.methodLink "HedgehogLots$Course" (41 : Nat) ({ cls := "HedgehogLots$Course", name := "startAfresh", desc := "()V" } : MethodName)) ∈ TB := tbM (i := 597) (by decide +kernel) rfl
theorem q548 : (Cond.methodLink "HedgehogLots$Course" (44 : Nat) ({ cls := "HedgehogLots$Slope", name := "standingAt", desc := "(I)I" } : MethodName)) ∈ TB := tbM (i := 598) (by decide +kernel) rfl
theorem q549 : (Cond.instanceMethod ({ cls := "HedgehogLots$Slope", name := "standingAt", desc := "(I)I" } : MethodName)) ∈ TB := tbM (i := 599) (by decide +kernel) rfl
theorem q550 : (Cond.selects "HedgehogLots$Slope" ({ cls := "HedgehogLots$Slope", name := "standingAt", desc := "(I)I" } : MethodName) ({ cls := "HedgehogLots$Slope", name := "standingAt", desc := "(I)I" } : MethodName)) ∈ TB := tbM (i := 600) (by decide +kernel) rfl
theorem q551 : (Cond.code ({ cls := "HedgehogLots$Slope", name := "standingAt", desc := "(I)I" } : MethodName) prog_9_method_8_code (2 : Nat) (Option.some FieldType.int)) ∈ TB := tbM (i := 601) (by decide +kernel) rfl
theorem q552 : (Cond.methodLink "HedgehogLots$Course" (50 : Nat) ({ cls := "HedgehogLots$Slope", name := "isPeg", desc := "(I)Z" } : MethodName)) ∈ TB := tbM (i := 602) (by decide +kernel) rfl
theorem q553 : (Cond.instanceMethod ({ cls := "HedgehogLots$Slope", name := "isPeg", desc := "(I)Z" } : MethodName)) ∈ TB := tbM (i := 603) (by decide +kernel) rfl
theorem q554 : (Cond.selects "HedgehogLots$Slope" ({ cls := "HedgehogLots$Slope", name := "isPeg", desc := "(I)Z" } : MethodName) ({ cls := "HedgehogLots$Slope", name := "isPeg", desc := "(I)Z" } : MethodName)) ∈ TB := tbM (i := 604) (by decide +kernel) rfl
theorem q555 : (Cond.code ({ cls := "HedgehogLots$Slope", name := "isPeg", desc := "(I)Z" } : MethodName) prog_9_method_4_code (2 : Nat) (Option.some FieldType.boolean)) ∈ TB := tbM (i := 605) (by decide +kernel) rfl
theorem q556 : (Cond.methodLink "HedgehogLots$Course" (54 : Nat) ({ cls := "HedgehogLots$Course", name := "loss", desc := "(I)I" } : MethodName)) ∈ TB := tbM (i := 606) (by decide +kernel) rfl
theorem q557 : (Cond.static ({ cls := "HedgehogLots$Course", name := "loss", desc := "(I)I" } : MethodName)) ∈ TB := tbM (i := 607) (by decide +kernel) rfl
theorem q558 : (Cond.code ({ cls := "HedgehogLots$Course", name := "loss", desc := "(I)I" } : MethodName) prog_3_method_2_code (1 : Nat) (Option.some FieldType.int)) ∈ TB := tbM (i := 608) (by decide +kernel) rfl
theorem q559 : (Cond.methodLink "HedgehogLots$Course" (60 : Nat) ({ cls := "HedgehogLots$Course", name := "turn", desc := "(II)I" } : MethodName)) ∈ TB := tbM (i := 609) (by decide +kernel) rfl
theorem q560 : (Cond.static ({ cls := "HedgehogLots$Course", name := "turn", desc := "(II)I" } : MethodName)) ∈ TB := tbM (i := 610) (by decide +kernel) rfl
theorem q561 : (Cond.code ({ cls := "HedgehogLots$Course", name := "turn", desc := "(II)I" } : MethodName) prog_3_method_3_code (3 : Nat) (Option.some FieldType.int)) ∈ TB := tbM (i := 611) (by decide +kernel) rfl
theorem q562 : (Cond.methodLink "HedgehogLots$Course" (63 : Nat) ({ cls := "HedgehogLots$Course", name := "columnBeside", desc := "(II)I" } : MethodName)) ∈ TB := tbM (i := 612) (by decide +kernel) rfl
theorem q563 : (Cond.static ({ cls := "HedgehogLots$Course", name := "columnBeside", desc := "(II)I" } : MethodName)) ∈ TB := tbM (i := 613) (by decide +kernel) rfl
theorem q564 : (Cond.code ({ cls := "HedgehogLots$Course", name := "columnBeside", desc := "(II)I" } : MethodName) prog_3_method_4_code (2 : Nat) (Option.some FieldType.int)) ∈ TB := tbM (i := 614) (by decide +kernel) rfl
theorem q565 : (Cond.methodLink "HedgehogLots$Course" (32 : Nat) ({ cls := "java/lang/Math", name := "min", desc := "(II)I" } : MethodName)) ∈ TB := tbM (i := 615) (by decide +kernel) rfl
theorem q566 : (Cond.static ({ cls := "java/lang/Math", name := "min", desc := "(II)I" } : MethodName)) ∈ TB := tbM (i := 616) (by decide +kernel) rfl
theorem q567 : (Cond.code ({ cls := "java/lang/Math", name := "min", desc := "(II)I" } : MethodName) prog_14_method_69_code (2 : Nat) (Option.some FieldType.int)) ∈ TB := tbM (i := 617) (by decide +kernel) rfl
theorem q568 : (Cond.methodLink "HedgehogLots$Course" (38 : Nat) ({ cls := "java/lang/Math", name := "max", desc := "(II)I" } : MethodName)) ∈ TB := tbM (i := 618) (by decide +kernel) rfl
theorem q569 : (Cond.methodLink "HedgehogLots" (130 : Nat) ({ cls := "HedgehogLots$Court", name := "opened", desc := "()I" } : MethodName)) ∈ TB := tbM (i := 619) (by decide +kernel) rfl
theorem q570 : (Cond.instanceMethod ({ cls := "HedgehogLots$Court", name := "opened", desc := "()I" } : MethodName)) ∈ TB := tbM (i := 620) (by decide +kernel) rfl
theorem q571 : (Cond.selects "HedgehogLots$Court" ({ cls := "HedgehogLots$Court", name := "opened", desc := "()I" } : MethodName) ({ cls := "HedgehogLots$Court", name := "opened", desc := "()I" } : MethodName)) ∈ TB := tbM (i := 621) (by decide +kernel) rfl
theorem q572 : (Cond.code ({ cls := "HedgehogLots$Court", name := "opened", desc := "()I" } : MethodName) prog_4_method_8_code (3 : Nat) (Option.some FieldType.int)) ∈ TB := tbM (i := 622) (by decide +kernel) rfl
theorem q573 : (Cond.methodLink "HedgehogLotsLaw" (35 : Nat) ({ cls := "HedgehogLots", name := "peg", desc := "(II)I" } : MethodName)) ∈ TB := tbM (i := 623) (by decide +kernel) rfl
theorem q574 : (Cond.instanceMethod ({ cls := "HedgehogLots", name := "peg", desc := "(II)I" } : MethodName)) ∈ TB := tbM (i := 624) (by decide +kernel) rfl
theorem q575 : (Cond.selects "HedgehogLots" ({ cls := "HedgehogLots", name := "peg", desc := "(II)I" } : MethodName) ({ cls := "HedgehogLots", name := "peg", desc := "(II)I" } : MethodName)) ∈ TB := tbM (i := 625) (by decide +kernel) rfl
theorem q576 : (Cond.code ({ cls := "HedgehogLots", name := "peg", desc := "(II)I" } : MethodName) prog_1_method_7_code (3 : Nat) (Option.some FieldType.int)) ∈ TB := tbM (i := 626) (by decide +kernel) rfl
theorem q577 : (Cond.methodLink "HedgehogLots" (133 : Nat) ({ cls := "HedgehogLots$Slope", name := "isPeg", desc := "(I)Z" } : MethodName)) ∈ TB := tbM (i := 627) (by decide +kernel) rfl
theorem q578 : (Cond.methodLink "HedgehogLots" (144 : Nat) ({ cls := "HedgehogLots$Court", name := "restedOn", desc := "(I)I" } : MethodName)) ∈ TB := tbM (i := 628) (by decide +kernel) rfl
theorem q579 : (Cond.instanceMethod ({ cls := "HedgehogLots$Court", name := "restedOn", desc := "(I)I" } : MethodName)) ∈ TB := tbM (i := 629) (by decide +kernel) rfl
theorem q580 : (Cond.selects "HedgehogLots$Court" ({ cls := "HedgehogLots$Court", name := "restedOn", desc := "(I)I" } : MethodName) ({ cls := "HedgehogLots$Court", name := "restedOn", desc := "(I)I" } : MethodName)) ∈ TB := tbM (i := 630) (by decide +kernel) rfl
theorem q581 : (Cond.code ({ cls := "HedgehogLots$Court", name := "restedOn", desc := "(I)I" } : MethodName) prog_4_method_9_code (4 : Nat) (Option.some FieldType.int)) ∈ TB := tbM (i := 631) (by decide +kernel) rfl
theorem q582 : (Cond.methodLink "HedgehogLotsLaw" (40 : Nat) ({ cls := "HedgehogLots", name := "slug", desc := "(I)I" } : MethodName)) ∈ TB := tbM (i := 632) (by decide +kernel) rfl
theorem q583 : (Cond.instanceMethod ({ cls := "HedgehogLots", name := "slug", desc := "(I)I" } : MethodName)) ∈ TB := tbM (i := 633) (by decide +kernel) rfl
theorem q584 : (Cond.selects "HedgehogLots" ({ cls := "HedgehogLots", name := "slug", desc := "(I)I" } : MethodName) ({ cls := "HedgehogLots", name := "slug", desc := "(I)I" } : MethodName)) ∈ TB := tbM (i := 634) (by decide +kernel) rfl
theorem q585 : (Cond.code ({ cls := "HedgehogLots", name := "slug", desc := "(I)I" } : MethodName) prog_1_method_8_code (2 : Nat) (Option.some FieldType.int)) ∈ TB := tbM (i := 635) (by decide +kernel) rfl
theorem q586 : (Cond.methodLink "HedgehogLots" (147 : Nat) ({ cls := "HedgehogLots$Slope", name := "isSlug", desc := "(I)Z" } : MethodName)) ∈ TB := tbM (i := 636) (by decide +kernel) rfl
theorem q587 : (Cond.instanceMethod ({ cls := "HedgehogLots$Slope", name := "isSlug", desc := "(I)Z" } : MethodName)) ∈ TB := tbM (i := 637) (by decide +kernel) rfl
theorem q588 : (Cond.selects "HedgehogLots$Slope" ({ cls := "HedgehogLots$Slope", name := "isSlug", desc := "(I)Z" } : MethodName) ({ cls := "HedgehogLots$Slope", name := "isSlug", desc := "(I)Z" } : MethodName)) ∈ TB := tbM (i := 638) (by decide +kernel) rfl
theorem q589 : (Cond.code ({ cls := "HedgehogLots$Slope", name := "isSlug", desc := "(I)Z" } : MethodName) prog_9_method_5_code (2 : Nat) (Option.some FieldType.boolean)) ∈ TB := tbM (i := 639) (by decide +kernel) rfl
theorem q590 : (Cond.methodLink "HedgehogLotsLaw" (44 : Nat) ({ cls := "HedgehogLots", name := "hedgehog", desc := "(II)I" } : MethodName)) ∈ TB := tbM (i := 640) (by decide +kernel) rfl
theorem q591 : (Cond.instanceMethod ({ cls := "HedgehogLots", name := "hedgehog", desc := "(II)I" } : MethodName)) ∈ TB := tbM (i := 641) (by decide +kernel) rfl
theorem q592 : (Cond.selects "HedgehogLots" ({ cls := "HedgehogLots", name := "hedgehog", desc := "(II)I" } : MethodName) ({ cls := "HedgehogLots", name := "hedgehog", desc := "(II)I" } : MethodName)) ∈ TB := tbM (i := 642) (by decide +kernel) rfl
theorem q593 : (Cond.code ({ cls := "HedgehogLots", name := "hedgehog", desc := "(II)I" } : MethodName) prog_1_method_9_code (3 : Nat) (Option.some FieldType.int)) ∈ TB := tbM (i := 643) (by decide +kernel) rfl
theorem q594 : (Cond.methodLink "HedgehogLots" (153 : Nat) ({ cls := "HedgehogLots$Slope", name := "isHedgehog", desc := "(I)Z" } : MethodName)) ∈ TB := tbM (i := 644) (by decide +kernel) rfl
theorem q595 : (Cond.methodLink "HedgehogLots" (162 : Nat) ({ cls := "HedgehogLots$Course", name := "loss", desc := "(I)I" } : MethodName)) ∈ TB := tbM (i := 645) (by decide +kernel) rfl
theorem q596 : (Cond.methodLink "HedgehogLots" (167 : Nat) ({ cls := "HedgehogLots$Court", name := "restingColumns", desc := "(I)I" } : MethodName)) ∈ TB := tbM (i := 646) (by decide +kernel) rfl
theorem q597 : (Cond.instanceMethod ({ cls := "HedgehogLots$Court", name := "restingColumns", desc := "(I)I" } : MethodName)) ∈ TB := tbM (i := 647) (by decide +kernel) rfl
theorem q598 : (Cond.selects "HedgehogLots$Court" ({ cls := "HedgehogLots$Court", name := "restingColumns", desc := "(I)I" } : MethodName) ({ cls := "HedgehogLots$Court", name := "restingColumns", desc := "(I)I" } : MethodName)) ∈ TB := tbM (i := 648) (by decide +kernel) rfl
theorem q599 : (Cond.code ({ cls := "HedgehogLots$Court", name := "restingColumns", desc := "(I)I" } : MethodName) prog_4_method_10_code (4 : Nat) (Option.some FieldType.int)) ∈ TB := tbM (i := 649) (by decide +kernel) rfl
theorem q600 : (Cond.methodLink "HedgehogLots$Court" (69 : Nat) ({ cls := "HedgehogLots$Court", name := "letGo", desc := "(II)LHedgehogLots$Course;" } : MethodName)) ∈ TB := tbM (i := 650) (by decide +kernel) rfl
theorem q601 : (Cond.instanceMethod ({ cls := "HedgehogLots$Court", name := "letGo", desc := "(II)LHedgehogLots$Course;" } : MethodName)) ∈ TB := tbM (i := 651) (by decide +kernel) rfl
theorem q602 : (Cond.selects "HedgehogLots$Court" ({ cls := "HedgehogLots$Court", name := "letGo", desc := "(II)LHedgehogLots$Course;" } : MethodName) ({ cls := "HedgehogLots$Court", name := "letGo", desc := "(II)LHedgehogLots$Course;" } : MethodName)) ∈ TB := tbM (i := 652) (by decide +kernel) rfl
theorem q603 : (Cond.code ({ cls := "HedgehogLots$Court", name := "letGo", desc := "(II)LHedgehogLots$Course;" } : MethodName) prog_4_method_2_code (3 : Nat) (Option.some (FieldType.object "HedgehogLots$Course"))) ∈ TB := tbM (i := 653) (by decide +kernel) rfl
theorem q604 : (Cond.methodLink "HedgehogLotsLaw" (48 : Nat) ({ cls := "HedgehogLots", name := "suit", desc := "(II)I" } : MethodName)) ∈ TB := tbM (i := 654) (by decide +kernel) rfl
theorem q605 : (Cond.instanceMethod ({ cls := "HedgehogLots", name := "suit", desc := "(II)I" } : MethodName)) ∈ TB := tbM (i := 655) (by decide +kernel) rfl
theorem q606 : (Cond.selects "HedgehogLots" ({ cls := "HedgehogLots", name := "suit", desc := "(II)I" } : MethodName) ({ cls := "HedgehogLots", name := "suit", desc := "(II)I" } : MethodName)) ∈ TB := tbM (i := 656) (by decide +kernel) rfl
theorem q607 : (Cond.code ({ cls := "HedgehogLots", name := "suit", desc := "(II)I" } : MethodName) prog_1_method_10_code (3 : Nat) (Option.some FieldType.int)) ∈ TB := tbM (i := 657) (by decide +kernel) rfl
theorem q608 : (Cond.methodLink "HedgehogLots" (170 : Nat) ({ cls := "HedgehogLots$Slope", name := "isSuit", desc := "(I)Z" } : MethodName)) ∈ TB := tbM (i := 658) (by decide +kernel) rfl
theorem q609 : (Cond.methodLink "HedgehogLots" (179 : Nat) ({ cls := "HedgehogLots$Court", name := "letGoInSuit", desc := "(I)LHedgehogLots$Course;" } : MethodName)) ∈ TB := tbM (i := 659) (by decide +kernel) rfl
theorem q610 : (Cond.methodLink "HedgehogLotsLaw" (52 : Nat) ({ cls := "HedgehogLots", name := "shift", desc := "(II)I" } : MethodName)) ∈ TB := tbM (i := 660) (by decide +kernel) rfl
theorem q611 : (Cond.instanceMethod ({ cls := "HedgehogLots", name := "shift", desc := "(II)I" } : MethodName)) ∈ TB := tbM (i := 661) (by decide +kernel) rfl
theorem q612 : (Cond.selects "HedgehogLots" ({ cls := "HedgehogLots", name := "shift", desc := "(II)I" } : MethodName) ({ cls := "HedgehogLots", name := "shift", desc := "(II)I" } : MethodName)) ∈ TB := tbM (i := 662) (by decide +kernel) rfl
theorem q613 : (Cond.code ({ cls := "HedgehogLots", name := "shift", desc := "(II)I" } : MethodName) prog_1_method_11_code (4 : Nat) (Option.some FieldType.int)) ∈ TB := tbM (i := 663) (by decide +kernel) rfl
theorem q614 : (Cond.methodLink "HedgehogLots" (186 : Nat) ({ cls := "HedgehogLots$Slope", name := "isCell", desc := "(I)Z" } : MethodName)) ∈ TB := tbM (i := 664) (by decide +kernel) rfl
theorem q615 : (Cond.methodLink "HedgehogLots" (189 : Nat) ({ cls := "HedgehogLots$Slope", name := "isFree", desc := "(I)Z" } : MethodName)) ∈ TB := tbM (i := 665) (by decide +kernel) rfl
theorem q616 : (Cond.methodLink "HedgehogLots" (192 : Nat) ({ cls := "HedgehogLots$Slope", name := "movePeg", desc := "(II)V" } : MethodName)) ∈ TB := tbM (i := 666) (by decide +kernel) rfl
theorem q617 : (Cond.instanceMethod ({ cls := "HedgehogLots$Slope", name := "movePeg", desc := "(II)V" } : MethodName)) ∈ TB := tbM (i := 667) (by decide +kernel) rfl
theorem q618 : (Cond.selects "HedgehogLots$Slope" ({ cls := "HedgehogLots$Slope", name := "movePeg", desc := "(II)V" } : MethodName) ({ cls := "HedgehogLots$Slope", name := "movePeg", desc := "(II)V" } : MethodName)) ∈ TB := tbM (i := 668) (by decide +kernel) rfl
theorem q619 : (Cond.code ({ cls := "HedgehogLots$Slope", name := "movePeg", desc := "(II)V" } : MethodName) prog_9_method_15_code (3 : Nat) (Option.none : Option FieldType)) ∈ TB := tbM (i := 669) (by decide +kernel) rfl
theorem q620 : (Cond.methodLink "HedgehogLots$Slope" (84 : Nat) ({ cls := "HedgehogLots$Slope", name := "isPeg", desc := "(I)Z" } : MethodName)) ∈ TB := tbM (i := 670) (by decide +kernel) rfl
theorem q621 : (Cond.methodLink "HedgehogLotsLaw" (56 : Nat) ({ cls := "HedgehogLots", name := "rag", desc := "(II)I" } : MethodName)) ∈ TB := tbM (i := 671) (by decide +kernel) rfl
theorem q622 : (Cond.instanceMethod ({ cls := "HedgehogLots", name := "rag", desc := "(II)I" } : MethodName)) ∈ TB := tbM (i := 672) (by decide +kernel) rfl
theorem q623 : (Cond.selects "HedgehogLots" ({ cls := "HedgehogLots", name := "rag", desc := "(II)I" } : MethodName) ({ cls := "HedgehogLots", name := "rag", desc := "(II)I" } : MethodName)) ∈ TB := tbM (i := 673) (by decide +kernel) rfl
theorem q624 : (Cond.code ({ cls := "HedgehogLots", name := "rag", desc := "(II)I" } : MethodName) prog_1_method_12_code (4 : Nat) (Option.some FieldType.int)) ∈ TB := tbM (i := 674) (by decide +kernel) rfl
theorem q625 : (Cond.methodLink "HedgehogLots" (196 : Nat) ({ cls := "HedgehogLots", name := "isRag", desc := "(I)Z" } : MethodName)) ∈ TB := tbM (i := 675) (by decide +kernel) rfl
theorem q626 : (Cond.methodLink "HedgehogLotsLaw" (60 : Nat) ({ cls := "HedgehogLots", name := "alter", desc := "(III)I" } : MethodName)) ∈ TB := tbM (i := 676) (by decide +kernel) rfl
theorem q627 : (Cond.instanceMethod ({ cls := "HedgehogLots", name := "alter", desc := "(III)I" } : MethodName)) ∈ TB := tbM (i := 677) (by decide +kernel) rfl
theorem q628 : (Cond.selects "HedgehogLots" ({ cls := "HedgehogLots", name := "alter", desc := "(III)I" } : MethodName) ({ cls := "HedgehogLots", name := "alter", desc := "(III)I" } : MethodName)) ∈ TB := tbM (i := 678) (by decide +kernel) rfl
theorem q629 : (Cond.code ({ cls := "HedgehogLots", name := "alter", desc := "(III)I" } : MethodName) prog_1_method_13_code (5 : Nat) (Option.some FieldType.int)) ∈ TB := tbM (i := 679) (by decide +kernel) rfl
theorem q630 : (Cond.methodLink "HedgehogLotsLaw" (65 : Nat) ({ cls := "HedgehogLots", name := "drive", desc := "(II)I" } : MethodName)) ∈ TB := tbM (i := 680) (by decide +kernel) rfl
theorem q631 : (Cond.instanceMethod ({ cls := "HedgehogLots", name := "drive", desc := "(II)I" } : MethodName)) ∈ TB := tbM (i := 681) (by decide +kernel) rfl
theorem q632 : (Cond.selects "HedgehogLots" ({ cls := "HedgehogLots", name := "drive", desc := "(II)I" } : MethodName) ({ cls := "HedgehogLots", name := "drive", desc := "(II)I" } : MethodName)) ∈ TB := tbM (i := 682) (by decide +kernel) rfl
theorem q633 : (Cond.code ({ cls := "HedgehogLots", name := "drive", desc := "(II)I" } : MethodName) prog_1_method_14_code (3 : Nat) (Option.some FieldType.int)) ∈ TB := tbM (i := 683) (by decide +kernel) rfl
theorem q634 : (Cond.methodLink "HedgehogLots" (199 : Nat) ({ cls := "HedgehogLots$Slope", name := "addPeg", desc := "(II)I" } : MethodName)) ∈ TB := tbM (i := 684) (by decide +kernel) rfl
theorem q635 : (Cond.methodLink "HedgehogLotsLaw" (69 : Nat) ({ cls := "HedgehogLots", name := "lay", desc := "(I)I" } : MethodName)) ∈ TB := tbM (i := 685) (by decide +kernel) rfl
theorem q636 : (Cond.instanceMethod ({ cls := "HedgehogLots", name := "lay", desc := "(I)I" } : MethodName)) ∈ TB := tbM (i := 686) (by decide +kernel) rfl
theorem q637 : (Cond.selects "HedgehogLots" ({ cls := "HedgehogLots", name := "lay", desc := "(I)I" } : MethodName) ({ cls := "HedgehogLots", name := "lay", desc := "(I)I" } : MethodName)) ∈ TB := tbM (i := 687) (by decide +kernel) rfl
theorem q638 : (Cond.code ({ cls := "HedgehogLots", name := "lay", desc := "(I)I" } : MethodName) prog_1_method_15_code (2 : Nat) (Option.some FieldType.int)) ∈ TB := tbM (i := 688) (by decide +kernel) rfl
theorem q639 : (Cond.methodLink "HedgehogLots" (203 : Nat) ({ cls := "HedgehogLots$Slope", name := "addSlug", desc := "(I)I" } : MethodName)) ∈ TB := tbM (i := 689) (by decide +kernel) rfl
theorem q640 : (Cond.methodLink "HedgehogLotsLaw" (73 : Nat) ({ cls := "HedgehogLots", name := "clear", desc := "(I)I" } : MethodName)) ∈ TB := tbM (i := 690) (by decide +kernel) rfl
theorem q641 : (Cond.instanceMethod ({ cls := "HedgehogLots", name := "clear", desc := "(I)I" } : MethodName)) ∈ TB := tbM (i := 691) (by decide +kernel) rfl
theorem q642 : (Cond.selects "HedgehogLots" ({ cls := "HedgehogLots", name := "clear", desc := "(I)I" } : MethodName) ({ cls := "HedgehogLots", name := "clear", desc := "(I)I" } : MethodName)) ∈ TB := tbM (i := 692) (by decide +kernel) rfl
theorem q643 : (Cond.code ({ cls := "HedgehogLots", name := "clear", desc := "(I)I" } : MethodName) prog_1_method_16_code (3 : Nat) (Option.some FieldType.int)) ∈ TB := tbM (i := 693) (by decide +kernel) rfl
theorem q644 : (Cond.methodLink "HedgehogLots" (206 : Nat) ({ cls := "HedgehogLots$Slope", name := "cutSlugs", desc := "(I)V" } : MethodName)) ∈ TB := tbM (i := 694) (by decide +kernel) rfl
theorem q645 : (Cond.instanceMethod ({ cls := "HedgehogLots$Slope", name := "cutSlugs", desc := "(I)V" } : MethodName)) ∈ TB := tbM (i := 695) (by decide +kernel) rfl
theorem q646 : (Cond.selects "HedgehogLots$Slope" ({ cls := "HedgehogLots$Slope", name := "cutSlugs", desc := "(I)V" } : MethodName) ({ cls := "HedgehogLots$Slope", name := "cutSlugs", desc := "(I)V" } : MethodName)) ∈ TB := tbM (i := 696) (by decide +kernel) rfl
theorem q647 : (Cond.code ({ cls := "HedgehogLots$Slope", name := "cutSlugs", desc := "(I)V" } : MethodName) prog_9_method_19_code (3 : Nat) (Option.none : Option FieldType)) ∈ TB := tbM (i := 697) (by decide +kernel) rfl
theorem q648 : (Cond.methodLink "HedgehogLots$Slope" (75 : Nat) ({ cls := "java/lang/Math", name := "max", desc := "(II)I" } : MethodName)) ∈ TB := tbM (i := 698) (by decide +kernel) rfl
theorem q649 : (Cond.methodLink "HedgehogLots$Slope" (81 : Nat) ({ cls := "java/lang/Math", name := "min", desc := "(II)I" } : MethodName)) ∈ TB := tbM (i := 699) (by decide +kernel) rfl
theorem q650 : (Cond.methodLink "HedgehogLotsLaw" (77 : Nat) ({ cls := "HedgehogLots", name := "sue", desc := "(II)I" } : MethodName)) ∈ TB := tbM (i := 700) (by decide +kernel) rfl
theorem q651 : (Cond.instanceMethod ({ cls := "HedgehogLots", name := "sue", desc := "(II)I" } : MethodName)) ∈ TB := tbM (i := 701) (by decide +kernel) rfl
theorem q652 : (Cond.selects "HedgehogLots" ({ cls := "HedgehogLots", name := "sue", desc := "(II)I" } : MethodName) ({ cls := "HedgehogLots", name := "sue", desc := "(II)I" } : MethodName)) ∈ TB := tbM (i := 702) (by decide +kernel) rfl
theorem q653 : (Cond.code ({ cls := "HedgehogLots", name := "sue", desc := "(II)I" } : MethodName) prog_1_method_17_code (3 : Nat) (Option.some FieldType.int)) ∈ TB := tbM (i := 703) (by decide +kernel) rfl
theorem q654 : (Cond.methodLink "HedgehogLots" (210 : Nat) ({ cls := "HedgehogLots", name := "canLetGo", desc := "(II)Z" } : MethodName)) ∈ TB := tbM (i := 704) (by decide +kernel) rfl
theorem q656 : (Cond.instanceMethod ({ cls := "HedgehogLots", name := "canLetGo", desc := "(II)Z" } : MethodName)) ∈ TB := tbM (i := 706) (by decide +kernel) rfl
theorem q657 : (Cond.code ({ cls := "HedgehogLots", name := "canLetGo", desc := "(II)Z" } : MethodName) prog_1_method_48_code (3 : Nat) (Option.some FieldType.boolean)) ∈ TB := tbM (i := 707) (by decide +kernel) rfl
theorem q658 : (Cond.methodLink "HedgehogLots" (352 : Nat) ({ cls := "HedgehogLots$Slope", name := "isColumn", desc := "(I)Z" } : MethodName)) ∈ TB := tbM (i := 708) (by decide +kernel) rfl
theorem q659 : (Cond.static ({ cls := "HedgehogLots$Slope", name := "isColumn", desc := "(I)Z" } : MethodName)) ∈ TB := tbM (i := 709) (by decide +kernel) rfl
theorem q660 : (Cond.code ({ cls := "HedgehogLots$Slope", name := "isColumn", desc := "(I)Z" } : MethodName) prog_9_method_2_code (1 : Nat) (Option.some FieldType.boolean)) ∈ TB := tbM (i := 710) (by decide +kernel) rfl
theorem q661 : (Cond.methodLink "HedgehogLots" (214 : Nat) ({ cls := "HedgehogLots$Slope", name := "addSuit", desc := "(II)I" } : MethodName)) ∈ TB := tbM (i := 711) (by decide +kernel) rfl
theorem q662 : (Cond.methodLink "HedgehogLotsLaw" (81 : Nat) ({ cls := "HedgehogLots", name := "drop", desc := "(I)I" } : MethodName)) ∈ TB := tbM (i := 712) (by decide +kernel) rfl
theorem q663 : (Cond.instanceMethod ({ cls := "HedgehogLots", name := "drop", desc := "(I)I" } : MethodName)) ∈ TB := tbM (i := 713) (by decide +kernel) rfl
theorem q664 : (Cond.selects "HedgehogLots" ({ cls := "HedgehogLots", name := "drop", desc := "(I)I" } : MethodName) ({ cls := "HedgehogLots", name := "drop", desc := "(I)I" } : MethodName)) ∈ TB := tbM (i := 714) (by decide +kernel) rfl
theorem q665 : (Cond.code ({ cls := "HedgehogLots", name := "drop", desc := "(I)I" } : MethodName) prog_1_method_18_code (3 : Nat) (Option.some FieldType.int)) ∈ TB := tbM (i := 715) (by decide +kernel) rfl
theorem q666 : (Cond.methodLink "HedgehogLotsLaw" (85 : Nat) ({ cls := "HedgehogLots", name := "run", desc := "(III)I" } : MethodName)) ∈ TB := tbM (i := 716) (by decide +kernel) rfl
theorem q667 : (Cond.instanceMethod ({ cls := "HedgehogLots", name := "run", desc := "(III)I" } : MethodName)) ∈ TB := tbM (i := 717) (by decide +kernel) rfl
theorem q668 : (Cond.selects "HedgehogLots" ({ cls := "HedgehogLots", name := "run", desc := "(III)I" } : MethodName) ({ cls := "HedgehogLots", name := "run", desc := "(III)I" } : MethodName)) ∈ TB := tbM (i := 718) (by decide +kernel) rfl
theorem q669 : (Cond.code ({ cls := "HedgehogLots", name := "run", desc := "(III)I" } : MethodName) prog_1_method_19_code (5 : Nat) (Option.some FieldType.int)) ∈ TB := tbM (i := 719) (by decide +kernel) rfl
theorem q670 : (Cond.methodLink "HedgehogLots" (217 : Nat) ({ cls := "HedgehogLots$Court", name := "letGo", desc := "(II)LHedgehogLots$Course;" } : MethodName)) ∈ TB := tbM (i := 720) (by decide +kernel) rfl
theorem q671 : (Cond.methodLink "HedgehogLotsLaw" (89 : Nat) ({ cls := "HedgehogLots", name := "way", desc := "(III)I" } : MethodName)) ∈ TB := tbM (i := 721) (by decide +kernel) rfl
theorem q672 : (Cond.instanceMethod ({ cls := "HedgehogLots", name := "way", desc := "(III)I" } : MethodName)) ∈ TB := tbM (i := 722) (by decide +kernel) rfl
theorem q673 : (Cond.selects "HedgehogLots" ({ cls := "HedgehogLots", name := "way", desc := "(III)I" } : MethodName) ({ cls := "HedgehogLots", name := "way", desc := "(III)I" } : MethodName)) ∈ TB := tbM (i := 723) (by decide +kernel) rfl
theorem q674 : (Cond.code ({ cls := "HedgehogLots", name := "way", desc := "(III)I" } : MethodName) prog_1_method_20_code (5 : Nat) (Option.some FieldType.int)) ∈ TB := tbM (i := 724) (by decide +kernel) rfl
theorem q675 : (Cond.methodLink "HedgehogLotsLaw" (93 : Nat) ({ cls := "HedgehogLots", name := "wins", desc := "(I)I" } : MethodName)) ∈ TB := tbM (i := 725) (by decide +kernel) rfl
theorem q676 : (Cond.instanceMethod ({ cls := "HedgehogLots", name := "wins", desc := "(I)I" } : MethodName)) ∈ TB := tbM (i := 726) (by decide +kernel) rfl
theorem q677 : (Cond.selects "HedgehogLots" ({ cls := "HedgehogLots", name := "wins", desc := "(I)I" } : MethodName) ({ cls := "HedgehogLots", name := "wins", desc := "(I)I" } : MethodName)) ∈ TB := tbM (i := 727) (by decide +kernel) rfl
theorem q678 : (Cond.code ({ cls := "HedgehogLots", name := "wins", desc := "(I)I" } : MethodName) prog_1_method_21_code (2 : Nat) (Option.some FieldType.int)) ∈ TB := tbM (i := 728) (by decide +kernel) rfl
theorem q679 : (Cond.methodLink "HedgehogLots" (237 : Nat) ({ cls := "HedgehogLots$Court", name := "wonBy", desc := "(I)I" } : MethodName)) ∈ TB := tbM (i := 729) (by decide +kernel) rfl
theorem q680 : (Cond.instanceMethod ({ cls := "HedgehogLots$Court", name := "wonBy", desc := "(I)I" } : MethodName)) ∈ TB := tbM (i := 730) (by decide +kernel) rfl
theorem q681 : (Cond.selects "HedgehogLots$Court" ({ cls := "HedgehogLots$Court", name := "wonBy", desc := "(I)I" } : MethodName) ({ cls := "HedgehogLots$Court", name := "wonBy", desc := "(I)I" } : MethodName)) ∈ TB := tbM (i := 731) (by decide +kernel) rfl
theorem q682 : (Cond.code ({ cls := "HedgehogLots$Court", name := "wonBy", desc := "(I)I" } : MethodName) prog_4_method_6_code (4 : Nat) (Option.some FieldType.int)) ∈ TB := tbM (i := 732) (by decide +kernel) rfl
theorem q683 : (Cond.methodLink "HedgehogLotsLaw" (97 : Nat) ({ cls := "HedgehogLots", name := "share", desc := "(II)I" } : MethodName)) ∈ TB := tbM (i := 733) (by decide +kernel) rfl
theorem q684 : (Cond.instanceMethod ({ cls := "HedgehogLots", name := "share", desc := "(II)I" } : MethodName)) ∈ TB := tbM (i := 734) (by decide +kernel) rfl
theorem q685 : (Cond.selects "HedgehogLots" ({ cls := "HedgehogLots", name := "share", desc := "(II)I" } : MethodName) ({ cls := "HedgehogLots", name := "share", desc := "(II)I" } : MethodName)) ∈ TB := tbM (i := 735) (by decide +kernel) rfl
theorem q686 : (Cond.code ({ cls := "HedgehogLots", name := "share", desc := "(II)I" } : MethodName) prog_1_method_22_code (3 : Nat) (Option.some FieldType.int)) ∈ TB := tbM (i := 736) (by decide +kernel) rfl
theorem q687 : (Cond.methodLink "HedgehogLots" (240 : Nat) ({ cls := "HedgehogLots$Court", name := "winningColumns", desc := "(II)I" } : MethodName)) ∈ TB := tbM (i := 737) (by decide +kernel) rfl
theorem q688 : (Cond.instanceMethod ({ cls := "HedgehogLots$Court", name := "winningColumns", desc := "(II)I" } : MethodName)) ∈ TB := tbM (i := 738) (by decide +kernel) rfl
theorem q689 : (Cond.selects "HedgehogLots$Court" ({ cls := "HedgehogLots$Court", name := "winningColumns", desc := "(II)I" } : MethodName) ({ cls := "HedgehogLots$Court", name := "winningColumns", desc := "(II)I" } : MethodName)) ∈ TB := tbM (i := 739) (by decide +kernel) rfl
theorem q690 : (Cond.code ({ cls := "HedgehogLots$Court", name := "winningColumns", desc := "(II)I" } : MethodName) prog_4_method_11_code (5 : Nat) (Option.some FieldType.int)) ∈ TB := tbM (i := 740) (by decide +kernel) rfl
theorem q691 : (Cond.methodLink "HedgehogLots" (243 : Nat) ({ cls := "java/lang/Integer", name := "bitCount", desc := "(I)I" } : MethodName)) ∈ TB := tbM (i := 741) (by decide +kernel) rfl
theorem q692 : (Cond.static ({ cls := "java/lang/Integer", name := "bitCount", desc := "(I)I" } : MethodName)) ∈ TB := tbM (i := 742) (by decide +kernel) rfl
theorem q693 : (Cond.code ({ cls := "java/lang/Integer", name := "bitCount", desc := "(I)I" } : MethodName) prog_13_method_49_code (1 : Nat) (Option.some FieldType.int)) ∈ TB := tbM (i := 743) (by decide +kernel) rfl
theorem q694 : (Cond.constant "java/lang/Integer" (265 : Nat) (1431655765 : Int32)) ∈ TB := tbM (i := 744) (by decide +kernel) rfl
theorem q695 : (Cond.constant "java/lang/Integer" (266 : Nat) (858993459 : Int32)) ∈ TB := tbM (i := 745) (by decide +kernel) rfl
theorem q696 : (Cond.constant "java/lang/Integer" (267 : Nat) (252645135 : Int32)) ∈ TB := tbM (i := 746) (by decide +kernel) rfl
theorem q697 : (Cond.methodLink "HedgehogLotsLaw" (101 : Nat) ({ cls := "HedgehogLots", name := "first", desc := "(II)I" } : MethodName)) ∈ TB := tbM (i := 747) (by decide +kernel) rfl
theorem q698 : (Cond.instanceMethod ({ cls := "HedgehogLots", name := "first", desc := "(II)I" } : MethodName)) ∈ TB := tbM (i := 748) (by decide +kernel) rfl
theorem q699 : (Cond.selects "HedgehogLots" ({ cls := "HedgehogLots", name := "first", desc := "(II)I" } : MethodName) ({ cls := "HedgehogLots", name := "first", desc := "(II)I" } : MethodName)) ∈ TB := tbM (i := 749) (by decide +kernel) rfl
theorem q700 : (Cond.code ({ cls := "HedgehogLots", name := "first", desc := "(II)I" } : MethodName) prog_1_method_23_code (4 : Nat) (Option.some FieldType.int)) ∈ TB := tbM (i := 750) (by decide +kernel) rfl
theorem q701 : (Cond.methodLink "HedgehogLots" (248 : Nat) ({ cls := "java/lang/Integer", name := "numberOfTrailingZeros", desc := "(I)I" } : MethodName)) ∈ TB := tbM (i := 751) (by decide +kernel) rfl
theorem q702 : (Cond.static ({ cls := "java/lang/Integer", name := "numberOfTrailingZeros", desc := "(I)I" } : MethodName)) ∈ TB := tbM (i := 752) (by decide +kernel) rfl
theorem q703 : (Cond.code ({ cls := "java/lang/Integer", name := "numberOfTrailingZeros", desc := "(I)I" } : MethodName) prog_13_method_48_code (2 : Nat) (Option.some FieldType.int)) ∈ TB := tbM (i := 753) (by decide +kernel) rfl
theorem q704 : (Cond.constant "java/lang/Integer" (264 : Nat) (65536 : Int32)) ∈ TB := tbM (i := 754) (by decide +kernel) rfl
theorem q705 : (Cond.methodLink "HedgehogLotsLaw" (105 : Nat) ({ cls := "HedgehogLots", name := "kindly", desc := "(III)I" } : MethodName)) ∈ TB := tbM (i := 755) (by decide +kernel) rfl
theorem q706 : (Cond.instanceMethod ({ cls := "HedgehogLots", name := "kindly", desc := "(III)I" } : MethodName)) ∈ TB := tbM (i := 756) (by decide +kernel) rfl
theorem q707 : (Cond.selects "HedgehogLots" ({ cls := "HedgehogLots", name := "kindly", desc := "(III)I" } : MethodName) ({ cls := "HedgehogLots", name := "kindly", desc := "(III)I" } : MethodName)) ∈ TB := tbM (i := 757) (by decide +kernel) rfl
theorem q708 : (Cond.code ({ cls := "HedgehogLots", name := "kindly", desc := "(III)I" } : MethodName) prog_1_method_24_code (6 : Nat) (Option.some FieldType.int)) ∈ TB := tbM (i := 758) (by decide +kernel) rfl
theorem q709 : (Cond.methodLink "HedgehogLots" (251 : Nat) ({ cls := "HedgehogLots$Court", name := "letGoAs", desc := "(III)LHedgehogLots$Course;" } : MethodName)) ∈ TB := tbM (i := 759) (by decide +kernel) rfl
theorem q710 : (Cond.instanceMethod ({ cls := "HedgehogLots$Court", name := "letGoAs", desc := "(III)LHedgehogLots$Course;" } : MethodName)) ∈ TB := tbM (i := 760) (by decide +kernel) rfl
theorem q711 : (Cond.selects "HedgehogLots$Court" ({ cls := "HedgehogLots$Court", name := "letGoAs", desc := "(III)LHedgehogLots$Course;" } : MethodName) ({ cls := "HedgehogLots$Court", name := "letGoAs", desc := "(III)LHedgehogLots$Course;" } : MethodName)) ∈ TB := tbM (i := 761) (by decide +kernel) rfl
theorem q712 : (Cond.code ({ cls := "HedgehogLots$Court", name := "letGoAs", desc := "(III)LHedgehogLots$Course;" } : MethodName) prog_4_method_3_code (4 : Nat) (Option.some (FieldType.object "HedgehogLots$Course"))) ∈ TB := tbM (i := 762) (by decide +kernel) rfl
theorem q713 : (Cond.methodLink "HedgehogLotsLaw" (109 : Nat) ({ cls := "HedgehogLots", name := "place", desc := "(II)I" } : MethodName)) ∈ TB := tbM (i := 763) (by decide +kernel) rfl
theorem q714 : (Cond.instanceMethod ({ cls := "HedgehogLots", name := "place", desc := "(II)I" } : MethodName)) ∈ TB := tbM (i := 764) (by decide +kernel) rfl
theorem q715 : (Cond.selects "HedgehogLots" ({ cls := "HedgehogLots", name := "place", desc := "(II)I" } : MethodName) ({ cls := "HedgehogLots", name := "place", desc := "(II)I" } : MethodName)) ∈ TB := tbM (i := 765) (by decide +kernel) rfl
theorem q716 : (Cond.code ({ cls := "HedgehogLots", name := "place", desc := "(II)I" } : MethodName) prog_1_method_25_code (3 : Nat) (Option.some FieldType.int)) ∈ TB := tbM (i := 766) (by decide +kernel) rfl
theorem q717 : (Cond.methodLink "HedgehogLots" (255 : Nat) ({ cls := "HedgehogLots", name := "isHalf", desc := "(I)Z" } : MethodName)) ∈ TB := tbM (i := 767) (by decide +kernel) rfl
theorem q718 : (Cond.static ({ cls := "HedgehogLots", name := "isHalf", desc := "(I)Z" } : MethodName)) ∈ TB := tbM (i := 768) (by decide +kernel) rfl
theorem q719 : (Cond.code ({ cls := "HedgehogLots", name := "isHalf", desc := "(I)Z" } : MethodName) prog_1_method_50_code (1 : Nat) (Option.some FieldType.boolean)) ∈ TB := tbM (i := 769) (by decide +kernel) rfl
theorem q720 : (Cond.methodLink "HedgehogLots" (258 : Nat) ({ cls := "HedgehogLots$Advice", name := "seekNewPeg", desc := "(I)V" } : MethodName)) ∈ TB := tbM (i := 770) (by decide +kernel) rfl
theorem q721 : (Cond.instanceMethod ({ cls := "HedgehogLots$Advice", name := "seekNewPeg", desc := "(I)V" } : MethodName)) ∈ TB := tbM (i := 771) (by decide +kernel) rfl
theorem q722 : (Cond.selects "HedgehogLots$Advice" ({ cls := "HedgehogLots$Advice", name := "seekNewPeg", desc := "(I)V" } : MethodName) ({ cls := "HedgehogLots$Advice", name := "seekNewPeg", desc := "(I)V" } : MethodName)) ∈ TB := tbM (i := 772) (by decide +kernel) rfl
theorem q723 : (Cond.code ({ cls := "HedgehogLots$Advice", name := "seekNewPeg", desc := "(I)V" } : MethodName) prog_2_method_6_code (4 : Nat) (Option.none : Option FieldType)) ∈ TB := tbM (i := 773) (by decide +kernel) rfl
theorem q724 : (Cond.methodLink "HedgehogLots$Advice" (33 : Nat) ({ cls := "HedgehogLots$Advice", name := "seekFrom", desc := "(I)V" } : MethodName)) ∈ TB := tbM (i := 774) (by decide +kernel) rfl
theorem q726 : (Cond.instanceMethod ({ cls := "HedgehogLots$Advice", name := "seekFrom", desc := "(I)V" } : MethodName)) ∈ TB := tbM (i := 776) (by decide +kernel) rfl
theorem q727 : (Cond.code ({ cls := "HedgehogLots$Advice", name := "seekFrom", desc := "(I)V" } : MethodName) prog_2_method_3_code (2 : Nat) (Option.none : Option FieldType)) ∈ TB := tbM (i := 777) (by decide +kernel) rfl
theorem q728 : (Cond.methodLink "HedgehogLots$Advice" (42 : Nat) ({ cls := "HedgehogLots$Slope", name := "addPeg", desc := "(II)I" } : MethodName)) ∈ TB := tbM (i := 778) (by decide +kernel) rfl
theorem q729 : (Cond.methodLink "HedgehogLots$Advice" (46 : Nat) ({ cls := "HedgehogLots$Court", name := "wonBy", desc := "(I)I" } : MethodName)) ∈ TB := tbM (i := 779) (by decide +kernel) rfl
theorem q730 : (Cond.methodLink "HedgehogLots$Advice" (50 : Nat) ({ cls := "java/lang/Integer", name := "bitCount", desc := "(I)I" } : MethodName)) ∈ TB := tbM (i := 780) (by decide +kernel) rfl
theorem q731 : (Cond.methodLink "HedgehogLots$Advice" (55 : Nat) ({ cls := "HedgehogLots$Advice", name := "offerMost", desc := "(II)V" } : MethodName)) ∈ TB := tbM (i := 781) (by decide +kernel) rfl
theorem q733 : (Cond.instanceMethod ({ cls := "HedgehogLots$Advice", name := "offerMost", desc := "(II)V" } : MethodName)) ∈ TB := tbM (i := 783) (by decide +kernel) rfl
theorem q734 : (Cond.code ({ cls := "HedgehogLots$Advice", name := "offerMost", desc := "(II)V" } : MethodName) prog_2_method_4_code (3 : Nat) (Option.none : Option FieldType)) ∈ TB := tbM (i := 784) (by decide +kernel) rfl
theorem q735 : (Cond.methodLink "HedgehogLots$Advice" (59 : Nat) ({ cls := "HedgehogLots$Slope", name := "cutPegs", desc := "(I)V" } : MethodName)) ∈ TB := tbM (i := 785) (by decide +kernel) rfl
theorem q736 : (Cond.instanceMethod ({ cls := "HedgehogLots$Slope", name := "cutPegs", desc := "(I)V" } : MethodName)) ∈ TB := tbM (i := 786) (by decide +kernel) rfl
theorem q737 : (Cond.selects "HedgehogLots$Slope" ({ cls := "HedgehogLots$Slope", name := "cutPegs", desc := "(I)V" } : MethodName) ({ cls := "HedgehogLots$Slope", name := "cutPegs", desc := "(I)V" } : MethodName)) ∈ TB := tbM (i := 787) (by decide +kernel) rfl
theorem q738 : (Cond.code ({ cls := "HedgehogLots$Slope", name := "cutPegs", desc := "(I)V" } : MethodName) prog_9_method_14_code (3 : Nat) (Option.none : Option FieldType)) ∈ TB := tbM (i := 788) (by decide +kernel) rfl
theorem q739 : (Cond.methodLink "HedgehogLots" (261 : Nat) ({ cls := "HedgehogLots$Advice", name := "told", desc := "(I)I" } : MethodName)) ∈ TB := tbM (i := 789) (by decide +kernel) rfl
theorem q740 : (Cond.instanceMethod ({ cls := "HedgehogLots$Advice", name := "told", desc := "(I)I" } : MethodName)) ∈ TB := tbM (i := 790) (by decide +kernel) rfl
theorem q741 : (Cond.selects "HedgehogLots$Advice" ({ cls := "HedgehogLots$Advice", name := "told", desc := "(I)I" } : MethodName) ({ cls := "HedgehogLots$Advice", name := "told", desc := "(I)I" } : MethodName)) ∈ TB := tbM (i := 791) (by decide +kernel) rfl
theorem q742 : (Cond.code ({ cls := "HedgehogLots$Advice", name := "told", desc := "(I)I" } : MethodName) prog_2_method_2_code (2 : Nat) (Option.some FieldType.int)) ∈ TB := tbM (i := 792) (by decide +kernel) rfl
theorem q743 : (Cond.methodLink "HedgehogLotsLaw" (113 : Nat) ({ cls := "HedgehogLots", name := "move", desc := "(II)I" } : MethodName)) ∈ TB := tbM (i := 793) (by decide +kernel) rfl
theorem q744 : (Cond.instanceMethod ({ cls := "HedgehogLots", name := "move", desc := "(II)I" } : MethodName)) ∈ TB := tbM (i := 794) (by decide +kernel) rfl
theorem q745 : (Cond.selects "HedgehogLots" ({ cls := "HedgehogLots", name := "move", desc := "(II)I" } : MethodName) ({ cls := "HedgehogLots", name := "move", desc := "(II)I" } : MethodName)) ∈ TB := tbM (i := 795) (by decide +kernel) rfl
theorem q746 : (Cond.code ({ cls := "HedgehogLots", name := "move", desc := "(II)I" } : MethodName) prog_1_method_26_code (3 : Nat) (Option.some FieldType.int)) ∈ TB := tbM (i := 796) (by decide +kernel) rfl
theorem q747 : (Cond.methodLink "HedgehogLots" (264 : Nat) ({ cls := "HedgehogLots$Advice", name := "seekCellOf", desc := "(I)V" } : MethodName)) ∈ TB := tbM (i := 797) (by decide +kernel) rfl
theorem q748 : (Cond.instanceMethod ({ cls := "HedgehogLots$Advice", name := "seekCellOf", desc := "(I)V" } : MethodName)) ∈ TB := tbM (i := 798) (by decide +kernel) rfl
theorem q749 : (Cond.selects "HedgehogLots$Advice" ({ cls := "HedgehogLots$Advice", name := "seekCellOf", desc := "(I)V" } : MethodName) ({ cls := "HedgehogLots$Advice", name := "seekCellOf", desc := "(I)V" } : MethodName)) ∈ TB := tbM (i := 799) (by decide +kernel) rfl
theorem q750 : (Cond.code ({ cls := "HedgehogLots$Advice", name := "seekCellOf", desc := "(I)V" } : MethodName) prog_2_method_7_code (5 : Nat) (Option.none : Option FieldType)) ∈ TB := tbM (i := 800) (by decide +kernel) rfl
theorem q751 : (Cond.methodLink "HedgehogLots$Advice" (62 : Nat) ({ cls := "HedgehogLots$Slope", name := "isPeg", desc := "(I)Z" } : MethodName)) ∈ TB := tbM (i := 801) (by decide +kernel) rfl
theorem q752 : (Cond.methodLink "HedgehogLots$Advice" (72 : Nat) ({ cls := "HedgehogLots$Slope", name := "isFree", desc := "(I)Z" } : MethodName)) ∈ TB := tbM (i := 802) (by decide +kernel) rfl
theorem q753 : (Cond.methodLink "HedgehogLots$Advice" (75 : Nat) ({ cls := "HedgehogLots$Slope", name := "movePeg", desc := "(II)V" } : MethodName)) ∈ TB := tbM (i := 803) (by decide +kernel) rfl
theorem q754 : (Cond.methodLink "HedgehogLotsLaw" (117 : Nat) ({ cls := "HedgehogLots", name := "bribe", desc := "(II)I" } : MethodName)) ∈ TB := tbM (i := 804) (by decide +kernel) rfl
theorem q755 : (Cond.instanceMethod ({ cls := "HedgehogLots", name := "bribe", desc := "(II)I" } : MethodName)) ∈ TB := tbM (i := 805) (by decide +kernel) rfl
theorem q756 : (Cond.selects "HedgehogLots" ({ cls := "HedgehogLots", name := "bribe", desc := "(II)I" } : MethodName) ({ cls := "HedgehogLots", name := "bribe", desc := "(II)I" } : MethodName)) ∈ TB := tbM (i := 806) (by decide +kernel) rfl
theorem q757 : (Cond.code ({ cls := "HedgehogLots", name := "bribe", desc := "(II)I" } : MethodName) prog_1_method_27_code (3 : Nat) (Option.some FieldType.int)) ∈ TB := tbM (i := 807) (by decide +kernel) rfl
theorem q758 : (Cond.methodLink "HedgehogLots" (267 : Nat) ({ cls := "HedgehogLots$Advice", name := "seekNewSlug", desc := "(I)V" } : MethodName)) ∈ TB := tbM (i := 808) (by decide +kernel) rfl
theorem q759 : (Cond.instanceMethod ({ cls := "HedgehogLots$Advice", name := "seekNewSlug", desc := "(I)V" } : MethodName)) ∈ TB := tbM (i := 809) (by decide +kernel) rfl
theorem q760 : (Cond.selects "HedgehogLots$Advice" ({ cls := "HedgehogLots$Advice", name := "seekNewSlug", desc := "(I)V" } : MethodName) ({ cls := "HedgehogLots$Advice", name := "seekNewSlug", desc := "(I)V" } : MethodName)) ∈ TB := tbM (i := 810) (by decide +kernel) rfl
theorem q761 : (Cond.code ({ cls := "HedgehogLots$Advice", name := "seekNewSlug", desc := "(I)V" } : MethodName) prog_2_method_8_code (4 : Nat) (Option.none : Option FieldType)) ∈ TB := tbM (i := 811) (by decide +kernel) rfl
theorem q762 : (Cond.methodLink "HedgehogLots$Advice" (81 : Nat) ({ cls := "HedgehogLots$Slope", name := "addSlug", desc := "(I)I" } : MethodName)) ∈ TB := tbM (i := 812) (by decide +kernel) rfl
theorem q763 : (Cond.methodLink "HedgehogLots$Advice" (84 : Nat) ({ cls := "HedgehogLots$Court", name := "wonByOthers", desc := "(I)I" } : MethodName)) ∈ TB := tbM (i := 813) (by decide +kernel) rfl
theorem q764 : (Cond.instanceMethod ({ cls := "HedgehogLots$Court", name := "wonByOthers", desc := "(I)I" } : MethodName)) ∈ TB := tbM (i := 814) (by decide +kernel) rfl
theorem q765 : (Cond.selects "HedgehogLots$Court" ({ cls := "HedgehogLots$Court", name := "wonByOthers", desc := "(I)I" } : MethodName) ({ cls := "HedgehogLots$Court", name := "wonByOthers", desc := "(I)I" } : MethodName)) ∈ TB := tbM (i := 815) (by decide +kernel) rfl
theorem q766 : (Cond.code ({ cls := "HedgehogLots$Court", name := "wonByOthers", desc := "(I)I" } : MethodName) prog_4_method_7_code (5 : Nat) (Option.some FieldType.int)) ∈ TB := tbM (i := 816) (by decide +kernel) rfl
theorem q767 : (Cond.methodLink "HedgehogLots$Advice" (87 : Nat) ({ cls := "HedgehogLots$Advice", name := "offerFewest", desc := "(II)V" } : MethodName)) ∈ TB := tbM (i := 817) (by decide +kernel) rfl
theorem q769 : (Cond.instanceMethod ({ cls := "HedgehogLots$Advice", name := "offerFewest", desc := "(II)V" } : MethodName)) ∈ TB := tbM (i := 819) (by decide +kernel) rfl
theorem q770 : (Cond.code ({ cls := "HedgehogLots$Advice", name := "offerFewest", desc := "(II)V" } : MethodName) prog_2_method_5_code (3 : Nat) (Option.none : Option FieldType)) ∈ TB := tbM (i := 820) (by decide +kernel) rfl
theorem q771 : (Cond.methodLink "HedgehogLots$Advice" (90 : Nat) ({ cls := "HedgehogLots$Slope", name := "cutSlugs", desc := "(I)V" } : MethodName)) ∈ TB := tbM (i := 821) (by decide +kernel) rfl
theorem q772 : (Cond.methodLink "HedgehogLotsLaw" (121 : Nat) ({ cls := "HedgehogLots", name := "need", desc := "(II)I" } : MethodName)) ∈ TB := tbM (i := 822) (by decide +kernel) rfl
theorem q773 : (Cond.instanceMethod ({ cls := "HedgehogLots", name := "need", desc := "(II)I" } : MethodName)) ∈ TB := tbM (i := 823) (by decide +kernel) rfl
theorem q774 : (Cond.selects "HedgehogLots" ({ cls := "HedgehogLots", name := "need", desc := "(II)I" } : MethodName) ({ cls := "HedgehogLots", name := "need", desc := "(II)I" } : MethodName)) ∈ TB := tbM (i := 824) (by decide +kernel) rfl
theorem q775 : (Cond.code ({ cls := "HedgehogLots", name := "need", desc := "(II)I" } : MethodName) prog_1_method_28_code (4 : Nat) (Option.some FieldType.int)) ∈ TB := tbM (i := 825) (by decide +kernel) rfl
theorem q776 : (Cond.methodLink "HedgehogLotsLaw" (125 : Nat) ({ cls := "HedgehogLots", name := "swap", desc := "(II)I" } : MethodName)) ∈ TB := tbM (i := 826) (by decide +kernel) rfl
theorem q777 : (Cond.instanceMethod ({ cls := "HedgehogLots", name := "swap", desc := "(II)I" } : MethodName)) ∈ TB := tbM (i := 827) (by decide +kernel) rfl
theorem q778 : (Cond.selects "HedgehogLots" ({ cls := "HedgehogLots", name := "swap", desc := "(II)I" } : MethodName) ({ cls := "HedgehogLots", name := "swap", desc := "(II)I" } : MethodName)) ∈ TB := tbM (i := 828) (by decide +kernel) rfl
theorem q779 : (Cond.code ({ cls := "HedgehogLots", name := "swap", desc := "(II)I" } : MethodName) prog_1_method_29_code (3 : Nat) (Option.some FieldType.int)) ∈ TB := tbM (i := 829) (by decide +kernel) rfl
theorem q780 : (Cond.methodLink "HedgehogLots" (270 : Nat) ({ cls := "HedgehogLots$Advice", name := "seekPair", desc := "(I)V" } : MethodName)) ∈ TB := tbM (i := 830) (by decide +kernel) rfl
theorem q781 : (Cond.instanceMethod ({ cls := "HedgehogLots$Advice", name := "seekPair", desc := "(I)V" } : MethodName)) ∈ TB := tbM (i := 831) (by decide +kernel) rfl
theorem q782 : (Cond.selects "HedgehogLots$Advice" ({ cls := "HedgehogLots$Advice", name := "seekPair", desc := "(I)V" } : MethodName) ({ cls := "HedgehogLots$Advice", name := "seekPair", desc := "(I)V" } : MethodName)) ∈ TB := tbM (i := 832) (by decide +kernel) rfl
theorem q783 : (Cond.code ({ cls := "HedgehogLots$Advice", name := "seekPair", desc := "(I)V" } : MethodName) prog_2_method_9_code (4 : Nat) (Option.none : Option FieldType)) ∈ TB := tbM (i := 833) (by decide +kernel) rfl
theorem q784 : (Cond.methodLink "HedgehogLots$Advice" (96 : Nat) ({ cls := "HedgehogLots$Slope", name := "exchangeHedgehogs", desc := "(II)V" } : MethodName)) ∈ TB := tbM (i := 834) (by decide +kernel) rfl
theorem q785 : (Cond.instanceMethod ({ cls := "HedgehogLots$Slope", name := "exchangeHedgehogs", desc := "(II)V" } : MethodName)) ∈ TB := tbM (i := 835) (by decide +kernel) rfl
theorem q786 : (Cond.selects "HedgehogLots$Slope" ({ cls := "HedgehogLots$Slope", name := "exchangeHedgehogs", desc := "(II)V" } : MethodName) ({ cls := "HedgehogLots$Slope", name := "exchangeHedgehogs", desc := "(II)V" } : MethodName)) ∈ TB := tbM (i := 836) (by decide +kernel) rfl
theorem q787 : (Cond.code ({ cls := "HedgehogLots$Slope", name := "exchangeHedgehogs", desc := "(II)V" } : MethodName) prog_9_method_21_code (5 : Nat) (Option.none : Option FieldType)) ∈ TB := tbM (i := 837) (by decide +kernel) rfl
theorem q788 : (Cond.methodLink "HedgehogLots$Slope" (87 : Nat) ({ cls := "HedgehogLots$Slope", name := "isHedgehog", desc := "(I)Z" } : MethodName)) ∈ TB := tbM (i := 838) (by decide +kernel) rfl
theorem q789 : (Cond.methodLink "HedgehogLotsLaw" (129 : Nat) ({ cls := "HedgehogLots", name := "pull", desc := "(II)I" } : MethodName)) ∈ TB := tbM (i := 839) (by decide +kernel) rfl
theorem q790 : (Cond.instanceMethod ({ cls := "HedgehogLots", name := "pull", desc := "(II)I" } : MethodName)) ∈ TB := tbM (i := 840) (by decide +kernel) rfl
theorem q791 : (Cond.selects "HedgehogLots" ({ cls := "HedgehogLots", name := "pull", desc := "(II)I" } : MethodName) ({ cls := "HedgehogLots", name := "pull", desc := "(II)I" } : MethodName)) ∈ TB := tbM (i := 841) (by decide +kernel) rfl
theorem q792 : (Cond.code ({ cls := "HedgehogLots", name := "pull", desc := "(II)I" } : MethodName) prog_1_method_30_code (3 : Nat) (Option.some FieldType.int)) ∈ TB := tbM (i := 842) (by decide +kernel) rfl
theorem q793 : (Cond.methodLink "HedgehogLots" (273 : Nat) ({ cls := "HedgehogLots$Advice", name := "seekNeedlessPeg", desc := "(I)V" } : MethodName)) ∈ TB := tbM (i := 843) (by decide +kernel) rfl
theorem q794 : (Cond.instanceMethod ({ cls := "HedgehogLots$Advice", name := "seekNeedlessPeg", desc := "(I)V" } : MethodName)) ∈ TB := tbM (i := 844) (by decide +kernel) rfl
theorem q795 : (Cond.selects "HedgehogLots$Advice" ({ cls := "HedgehogLots$Advice", name := "seekNeedlessPeg", desc := "(I)V" } : MethodName) ({ cls := "HedgehogLots$Advice", name := "seekNeedlessPeg", desc := "(I)V" } : MethodName)) ∈ TB := tbM (i := 845) (by decide +kernel) rfl
theorem q796 : (Cond.code ({ cls := "HedgehogLots$Advice", name := "seekNeedlessPeg", desc := "(I)V" } : MethodName) prog_2_method_10_code (3 : Nat) (Option.none : Option FieldType)) ∈ TB := tbM (i := 846) (by decide +kernel) rfl
theorem q797 : (Cond.methodLink "HedgehogLots$Advice" (99 : Nat) ({ cls := "HedgehogLots$Slope", name := "hidePeg", desc := "(I)V" } : MethodName)) ∈ TB := tbM (i := 847) (by decide +kernel) rfl
theorem q798 : (Cond.instanceMethod ({ cls := "HedgehogLots$Slope", name := "hidePeg", desc := "(I)V" } : MethodName)) ∈ TB := tbM (i := 848) (by decide +kernel) rfl
theorem q799 : (Cond.selects "HedgehogLots$Slope" ({ cls := "HedgehogLots$Slope", name := "hidePeg", desc := "(I)V" } : MethodName) ({ cls := "HedgehogLots$Slope", name := "hidePeg", desc := "(I)V" } : MethodName)) ∈ TB := tbM (i := 849) (by decide +kernel) rfl
theorem q800 : (Cond.code ({ cls := "HedgehogLots$Slope", name := "hidePeg", desc := "(I)V" } : MethodName) prog_9_method_16_code (2 : Nat) (Option.none : Option FieldType)) ∈ TB := tbM (i := 850) (by decide +kernel) rfl
theorem q801 : (Cond.methodLink "HedgehogLots$Advice" (102 : Nat) ({ cls := "HedgehogLots$Slope", name := "showPeg", desc := "(I)V" } : MethodName)) ∈ TB := tbM (i := 851) (by decide +kernel) rfl
theorem q802 : (Cond.instanceMethod ({ cls := "HedgehogLots$Slope", name := "showPeg", desc := "(I)V" } : MethodName)) ∈ TB := tbM (i := 852) (by decide +kernel) rfl
theorem q803 : (Cond.selects "HedgehogLots$Slope" ({ cls := "HedgehogLots$Slope", name := "showPeg", desc := "(I)V" } : MethodName) ({ cls := "HedgehogLots$Slope", name := "showPeg", desc := "(I)V" } : MethodName)) ∈ TB := tbM (i := 853) (by decide +kernel) rfl
theorem q804 : (Cond.code ({ cls := "HedgehogLots$Slope", name := "showPeg", desc := "(I)V" } : MethodName) prog_9_method_17_code (2 : Nat) (Option.none : Option FieldType)) ∈ TB := tbM (i := 854) (by decide +kernel) rfl
theorem q805 : (Cond.methodLink "HedgehogLotsLaw" (133 : Nat) ({ cls := "HedgehogLots", name := "luck", desc := "(IIIII)J" } : MethodName)) ∈ TB := tbM (i := 855) (by decide +kernel) rfl
theorem q806 : (Cond.instanceMethod ({ cls := "HedgehogLots", name := "luck", desc := "(IIIII)J" } : MethodName)) ∈ TB := tbM (i := 856) (by decide +kernel) rfl
theorem q807 : (Cond.selects "HedgehogLots" ({ cls := "HedgehogLots", name := "luck", desc := "(IIIII)J" } : MethodName) ({ cls := "HedgehogLots", name := "luck", desc := "(IIIII)J" } : MethodName)) ∈ TB := tbM (i := 857) (by decide +kernel) rfl
theorem q808 : (Cond.code ({ cls := "HedgehogLots", name := "luck", desc := "(IIIII)J" } : MethodName) prog_1_method_31_code (6 : Nat) (Option.some FieldType.long)) ∈ TB := tbM (i := 858) (by decide +kernel) rfl
theorem q809 : (Cond.methodLink "HedgehogLots" (276 : Nat) ({ cls := "HedgehogLots", name := "isOutOfTen", desc := "(I)Z" } : MethodName)) ∈ TB := tbM (i := 859) (by decide +kernel) rfl
theorem q810 : (Cond.static ({ cls := "HedgehogLots", name := "isOutOfTen", desc := "(I)Z" } : MethodName)) ∈ TB := tbM (i := 860) (by decide +kernel) rfl
theorem q811 : (Cond.code ({ cls := "HedgehogLots", name := "isOutOfTen", desc := "(I)Z" } : MethodName) prog_1_method_51_code (1 : Nat) (Option.some FieldType.boolean)) ∈ TB := tbM (i := 861) (by decide +kernel) rfl
theorem q812 : (Cond.constantLong "HedgehogLots" (279 : Nat) (-1 : Int64)) ∈ TB := tbM (i := 862) (by decide +kernel) rfl
theorem q813 : (Cond.methodLink "HedgehogLots" (281 : Nat) ({ cls := "HedgehogLots$Odds", name := "follow", desc := "(LHedgehogLots$Slope;IIII)V" } : MethodName)) ∈ TB := tbM (i := 863) (by decide +kernel) rfl
theorem q814 : (Cond.instanceMethod ({ cls := "HedgehogLots$Odds", name := "follow", desc := "(LHedgehogLots$Slope;IIII)V" } : MethodName)) ∈ TB := tbM (i := 864) (by decide +kernel) rfl
theorem q815 : (Cond.selects "HedgehogLots$Odds" ({ cls := "HedgehogLots$Odds", name := "follow", desc := "(LHedgehogLots$Slope;IIII)V" } : MethodName) ({ cls := "HedgehogLots$Odds", name := "follow", desc := "(LHedgehogLots$Slope;IIII)V" } : MethodName)) ∈ TB := tbM (i := 865) (by decide +kernel) rfl
theorem q816 : (Cond.code ({ cls := "HedgehogLots$Odds", name := "follow", desc := "(LHedgehogLots$Slope;IIII)V" } : MethodName) prog_5_method_2_code (11 : Nat) (Option.none : Option FieldType)) ∈ TB := tbM (i := 866) (by decide +kernel) rfl
theorem q817 : (Cond.methodLink "HedgehogLots$Odds" (25 : Nat) ({ cls := "java/util/Arrays", name := "fill", desc := "([JJ)V" } : MethodName)) ∈ TB := tbM (i := 867) (by decide +kernel) rfl
theorem q818 : (Cond.static ({ cls := "java/util/Arrays", name := "fill", desc := "([JJ)V" } : MethodName)) ∈ TB := tbM (i := 868) (by decide +kernel) rfl
theorem q819 : (Cond.code ({ cls := "java/util/Arrays", name := "fill", desc := "([JJ)V" } : MethodName) prog_19_method_101_code (5 : Nat) (Option.none : Option FieldType)) ∈ TB := tbM (i := 869) (by decide +kernel) rfl
theorem q820 : (Cond.methodLink "HedgehogLots$Odds" (31 : Nat) ({ cls := "HedgehogLots$Slope", name := "isHedgehog", desc := "(I)Z" } : MethodName)) ∈ TB := tbM (i := 870) (by decide +kernel) rfl
theorem q821 : (Cond.methodLink "HedgehogLots$Odds" (37 : Nat) ({ cls := "HedgehogLots$Slope", name := "isColumn", desc := "(I)Z" } : MethodName)) ∈ TB := tbM (i := 871) (by decide +kernel) rfl
theorem q822 : (Cond.constantLong "HedgehogLots$Odds" (47 : Nat) (10000000000 : Int64)) ∈ TB := tbM (i := 872) (by decide +kernel) rfl
theorem q823 : (Cond.methodLink "HedgehogLots$Odds" (49 : Nat) ({ cls := "HedgehogLots$Odds", name := "add", desc := "([JIIJ)V" } : MethodName)) ∈ TB := tbM (i := 873) (by decide +kernel) rfl
theorem q824 : (Cond.static ({ cls := "HedgehogLots$Odds", name := "add", desc := "([JIIJ)V" } : MethodName)) ∈ TB := tbM (i := 874) (by decide +kernel) rfl
theorem q825 : (Cond.code ({ cls := "HedgehogLots$Odds", name := "add", desc := "([JIIJ)V" } : MethodName) prog_5_method_3_code (6 : Nat) (Option.none : Option FieldType)) ∈ TB := tbM (i := 875) (by decide +kernel) rfl
theorem q826 : (Cond.methodLink "HedgehogLots$Odds" (53 : Nat) ({ cls := "HedgehogLots$Slope", name := "standingAt", desc := "(I)I" } : MethodName)) ∈ TB := tbM (i := 876) (by decide +kernel) rfl
theorem q827 : (Cond.methodLink "HedgehogLots$Odds" (57 : Nat) ({ cls := "HedgehogLots$Slope", name := "isPeg", desc := "(I)Z" } : MethodName)) ∈ TB := tbM (i := 877) (by decide +kernel) rfl
theorem q828 : (Cond.methodLink "HedgehogLots$Odds" (63 : Nat) ({ cls := "HedgehogLots$Odds", name := "meet", desc := "(IIIIZ)V" } : MethodName)) ∈ TB := tbM (i := 878) (by decide +kernel) rfl
theorem q830 : (Cond.instanceMethod ({ cls := "HedgehogLots$Odds", name := "meet", desc := "(IIIIZ)V" } : MethodName)) ∈ TB := tbM (i := 880) (by decide +kernel) rfl
theorem q831 : (Cond.code ({ cls := "HedgehogLots$Odds", name := "meet", desc := "(IIIIZ)V" } : MethodName) prog_5_method_5_code (13 : Nat) (Option.none : Option FieldType)) ∈ TB := tbM (i := 881) (by decide +kernel) rfl
theorem q832 : (Cond.methodLink "HedgehogLots$Odds" (77 : Nat) ({ cls := "HedgehogLots$Course", name := "turn", desc := "(II)I" } : MethodName)) ∈ TB := tbM (i := 882) (by decide +kernel) rfl
theorem q833 : (Cond.methodLink "HedgehogLots$Odds" (83 : Nat) ({ cls := "HedgehogLots$Course", name := "columnBeside", desc := "(II)I" } : MethodName)) ∈ TB := tbM (i := 883) (by decide +kernel) rfl
theorem q834 : (Cond.methodLink "HedgehogLots$Odds" (86 : Nat) ({ cls := "HedgehogLots$Course", name := "loss", desc := "(I)I" } : MethodName)) ∈ TB := tbM (i := 884) (by decide +kernel) rfl
theorem q835 : (Cond.constantLong "HedgehogLots$Odds" (89 : Nat) (10 : Int64)) ∈ TB := tbM (i := 885) (by decide +kernel) rfl
theorem q836 : (Cond.methodLink "HedgehogLots$Odds" (67 : Nat) ({ cls := "HedgehogLots$Odds", name := "goOn", desc := "(I)V" } : MethodName)) ∈ TB := tbM (i := 886) (by decide +kernel) rfl
theorem q838 : (Cond.instanceMethod ({ cls := "HedgehogLots$Odds", name := "goOn", desc := "(I)V" } : MethodName)) ∈ TB := tbM (i := 888) (by decide +kernel) rfl
theorem q839 : (Cond.code ({ cls := "HedgehogLots$Odds", name := "goOn", desc := "(I)V" } : MethodName) prog_5_method_4_code (3 : Nat) (Option.none : Option FieldType)) ∈ TB := tbM (i := 889) (by decide +kernel) rfl
theorem q840 : (Cond.methodLink "HedgehogLots$Odds" (71 : Nat) ({ cls := "java/lang/System", name := "arraycopy", desc := "(Ljava/lang/Object;ILjava/lang/Object;II)V" } : MethodName)) ∈ TB := tbM (i := 890) (by decide +kernel) rfl
theorem q841 : (Cond.methodLink "HedgehogLots" (289 : Nat) ({ cls := "HedgehogLots", name := "lowestTerms", desc := "(JI)J" } : MethodName)) ∈ TB := tbM (i := 891) (by decide +kernel) rfl
theorem q842 : (Cond.static ({ cls := "HedgehogLots", name := "lowestTerms", desc := "(JI)J" } : MethodName)) ∈ TB := tbM (i := 892) (by decide +kernel) rfl
theorem q843 : (Cond.code ({ cls := "HedgehogLots", name := "lowestTerms", desc := "(JI)J" } : MethodName) prog_1_method_55_code (10 : Nat) (Option.some FieldType.long)) ∈ TB := tbM (i := 893) (by decide +kernel) rfl
theorem q844 : (Cond.constantLong "HedgehogLots" (355 : Nat) (10000000000 : Int64)) ∈ TB := tbM (i := 894) (by decide +kernel) rfl
theorem q845 : (Cond.methodLink "HedgehogLotsLaw" (138 : Nat) ({ cls := "HedgehogLots", name := "mean", desc := "(IIII)J" } : MethodName)) ∈ TB := tbM (i := 895) (by decide +kernel) rfl
theorem q846 : (Cond.instanceMethod ({ cls := "HedgehogLots", name := "mean", desc := "(IIII)J" } : MethodName)) ∈ TB := tbM (i := 896) (by decide +kernel) rfl
theorem q847 : (Cond.selects "HedgehogLots" ({ cls := "HedgehogLots", name := "mean", desc := "(IIII)J" } : MethodName) ({ cls := "HedgehogLots", name := "mean", desc := "(IIII)J" } : MethodName)) ∈ TB := tbM (i := 897) (by decide +kernel) rfl
theorem q848 : (Cond.code ({ cls := "HedgehogLots", name := "mean", desc := "(IIII)J" } : MethodName) prog_1_method_32_code (5 : Nat) (Option.some FieldType.long)) ∈ TB := tbM (i := 898) (by decide +kernel) rfl
theorem q849 : (Cond.methodLink "HedgehogLotsLaw" (143 : Nat) ({ cls := "HedgehogLots", name := "see", desc := "(III)I" } : MethodName)) ∈ TB := tbM (i := 899) (by decide +kernel) rfl
theorem q850 : (Cond.instanceMethod ({ cls := "HedgehogLots", name := "see", desc := "(III)I" } : MethodName)) ∈ TB := tbM (i := 900) (by decide +kernel) rfl
theorem q851 : (Cond.selects "HedgehogLots" ({ cls := "HedgehogLots", name := "see", desc := "(III)I" } : MethodName) ({ cls := "HedgehogLots", name := "see", desc := "(III)I" } : MethodName)) ∈ TB := tbM (i := 901) (by decide +kernel) rfl
theorem q852 : (Cond.code ({ cls := "HedgehogLots", name := "see", desc := "(III)I" } : MethodName) prog_1_method_33_code (5 : Nat) (Option.some FieldType.int)) ∈ TB := tbM (i := 902) (by decide +kernel) rfl
theorem q853 : (Cond.methodLink "HedgehogLots" (295 : Nat) ({ cls := "HedgehogLots$Seen", name := "add", desc := "(III)I" } : MethodName)) ∈ TB := tbM (i := 903) (by decide +kernel) rfl
theorem q854 : (Cond.instanceMethod ({ cls := "HedgehogLots$Seen", name := "add", desc := "(III)I" } : MethodName)) ∈ TB := tbM (i := 904) (by decide +kernel) rfl
theorem q855 : (Cond.selects "HedgehogLots$Seen" ({ cls := "HedgehogLots$Seen", name := "add", desc := "(III)I" } : MethodName) ({ cls := "HedgehogLots$Seen", name := "add", desc := "(III)I" } : MethodName)) ∈ TB := tbM (i := 905) (by decide +kernel) rfl
theorem q856 : (Cond.code ({ cls := "HedgehogLots$Seen", name := "add", desc := "(III)I" } : MethodName) prog_7_method_2_code (4 : Nat) (Option.some FieldType.int)) ∈ TB := tbM (i := 906) (by decide +kernel) rfl
theorem q857 : (Cond.methodLink "HedgehogLotsLaw" (147 : Nat) ({ cls := "HedgehogLots", name := "forget", desc := "(I)I" } : MethodName)) ∈ TB := tbM (i := 907) (by decide +kernel) rfl
theorem q858 : (Cond.instanceMethod ({ cls := "HedgehogLots", name := "forget", desc := "(I)I" } : MethodName)) ∈ TB := tbM (i := 908) (by decide +kernel) rfl
theorem q859 : (Cond.selects "HedgehogLots" ({ cls := "HedgehogLots", name := "forget", desc := "(I)I" } : MethodName) ({ cls := "HedgehogLots", name := "forget", desc := "(I)I" } : MethodName)) ∈ TB := tbM (i := 909) (by decide +kernel) rfl
theorem q860 : (Cond.code ({ cls := "HedgehogLots", name := "forget", desc := "(I)I" } : MethodName) prog_1_method_34_code (3 : Nat) (Option.some FieldType.int)) ∈ TB := tbM (i := 910) (by decide +kernel) rfl
theorem q861 : (Cond.methodLink "HedgehogLotsLaw" (151 : Nat) ({ cls := "HedgehogLots", name := "kinds", desc := "(I)I" } : MethodName)) ∈ TB := tbM (i := 911) (by decide +kernel) rfl
theorem q862 : (Cond.instanceMethod ({ cls := "HedgehogLots", name := "kinds", desc := "(I)I" } : MethodName)) ∈ TB := tbM (i := 912) (by decide +kernel) rfl
theorem q863 : (Cond.selects "HedgehogLots" ({ cls := "HedgehogLots", name := "kinds", desc := "(I)I" } : MethodName) ({ cls := "HedgehogLots", name := "kinds", desc := "(I)I" } : MethodName)) ∈ TB := tbM (i := 913) (by decide +kernel) rfl
theorem q864 : (Cond.code ({ cls := "HedgehogLots", name := "kinds", desc := "(I)I" } : MethodName) prog_1_method_35_code (2 : Nat) (Option.some FieldType.int)) ∈ TB := tbM (i := 914) (by decide +kernel) rfl
theorem q865 : (Cond.methodLink "HedgehogLots" (298 : Nat) ({ cls := "HedgehogLots$Seen", name := "fittingKinds", desc := "(LHedgehogLots$Court;I)I" } : MethodName)) ∈ TB := tbM (i := 915) (by decide +kernel) rfl
theorem q866 : (Cond.instanceMethod ({ cls := "HedgehogLots$Seen", name := "fittingKinds", desc := "(LHedgehogLots$Court;I)I" } : MethodName)) ∈ TB := tbM (i := 916) (by decide +kernel) rfl
theorem q867 : (Cond.selects "HedgehogLots$Seen" ({ cls := "HedgehogLots$Seen", name := "fittingKinds", desc := "(LHedgehogLots$Court;I)I" } : MethodName) ({ cls := "HedgehogLots$Seen", name := "fittingKinds", desc := "(LHedgehogLots$Court;I)I" } : MethodName)) ∈ TB := tbM (i := 917) (by decide +kernel) rfl
theorem q868 : (Cond.code ({ cls := "HedgehogLots$Seen", name := "fittingKinds", desc := "(LHedgehogLots$Court;I)I" } : MethodName) prog_7_method_4_code (7 : Nat) (Option.some FieldType.int)) ∈ TB := tbM (i := 918) (by decide +kernel) rfl
theorem q869 : (Cond.methodLink "HedgehogLots$Seen" (31 : Nat) ({ cls := "HedgehogLots$Slope", name := "isHedgehog", desc := "(I)Z" } : MethodName)) ∈ TB := tbM (i := 919) (by decide +kernel) rfl
theorem q870 : (Cond.methodLink "HedgehogLots$Seen" (49 : Nat) ({ cls := "HedgehogLots$Seen", name := "holds", desc := "(LHedgehogLots$Court;)Z" } : MethodName)) ∈ TB := tbM (i := 920) (by decide +kernel) rfl
theorem q872 : (Cond.instanceMethod ({ cls := "HedgehogLots$Seen", name := "holds", desc := "(LHedgehogLots$Court;)Z" } : MethodName)) ∈ TB := tbM (i := 922) (by decide +kernel) rfl
theorem q873 : (Cond.code ({ cls := "HedgehogLots$Seen", name := "holds", desc := "(LHedgehogLots$Court;)Z" } : MethodName) prog_7_method_3_code (4 : Nat) (Option.some FieldType.boolean)) ∈ TB := tbM (i := 923) (by decide +kernel) rfl
theorem q874 : (Cond.methodLink "HedgehogLots$Seen" (37 : Nat) ({ cls := "HedgehogLots$Court", name := "letGo", desc := "(II)LHedgehogLots$Course;" } : MethodName)) ∈ TB := tbM (i := 924) (by decide +kernel) rfl
theorem q875 : (Cond.methodLink "HedgehogLotsLaw" (155 : Nat) ({ cls := "HedgehogLots", name := "speeds", desc := "(I)I" } : MethodName)) ∈ TB := tbM (i := 925) (by decide +kernel) rfl
theorem q876 : (Cond.instanceMethod ({ cls := "HedgehogLots", name := "speeds", desc := "(I)I" } : MethodName)) ∈ TB := tbM (i := 926) (by decide +kernel) rfl
theorem q877 : (Cond.selects "HedgehogLots" ({ cls := "HedgehogLots", name := "speeds", desc := "(I)I" } : MethodName) ({ cls := "HedgehogLots", name := "speeds", desc := "(I)I" } : MethodName)) ∈ TB := tbM (i := 927) (by decide +kernel) rfl
theorem q878 : (Cond.code ({ cls := "HedgehogLots", name := "speeds", desc := "(I)I" } : MethodName) prog_1_method_36_code (2 : Nat) (Option.some FieldType.int)) ∈ TB := tbM (i := 928) (by decide +kernel) rfl
theorem q879 : (Cond.methodLink "HedgehogLots" (302 : Nat) ({ cls := "HedgehogLots$Seen", name := "fittingSpeeds", desc := "(LHedgehogLots$Court;I)I" } : MethodName)) ∈ TB := tbM (i := 929) (by decide +kernel) rfl
theorem q880 : (Cond.instanceMethod ({ cls := "HedgehogLots$Seen", name := "fittingSpeeds", desc := "(LHedgehogLots$Court;I)I" } : MethodName)) ∈ TB := tbM (i := 930) (by decide +kernel) rfl
theorem q881 : (Cond.selects "HedgehogLots$Seen" ({ cls := "HedgehogLots$Seen", name := "fittingSpeeds", desc := "(LHedgehogLots$Court;I)I" } : MethodName) ({ cls := "HedgehogLots$Seen", name := "fittingSpeeds", desc := "(LHedgehogLots$Court;I)I" } : MethodName)) ∈ TB := tbM (i := 931) (by decide +kernel) rfl
theorem q882 : (Cond.code ({ cls := "HedgehogLots$Seen", name := "fittingSpeeds", desc := "(LHedgehogLots$Court;I)I" } : MethodName) prog_7_method_5_code (7 : Nat) (Option.some FieldType.int)) ∈ TB := tbM (i := 932) (by decide +kernel) rfl
theorem q883 : (Cond.methodLink "HedgehogLotsLaw" (159 : Nat) ({ cls := "HedgehogLots", name := "ask", desc := "(II)I" } : MethodName)) ∈ TB := tbM (i := 933) (by decide +kernel) rfl
theorem q884 : (Cond.instanceMethod ({ cls := "HedgehogLots", name := "ask", desc := "(II)I" } : MethodName)) ∈ TB := tbM (i := 934) (by decide +kernel) rfl
theorem q885 : (Cond.selects "HedgehogLots" ({ cls := "HedgehogLots", name := "ask", desc := "(II)I" } : MethodName) ({ cls := "HedgehogLots", name := "ask", desc := "(II)I" } : MethodName)) ∈ TB := tbM (i := 935) (by decide +kernel) rfl
theorem q886 : (Cond.code ({ cls := "HedgehogLots", name := "ask", desc := "(II)I" } : MethodName) prog_1_method_37_code (4 : Nat) (Option.some FieldType.int)) ∈ TB := tbM (i := 936) (by decide +kernel) rfl
theorem q887 : (Cond.methodLink "HedgehogLots" (305 : Nat) ({ cls := "HedgehogLots$Advice", name := "seekQuestion", desc := "(II)V" } : MethodName)) ∈ TB := tbM (i := 937) (by decide +kernel) rfl
theorem q888 : (Cond.instanceMethod ({ cls := "HedgehogLots$Advice", name := "seekQuestion", desc := "(II)V" } : MethodName)) ∈ TB := tbM (i := 938) (by decide +kernel) rfl
theorem q889 : (Cond.selects "HedgehogLots$Advice" ({ cls := "HedgehogLots$Advice", name := "seekQuestion", desc := "(II)V" } : MethodName) ({ cls := "HedgehogLots$Advice", name := "seekQuestion", desc := "(II)V" } : MethodName)) ∈ TB := tbM (i := 939) (by decide +kernel) rfl
theorem q890 : (Cond.code ({ cls := "HedgehogLots$Advice", name := "seekQuestion", desc := "(II)V" } : MethodName) prog_2_method_11_code (4 : Nat) (Option.none : Option FieldType)) ∈ TB := tbM (i := 940) (by decide +kernel) rfl
theorem q891 : (Cond.methodLink "HedgehogLots$Advice" (105 : Nat) ({ cls := "HedgehogLots$Advice", name := "leftAtWorst", desc := "(III)I" } : MethodName)) ∈ TB := tbM (i := 941) (by decide +kernel) rfl
theorem q893 : (Cond.instanceMethod ({ cls := "HedgehogLots$Advice", name := "leftAtWorst", desc := "(III)I" } : MethodName)) ∈ TB := tbM (i := 943) (by decide +kernel) rfl
theorem q894 : (Cond.code ({ cls := "HedgehogLots$Advice", name := "leftAtWorst", desc := "(III)I" } : MethodName) prog_2_method_12_code (8 : Nat) (Option.some FieldType.int)) ∈ TB := tbM (i := 944) (by decide +kernel) rfl
theorem q895 : (Cond.methodLink "HedgehogLots$Advice" (109 : Nat) ({ cls := "java/util/Arrays", name := "fill", desc := "([II)V" } : MethodName)) ∈ TB := tbM (i := 945) (by decide +kernel) rfl
theorem q896 : (Cond.methodLink "HedgehogLots$Advice" (115 : Nat) ({ cls := "HedgehogLots$Court", name := "letGoAs", desc := "(III)LHedgehogLots$Course;" } : MethodName)) ∈ TB := tbM (i := 946) (by decide +kernel) rfl
theorem q897 : (Cond.methodLink "HedgehogLots$Advice" (124 : Nat) ({ cls := "java/lang/Math", name := "max", desc := "(II)I" } : MethodName)) ∈ TB := tbM (i := 947) (by decide +kernel) rfl
theorem q898 : (Cond.methodLink "HedgehogLotsLaw" (163 : Nat) ({ cls := "HedgehogLots", name := "drift", desc := "(III)I" } : MethodName)) ∈ TB := tbM (i := 948) (by decide +kernel) rfl
theorem q899 : (Cond.instanceMethod ({ cls := "HedgehogLots", name := "drift", desc := "(III)I" } : MethodName)) ∈ TB := tbM (i := 949) (by decide +kernel) rfl
theorem q900 : (Cond.selects "HedgehogLots" ({ cls := "HedgehogLots", name := "drift", desc := "(III)I" } : MethodName) ({ cls := "HedgehogLots", name := "drift", desc := "(III)I" } : MethodName)) ∈ TB := tbM (i := 950) (by decide +kernel) rfl
theorem q901 : (Cond.code ({ cls := "HedgehogLots", name := "drift", desc := "(III)I" } : MethodName) prog_1_method_38_code (9 : Nat) (Option.some FieldType.int)) ∈ TB := tbM (i := 951) (by decide +kernel) rfl
theorem q902 : (Cond.constant "HedgehogLots" (308 : Nat) (1103515245 : Int32)) ∈ TB := tbM (i := 952) (by decide +kernel) rfl
theorem q903 : (Cond.methodLink "HedgehogLots" (309 : Nat) ({ cls := "HedgehogLots", name := "driftOnce", desc := "(I)I" } : MethodName)) ∈ TB := tbM (i := 953) (by decide +kernel) rfl
theorem q905 : (Cond.instanceMethod ({ cls := "HedgehogLots", name := "driftOnce", desc := "(I)I" } : MethodName)) ∈ TB := tbM (i := 955) (by decide +kernel) rfl
theorem q906 : (Cond.code ({ cls := "HedgehogLots", name := "driftOnce", desc := "(I)I" } : MethodName) prog_1_method_39_code (4 : Nat) (Option.some FieldType.int)) ∈ TB := tbM (i := 956) (by decide +kernel) rfl
theorem q907 : (Cond.methodLink "HedgehogLotsLaw" (167 : Nat) ({ cls := "HedgehogLots", name := "keep", desc := "(I)I" } : MethodName)) ∈ TB := tbM (i := 957) (by decide +kernel) rfl
theorem q908 : (Cond.instanceMethod ({ cls := "HedgehogLots", name := "keep", desc := "(I)I" } : MethodName)) ∈ TB := tbM (i := 958) (by decide +kernel) rfl
theorem q909 : (Cond.selects "HedgehogLots" ({ cls := "HedgehogLots", name := "keep", desc := "(I)I" } : MethodName) ({ cls := "HedgehogLots", name := "keep", desc := "(I)I" } : MethodName)) ∈ TB := tbM (i := 959) (by decide +kernel) rfl
theorem q910 : (Cond.code ({ cls := "HedgehogLots", name := "keep", desc := "(I)I" } : MethodName) prog_1_method_40_code (3 : Nat) (Option.some FieldType.int)) ∈ TB := tbM (i := 960) (by decide +kernel) rfl
theorem q911 : (Cond.methodLink "HedgehogLots" (312 : Nat) ({ cls := "HedgehogLots", name := "isImage", desc := "(I)Z" } : MethodName)) ∈ TB := tbM (i := 961) (by decide +kernel) rfl
theorem q912 : (Cond.static ({ cls := "HedgehogLots", name := "isImage", desc := "(I)Z" } : MethodName)) ∈ TB := tbM (i := 962) (by decide +kernel) rfl
theorem q913 : (Cond.code ({ cls := "HedgehogLots", name := "isImage", desc := "(I)Z" } : MethodName) prog_1_method_52_code (1 : Nat) (Option.some FieldType.boolean)) ∈ TB := tbM (i := 963) (by decide +kernel) rfl
theorem q914 : (Cond.methodLink "HedgehogLotsLaw" (171 : Nat) ({ cls := "HedgehogLots", name := "back", desc := "(I)I" } : MethodName)) ∈ TB := tbM (i := 964) (by decide +kernel) rfl
theorem q915 : (Cond.instanceMethod ({ cls := "HedgehogLots", name := "back", desc := "(I)I" } : MethodName)) ∈ TB := tbM (i := 965) (by decide +kernel) rfl
theorem q916 : (Cond.selects "HedgehogLots" ({ cls := "HedgehogLots", name := "back", desc := "(I)I" } : MethodName) ({ cls := "HedgehogLots", name := "back", desc := "(I)I" } : MethodName)) ∈ TB := tbM (i := 966) (by decide +kernel) rfl
theorem q917 : (Cond.code ({ cls := "HedgehogLots", name := "back", desc := "(I)I" } : MethodName) prog_1_method_41_code (2 : Nat) (Option.some FieldType.int)) ∈ TB := tbM (i := 967) (by decide +kernel) rfl
theorem q918 : (Cond.methodLink "HedgehogLotsLaw" (175 : Nat) ({ cls := "HedgehogLots", name := "sheet", desc := "(III)I" } : MethodName)) ∈ TB := tbM (i := 968) (by decide +kernel) rfl
theorem q919 : (Cond.instanceMethod ({ cls := "HedgehogLots", name := "sheet", desc := "(III)I" } : MethodName)) ∈ TB := tbM (i := 969) (by decide +kernel) rfl
theorem q920 : (Cond.selects "HedgehogLots" ({ cls := "HedgehogLots", name := "sheet", desc := "(III)I" } : MethodName) ({ cls := "HedgehogLots", name := "sheet", desc := "(III)I" } : MethodName)) ∈ TB := tbM (i := 970) (by decide +kernel) rfl
theorem q921 : (Cond.code ({ cls := "HedgehogLots", name := "sheet", desc := "(III)I" } : MethodName) prog_1_method_42_code (4 : Nat) (Option.some FieldType.int)) ∈ TB := tbM (i := 971) (by decide +kernel) rfl
theorem q922 : (Cond.methodLink "HedgehogLots" (315 : Nat) ({ cls := "HedgehogLots", name := "isSheet", desc := "(I)Z" } : MethodName)) ∈ TB := tbM (i := 972) (by decide +kernel) rfl
theorem q923 : (Cond.static ({ cls := "HedgehogLots", name := "isSheet", desc := "(I)Z" } : MethodName)) ∈ TB := tbM (i := 973) (by decide +kernel) rfl
theorem q924 : (Cond.code ({ cls := "HedgehogLots", name := "isSheet", desc := "(I)Z" } : MethodName) prog_1_method_53_code (1 : Nat) (Option.some FieldType.boolean)) ∈ TB := tbM (i := 974) (by decide +kernel) rfl
theorem q925 : (Cond.methodLink "HedgehogLots" (318 : Nat) ({ cls := "HedgehogLots", name := "isLane", desc := "(I)Z" } : MethodName)) ∈ TB := tbM (i := 975) (by decide +kernel) rfl
theorem q926 : (Cond.static ({ cls := "HedgehogLots", name := "isLane", desc := "(I)Z" } : MethodName)) ∈ TB := tbM (i := 976) (by decide +kernel) rfl
theorem q927 : (Cond.code ({ cls := "HedgehogLots", name := "isLane", desc := "(I)Z" } : MethodName) prog_1_method_54_code (1 : Nat) (Option.some FieldType.boolean)) ∈ TB := tbM (i := 977) (by decide +kernel) rfl
theorem q928 : (Cond.methodLink "HedgehogLots" (321 : Nat) ({ cls := "HedgehogLots$Sheet", name := "renew", desc := "(II)V" } : MethodName)) ∈ TB := tbM (i := 978) (by decide +kernel) rfl
theorem q929 : (Cond.instanceMethod ({ cls := "HedgehogLots$Sheet", name := "renew", desc := "(II)V" } : MethodName)) ∈ TB := tbM (i := 979) (by decide +kernel) rfl
theorem q930 : (Cond.selects "HedgehogLots$Sheet" ({ cls := "HedgehogLots$Sheet", name := "renew", desc := "(II)V" } : MethodName) ({ cls := "HedgehogLots$Sheet", name := "renew", desc := "(II)V" } : MethodName)) ∈ TB := tbM (i := 980) (by decide +kernel) rfl
theorem q931 : (Cond.code ({ cls := "HedgehogLots$Sheet", name := "renew", desc := "(II)V" } : MethodName) prog_8_method_2_code (3 : Nat) (Option.none : Option FieldType)) ∈ TB := tbM (i := 981) (by decide +kernel) rfl
theorem q932 : (Cond.methodLink "HedgehogLots$Sheet" (22 : Nat) ({ cls := "java/lang/Math", name := "min", desc := "(II)I" } : MethodName)) ∈ TB := tbM (i := 982) (by decide +kernel) rfl
theorem q933 : (Cond.methodLink "HedgehogLots$Sheet" (28 : Nat) ({ cls := "java/lang/Math", name := "max", desc := "(II)I" } : MethodName)) ∈ TB := tbM (i := 983) (by decide +kernel) rfl
theorem q934 : (Cond.methodLink "HedgehogLots$Sheet" (31 : Nat) ({ cls := "java/util/Arrays", name := "fill", desc := "([II)V" } : MethodName)) ∈ TB := tbM (i := 984) (by decide +kernel) rfl
theorem q935 : (Cond.methodLink "HedgehogLotsLaw" (179 : Nat) ({ cls := "HedgehogLots", name := "write", desc := "(III)I" } : MethodName)) ∈ TB := tbM (i := 985) (by decide +kernel) rfl
theorem q936 : (Cond.instanceMethod ({ cls := "HedgehogLots", name := "write", desc := "(III)I" } : MethodName)) ∈ TB := tbM (i := 986) (by decide +kernel) rfl
theorem q937 : (Cond.selects "HedgehogLots" ({ cls := "HedgehogLots", name := "write", desc := "(III)I" } : MethodName) ({ cls := "HedgehogLots", name := "write", desc := "(III)I" } : MethodName)) ∈ TB := tbM (i := 987) (by decide +kernel) rfl
theorem q938 : (Cond.code ({ cls := "HedgehogLots", name := "write", desc := "(III)I" } : MethodName) prog_1_method_43_code (6 : Nat) (Option.some FieldType.int)) ∈ TB := tbM (i := 988) (by decide +kernel) rfl
theorem q939 : (Cond.methodLink "HedgehogLots" (327 : Nat) ({ cls := "HedgehogLots$Sheet", name := "refusal", desc := "(II)I" } : MethodName)) ∈ TB := tbM (i := 989) (by decide +kernel) rfl
theorem q940 : (Cond.instanceMethod ({ cls := "HedgehogLots$Sheet", name := "refusal", desc := "(II)I" } : MethodName)) ∈ TB := tbM (i := 990) (by decide +kernel) rfl
theorem q941 : (Cond.selects "HedgehogLots$Sheet" ({ cls := "HedgehogLots$Sheet", name := "refusal", desc := "(II)I" } : MethodName) ({ cls := "HedgehogLots$Sheet", name := "refusal", desc := "(II)I" } : MethodName)) ∈ TB := tbM (i := 991) (by decide +kernel) rfl
theorem q942 : (Cond.code ({ cls := "HedgehogLots$Sheet", name := "refusal", desc := "(II)I" } : MethodName) prog_8_method_3_code (3 : Nat) (Option.some FieldType.int)) ∈ TB := tbM (i := 992) (by decide +kernel) rfl
theorem q943 : (Cond.methodLink "HedgehogLots" (330 : Nat) ({ cls := "HedgehogLots$Sheet", name := "store", desc := "(II)V" } : MethodName)) ∈ TB := tbM (i := 993) (by decide +kernel) rfl
theorem q944 : (Cond.instanceMethod ({ cls := "HedgehogLots$Sheet", name := "store", desc := "(II)V" } : MethodName)) ∈ TB := tbM (i := 994) (by decide +kernel) rfl
theorem q945 : (Cond.selects "HedgehogLots$Sheet" ({ cls := "HedgehogLots$Sheet", name := "store", desc := "(II)V" } : MethodName) ({ cls := "HedgehogLots$Sheet", name := "store", desc := "(II)V" } : MethodName)) ∈ TB := tbM (i := 995) (by decide +kernel) rfl
theorem q946 : (Cond.code ({ cls := "HedgehogLots$Sheet", name := "store", desc := "(II)V" } : MethodName) prog_8_method_5_code (3 : Nat) (Option.none : Option FieldType)) ∈ TB := tbM (i := 996) (by decide +kernel) rfl
theorem q947 : (Cond.methodLink "HedgehogLotsLaw" (183 : Nat) ({ cls := "HedgehogLots", name := "read", desc := "(IIII)I" } : MethodName)) ∈ TB := tbM (i := 997) (by decide +kernel) rfl
theorem q948 : (Cond.instanceMethod ({ cls := "HedgehogLots", name := "read", desc := "(IIII)I" } : MethodName)) ∈ TB := tbM (i := 998) (by decide +kernel) rfl
theorem q949 : (Cond.selects "HedgehogLots" ({ cls := "HedgehogLots", name := "read", desc := "(IIII)I" } : MethodName) ({ cls := "HedgehogLots", name := "read", desc := "(IIII)I" } : MethodName)) ∈ TB := tbM (i := 999) (by decide +kernel) rfl
theorem q950 : (Cond.code ({ cls := "HedgehogLots", name := "read", desc := "(IIII)I" } : MethodName) prog_1_method_44_code (11 : Nat) (Option.some FieldType.int)) ∈ TB := tbM (i := 1000) (by decide +kernel) rfl
theorem q951 : (Cond.methodLink "HedgehogLots" (333 : Nat) ({ cls := "HedgehogLots$Sheet", name := "refusalOfTwo", desc := "(II)I" } : MethodName)) ∈ TB := tbM (i := 1001) (by decide +kernel) rfl
theorem q952 : (Cond.instanceMethod ({ cls := "HedgehogLots$Sheet", name := "refusalOfTwo", desc := "(II)I" } : MethodName)) ∈ TB := tbM (i := 1002) (by decide +kernel) rfl
theorem q953 : (Cond.selects "HedgehogLots$Sheet" ({ cls := "HedgehogLots$Sheet", name := "refusalOfTwo", desc := "(II)I" } : MethodName) ({ cls := "HedgehogLots$Sheet", name := "refusalOfTwo", desc := "(II)I" } : MethodName)) ∈ TB := tbM (i := 1003) (by decide +kernel) rfl
theorem q954 : (Cond.code ({ cls := "HedgehogLots$Sheet", name := "refusalOfTwo", desc := "(II)I" } : MethodName) prog_8_method_4_code (4 : Nat) (Option.some FieldType.int)) ∈ TB := tbM (i := 1004) (by decide +kernel) rfl
theorem q955 : (Cond.methodLink "HedgehogLots$Sheet" (37 : Nat) ({ cls := "HedgehogLots$Sheet", name := "refusal", desc := "(II)I" } : MethodName)) ∈ TB := tbM (i := 1005) (by decide +kernel) rfl
theorem q956 : (Cond.methodLink "HedgehogLots" (336 : Nat) ({ cls := "HedgehogLots$Sheet", name := "stored", desc := "(I)I" } : MethodName)) ∈ TB := tbM (i := 1006) (by decide +kernel) rfl
theorem q957 : (Cond.instanceMethod ({ cls := "HedgehogLots$Sheet", name := "stored", desc := "(I)I" } : MethodName)) ∈ TB := tbM (i := 1007) (by decide +kernel) rfl
theorem q958 : (Cond.selects "HedgehogLots$Sheet" ({ cls := "HedgehogLots$Sheet", name := "stored", desc := "(I)I" } : MethodName) ({ cls := "HedgehogLots$Sheet", name := "stored", desc := "(I)I" } : MethodName)) ∈ TB := tbM (i := 1008) (by decide +kernel) rfl
theorem q959 : (Cond.code ({ cls := "HedgehogLots$Sheet", name := "stored", desc := "(I)I" } : MethodName) prog_8_method_6_code (2 : Nat) (Option.some FieldType.int)) ∈ TB := tbM (i := 1009) (by decide +kernel) rfl
theorem q960 : (Cond.methodLink "HedgehogLots" (339 : Nat) ({ cls := "HedgehogLots$Slope", name := "cutPegs", desc := "(I)V" } : MethodName)) ∈ TB := tbM (i := 1010) (by decide +kernel) rfl
theorem q961 : (Cond.methodLink "HedgehogLotsLaw" (188 : Nat) ({ cls := "HedgehogLots", name := "torn", desc := "()I" } : MethodName)) ∈ TB := tbM (i := 1011) (by decide +kernel) rfl
theorem q962 : (Cond.instanceMethod ({ cls := "HedgehogLots", name := "torn", desc := "()I" } : MethodName)) ∈ TB := tbM (i := 1012) (by decide +kernel) rfl
theorem q963 : (Cond.selects "HedgehogLots" ({ cls := "HedgehogLots", name := "torn", desc := "()I" } : MethodName) ({ cls := "HedgehogLots", name := "torn", desc := "()I" } : MethodName)) ∈ TB := tbM (i := 1013) (by decide +kernel) rfl
theorem q964 : (Cond.code ({ cls := "HedgehogLots", name := "torn", desc := "()I" } : MethodName) prog_1_method_45_code (1 : Nat) (Option.some FieldType.int)) ∈ TB := tbM (i := 1014) (by decide +kernel) rfl
theorem q965 : (Cond.methodLink "HedgehogLotsLaw" (192 : Nat) ({ cls := "HedgehogLots", name := "count", desc := "(I)I" } : MethodName)) ∈ TB := tbM (i := 1015) (by decide +kernel) rfl
theorem q966 : (Cond.instanceMethod ({ cls := "HedgehogLots", name := "count", desc := "(I)I" } : MethodName)) ∈ TB := tbM (i := 1016) (by decide +kernel) rfl
theorem q967 : (Cond.selects "HedgehogLots" ({ cls := "HedgehogLots", name := "count", desc := "(I)I" } : MethodName) ({ cls := "HedgehogLots", name := "count", desc := "(I)I" } : MethodName)) ∈ TB := tbM (i := 1017) (by decide +kernel) rfl
theorem q968 : (Cond.code ({ cls := "HedgehogLots", name := "count", desc := "(I)I" } : MethodName) prog_1_method_46_code (2 : Nat) (Option.some FieldType.int)) ∈ TB := tbM (i := 1018) (by decide +kernel) rfl
theorem q969 : (Cond.methodLink "HedgehogLots" (342 : Nat) ({ cls := "HedgehogLots", name := "keptImages", desc := "()I" } : MethodName)) ∈ TB := tbM (i := 1019) (by decide +kernel) rfl
theorem q971 : (Cond.instanceMethod ({ cls := "HedgehogLots", name := "keptImages", desc := "()I" } : MethodName)) ∈ TB := tbM (i := 1021) (by decide +kernel) rfl
theorem q972 : (Cond.code ({ cls := "HedgehogLots", name := "keptImages", desc := "()I" } : MethodName) prog_1_method_47_code (3 : Nat) (Option.some FieldType.int)) ∈ TB := tbM (i := 1022) (by decide +kernel) rfl
theorem q973 : (Cond.methodLink "HedgehogLots" (346 : Nat) ({ cls := "HedgehogLots$Slope", name := "pegsOfRag", desc := "(I)I" } : MethodName)) ∈ TB := tbM (i := 1023) (by decide +kernel) rfl
theorem q974 : (Cond.instanceMethod ({ cls := "HedgehogLots$Slope", name := "pegsOfRag", desc := "(I)I" } : MethodName)) ∈ TB := tbM (i := 1024) (by decide +kernel) rfl
theorem q975 : (Cond.selects "HedgehogLots$Slope" ({ cls := "HedgehogLots$Slope", name := "pegsOfRag", desc := "(I)I" } : MethodName) ({ cls := "HedgehogLots$Slope", name := "pegsOfRag", desc := "(I)I" } : MethodName)) ∈ TB := tbM (i := 1025) (by decide +kernel) rfl
theorem q976 : (Cond.code ({ cls := "HedgehogLots$Slope", name := "pegsOfRag", desc := "(I)I" } : MethodName) prog_9_method_23_code (4 : Nat) (Option.some FieldType.int)) ∈ TB := tbM (i := 1026) (by decide +kernel) rfl
theorem q977 : (Cond.methodLink "HedgehogLots" (349 : Nat) ({ cls := "HedgehogLots$Slope", name := "speedOfAll", desc := "()I" } : MethodName)) ∈ TB := tbM (i := 1027) (by decide +kernel) rfl
theorem q978 : (Cond.instanceMethod ({ cls := "HedgehogLots$Slope", name := "speedOfAll", desc := "()I" } : MethodName)) ∈ TB := tbM (i := 1028) (by decide +kernel) rfl
theorem q979 : (Cond.selects "HedgehogLots$Slope" ({ cls := "HedgehogLots$Slope", name := "speedOfAll", desc := "()I" } : MethodName) ({ cls := "HedgehogLots$Slope", name := "speedOfAll", desc := "()I" } : MethodName)) ∈ TB := tbM (i := 1029) (by decide +kernel) rfl
theorem q980 : (Cond.code ({ cls := "HedgehogLots$Slope", name := "speedOfAll", desc := "()I" } : MethodName) prog_9_method_24_code (3 : Nat) (Option.some FieldType.int)) ∈ TB := tbM (i := 1030) (by decide +kernel) rfl
theorem q981 : (Cond.classLink "HedgehogLotsLaw" (10 : Nat) "HedgehogLotsModel") ∈ TB := tbM (i := 1031) (by decide +kernel) rfl
theorem q982 : (Cond.instantiable "HedgehogLotsModel" (29 : Nat)) ∈ TB := tbM (i := 1032) (by decide +kernel) rfl
theorem q983 : (Cond.methodLink "HedgehogLotsLaw" (12 : Nat) ({ cls := "HedgehogLotsModel", name := "<init>", desc := "()V" } : MethodName)) ∈ TB := tbM (i := 1033) (by decide +kernel) rfl
theorem q984 : (Cond.instanceMethod ({ cls := "HedgehogLotsModel", name := "<init>", desc := "()V" } : MethodName)) ∈ TB := tbM (i := 1034) (by decide +kernel) rfl
theorem q985 : (Cond.code ({ cls := "HedgehogLotsModel", name := "<init>", desc := "()V" } : MethodName) prog_12_method_1_code (1 : Nat) (Option.none : Option FieldType)) ∈ TB := tbM (i := 1035) (by decide +kernel) rfl
theorem q986 : (Cond.methodLink "HedgehogLotsModel" (1 : Nat) ({ cls := "java/lang/Object", name := "<init>", desc := "()V" } : MethodName)) ∈ TB := tbM (i := 1036) (by decide +kernel) rfl
theorem q987 : (Cond.fieldLink "HedgehogLotsModel" (7 : Nat) "HedgehogLotsModel" "state" "[I") ∈ TB := tbM (i := 1037) (by decide +kernel) rfl
theorem q988 : (Cond.fieldLink "HedgehogLotsModel" (129 : Nat) "HedgehogLotsModel" "hogMany" "I") ∈ TB := tbM (i := 1038) (by decide +kernel) rfl
theorem q989 : (Cond.fieldLink "HedgehogLotsModel" (13 : Nat) "HedgehogLotsModel" "readPage" "[I") ∈ TB := tbM (i := 1039) (by decide +kernel) rfl
theorem q990 : (Cond.fieldLink "HedgehogLotsModel" (102 : Nat) "HedgehogLotsModel" "readHogs" "I") ∈ TB := tbM (i := 1040) (by decide +kernel) rfl
theorem q991 : (Cond.fieldLink "HedgehogLotsModel" (109 : Nat) "HedgehogLotsModel" "high" "I") ∈ TB := tbM (i := 1041) (by decide +kernel) rfl
theorem q992 : (Cond.fieldLink "HedgehogLotsModel" (16 : Nat) "HedgehogLotsModel" "tape" "[I") ∈ TB := tbM (i := 1042) (by decide +kernel) rfl
theorem q993 : (Cond.fieldLink "HedgehogLotsModel" (53 : Nat) "HedgehogLotsModel" "taped" "I") ∈ TB := tbM (i := 1043) (by decide +kernel) rfl
theorem q994 : (Cond.fieldLink "HedgehogLotsModel" (126 : Nat) "HedgehogLotsModel" "fault" "I") ∈ TB := tbM (i := 1044) (by decide +kernel) rfl
theorem q995 : (Cond.fieldLink "HedgehogLotsModel" (57 : Nat) "HedgehogLotsModel" "broken" "I") ∈ TB := tbM (i := 1045) (by decide +kernel) rfl
theorem q996 : (Cond.fieldLink "HedgehogLotsModel" (63 : Nat) "HedgehogLotsModel" "brokenAt" "I") ∈ TB := tbM (i := 1046) (by decide +kernel) rfl
theorem q997 : (Cond.fieldLink "HedgehogLotsModel" (69 : Nat) "HedgehogLotsModel" "spot" "I") ∈ TB := tbM (i := 1047) (by decide +kernel) rfl
theorem q998 : (Cond.fieldLink "HedgehogLotsModel" (60 : Nat) "HedgehogLotsModel" "here" "I") ∈ TB := tbM (i := 1048) (by decide +kernel) rfl
theorem q999 : (Cond.fieldLink "HedgehogLotsModel" (66 : Nat) "HedgehogLotsModel" "token" "I") ∈ TB := tbM (i := 1049) (by decide +kernel) rfl
theorem q1000 : (Cond.fieldLink "HedgehogLotsModel" (76 : Nat) "HedgehogLotsModel" "value" "I") ∈ TB := tbM (i := 1050) (by decide +kernel) rfl
theorem q1001 : (Cond.fieldLink "HedgehogLotsModel" (19 : Nat) "HedgehogLotsModel" "cuts" "[I") ∈ TB := tbM (i := 1051) (by decide +kernel) rfl
theorem q1002 : (Cond.fieldLink "HedgehogLotsModel" (22 : Nat) "HedgehogLotsModel" "letters" "[I") ∈ TB := tbM (i := 1052) (by decide +kernel) rfl
theorem q1003 : (Cond.fieldLink "HedgehogLotsModel" (145 : Nat) "HedgehogLotsModel" "rested" "I") ∈ TB := tbM (i := 1053) (by decide +kernel) rfl
theorem q1004 : (Cond.fieldLink "HedgehogLotsModel" (148 : Nat) "HedgehogLotsModel" "ended" "I") ∈ TB := tbM (i := 1054) (by decide +kernel) rfl
theorem q1005 : (Cond.fieldLink "HedgehogLotsModel" (151 : Nat) "HedgehogLotsModel" "met" "I") ∈ TB := tbM (i := 1055) (by decide +kernel) rfl
theorem q1006 : (Cond.fieldLink "HedgehogLotsModel" (154 : Nat) "HedgehogLotsModel" "isOpen" "Z") ∈ TB := tbM (i := 1056) (by decide +kernel) rfl
theorem q1007 : (Cond.fieldLink "HedgehogLotsModel" (25 : Nat) "HedgehogLotsModel" "columns" "[I") ∈ TB := tbM (i := 1057) (by decide +kernel) rfl
theorem q1008 : (Cond.fieldLink "HedgehogLotsModel" (28 : Nat) "HedgehogLotsModel" "seen" "[I") ∈ TB := tbM (i := 1058) (by decide +kernel) rfl
theorem q1009 : (Cond.fieldLink "HedgehogLotsModel" (132 : Nat) "HedgehogLotsModel" "seenMany" "I") ∈ TB := tbM (i := 1059) (by decide +kernel) rfl
theorem q1010 : (Cond.fieldLink "HedgehogLotsModel" (31 : Nat) "HedgehogLotsModel" "restBy" "[I") ∈ TB := tbM (i := 1060) (by decide +kernel) rfl
theorem q1011 : (Cond.fieldLink "HedgehogLotsModel" (34 : Nat) "HedgehogLotsModel" "isKept" "[Z") ∈ TB := tbM (i := 1061) (by decide +kernel) rfl
theorem q1012 : (Cond.fieldLink "HedgehogLotsModel" (38 : Nat) "HedgehogLotsModel" "lanes" "[I") ∈ TB := tbM (i := 1062) (by decide +kernel) rfl
theorem q1013 : (Cond.fieldLink "HedgehogLotsModel" (41 : Nat) "HedgehogLotsModel" "lengths" "[I") ∈ TB := tbM (i := 1063) (by decide +kernel) rfl
theorem q1014 : (Cond.fieldLink "HedgehogLotsModel" (44 : Nat) "HedgehogLotsModel" "cells" "[I") ∈ TB := tbM (i := 1064) (by decide +kernel) rfl
theorem q1015 : (Cond.fieldLink "HedgehogLotsModel" (249 : Nat) "HedgehogLotsModel" "torn" "I") ∈ TB := tbM (i := 1065) (by decide +kernel) rfl
theorem q1016 : (Cond.laysFinal "HedgehogLotsModel" "HedgehogLotsModel" "state" "[I") ∈ TB := tbM (i := 1066) (by decide +kernel) rfl
theorem q1018 : (Cond.lays "HedgehogLotsModel" "HedgehogLotsModel" "hogMany" "I") ∈ TB := tbM (i := 1068) (by decide +kernel) rfl
theorem q1020 : (Cond.laysFinal "HedgehogLotsModel" "HedgehogLotsModel" "readPage" "[I") ∈ TB := tbM (i := 1070) (by decide +kernel) rfl
theorem q1022 : (Cond.lays "HedgehogLotsModel" "HedgehogLotsModel" "readHogs" "I") ∈ TB := tbM (i := 1072) (by decide +kernel) rfl
theorem q1024 : (Cond.lays "HedgehogLotsModel" "HedgehogLotsModel" "high" "I") ∈ TB := tbM (i := 1074) (by decide +kernel) rfl
theorem q1026 : (Cond.laysFinal "HedgehogLotsModel" "HedgehogLotsModel" "tape" "[I") ∈ TB := tbM (i := 1076) (by decide +kernel) rfl
theorem q1028 : (Cond.lays "HedgehogLotsModel" "HedgehogLotsModel" "taped" "I") ∈ TB := tbM (i := 1078) (by decide +kernel) rfl
theorem q1030 : (Cond.lays "HedgehogLotsModel" "HedgehogLotsModel" "fault" "I") ∈ TB := tbM (i := 1080) (by decide +kernel) rfl
theorem q1032 : (Cond.lays "HedgehogLotsModel" "HedgehogLotsModel" "broken" "I") ∈ TB := tbM (i := 1082) (by decide +kernel) rfl
theorem q1034 : (Cond.lays "HedgehogLotsModel" "HedgehogLotsModel" "brokenAt" "I") ∈ TB := tbM (i := 1084) (by decide +kernel) rfl
theorem q1036 : (Cond.lays "HedgehogLotsModel" "HedgehogLotsModel" "spot" "I") ∈ TB := tbM (i := 1086) (by decide +kernel) rfl
theorem q1038 : (Cond.lays "HedgehogLotsModel" "HedgehogLotsModel" "here" "I") ∈ TB := tbM (i := 1088) (by decide +kernel) rfl
theorem q1040 : (Cond.lays "HedgehogLotsModel" "HedgehogLotsModel" "token" "I") ∈ TB := tbM (i := 1090) (by decide +kernel) rfl
theorem q1042 : (Cond.lays "HedgehogLotsModel" "HedgehogLotsModel" "value" "I") ∈ TB := tbM (i := 1092) (by decide +kernel) rfl
theorem q1044 : (Cond.laysFinal "HedgehogLotsModel" "HedgehogLotsModel" "cuts" "[I") ∈ TB := tbM (i := 1094) (by decide +kernel) rfl
theorem q1046 : (Cond.laysFinal "HedgehogLotsModel" "HedgehogLotsModel" "letters" "[I") ∈ TB := tbM (i := 1096) (by decide +kernel) rfl
theorem q1048 : (Cond.lays "HedgehogLotsModel" "HedgehogLotsModel" "rested" "I") ∈ TB := tbM (i := 1098) (by decide +kernel) rfl
theorem q1050 : (Cond.lays "HedgehogLotsModel" "HedgehogLotsModel" "ended" "I") ∈ TB := tbM (i := 1100) (by decide +kernel) rfl
theorem q1052 : (Cond.lays "HedgehogLotsModel" "HedgehogLotsModel" "met" "I") ∈ TB := tbM (i := 1102) (by decide +kernel) rfl
theorem q1054 : (Cond.lays "HedgehogLotsModel" "HedgehogLotsModel" "isOpen" "Z") ∈ TB := tbM (i := 1104) (by decide +kernel) rfl
theorem q1056 : (Cond.laysFinal "HedgehogLotsModel" "HedgehogLotsModel" "columns" "[I") ∈ TB := tbM (i := 1106) (by decide +kernel) rfl
theorem q1058 : (Cond.laysFinal "HedgehogLotsModel" "HedgehogLotsModel" "seen" "[I") ∈ TB := tbM (i := 1108) (by decide +kernel) rfl
theorem q1060 : (Cond.lays "HedgehogLotsModel" "HedgehogLotsModel" "seenMany" "I") ∈ TB := tbM (i := 1110) (by decide +kernel) rfl
theorem q1062 : (Cond.laysFinal "HedgehogLotsModel" "HedgehogLotsModel" "restBy" "[I") ∈ TB := tbM (i := 1112) (by decide +kernel) rfl
theorem q1064 : (Cond.laysFinal "HedgehogLotsModel" "HedgehogLotsModel" "isKept" "[Z") ∈ TB := tbM (i := 1114) (by decide +kernel) rfl
theorem q1066 : (Cond.laysFinal "HedgehogLotsModel" "HedgehogLotsModel" "lanes" "[I") ∈ TB := tbM (i := 1116) (by decide +kernel) rfl
theorem q1068 : (Cond.laysFinal "HedgehogLotsModel" "HedgehogLotsModel" "lengths" "[I") ∈ TB := tbM (i := 1118) (by decide +kernel) rfl
theorem q1070 : (Cond.laysFinal "HedgehogLotsModel" "HedgehogLotsModel" "cells" "[I") ∈ TB := tbM (i := 1120) (by decide +kernel) rfl
theorem q1072 : (Cond.lays "HedgehogLotsModel" "HedgehogLotsModel" "torn" "I") ∈ TB := tbM (i := 1122) (by decide +kernel) rfl
theorem q1075 : (Cond.methodLink "HedgehogLotsLaw" (17 : Nat) ({ cls := "HedgehogLotsModel", name := "feed", desc := "(I)I" } : MethodName)) ∈ TB := tbM (i := 1125) (by decide +kernel) rfl
theorem q1076 : (Cond.instanceMethod ({ cls := "HedgehogLotsModel", name := "feed", desc := "(I)I" } : MethodName)) ∈ TB := tbM (i := 1126) (by decide +kernel) rfl
theorem q1077 : (Cond.selects "HedgehogLotsModel" ({ cls := "HedgehogLotsModel", name := "feed", desc := "(I)I" } : MethodName) ({ cls := "HedgehogLotsModel", name := "feed", desc := "(I)I" } : MethodName)) ∈ TB := tbM (i := 1127) (by decide +kernel) rfl
theorem q1078 : (Cond.code ({ cls := "HedgehogLotsModel", name := "feed", desc := "(I)I" } : MethodName) prog_12_method_4_code (2 : Nat) (Option.some FieldType.int)) ∈ TB := tbM (i := 1128) (by decide +kernel) rfl
theorem q1079 : (Cond.constantLong "HedgehogLotsModel" (47 : Nat) (127 : Int64)) ∈ TB := tbM (i := 1129) (by decide +kernel) rfl
theorem q1080 : (Cond.methodLink "HedgehogLotsModel" (49 : Nat) ({ cls := "HedgehogLotsModel", name := "in", desc := "(JJJ)Z" } : MethodName)) ∈ TB := tbM (i := 1130) (by decide +kernel) rfl
theorem q1081 : (Cond.static ({ cls := "HedgehogLotsModel", name := "in", desc := "(JJJ)Z" } : MethodName)) ∈ TB := tbM (i := 1131) (by decide +kernel) rfl
theorem q1082 : (Cond.code ({ cls := "HedgehogLotsModel", name := "in", desc := "(JJJ)Z" } : MethodName) prog_12_method_3_code (6 : Nat) (Option.some FieldType.boolean)) ∈ TB := tbM (i := 1132) (by decide +kernel) rfl
theorem q1083 : (Cond.methodLink "HedgehogLotsLaw" (21 : Nat) ({ cls := "HedgehogLotsModel", name := "end", desc := "(I)I" } : MethodName)) ∈ TB := tbM (i := 1133) (by decide +kernel) rfl
theorem q1084 : (Cond.instanceMethod ({ cls := "HedgehogLotsModel", name := "end", desc := "(I)I" } : MethodName)) ∈ TB := tbM (i := 1134) (by decide +kernel) rfl
theorem q1085 : (Cond.selects "HedgehogLotsModel" ({ cls := "HedgehogLotsModel", name := "end", desc := "(I)I" } : MethodName) ({ cls := "HedgehogLotsModel", name := "end", desc := "(I)I" } : MethodName)) ∈ TB := tbM (i := 1135) (by decide +kernel) rfl
theorem q1086 : (Cond.code ({ cls := "HedgehogLotsModel", name := "end", desc := "(I)I" } : MethodName) prog_12_method_5_code (3 : Nat) (Option.some FieldType.int)) ∈ TB := tbM (i := 1136) (by decide +kernel) rfl
theorem q1087 : (Cond.methodLink "HedgehogLotsLaw" (26 : Nat) ({ cls := "HedgehogLotsModel", name := "text", desc := "()I" } : MethodName)) ∈ TB := tbM (i := 1137) (by decide +kernel) rfl
theorem q1088 : (Cond.instanceMethod ({ cls := "HedgehogLotsModel", name := "text", desc := "()I" } : MethodName)) ∈ TB := tbM (i := 1138) (by decide +kernel) rfl
theorem q1089 : (Cond.selects "HedgehogLotsModel" ({ cls := "HedgehogLotsModel", name := "text", desc := "()I" } : MethodName) ({ cls := "HedgehogLotsModel", name := "text", desc := "()I" } : MethodName)) ∈ TB := tbM (i := 1139) (by decide +kernel) rfl
theorem q1090 : (Cond.code ({ cls := "HedgehogLotsModel", name := "text", desc := "()I" } : MethodName) prog_12_method_16_code (3 : Nat) (Option.some FieldType.int)) ∈ TB := tbM (i := 1140) (by decide +kernel) rfl
theorem q1091 : (Cond.methodLink "HedgehogLotsModel" (91 : Nat) ({ cls := "HedgehogLotsModel", name := "step", desc := "()V" } : MethodName)) ∈ TB := tbM (i := 1141) (by decide +kernel) rfl
theorem q1093 : (Cond.instanceMethod ({ cls := "HedgehogLotsModel", name := "step", desc := "()V" } : MethodName)) ∈ TB := tbM (i := 1143) (by decide +kernel) rfl
theorem q1094 : (Cond.code ({ cls := "HedgehogLotsModel", name := "step", desc := "()V" } : MethodName) prog_12_method_9_code (2 : Nat) (Option.none : Option FieldType)) ∈ TB := tbM (i := 1144) (by decide +kernel) rfl
theorem q1095 : (Cond.methodLink "HedgehogLotsModel" (72 : Nat) ({ cls := "HedgehogLotsModel", name := "byteAt", desc := "(I)I" } : MethodName)) ∈ TB := tbM (i := 1145) (by decide +kernel) rfl
theorem q1097 : (Cond.instanceMethod ({ cls := "HedgehogLotsModel", name := "byteAt", desc := "(I)I" } : MethodName)) ∈ TB := tbM (i := 1147) (by decide +kernel) rfl
theorem q1098 : (Cond.code ({ cls := "HedgehogLotsModel", name := "byteAt", desc := "(I)I" } : MethodName) prog_12_method_6_code (2 : Nat) (Option.some FieldType.int)) ∈ TB := tbM (i := 1148) (by decide +kernel) rfl
theorem q1099 : (Cond.constantLong "HedgehogLotsModel" (79 : Nat) (97 : Int64)) ∈ TB := tbM (i := 1149) (by decide +kernel) rfl
theorem q1100 : (Cond.constantLong "HedgehogLotsModel" (81 : Nat) (122 : Int64)) ∈ TB := tbM (i := 1150) (by decide +kernel) rfl
theorem q1101 : (Cond.constantLong "HedgehogLotsModel" (83 : Nat) (48 : Int64)) ∈ TB := tbM (i := 1151) (by decide +kernel) rfl
theorem q1102 : (Cond.constantLong "HedgehogLotsModel" (85 : Nat) (57 : Int64)) ∈ TB := tbM (i := 1152) (by decide +kernel) rfl
theorem q1103 : (Cond.methodLink "HedgehogLotsModel" (87 : Nat) ({ cls := "HedgehogLotsModel", name := "fails", desc := "(I)V" } : MethodName)) ∈ TB := tbM (i := 1153) (by decide +kernel) rfl
theorem q1105 : (Cond.instanceMethod ({ cls := "HedgehogLotsModel", name := "fails", desc := "(I)V" } : MethodName)) ∈ TB := tbM (i := 1155) (by decide +kernel) rfl
theorem q1106 : (Cond.code ({ cls := "HedgehogLotsModel", name := "fails", desc := "(I)V" } : MethodName) prog_12_method_7_code (2 : Nat) (Option.none : Option FieldType)) ∈ TB := tbM (i := 1156) (by decide +kernel) rfl
theorem q1107 : (Cond.methodLink "HedgehogLotsModel" (123 : Nat) ({ cls := "HedgehogLotsModel", name := "readLine", desc := "()V" } : MethodName)) ∈ TB := tbM (i := 1157) (by decide +kernel) rfl
theorem q1109 : (Cond.instanceMethod ({ cls := "HedgehogLotsModel", name := "readLine", desc := "()V" } : MethodName)) ∈ TB := tbM (i := 1159) (by decide +kernel) rfl
theorem q1110 : (Cond.code ({ cls := "HedgehogLotsModel", name := "readLine", desc := "()V" } : MethodName) prog_12_method_15_code (2 : Nat) (Option.none : Option FieldType)) ∈ TB := tbM (i := 1160) (by decide +kernel) rfl
theorem q1111 : (Cond.methodLink "HedgehogLotsModel" (112 : Nat) ({ cls := "HedgehogLotsModel", name := "nameHere", desc := "()I" } : MethodName)) ∈ TB := tbM (i := 1161) (by decide +kernel) rfl
theorem q1113 : (Cond.instanceMethod ({ cls := "HedgehogLotsModel", name := "nameHere", desc := "()I" } : MethodName)) ∈ TB := tbM (i := 1163) (by decide +kernel) rfl
theorem q1114 : (Cond.code ({ cls := "HedgehogLotsModel", name := "nameHere", desc := "()I" } : MethodName) prog_12_method_8_code (4 : Nat) (Option.some FieldType.int)) ∈ TB := tbM (i := 1164) (by decide +kernel) rfl
theorem q1115 : (Cond.constantLong "HedgehogLotsModel" (115 : Nat) (6 : Int64)) ∈ TB := tbM (i := 1165) (by decide +kernel) rfl
theorem q1116 : (Cond.methodLink "HedgehogLotsModel" (117 : Nat) ({ cls := "HedgehogLotsModel", name := "isFull", desc := "(I)Z" } : MethodName)) ∈ TB := tbM (i := 1166) (by decide +kernel) rfl
theorem q1118 : (Cond.instanceMethod ({ cls := "HedgehogLotsModel", name := "isFull", desc := "(I)Z" } : MethodName)) ∈ TB := tbM (i := 1168) (by decide +kernel) rfl
theorem q1119 : (Cond.code ({ cls := "HedgehogLotsModel", name := "isFull", desc := "(I)Z" } : MethodName) prog_12_method_14_code (2 : Nat) (Option.some FieldType.boolean)) ∈ TB := tbM (i := 1169) (by decide +kernel) rfl
theorem q1120 : (Cond.methodLink "HedgehogLotsModel" (120 : Nat) ({ cls := "HedgehogLotsModel", name := "readMore", desc := "(I)V" } : MethodName)) ∈ TB := tbM (i := 1170) (by decide +kernel) rfl
theorem q1122 : (Cond.instanceMethod ({ cls := "HedgehogLotsModel", name := "readMore", desc := "(I)V" } : MethodName)) ∈ TB := tbM (i := 1172) (by decide +kernel) rfl
theorem q1123 : (Cond.code ({ cls := "HedgehogLotsModel", name := "readMore", desc := "(I)V" } : MethodName) prog_12_method_13_code (4 : Nat) (Option.none : Option FieldType)) ∈ TB := tbM (i := 1173) (by decide +kernel) rfl
theorem q1124 : (Cond.methodLink "HedgehogLotsModel" (98 : Nat) ({ cls := "HedgehogLotsModel", name := "number", desc := "(II)I" } : MethodName)) ∈ TB := tbM (i := 1174) (by decide +kernel) rfl
theorem q1126 : (Cond.instanceMethod ({ cls := "HedgehogLotsModel", name := "number", desc := "(II)I" } : MethodName)) ∈ TB := tbM (i := 1176) (by decide +kernel) rfl
theorem q1127 : (Cond.code ({ cls := "HedgehogLotsModel", name := "number", desc := "(II)I" } : MethodName) prog_12_method_10_code (4 : Nat) (Option.some FieldType.int)) ∈ TB := tbM (i := 1177) (by decide +kernel) rfl
theorem q1128 : (Cond.methodLink "HedgehogLotsModel" (105 : Nat) ({ cls := "HedgehogLotsModel", name := "cellHere", desc := "()I" } : MethodName)) ∈ TB := tbM (i := 1178) (by decide +kernel) rfl
theorem q1130 : (Cond.instanceMethod ({ cls := "HedgehogLotsModel", name := "cellHere", desc := "()I" } : MethodName)) ∈ TB := tbM (i := 1180) (by decide +kernel) rfl
theorem q1131 : (Cond.code ({ cls := "HedgehogLotsModel", name := "cellHere", desc := "()I" } : MethodName) prog_12_method_12_code (1 : Nat) (Option.some FieldType.int)) ∈ TB := tbM (i := 1181) (by decide +kernel) rfl
theorem q1132 : (Cond.methodLink "HedgehogLotsModel" (94 : Nat) ({ cls := "HedgehogLotsModel", name := "isReadCell", desc := "(I)Z" } : MethodName)) ∈ TB := tbM (i := 1182) (by decide +kernel) rfl
theorem q1134 : (Cond.instanceMethod ({ cls := "HedgehogLotsModel", name := "isReadCell", desc := "(I)Z" } : MethodName)) ∈ TB := tbM (i := 1184) (by decide +kernel) rfl
theorem q1135 : (Cond.code ({ cls := "HedgehogLotsModel", name := "isReadCell", desc := "(I)Z" } : MethodName) prog_12_method_11_code (4 : Nat) (Option.some FieldType.boolean)) ∈ TB := tbM (i := 1185) (by decide +kernel) rfl
theorem q1136 : (Cond.methodLink "HedgehogLotsLaw" (30 : Nat) ({ cls := "HedgehogLotsModel", name := "fault", desc := "()I" } : MethodName)) ∈ TB := tbM (i := 1186) (by decide +kernel) rfl
theorem q1137 : (Cond.instanceMethod ({ cls := "HedgehogLotsModel", name := "fault", desc := "()I" } : MethodName)) ∈ TB := tbM (i := 1187) (by decide +kernel) rfl
theorem q1138 : (Cond.selects "HedgehogLotsModel" ({ cls := "HedgehogLotsModel", name := "fault", desc := "()I" } : MethodName) ({ cls := "HedgehogLotsModel", name := "fault", desc := "()I" } : MethodName)) ∈ TB := tbM (i := 1188) (by decide +kernel) rfl
theorem q1139 : (Cond.code ({ cls := "HedgehogLotsModel", name := "fault", desc := "()I" } : MethodName) prog_12_method_17_code (1 : Nat) (Option.some FieldType.int)) ∈ TB := tbM (i := 1189) (by decide +kernel) rfl
theorem q1140 : (Cond.methodLink "HedgehogLotsLaw" (34 : Nat) ({ cls := "HedgehogLotsModel", name := "rule", desc := "(I)I" } : MethodName)) ∈ TB := tbM (i := 1190) (by decide +kernel) rfl
theorem q1141 : (Cond.instanceMethod ({ cls := "HedgehogLotsModel", name := "rule", desc := "(I)I" } : MethodName)) ∈ TB := tbM (i := 1191) (by decide +kernel) rfl
theorem q1142 : (Cond.selects "HedgehogLotsModel" ({ cls := "HedgehogLotsModel", name := "rule", desc := "(I)I" } : MethodName) ({ cls := "HedgehogLotsModel", name := "rule", desc := "(I)I" } : MethodName)) ∈ TB := tbM (i := 1192) (by decide +kernel) rfl
theorem q1143 : (Cond.code ({ cls := "HedgehogLotsModel", name := "rule", desc := "(I)I" } : MethodName) prog_12_method_33_code (4 : Nat) (Option.some FieldType.int)) ∈ TB := tbM (i := 1193) (by decide +kernel) rfl
theorem q1144 : (Cond.methodLink "HedgehogLotsModel" (164 : Nat) ({ cls := "HedgehogLotsModel", name := "runsOn", desc := "(IIII)V" } : MethodName)) ∈ TB := tbM (i := 1194) (by decide +kernel) rfl
theorem q1146 : (Cond.instanceMethod ({ cls := "HedgehogLotsModel", name := "runsOn", desc := "(IIII)V" } : MethodName)) ∈ TB := tbM (i := 1196) (by decide +kernel) rfl
theorem q1147 : (Cond.code ({ cls := "HedgehogLotsModel", name := "runsOn", desc := "(IIII)V" } : MethodName) prog_12_method_29_code (12 : Nat) (Option.none : Option FieldType)) ∈ TB := tbM (i := 1197) (by decide +kernel) rfl
theorem q1148 : (Cond.methodLink "HedgehogLotsModel" (139 : Nat) ({ cls := "HedgehogLotsModel", name := "pegOn", desc := "(II)I" } : MethodName)) ∈ TB := tbM (i := 1198) (by decide +kernel) rfl
theorem q1150 : (Cond.instanceMethod ({ cls := "HedgehogLotsModel", name := "pegOn", desc := "(II)I" } : MethodName)) ∈ TB := tbM (i := 1200) (by decide +kernel) rfl
theorem q1151 : (Cond.code ({ cls := "HedgehogLotsModel", name := "pegOn", desc := "(II)I" } : MethodName) prog_12_method_24_code (4 : Nat) (Option.some FieldType.int)) ∈ TB := tbM (i := 1201) (by decide +kernel) rfl
theorem q1152 : (Cond.methodLink "HedgehogLotsModel" (142 : Nat) ({ cls := "HedgehogLotsModel", name := "slugOn", desc := "(II)I" } : MethodName)) ∈ TB := tbM (i := 1202) (by decide +kernel) rfl
theorem q1154 : (Cond.instanceMethod ({ cls := "HedgehogLotsModel", name := "slugOn", desc := "(II)I" } : MethodName)) ∈ TB := tbM (i := 1204) (by decide +kernel) rfl
theorem q1155 : (Cond.code ({ cls := "HedgehogLotsModel", name := "slugOn", desc := "(II)I" } : MethodName) prog_12_method_25_code (4 : Nat) (Option.some FieldType.int)) ∈ TB := tbM (i := 1205) (by decide +kernel) rfl
theorem q1156 : (Cond.methodLink "HedgehogLotsModel" (158 : Nat) ({ cls := "HedgehogLotsModel", name := "losesOf", desc := "(I)I" } : MethodName)) ∈ TB := tbM (i := 1206) (by decide +kernel) rfl
theorem q1157 : (Cond.static ({ cls := "HedgehogLotsModel", name := "losesOf", desc := "(I)I" } : MethodName)) ∈ TB := tbM (i := 1207) (by decide +kernel) rfl
theorem q1158 : (Cond.code ({ cls := "HedgehogLotsModel", name := "losesOf", desc := "(I)I" } : MethodName) prog_12_method_27_code (1 : Nat) (Option.some FieldType.int)) ∈ TB := tbM (i := 1208) (by decide +kernel) rfl
theorem q1159 : (Cond.methodLink "HedgehogLotsModel" (161 : Nat) ({ cls := "HedgehogLotsModel", name := "turnOf", desc := "(II)I" } : MethodName)) ∈ TB := tbM (i := 1209) (by decide +kernel) rfl
theorem q1160 : (Cond.static ({ cls := "HedgehogLotsModel", name := "turnOf", desc := "(II)I" } : MethodName)) ∈ TB := tbM (i := 1210) (by decide +kernel) rfl
theorem q1161 : (Cond.code ({ cls := "HedgehogLotsModel", name := "turnOf", desc := "(II)I" } : MethodName) prog_12_method_28_code (3 : Nat) (Option.some FieldType.int)) ∈ TB := tbM (i := 1211) (by decide +kernel) rfl
theorem q1162 : (Cond.methodLink "HedgehogLotsModel" (172 : Nat) ({ cls := "HedgehogLotsModel", name := "winsOn", desc := "(II)I" } : MethodName)) ∈ TB := tbM (i := 1212) (by decide +kernel) rfl
theorem q1164 : (Cond.instanceMethod ({ cls := "HedgehogLotsModel", name := "winsOn", desc := "(II)I" } : MethodName)) ∈ TB := tbM (i := 1214) (by decide +kernel) rfl
theorem q1165 : (Cond.code ({ cls := "HedgehogLotsModel", name := "winsOn", desc := "(II)I" } : MethodName) prog_12_method_31_code (6 : Nat) (Option.some FieldType.int)) ∈ TB := tbM (i := 1215) (by decide +kernel) rfl
theorem q1166 : (Cond.methodLink "HedgehogLotsModel" (168 : Nat) ({ cls := "HedgehogLotsModel", name := "winnerOn", desc := "(III)I" } : MethodName)) ∈ TB := tbM (i := 1216) (by decide +kernel) rfl
theorem q1168 : (Cond.instanceMethod ({ cls := "HedgehogLotsModel", name := "winnerOn", desc := "(III)I" } : MethodName)) ∈ TB := tbM (i := 1218) (by decide +kernel) rfl
theorem q1169 : (Cond.code ({ cls := "HedgehogLotsModel", name := "winnerOn", desc := "(III)I" } : MethodName) prog_12_method_30_code (4 : Nat) (Option.some FieldType.int)) ∈ TB := tbM (i := 1219) (by decide +kernel) rfl
theorem q1170 : (Cond.methodLink "HedgehogLotsLaw" (39 : Nat) ({ cls := "HedgehogLotsModel", name := "peg", desc := "(II)I" } : MethodName)) ∈ TB := tbM (i := 1220) (by decide +kernel) rfl
theorem q1171 : (Cond.instanceMethod ({ cls := "HedgehogLotsModel", name := "peg", desc := "(II)I" } : MethodName)) ∈ TB := tbM (i := 1221) (by decide +kernel) rfl
theorem q1172 : (Cond.selects "HedgehogLotsModel" ({ cls := "HedgehogLotsModel", name := "peg", desc := "(II)I" } : MethodName) ({ cls := "HedgehogLotsModel", name := "peg", desc := "(II)I" } : MethodName)) ∈ TB := tbM (i := 1222) (by decide +kernel) rfl
theorem q1173 : (Cond.code ({ cls := "HedgehogLotsModel", name := "peg", desc := "(II)I" } : MethodName) prog_12_method_34_code (5 : Nat) (Option.some FieldType.int)) ∈ TB := tbM (i := 1223) (by decide +kernel) rfl
theorem q1174 : (Cond.methodLink "HedgehogLotsModel" (175 : Nat) ({ cls := "HedgehogLotsModel", name := "isPeg", desc := "(I)Z" } : MethodName)) ∈ TB := tbM (i := 1224) (by decide +kernel) rfl
theorem q1176 : (Cond.instanceMethod ({ cls := "HedgehogLotsModel", name := "isPeg", desc := "(I)Z" } : MethodName)) ∈ TB := tbM (i := 1226) (by decide +kernel) rfl
theorem q1177 : (Cond.code ({ cls := "HedgehogLotsModel", name := "isPeg", desc := "(I)Z" } : MethodName) prog_12_method_18_code (2 : Nat) (Option.some FieldType.boolean)) ∈ TB := tbM (i := 1227) (by decide +kernel) rfl
theorem q1178 : (Cond.constantLong "HedgehogLotsModel" (178 : Nat) (2 : Int64)) ∈ TB := tbM (i := 1228) (by decide +kernel) rfl
theorem q1179 : (Cond.methodLink "HedgehogLotsLaw" (43 : Nat) ({ cls := "HedgehogLotsModel", name := "slug", desc := "(I)I" } : MethodName)) ∈ TB := tbM (i := 1229) (by decide +kernel) rfl
theorem q1180 : (Cond.instanceMethod ({ cls := "HedgehogLotsModel", name := "slug", desc := "(I)I" } : MethodName)) ∈ TB := tbM (i := 1230) (by decide +kernel) rfl
theorem q1181 : (Cond.selects "HedgehogLotsModel" ({ cls := "HedgehogLotsModel", name := "slug", desc := "(I)I" } : MethodName) ({ cls := "HedgehogLotsModel", name := "slug", desc := "(I)I" } : MethodName)) ∈ TB := tbM (i := 1231) (by decide +kernel) rfl
theorem q1182 : (Cond.code ({ cls := "HedgehogLotsModel", name := "slug", desc := "(I)I" } : MethodName) prog_12_method_35_code (2 : Nat) (Option.some FieldType.int)) ∈ TB := tbM (i := 1232) (by decide +kernel) rfl
theorem q1183 : (Cond.methodLink "HedgehogLotsLaw" (47 : Nat) ({ cls := "HedgehogLotsModel", name := "hedgehog", desc := "(II)I" } : MethodName)) ∈ TB := tbM (i := 1233) (by decide +kernel) rfl
theorem q1184 : (Cond.instanceMethod ({ cls := "HedgehogLotsModel", name := "hedgehog", desc := "(II)I" } : MethodName)) ∈ TB := tbM (i := 1234) (by decide +kernel) rfl
theorem q1185 : (Cond.selects "HedgehogLotsModel" ({ cls := "HedgehogLotsModel", name := "hedgehog", desc := "(II)I" } : MethodName) ({ cls := "HedgehogLotsModel", name := "hedgehog", desc := "(II)I" } : MethodName)) ∈ TB := tbM (i := 1235) (by decide +kernel) rfl
theorem q1186 : (Cond.code ({ cls := "HedgehogLotsModel", name := "hedgehog", desc := "(II)I" } : MethodName) prog_12_method_36_code (5 : Nat) (Option.some FieldType.int)) ∈ TB := tbM (i := 1236) (by decide +kernel) rfl
theorem q1187 : (Cond.methodLink "HedgehogLotsModel" (180 : Nat) ({ cls := "HedgehogLotsModel", name := "isHog", desc := "(I)Z" } : MethodName)) ∈ TB := tbM (i := 1237) (by decide +kernel) rfl
theorem q1189 : (Cond.instanceMethod ({ cls := "HedgehogLotsModel", name := "isHog", desc := "(I)Z" } : MethodName)) ∈ TB := tbM (i := 1239) (by decide +kernel) rfl
theorem q1190 : (Cond.code ({ cls := "HedgehogLotsModel", name := "isHog", desc := "(I)Z" } : MethodName) prog_12_method_19_code (2 : Nat) (Option.some FieldType.boolean)) ∈ TB := tbM (i := 1240) (by decide +kernel) rfl
theorem q1191 : (Cond.constantLong "HedgehogLotsModel" (137 : Nat) (3 : Int64)) ∈ TB := tbM (i := 1241) (by decide +kernel) rfl
theorem q1192 : (Cond.methodLink "HedgehogLotsLaw" (51 : Nat) ({ cls := "HedgehogLotsModel", name := "suit", desc := "(II)I" } : MethodName)) ∈ TB := tbM (i := 1242) (by decide +kernel) rfl
theorem q1193 : (Cond.instanceMethod ({ cls := "HedgehogLotsModel", name := "suit", desc := "(II)I" } : MethodName)) ∈ TB := tbM (i := 1243) (by decide +kernel) rfl
theorem q1194 : (Cond.selects "HedgehogLotsModel" ({ cls := "HedgehogLotsModel", name := "suit", desc := "(II)I" } : MethodName) ({ cls := "HedgehogLotsModel", name := "suit", desc := "(II)I" } : MethodName)) ∈ TB := tbM (i := 1244) (by decide +kernel) rfl
theorem q1195 : (Cond.code ({ cls := "HedgehogLotsModel", name := "suit", desc := "(II)I" } : MethodName) prog_12_method_37_code (3 : Nat) (Option.some FieldType.int)) ∈ TB := tbM (i := 1245) (by decide +kernel) rfl
theorem q1196 : (Cond.methodLink "HedgehogLotsModel" (183 : Nat) ({ cls := "HedgehogLotsModel", name := "isSuit", desc := "(I)Z" } : MethodName)) ∈ TB := tbM (i := 1246) (by decide +kernel) rfl
theorem q1198 : (Cond.instanceMethod ({ cls := "HedgehogLotsModel", name := "isSuit", desc := "(I)Z" } : MethodName)) ∈ TB := tbM (i := 1248) (by decide +kernel) rfl
theorem q1199 : (Cond.code ({ cls := "HedgehogLotsModel", name := "isSuit", desc := "(I)Z" } : MethodName) prog_12_method_20_code (2 : Nat) (Option.some FieldType.boolean)) ∈ TB := tbM (i := 1249) (by decide +kernel) rfl
theorem q1200 : (Cond.methodLink "HedgehogLotsLaw" (55 : Nat) ({ cls := "HedgehogLotsModel", name := "shift", desc := "(II)I" } : MethodName)) ∈ TB := tbM (i := 1250) (by decide +kernel) rfl
theorem q1201 : (Cond.instanceMethod ({ cls := "HedgehogLotsModel", name := "shift", desc := "(II)I" } : MethodName)) ∈ TB := tbM (i := 1251) (by decide +kernel) rfl
theorem q1202 : (Cond.selects "HedgehogLotsModel" ({ cls := "HedgehogLotsModel", name := "shift", desc := "(II)I" } : MethodName) ({ cls := "HedgehogLotsModel", name := "shift", desc := "(II)I" } : MethodName)) ∈ TB := tbM (i := 1252) (by decide +kernel) rfl
theorem q1203 : (Cond.code ({ cls := "HedgehogLotsModel", name := "shift", desc := "(II)I" } : MethodName) prog_12_method_39_code (3 : Nat) (Option.some FieldType.int)) ∈ TB := tbM (i := 1253) (by decide +kernel) rfl
theorem q1204 : (Cond.methodLink "HedgehogLotsModel" (186 : Nat) ({ cls := "HedgehogLotsModel", name := "isCell", desc := "(I)Z" } : MethodName)) ∈ TB := tbM (i := 1254) (by decide +kernel) rfl
theorem q1205 : (Cond.static ({ cls := "HedgehogLotsModel", name := "isCell", desc := "(I)Z" } : MethodName)) ∈ TB := tbM (i := 1255) (by decide +kernel) rfl
theorem q1206 : (Cond.code ({ cls := "HedgehogLotsModel", name := "isCell", desc := "(I)Z" } : MethodName) prog_12_method_21_code (1 : Nat) (Option.some FieldType.boolean)) ∈ TB := tbM (i := 1256) (by decide +kernel) rfl
theorem q1207 : (Cond.methodLink "HedgehogLotsModel" (189 : Nat) ({ cls := "HedgehogLotsModel", name := "isFreeOn", desc := "(II)Z" } : MethodName)) ∈ TB := tbM (i := 1257) (by decide +kernel) rfl
theorem q1209 : (Cond.instanceMethod ({ cls := "HedgehogLotsModel", name := "isFreeOn", desc := "(II)Z" } : MethodName)) ∈ TB := tbM (i := 1259) (by decide +kernel) rfl
theorem q1210 : (Cond.code ({ cls := "HedgehogLotsModel", name := "isFreeOn", desc := "(II)Z" } : MethodName) prog_12_method_26_code (3 : Nat) (Option.some FieldType.boolean)) ∈ TB := tbM (i := 1260) (by decide +kernel) rfl
theorem q1211 : (Cond.methodLink "HedgehogLotsModel" (193 : Nat) ({ cls := "HedgehogLotsModel", name := "puts", desc := "(ZII)I" } : MethodName)) ∈ TB := tbM (i := 1261) (by decide +kernel) rfl
theorem q1213 : (Cond.instanceMethod ({ cls := "HedgehogLotsModel", name := "puts", desc := "(ZII)I" } : MethodName)) ∈ TB := tbM (i := 1263) (by decide +kernel) rfl
theorem q1214 : (Cond.code ({ cls := "HedgehogLotsModel", name := "puts", desc := "(ZII)I" } : MethodName) prog_12_method_38_code (5 : Nat) (Option.some FieldType.int)) ∈ TB := tbM (i := 1264) (by decide +kernel) rfl
theorem q1215 : (Cond.methodLink "HedgehogLotsLaw" (59 : Nat) ({ cls := "HedgehogLotsModel", name := "rag", desc := "(II)I" } : MethodName)) ∈ TB := tbM (i := 1265) (by decide +kernel) rfl
theorem q1216 : (Cond.instanceMethod ({ cls := "HedgehogLotsModel", name := "rag", desc := "(II)I" } : MethodName)) ∈ TB := tbM (i := 1266) (by decide +kernel) rfl
theorem q1217 : (Cond.selects "HedgehogLotsModel" ({ cls := "HedgehogLotsModel", name := "rag", desc := "(II)I" } : MethodName) ({ cls := "HedgehogLotsModel", name := "rag", desc := "(II)I" } : MethodName)) ∈ TB := tbM (i := 1267) (by decide +kernel) rfl
theorem q1218 : (Cond.code ({ cls := "HedgehogLotsModel", name := "rag", desc := "(II)I" } : MethodName) prog_12_method_40_code (3 : Nat) (Option.some FieldType.int)) ∈ TB := tbM (i := 1268) (by decide +kernel) rfl
theorem q1219 : (Cond.methodLink "HedgehogLotsModel" (197 : Nat) ({ cls := "HedgehogLotsModel", name := "isRag", desc := "(I)Z" } : MethodName)) ∈ TB := tbM (i := 1269) (by decide +kernel) rfl
theorem q1220 : (Cond.static ({ cls := "HedgehogLotsModel", name := "isRag", desc := "(I)Z" } : MethodName)) ∈ TB := tbM (i := 1270) (by decide +kernel) rfl
theorem q1221 : (Cond.code ({ cls := "HedgehogLotsModel", name := "isRag", desc := "(I)Z" } : MethodName) prog_12_method_23_code (1 : Nat) (Option.some FieldType.boolean)) ∈ TB := tbM (i := 1271) (by decide +kernel) rfl
theorem q1222 : (Cond.methodLink "HedgehogLotsLaw" (64 : Nat) ({ cls := "HedgehogLotsModel", name := "alter", desc := "(III)I" } : MethodName)) ∈ TB := tbM (i := 1272) (by decide +kernel) rfl
theorem q1223 : (Cond.instanceMethod ({ cls := "HedgehogLotsModel", name := "alter", desc := "(III)I" } : MethodName)) ∈ TB := tbM (i := 1273) (by decide +kernel) rfl
theorem q1224 : (Cond.selects "HedgehogLotsModel" ({ cls := "HedgehogLotsModel", name := "alter", desc := "(III)I" } : MethodName) ({ cls := "HedgehogLotsModel", name := "alter", desc := "(III)I" } : MethodName)) ∈ TB := tbM (i := 1274) (by decide +kernel) rfl
theorem q1225 : (Cond.code ({ cls := "HedgehogLotsModel", name := "alter", desc := "(III)I" } : MethodName) prog_12_method_41_code (5 : Nat) (Option.some FieldType.int)) ∈ TB := tbM (i := 1275) (by decide +kernel) rfl
theorem q1226 : (Cond.constantLong "HedgehogLotsModel" (200 : Nat) (9 : Int64)) ∈ TB := tbM (i := 1276) (by decide +kernel) rfl
theorem q1227 : (Cond.methodLink "HedgehogLotsLaw" (68 : Nat) ({ cls := "HedgehogLotsModel", name := "drive", desc := "(II)I" } : MethodName)) ∈ TB := tbM (i := 1277) (by decide +kernel) rfl
theorem q1228 : (Cond.instanceMethod ({ cls := "HedgehogLotsModel", name := "drive", desc := "(II)I" } : MethodName)) ∈ TB := tbM (i := 1278) (by decide +kernel) rfl
theorem q1229 : (Cond.selects "HedgehogLotsModel" ({ cls := "HedgehogLotsModel", name := "drive", desc := "(II)I" } : MethodName) ({ cls := "HedgehogLotsModel", name := "drive", desc := "(II)I" } : MethodName)) ∈ TB := tbM (i := 1279) (by decide +kernel) rfl
theorem q1230 : (Cond.code ({ cls := "HedgehogLotsModel", name := "drive", desc := "(II)I" } : MethodName) prog_12_method_44_code (3 : Nat) (Option.some FieldType.int)) ∈ TB := tbM (i := 1280) (by decide +kernel) rfl
theorem q1231 : (Cond.methodLink "HedgehogLotsModel" (206 : Nat) ({ cls := "HedgehogLotsModel", name := "drives", desc := "(II)I" } : MethodName)) ∈ TB := tbM (i := 1281) (by decide +kernel) rfl
theorem q1233 : (Cond.instanceMethod ({ cls := "HedgehogLotsModel", name := "drives", desc := "(II)I" } : MethodName)) ∈ TB := tbM (i := 1283) (by decide +kernel) rfl
theorem q1234 : (Cond.code ({ cls := "HedgehogLotsModel", name := "drives", desc := "(II)I" } : MethodName) prog_12_method_43_code (3 : Nat) (Option.some FieldType.int)) ∈ TB := tbM (i := 1284) (by decide +kernel) rfl
theorem q1235 : (Cond.methodLink "HedgehogLotsModel" (202 : Nat) ({ cls := "HedgehogLotsModel", name := "drivesOn", desc := "(III)V" } : MethodName)) ∈ TB := tbM (i := 1285) (by decide +kernel) rfl
theorem q1237 : (Cond.instanceMethod ({ cls := "HedgehogLotsModel", name := "drivesOn", desc := "(III)V" } : MethodName)) ∈ TB := tbM (i := 1287) (by decide +kernel) rfl
theorem q1238 : (Cond.code ({ cls := "HedgehogLotsModel", name := "drivesOn", desc := "(III)V" } : MethodName) prog_12_method_42_code (5 : Nat) (Option.none : Option FieldType)) ∈ TB := tbM (i := 1288) (by decide +kernel) rfl
theorem q1239 : (Cond.methodLink "HedgehogLotsLaw" (72 : Nat) ({ cls := "HedgehogLotsModel", name := "lay", desc := "(I)I" } : MethodName)) ∈ TB := tbM (i := 1289) (by decide +kernel) rfl
theorem q1240 : (Cond.instanceMethod ({ cls := "HedgehogLotsModel", name := "lay", desc := "(I)I" } : MethodName)) ∈ TB := tbM (i := 1290) (by decide +kernel) rfl
theorem q1241 : (Cond.selects "HedgehogLotsModel" ({ cls := "HedgehogLotsModel", name := "lay", desc := "(I)I" } : MethodName) ({ cls := "HedgehogLotsModel", name := "lay", desc := "(I)I" } : MethodName)) ∈ TB := tbM (i := 1291) (by decide +kernel) rfl
theorem q1242 : (Cond.code ({ cls := "HedgehogLotsModel", name := "lay", desc := "(I)I" } : MethodName) prog_12_method_46_code (2 : Nat) (Option.some FieldType.int)) ∈ TB := tbM (i := 1292) (by decide +kernel) rfl
theorem q1243 : (Cond.methodLink "HedgehogLotsModel" (209 : Nat) ({ cls := "HedgehogLotsModel", name := "laysOn", desc := "(II)V" } : MethodName)) ∈ TB := tbM (i := 1293) (by decide +kernel) rfl
theorem q1245 : (Cond.instanceMethod ({ cls := "HedgehogLotsModel", name := "laysOn", desc := "(II)V" } : MethodName)) ∈ TB := tbM (i := 1295) (by decide +kernel) rfl
theorem q1246 : (Cond.code ({ cls := "HedgehogLotsModel", name := "laysOn", desc := "(II)V" } : MethodName) prog_12_method_45_code (3 : Nat) (Option.none : Option FieldType)) ∈ TB := tbM (i := 1296) (by decide +kernel) rfl
theorem q1247 : (Cond.methodLink "HedgehogLotsLaw" (76 : Nat) ({ cls := "HedgehogLotsModel", name := "clear", desc := "(I)I" } : MethodName)) ∈ TB := tbM (i := 1297) (by decide +kernel) rfl
theorem q1248 : (Cond.instanceMethod ({ cls := "HedgehogLotsModel", name := "clear", desc := "(I)I" } : MethodName)) ∈ TB := tbM (i := 1298) (by decide +kernel) rfl
theorem q1249 : (Cond.selects "HedgehogLotsModel" ({ cls := "HedgehogLotsModel", name := "clear", desc := "(I)I" } : MethodName) ({ cls := "HedgehogLotsModel", name := "clear", desc := "(I)I" } : MethodName)) ∈ TB := tbM (i := 1299) (by decide +kernel) rfl
theorem q1250 : (Cond.code ({ cls := "HedgehogLotsModel", name := "clear", desc := "(I)I" } : MethodName) prog_12_method_47_code (2 : Nat) (Option.some FieldType.int)) ∈ TB := tbM (i := 1300) (by decide +kernel) rfl
theorem q1251 : (Cond.methodLink "HedgehogLotsLaw" (80 : Nat) ({ cls := "HedgehogLotsModel", name := "sue", desc := "(II)I" } : MethodName)) ∈ TB := tbM (i := 1301) (by decide +kernel) rfl
theorem q1252 : (Cond.instanceMethod ({ cls := "HedgehogLotsModel", name := "sue", desc := "(II)I" } : MethodName)) ∈ TB := tbM (i := 1302) (by decide +kernel) rfl
theorem q1253 : (Cond.selects "HedgehogLotsModel" ({ cls := "HedgehogLotsModel", name := "sue", desc := "(II)I" } : MethodName) ({ cls := "HedgehogLotsModel", name := "sue", desc := "(II)I" } : MethodName)) ∈ TB := tbM (i := 1303) (by decide +kernel) rfl
theorem q1254 : (Cond.code ({ cls := "HedgehogLotsModel", name := "sue", desc := "(II)I" } : MethodName) prog_12_method_48_code (4 : Nat) (Option.some FieldType.int)) ∈ TB := tbM (i := 1304) (by decide +kernel) rfl
theorem q1255 : (Cond.methodLink "HedgehogLotsModel" (213 : Nat) ({ cls := "HedgehogLotsModel", name := "isColumn", desc := "(I)Z" } : MethodName)) ∈ TB := tbM (i := 1305) (by decide +kernel) rfl
theorem q1256 : (Cond.static ({ cls := "HedgehogLotsModel", name := "isColumn", desc := "(I)Z" } : MethodName)) ∈ TB := tbM (i := 1306) (by decide +kernel) rfl
theorem q1257 : (Cond.code ({ cls := "HedgehogLotsModel", name := "isColumn", desc := "(I)Z" } : MethodName) prog_12_method_22_code (1 : Nat) (Option.some FieldType.boolean)) ∈ TB := tbM (i := 1307) (by decide +kernel) rfl
theorem q1258 : (Cond.constantLong "HedgehogLotsModel" (135 : Nat) (7 : Int64)) ∈ TB := tbM (i := 1308) (by decide +kernel) rfl
theorem q1259 : (Cond.methodLink "HedgehogLotsLaw" (84 : Nat) ({ cls := "HedgehogLotsModel", name := "drop", desc := "(I)I" } : MethodName)) ∈ TB := tbM (i := 1309) (by decide +kernel) rfl
theorem q1260 : (Cond.instanceMethod ({ cls := "HedgehogLotsModel", name := "drop", desc := "(I)I" } : MethodName)) ∈ TB := tbM (i := 1310) (by decide +kernel) rfl
theorem q1261 : (Cond.selects "HedgehogLotsModel" ({ cls := "HedgehogLotsModel", name := "drop", desc := "(I)I" } : MethodName) ({ cls := "HedgehogLotsModel", name := "drop", desc := "(I)I" } : MethodName)) ∈ TB := tbM (i := 1311) (by decide +kernel) rfl
theorem q1262 : (Cond.code ({ cls := "HedgehogLotsModel", name := "drop", desc := "(I)I" } : MethodName) prog_12_method_49_code (2 : Nat) (Option.some FieldType.int)) ∈ TB := tbM (i := 1312) (by decide +kernel) rfl
theorem q1263 : (Cond.methodLink "HedgehogLotsLaw" (88 : Nat) ({ cls := "HedgehogLotsModel", name := "run", desc := "(III)I" } : MethodName)) ∈ TB := tbM (i := 1313) (by decide +kernel) rfl
theorem q1264 : (Cond.instanceMethod ({ cls := "HedgehogLotsModel", name := "run", desc := "(III)I" } : MethodName)) ∈ TB := tbM (i := 1314) (by decide +kernel) rfl
theorem q1265 : (Cond.selects "HedgehogLotsModel" ({ cls := "HedgehogLotsModel", name := "run", desc := "(III)I" } : MethodName) ({ cls := "HedgehogLotsModel", name := "run", desc := "(III)I" } : MethodName)) ∈ TB := tbM (i := 1315) (by decide +kernel) rfl
theorem q1266 : (Cond.code ({ cls := "HedgehogLotsModel", name := "run", desc := "(III)I" } : MethodName) prog_12_method_50_code (5 : Nat) (Option.some FieldType.int)) ∈ TB := tbM (i := 1316) (by decide +kernel) rfl
theorem q1267 : (Cond.constantLong "HedgehogLotsModel" (216 : Nat) (4 : Int64)) ∈ TB := tbM (i := 1317) (by decide +kernel) rfl
theorem q1268 : (Cond.methodLink "HedgehogLotsLaw" (92 : Nat) ({ cls := "HedgehogLotsModel", name := "way", desc := "(III)I" } : MethodName)) ∈ TB := tbM (i := 1318) (by decide +kernel) rfl
theorem q1269 : (Cond.instanceMethod ({ cls := "HedgehogLotsModel", name := "way", desc := "(III)I" } : MethodName)) ∈ TB := tbM (i := 1319) (by decide +kernel) rfl
theorem q1270 : (Cond.selects "HedgehogLotsModel" ({ cls := "HedgehogLotsModel", name := "way", desc := "(III)I" } : MethodName) ({ cls := "HedgehogLotsModel", name := "way", desc := "(III)I" } : MethodName)) ∈ TB := tbM (i := 1320) (by decide +kernel) rfl
theorem q1271 : (Cond.code ({ cls := "HedgehogLotsModel", name := "way", desc := "(III)I" } : MethodName) prog_12_method_51_code (4 : Nat) (Option.some FieldType.int)) ∈ TB := tbM (i := 1321) (by decide +kernel) rfl
theorem q1272 : (Cond.methodLink "HedgehogLotsLaw" (96 : Nat) ({ cls := "HedgehogLotsModel", name := "wins", desc := "(I)I" } : MethodName)) ∈ TB := tbM (i := 1322) (by decide +kernel) rfl
theorem q1273 : (Cond.instanceMethod ({ cls := "HedgehogLotsModel", name := "wins", desc := "(I)I" } : MethodName)) ∈ TB := tbM (i := 1323) (by decide +kernel) rfl
theorem q1274 : (Cond.selects "HedgehogLotsModel" ({ cls := "HedgehogLotsModel", name := "wins", desc := "(I)I" } : MethodName) ({ cls := "HedgehogLotsModel", name := "wins", desc := "(I)I" } : MethodName)) ∈ TB := tbM (i := 1324) (by decide +kernel) rfl
theorem q1275 : (Cond.code ({ cls := "HedgehogLotsModel", name := "wins", desc := "(I)I" } : MethodName) prog_12_method_52_code (2 : Nat) (Option.some FieldType.int)) ∈ TB := tbM (i := 1325) (by decide +kernel) rfl
theorem q1276 : (Cond.methodLink "HedgehogLotsLaw" (100 : Nat) ({ cls := "HedgehogLotsModel", name := "share", desc := "(II)I" } : MethodName)) ∈ TB := tbM (i := 1326) (by decide +kernel) rfl
theorem q1277 : (Cond.instanceMethod ({ cls := "HedgehogLotsModel", name := "share", desc := "(II)I" } : MethodName)) ∈ TB := tbM (i := 1327) (by decide +kernel) rfl
theorem q1278 : (Cond.selects "HedgehogLotsModel" ({ cls := "HedgehogLotsModel", name := "share", desc := "(II)I" } : MethodName) ({ cls := "HedgehogLotsModel", name := "share", desc := "(II)I" } : MethodName)) ∈ TB := tbM (i := 1328) (by decide +kernel) rfl
theorem q1279 : (Cond.code ({ cls := "HedgehogLotsModel", name := "share", desc := "(II)I" } : MethodName) prog_12_method_53_code (5 : Nat) (Option.some FieldType.int)) ∈ TB := tbM (i := 1329) (by decide +kernel) rfl
theorem q1280 : (Cond.methodLink "HedgehogLotsLaw" (104 : Nat) ({ cls := "HedgehogLotsModel", name := "first", desc := "(II)I" } : MethodName)) ∈ TB := tbM (i := 1330) (by decide +kernel) rfl
theorem q1281 : (Cond.instanceMethod ({ cls := "HedgehogLotsModel", name := "first", desc := "(II)I" } : MethodName)) ∈ TB := tbM (i := 1331) (by decide +kernel) rfl
theorem q1282 : (Cond.selects "HedgehogLotsModel" ({ cls := "HedgehogLotsModel", name := "first", desc := "(II)I" } : MethodName) ({ cls := "HedgehogLotsModel", name := "first", desc := "(II)I" } : MethodName)) ∈ TB := tbM (i := 1332) (by decide +kernel) rfl
theorem q1283 : (Cond.code ({ cls := "HedgehogLotsModel", name := "first", desc := "(II)I" } : MethodName) prog_12_method_54_code (4 : Nat) (Option.some FieldType.int)) ∈ TB := tbM (i := 1333) (by decide +kernel) rfl
theorem q1284 : (Cond.methodLink "HedgehogLotsLaw" (108 : Nat) ({ cls := "HedgehogLotsModel", name := "kindly", desc := "(III)I" } : MethodName)) ∈ TB := tbM (i := 1334) (by decide +kernel) rfl
theorem q1285 : (Cond.instanceMethod ({ cls := "HedgehogLotsModel", name := "kindly", desc := "(III)I" } : MethodName)) ∈ TB := tbM (i := 1335) (by decide +kernel) rfl
theorem q1286 : (Cond.selects "HedgehogLotsModel" ({ cls := "HedgehogLotsModel", name := "kindly", desc := "(III)I" } : MethodName) ({ cls := "HedgehogLotsModel", name := "kindly", desc := "(III)I" } : MethodName)) ∈ TB := tbM (i := 1336) (by decide +kernel) rfl
theorem q1287 : (Cond.code ({ cls := "HedgehogLotsModel", name := "kindly", desc := "(III)I" } : MethodName) prog_12_method_56_code (6 : Nat) (Option.some FieldType.int)) ∈ TB := tbM (i := 1337) (by decide +kernel) rfl
theorem q1288 : (Cond.methodLink "HedgehogLotsModel" (218 : Nat) ({ cls := "HedgehogLotsModel", name := "copies", desc := "(II)V" } : MethodName)) ∈ TB := tbM (i := 1338) (by decide +kernel) rfl
theorem q1290 : (Cond.instanceMethod ({ cls := "HedgehogLotsModel", name := "copies", desc := "(II)V" } : MethodName)) ∈ TB := tbM (i := 1340) (by decide +kernel) rfl
theorem q1291 : (Cond.code ({ cls := "HedgehogLotsModel", name := "copies", desc := "(II)V" } : MethodName) prog_12_method_55_code (4 : Nat) (Option.none : Option FieldType)) ∈ TB := tbM (i := 1341) (by decide +kernel) rfl
theorem q1292 : (Cond.methodLink "HedgehogLotsLaw" (112 : Nat) ({ cls := "HedgehogLotsModel", name := "place", desc := "(II)I" } : MethodName)) ∈ TB := tbM (i := 1342) (by decide +kernel) rfl
theorem q1293 : (Cond.instanceMethod ({ cls := "HedgehogLotsModel", name := "place", desc := "(II)I" } : MethodName)) ∈ TB := tbM (i := 1343) (by decide +kernel) rfl
theorem q1294 : (Cond.selects "HedgehogLotsModel" ({ cls := "HedgehogLotsModel", name := "place", desc := "(II)I" } : MethodName) ({ cls := "HedgehogLotsModel", name := "place", desc := "(II)I" } : MethodName)) ∈ TB := tbM (i := 1344) (by decide +kernel) rfl
theorem q1295 : (Cond.code ({ cls := "HedgehogLotsModel", name := "place", desc := "(II)I" } : MethodName) prog_12_method_57_code (7 : Nat) (Option.some FieldType.int)) ∈ TB := tbM (i := 1345) (by decide +kernel) rfl
theorem q1296 : (Cond.methodLink "HedgehogLotsModel" (221 : Nat) ({ cls := "HedgehogLotsModel", name := "bitsOf", desc := "(I)I" } : MethodName)) ∈ TB := tbM (i := 1346) (by decide +kernel) rfl
theorem q1297 : (Cond.static ({ cls := "HedgehogLotsModel", name := "bitsOf", desc := "(I)I" } : MethodName)) ∈ TB := tbM (i := 1347) (by decide +kernel) rfl
theorem q1298 : (Cond.code ({ cls := "HedgehogLotsModel", name := "bitsOf", desc := "(I)I" } : MethodName) prog_12_method_32_code (3 : Nat) (Option.some FieldType.int)) ∈ TB := tbM (i := 1348) (by decide +kernel) rfl
theorem q1299 : (Cond.methodLink "HedgehogLotsLaw" (116 : Nat) ({ cls := "HedgehogLotsModel", name := "move", desc := "(II)I" } : MethodName)) ∈ TB := tbM (i := 1349) (by decide +kernel) rfl
theorem q1300 : (Cond.instanceMethod ({ cls := "HedgehogLotsModel", name := "move", desc := "(II)I" } : MethodName)) ∈ TB := tbM (i := 1350) (by decide +kernel) rfl
theorem q1301 : (Cond.selects "HedgehogLotsModel" ({ cls := "HedgehogLotsModel", name := "move", desc := "(II)I" } : MethodName) ({ cls := "HedgehogLotsModel", name := "move", desc := "(II)I" } : MethodName)) ∈ TB := tbM (i := 1351) (by decide +kernel) rfl
theorem q1302 : (Cond.code ({ cls := "HedgehogLotsModel", name := "move", desc := "(II)I" } : MethodName) prog_12_method_58_code (7 : Nat) (Option.some FieldType.int)) ∈ TB := tbM (i := 1352) (by decide +kernel) rfl
theorem q1303 : (Cond.methodLink "HedgehogLotsLaw" (120 : Nat) ({ cls := "HedgehogLotsModel", name := "bribe", desc := "(II)I" } : MethodName)) ∈ TB := tbM (i := 1353) (by decide +kernel) rfl
theorem q1304 : (Cond.instanceMethod ({ cls := "HedgehogLotsModel", name := "bribe", desc := "(II)I" } : MethodName)) ∈ TB := tbM (i := 1354) (by decide +kernel) rfl
theorem q1305 : (Cond.selects "HedgehogLotsModel" ({ cls := "HedgehogLotsModel", name := "bribe", desc := "(II)I" } : MethodName) ({ cls := "HedgehogLotsModel", name := "bribe", desc := "(II)I" } : MethodName)) ∈ TB := tbM (i := 1355) (by decide +kernel) rfl
theorem q1306 : (Cond.code ({ cls := "HedgehogLotsModel", name := "bribe", desc := "(II)I" } : MethodName) prog_12_method_59_code (7 : Nat) (Option.some FieldType.int)) ∈ TB := tbM (i := 1356) (by decide +kernel) rfl
theorem q1307 : (Cond.methodLink "HedgehogLotsLaw" (124 : Nat) ({ cls := "HedgehogLotsModel", name := "need", desc := "(II)I" } : MethodName)) ∈ TB := tbM (i := 1357) (by decide +kernel) rfl
theorem q1308 : (Cond.instanceMethod ({ cls := "HedgehogLotsModel", name := "need", desc := "(II)I" } : MethodName)) ∈ TB := tbM (i := 1358) (by decide +kernel) rfl
theorem q1309 : (Cond.selects "HedgehogLotsModel" ({ cls := "HedgehogLotsModel", name := "need", desc := "(II)I" } : MethodName) ({ cls := "HedgehogLotsModel", name := "need", desc := "(II)I" } : MethodName)) ∈ TB := tbM (i := 1359) (by decide +kernel) rfl
theorem q1310 : (Cond.code ({ cls := "HedgehogLotsModel", name := "need", desc := "(II)I" } : MethodName) prog_12_method_60_code (4 : Nat) (Option.some FieldType.int)) ∈ TB := tbM (i := 1360) (by decide +kernel) rfl
theorem q1311 : (Cond.methodLink "HedgehogLotsLaw" (128 : Nat) ({ cls := "HedgehogLotsModel", name := "swap", desc := "(II)I" } : MethodName)) ∈ TB := tbM (i := 1361) (by decide +kernel) rfl
theorem q1312 : (Cond.instanceMethod ({ cls := "HedgehogLotsModel", name := "swap", desc := "(II)I" } : MethodName)) ∈ TB := tbM (i := 1362) (by decide +kernel) rfl
theorem q1313 : (Cond.selects "HedgehogLotsModel" ({ cls := "HedgehogLotsModel", name := "swap", desc := "(II)I" } : MethodName) ({ cls := "HedgehogLotsModel", name := "swap", desc := "(II)I" } : MethodName)) ∈ TB := tbM (i := 1363) (by decide +kernel) rfl
theorem q1314 : (Cond.code ({ cls := "HedgehogLotsModel", name := "swap", desc := "(II)I" } : MethodName) prog_12_method_61_code (9 : Nat) (Option.some FieldType.int)) ∈ TB := tbM (i := 1364) (by decide +kernel) rfl
theorem q1315 : (Cond.methodLink "HedgehogLotsLaw" (132 : Nat) ({ cls := "HedgehogLotsModel", name := "pull", desc := "(II)I" } : MethodName)) ∈ TB := tbM (i := 1365) (by decide +kernel) rfl
theorem q1316 : (Cond.instanceMethod ({ cls := "HedgehogLotsModel", name := "pull", desc := "(II)I" } : MethodName)) ∈ TB := tbM (i := 1366) (by decide +kernel) rfl
theorem q1317 : (Cond.selects "HedgehogLotsModel" ({ cls := "HedgehogLotsModel", name := "pull", desc := "(II)I" } : MethodName) ({ cls := "HedgehogLotsModel", name := "pull", desc := "(II)I" } : MethodName)) ∈ TB := tbM (i := 1367) (by decide +kernel) rfl
theorem q1318 : (Cond.code ({ cls := "HedgehogLotsModel", name := "pull", desc := "(II)I" } : MethodName) prog_12_method_62_code (7 : Nat) (Option.some FieldType.int)) ∈ TB := tbM (i := 1368) (by decide +kernel) rfl
theorem q1319 : (Cond.methodLink "HedgehogLotsLaw" (137 : Nat) ({ cls := "HedgehogLotsModel", name := "luck", desc := "(IIIII)J" } : MethodName)) ∈ TB := tbM (i := 1369) (by decide +kernel) rfl
theorem q1320 : (Cond.instanceMethod ({ cls := "HedgehogLotsModel", name := "luck", desc := "(IIIII)J" } : MethodName)) ∈ TB := tbM (i := 1370) (by decide +kernel) rfl
theorem q1321 : (Cond.selects "HedgehogLotsModel" ({ cls := "HedgehogLotsModel", name := "luck", desc := "(IIIII)J" } : MethodName) ({ cls := "HedgehogLotsModel", name := "luck", desc := "(IIIII)J" } : MethodName)) ∈ TB := tbM (i := 1371) (by decide +kernel) rfl
theorem q1322 : (Cond.code ({ cls := "HedgehogLotsModel", name := "luck", desc := "(IIIII)J" } : MethodName) prog_12_method_65_code (6 : Nat) (Option.some FieldType.long)) ∈ TB := tbM (i := 1372) (by decide +kernel) rfl
theorem q1323 : (Cond.constantLong "HedgehogLotsModel" (230 : Nat) (10 : Int64)) ∈ TB := tbM (i := 1373) (by decide +kernel) rfl
theorem q1324 : (Cond.methodLink "HedgehogLotsModel" (232 : Nat) ({ cls := "HedgehogLotsModel", name := "byTurns", desc := "(IIIII)J" } : MethodName)) ∈ TB := tbM (i := 1374) (by decide +kernel) rfl
theorem q1326 : (Cond.instanceMethod ({ cls := "HedgehogLotsModel", name := "byTurns", desc := "(IIIII)J" } : MethodName)) ∈ TB := tbM (i := 1376) (by decide +kernel) rfl
theorem q1327 : (Cond.code ({ cls := "HedgehogLotsModel", name := "byTurns", desc := "(IIIII)J" } : MethodName) prog_12_method_64_code (14 : Nat) (Option.some FieldType.long)) ∈ TB := tbM (i := 1377) (by decide +kernel) rfl
theorem q1328 : (Cond.constantLong "HedgehogLotsModel" (224 : Nat) (10000000000 : Int64)) ∈ TB := tbM (i := 1378) (by decide +kernel) rfl
theorem q1329 : (Cond.methodLink "HedgehogLotsModel" (226 : Nat) ({ cls := "HedgehogLotsModel", name := "lowest", desc := "(JJI)J" } : MethodName)) ∈ TB := tbM (i := 1379) (by decide +kernel) rfl
theorem q1330 : (Cond.static ({ cls := "HedgehogLotsModel", name := "lowest", desc := "(JJI)J" } : MethodName)) ∈ TB := tbM (i := 1380) (by decide +kernel) rfl
theorem q1331 : (Cond.code ({ cls := "HedgehogLotsModel", name := "lowest", desc := "(JJI)J" } : MethodName) prog_12_method_63_code (11 : Nat) (Option.some FieldType.long)) ∈ TB := tbM (i := 1381) (by decide +kernel) rfl
theorem q1332 : (Cond.constantLong "HedgehogLotsModel" (236 : Nat) (-1 : Int64)) ∈ TB := tbM (i := 1382) (by decide +kernel) rfl
theorem q1333 : (Cond.methodLink "HedgehogLotsLaw" (142 : Nat) ({ cls := "HedgehogLotsModel", name := "mean", desc := "(IIII)J" } : MethodName)) ∈ TB := tbM (i := 1383) (by decide +kernel) rfl
theorem q1334 : (Cond.instanceMethod ({ cls := "HedgehogLotsModel", name := "mean", desc := "(IIII)J" } : MethodName)) ∈ TB := tbM (i := 1384) (by decide +kernel) rfl
theorem q1335 : (Cond.selects "HedgehogLotsModel" ({ cls := "HedgehogLotsModel", name := "mean", desc := "(IIII)J" } : MethodName) ({ cls := "HedgehogLotsModel", name := "mean", desc := "(IIII)J" } : MethodName)) ∈ TB := tbM (i := 1385) (by decide +kernel) rfl
theorem q1336 : (Cond.code ({ cls := "HedgehogLotsModel", name := "mean", desc := "(IIII)J" } : MethodName) prog_12_method_66_code (5 : Nat) (Option.some FieldType.long)) ∈ TB := tbM (i := 1386) (by decide +kernel) rfl
theorem q1337 : (Cond.methodLink "HedgehogLotsLaw" (146 : Nat) ({ cls := "HedgehogLotsModel", name := "see", desc := "(III)I" } : MethodName)) ∈ TB := tbM (i := 1387) (by decide +kernel) rfl
theorem q1338 : (Cond.instanceMethod ({ cls := "HedgehogLotsModel", name := "see", desc := "(III)I" } : MethodName)) ∈ TB := tbM (i := 1388) (by decide +kernel) rfl
theorem q1339 : (Cond.selects "HedgehogLotsModel" ({ cls := "HedgehogLotsModel", name := "see", desc := "(III)I" } : MethodName) ({ cls := "HedgehogLotsModel", name := "see", desc := "(III)I" } : MethodName)) ∈ TB := tbM (i := 1389) (by decide +kernel) rfl
theorem q1340 : (Cond.code ({ cls := "HedgehogLotsModel", name := "see", desc := "(III)I" } : MethodName) prog_12_method_67_code (4 : Nat) (Option.some FieldType.int)) ∈ TB := tbM (i := 1390) (by decide +kernel) rfl
theorem q1341 : (Cond.methodLink "HedgehogLotsLaw" (150 : Nat) ({ cls := "HedgehogLotsModel", name := "forget", desc := "(I)I" } : MethodName)) ∈ TB := tbM (i := 1391) (by decide +kernel) rfl
theorem q1342 : (Cond.instanceMethod ({ cls := "HedgehogLotsModel", name := "forget", desc := "(I)I" } : MethodName)) ∈ TB := tbM (i := 1392) (by decide +kernel) rfl
theorem q1343 : (Cond.selects "HedgehogLotsModel" ({ cls := "HedgehogLotsModel", name := "forget", desc := "(I)I" } : MethodName) ({ cls := "HedgehogLotsModel", name := "forget", desc := "(I)I" } : MethodName)) ∈ TB := tbM (i := 1393) (by decide +kernel) rfl
theorem q1344 : (Cond.code ({ cls := "HedgehogLotsModel", name := "forget", desc := "(I)I" } : MethodName) prog_12_method_68_code (3 : Nat) (Option.some FieldType.int)) ∈ TB := tbM (i := 1394) (by decide +kernel) rfl
theorem q1345 : (Cond.methodLink "HedgehogLotsLaw" (154 : Nat) ({ cls := "HedgehogLotsModel", name := "kinds", desc := "(I)I" } : MethodName)) ∈ TB := tbM (i := 1395) (by decide +kernel) rfl
theorem q1346 : (Cond.instanceMethod ({ cls := "HedgehogLotsModel", name := "kinds", desc := "(I)I" } : MethodName)) ∈ TB := tbM (i := 1396) (by decide +kernel) rfl
theorem q1347 : (Cond.selects "HedgehogLotsModel" ({ cls := "HedgehogLotsModel", name := "kinds", desc := "(I)I" } : MethodName) ({ cls := "HedgehogLotsModel", name := "kinds", desc := "(I)I" } : MethodName)) ∈ TB := tbM (i := 1397) (by decide +kernel) rfl
theorem q1348 : (Cond.code ({ cls := "HedgehogLotsModel", name := "kinds", desc := "(I)I" } : MethodName) prog_12_method_70_code (4 : Nat) (Option.some FieldType.int)) ∈ TB := tbM (i := 1398) (by decide +kernel) rfl
theorem q1349 : (Cond.methodLink "HedgehogLotsModel" (238 : Nat) ({ cls := "HedgehogLotsModel", name := "isAsSeen", desc := "(I)Z" } : MethodName)) ∈ TB := tbM (i := 1399) (by decide +kernel) rfl
theorem q1351 : (Cond.instanceMethod ({ cls := "HedgehogLotsModel", name := "isAsSeen", desc := "(I)Z" } : MethodName)) ∈ TB := tbM (i := 1401) (by decide +kernel) rfl
theorem q1352 : (Cond.code ({ cls := "HedgehogLotsModel", name := "isAsSeen", desc := "(I)Z" } : MethodName) prog_12_method_69_code (5 : Nat) (Option.some FieldType.boolean)) ∈ TB := tbM (i := 1402) (by decide +kernel) rfl
theorem q1353 : (Cond.methodLink "HedgehogLotsLaw" (158 : Nat) ({ cls := "HedgehogLotsModel", name := "speeds", desc := "(I)I" } : MethodName)) ∈ TB := tbM (i := 1403) (by decide +kernel) rfl
theorem q1354 : (Cond.instanceMethod ({ cls := "HedgehogLotsModel", name := "speeds", desc := "(I)I" } : MethodName)) ∈ TB := tbM (i := 1404) (by decide +kernel) rfl
theorem q1355 : (Cond.selects "HedgehogLotsModel" ({ cls := "HedgehogLotsModel", name := "speeds", desc := "(I)I" } : MethodName) ({ cls := "HedgehogLotsModel", name := "speeds", desc := "(I)I" } : MethodName)) ∈ TB := tbM (i := 1405) (by decide +kernel) rfl
theorem q1356 : (Cond.code ({ cls := "HedgehogLotsModel", name := "speeds", desc := "(I)I" } : MethodName) prog_12_method_72_code (2 : Nat) (Option.some FieldType.int)) ∈ TB := tbM (i := 1406) (by decide +kernel) rfl
theorem q1357 : (Cond.methodLink "HedgehogLotsModel" (241 : Nat) ({ cls := "HedgehogLotsModel", name := "speedsOf", desc := "(I)I" } : MethodName)) ∈ TB := tbM (i := 1407) (by decide +kernel) rfl
theorem q1359 : (Cond.instanceMethod ({ cls := "HedgehogLotsModel", name := "speedsOf", desc := "(I)I" } : MethodName)) ∈ TB := tbM (i := 1409) (by decide +kernel) rfl
theorem q1360 : (Cond.code ({ cls := "HedgehogLotsModel", name := "speedsOf", desc := "(I)I" } : MethodName) prog_12_method_71_code (5 : Nat) (Option.some FieldType.int)) ∈ TB := tbM (i := 1410) (by decide +kernel) rfl
theorem q1361 : (Cond.methodLink "HedgehogLotsLaw" (162 : Nat) ({ cls := "HedgehogLotsModel", name := "ask", desc := "(II)I" } : MethodName)) ∈ TB := tbM (i := 1411) (by decide +kernel) rfl
theorem q1362 : (Cond.instanceMethod ({ cls := "HedgehogLotsModel", name := "ask", desc := "(II)I" } : MethodName)) ∈ TB := tbM (i := 1412) (by decide +kernel) rfl
theorem q1363 : (Cond.selects "HedgehogLotsModel" ({ cls := "HedgehogLotsModel", name := "ask", desc := "(II)I" } : MethodName) ({ cls := "HedgehogLotsModel", name := "ask", desc := "(II)I" } : MethodName)) ∈ TB := tbM (i := 1413) (by decide +kernel) rfl
theorem q1364 : (Cond.code ({ cls := "HedgehogLotsModel", name := "ask", desc := "(II)I" } : MethodName) prog_12_method_73_code (11 : Nat) (Option.some FieldType.int)) ∈ TB := tbM (i := 1414) (by decide +kernel) rfl
theorem q1365 : (Cond.methodLink "HedgehogLotsLaw" (166 : Nat) ({ cls := "HedgehogLotsModel", name := "drift", desc := "(III)I" } : MethodName)) ∈ TB := tbM (i := 1415) (by decide +kernel) rfl
theorem q1366 : (Cond.instanceMethod ({ cls := "HedgehogLotsModel", name := "drift", desc := "(III)I" } : MethodName)) ∈ TB := tbM (i := 1416) (by decide +kernel) rfl
theorem q1367 : (Cond.selects "HedgehogLotsModel" ({ cls := "HedgehogLotsModel", name := "drift", desc := "(III)I" } : MethodName) ({ cls := "HedgehogLotsModel", name := "drift", desc := "(III)I" } : MethodName)) ∈ TB := tbM (i := 1417) (by decide +kernel) rfl
theorem q1368 : (Cond.code ({ cls := "HedgehogLotsModel", name := "drift", desc := "(III)I" } : MethodName) prog_12_method_74_code (10 : Nat) (Option.some FieldType.int)) ∈ TB := tbM (i := 1418) (by decide +kernel) rfl
theorem q1369 : (Cond.constantLong "HedgehogLotsModel" (244 : Nat) (60 : Int64)) ∈ TB := tbM (i := 1419) (by decide +kernel) rfl
theorem q1370 : (Cond.constant "HedgehogLotsModel" (246 : Nat) (1103515245 : Int32)) ∈ TB := tbM (i := 1420) (by decide +kernel) rfl
theorem q1371 : (Cond.methodLink "HedgehogLotsLaw" (170 : Nat) ({ cls := "HedgehogLotsModel", name := "keep", desc := "(I)I" } : MethodName)) ∈ TB := tbM (i := 1421) (by decide +kernel) rfl
theorem q1372 : (Cond.instanceMethod ({ cls := "HedgehogLotsModel", name := "keep", desc := "(I)I" } : MethodName)) ∈ TB := tbM (i := 1422) (by decide +kernel) rfl
theorem q1373 : (Cond.selects "HedgehogLotsModel" ({ cls := "HedgehogLotsModel", name := "keep", desc := "(I)I" } : MethodName) ({ cls := "HedgehogLotsModel", name := "keep", desc := "(I)I" } : MethodName)) ∈ TB := tbM (i := 1423) (by decide +kernel) rfl
theorem q1374 : (Cond.code ({ cls := "HedgehogLotsModel", name := "keep", desc := "(I)I" } : MethodName) prog_12_method_75_code (3 : Nat) (Option.some FieldType.int)) ∈ TB := tbM (i := 1424) (by decide +kernel) rfl
theorem q1375 : (Cond.methodLink "HedgehogLotsLaw" (174 : Nat) ({ cls := "HedgehogLotsModel", name := "back", desc := "(I)I" } : MethodName)) ∈ TB := tbM (i := 1425) (by decide +kernel) rfl
theorem q1376 : (Cond.instanceMethod ({ cls := "HedgehogLotsModel", name := "back", desc := "(I)I" } : MethodName)) ∈ TB := tbM (i := 1426) (by decide +kernel) rfl
theorem q1377 : (Cond.selects "HedgehogLotsModel" ({ cls := "HedgehogLotsModel", name := "back", desc := "(I)I" } : MethodName) ({ cls := "HedgehogLotsModel", name := "back", desc := "(I)I" } : MethodName)) ∈ TB := tbM (i := 1427) (by decide +kernel) rfl
theorem q1378 : (Cond.code ({ cls := "HedgehogLotsModel", name := "back", desc := "(I)I" } : MethodName) prog_12_method_76_code (2 : Nat) (Option.some FieldType.int)) ∈ TB := tbM (i := 1428) (by decide +kernel) rfl
theorem q1379 : (Cond.methodLink "HedgehogLotsLaw" (178 : Nat) ({ cls := "HedgehogLotsModel", name := "sheet", desc := "(III)I" } : MethodName)) ∈ TB := tbM (i := 1429) (by decide +kernel) rfl
theorem q1380 : (Cond.instanceMethod ({ cls := "HedgehogLotsModel", name := "sheet", desc := "(III)I" } : MethodName)) ∈ TB := tbM (i := 1430) (by decide +kernel) rfl
theorem q1381 : (Cond.selects "HedgehogLotsModel" ({ cls := "HedgehogLotsModel", name := "sheet", desc := "(III)I" } : MethodName) ({ cls := "HedgehogLotsModel", name := "sheet", desc := "(III)I" } : MethodName)) ∈ TB := tbM (i := 1431) (by decide +kernel) rfl
theorem q1382 : (Cond.code ({ cls := "HedgehogLotsModel", name := "sheet", desc := "(III)I" } : MethodName) prog_12_method_77_code (5 : Nat) (Option.some FieldType.int)) ∈ TB := tbM (i := 1432) (by decide +kernel) rfl
theorem q1383 : (Cond.methodLink "HedgehogLotsLaw" (182 : Nat) ({ cls := "HedgehogLotsModel", name := "write", desc := "(III)I" } : MethodName)) ∈ TB := tbM (i := 1433) (by decide +kernel) rfl
theorem q1384 : (Cond.instanceMethod ({ cls := "HedgehogLotsModel", name := "write", desc := "(III)I" } : MethodName)) ∈ TB := tbM (i := 1434) (by decide +kernel) rfl
theorem q1385 : (Cond.selects "HedgehogLotsModel" ({ cls := "HedgehogLotsModel", name := "write", desc := "(III)I" } : MethodName) ({ cls := "HedgehogLotsModel", name := "write", desc := "(III)I" } : MethodName)) ∈ TB := tbM (i := 1435) (by decide +kernel) rfl
theorem q1386 : (Cond.code ({ cls := "HedgehogLotsModel", name := "write", desc := "(III)I" } : MethodName) prog_12_method_78_code (4 : Nat) (Option.some FieldType.int)) ∈ TB := tbM (i := 1436) (by decide +kernel) rfl
theorem q1387 : (Cond.methodLink "HedgehogLotsLaw" (187 : Nat) ({ cls := "HedgehogLotsModel", name := "read", desc := "(IIII)I" } : MethodName)) ∈ TB := tbM (i := 1437) (by decide +kernel) rfl
theorem q1388 : (Cond.instanceMethod ({ cls := "HedgehogLotsModel", name := "read", desc := "(IIII)I" } : MethodName)) ∈ TB := tbM (i := 1438) (by decide +kernel) rfl
theorem q1389 : (Cond.selects "HedgehogLotsModel" ({ cls := "HedgehogLotsModel", name := "read", desc := "(IIII)I" } : MethodName) ({ cls := "HedgehogLotsModel", name := "read", desc := "(IIII)I" } : MethodName)) ∈ TB := tbM (i := 1439) (by decide +kernel) rfl
theorem q1390 : (Cond.code ({ cls := "HedgehogLotsModel", name := "read", desc := "(IIII)I" } : MethodName) prog_12_method_79_code (9 : Nat) (Option.some FieldType.int)) ∈ TB := tbM (i := 1440) (by decide +kernel) rfl
theorem q1391 : (Cond.constantLong "HedgehogLotsModel" (247 : Nat) (20 : Int64)) ∈ TB := tbM (i := 1441) (by decide +kernel) rfl
theorem q1392 : (Cond.methodLink "HedgehogLotsLaw" (191 : Nat) ({ cls := "HedgehogLotsModel", name := "torn", desc := "()I" } : MethodName)) ∈ TB := tbM (i := 1442) (by decide +kernel) rfl
theorem q1393 : (Cond.instanceMethod ({ cls := "HedgehogLotsModel", name := "torn", desc := "()I" } : MethodName)) ∈ TB := tbM (i := 1443) (by decide +kernel) rfl
theorem q1394 : (Cond.selects "HedgehogLotsModel" ({ cls := "HedgehogLotsModel", name := "torn", desc := "()I" } : MethodName) ({ cls := "HedgehogLotsModel", name := "torn", desc := "()I" } : MethodName)) ∈ TB := tbM (i := 1444) (by decide +kernel) rfl
theorem q1395 : (Cond.code ({ cls := "HedgehogLotsModel", name := "torn", desc := "()I" } : MethodName) prog_12_method_80_code (1 : Nat) (Option.some FieldType.int)) ∈ TB := tbM (i := 1445) (by decide +kernel) rfl
theorem q1396 : (Cond.methodLink "HedgehogLotsLaw" (195 : Nat) ({ cls := "HedgehogLotsModel", name := "count", desc := "(I)I" } : MethodName)) ∈ TB := tbM (i := 1446) (by decide +kernel) rfl
theorem q1397 : (Cond.instanceMethod ({ cls := "HedgehogLotsModel", name := "count", desc := "(I)I" } : MethodName)) ∈ TB := tbM (i := 1447) (by decide +kernel) rfl
theorem q1398 : (Cond.selects "HedgehogLotsModel" ({ cls := "HedgehogLotsModel", name := "count", desc := "(I)I" } : MethodName) ({ cls := "HedgehogLotsModel", name := "count", desc := "(I)I" } : MethodName)) ∈ TB := tbM (i := 1448) (by decide +kernel) rfl
theorem q1399 : (Cond.code ({ cls := "HedgehogLotsModel", name := "count", desc := "(I)I" } : MethodName) prog_12_method_81_code (5 : Nat) (Option.some FieldType.int)) ∈ TB := tbM (i := 1449) (by decide +kernel) rfl
theorem q1400 : (Cond.fieldLink "java/lang/String" (9 : Nat) "java/lang/String" "value" "[B") ∈ TB := tbM (i := 1450) (by decide +kernel) rfl
theorem q1401 : (Cond.fieldLink "java/lang/String" (15 : Nat) "java/lang/String" "coder" "B") ∈ TB := tbM (i := 1451) (by decide +kernel) rfl
