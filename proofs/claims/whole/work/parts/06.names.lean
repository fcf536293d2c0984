theorem gb_t1 : ∀ w ∈ tables_1_1, w ∈ lw_tbl := fun w h => List.mem_append_right _ (List.mem_append_left _ h)
theorem gb_t2 : ∀ w ∈ tables_1_2, w ∈ lw_tbl := fun w h => List.mem_append_right _ (List.mem_append_right _ (List.mem_append_left _ h))
theorem gb_t3 : ∀ w ∈ tables_1_3, w ∈ lw_tbl := fun w h => List.mem_append_right _ (List.mem_append_right _ (List.mem_append_right _ (List.mem_append_left _ h)))
theorem gb_t4 : ∀ w ∈ tables_1_4, w ∈ lw_tbl := fun w h => List.mem_append_right _ (List.mem_append_right _ (List.mem_append_right _ (List.mem_append_right _ (List.mem_append_left _ h))))
theorem gb_t5 : ∀ w ∈ tables_1_5, w ∈ lw_tbl := fun w h => List.mem_append_right _ (List.mem_append_right _ (List.mem_append_right _ (List.mem_append_right _ (List.mem_append_right _ (List.mem_append_left _ h)))))
theorem gb_t6 : ∀ w ∈ tables_1_6, w ∈ lw_tbl := fun w h => List.mem_append_right _ (List.mem_append_right _ (List.mem_append_right _ (List.mem_append_right _ (List.mem_append_right _ (List.mem_append_right _ (List.mem_append_left _ h))))))
theorem gb_t7 : ∀ w ∈ tables_1_7, w ∈ lw_tbl := fun w h => List.mem_append_right _ (List.mem_append_right _ (List.mem_append_right _ (List.mem_append_right _ (List.mem_append_right _ (List.mem_append_right _ (List.mem_append_right _ (List.mem_append_left _ h)))))))
theorem gb_t8 : ∀ w ∈ tables_1_8, w ∈ lw_tbl := fun w h => List.mem_append_right _ (List.mem_append_right _ (List.mem_append_right _ (List.mem_append_right _ (List.mem_append_right _ (List.mem_append_right _ (List.mem_append_right _ (List.mem_append_right _ (h))))))))
abbrev M_X0_init : gb_M := (⟨"GladBasket$Basket", "<init>", "()V"⟩, prog_2_method_1_code, 1, (none : Option FieldType))
abbrev M_X0_copyFrom : gb_M := (⟨"GladBasket$Basket", "copyFrom", "(LGladBasket$Basket;)V"⟩, prog_2_method_2_code, 3, (none : Option FieldType))
abbrev M_X0_has : gb_M := (⟨"GladBasket$Basket", "has", "(I)Z"⟩, prog_2_method_3_code, 2, (some FieldType.boolean))
abbrev M_X0_add : gb_M := (⟨"GladBasket$Basket", "add", "(IIIII)I"⟩, prog_2_method_4_code, 7, (some FieldType.int))
abbrev M_X0_read : gb_M := (⟨"GladBasket$Basket", "read", "(II)I"⟩, prog_2_method_5_code, 4, (some FieldType.int))
abbrev M_X0_write : gb_M := (⟨"GladBasket$Basket", "write", "(III)V"⟩, prog_2_method_6_code, 4, (none : Option FieldType))
abbrev M_X0_lacks : gb_M := (⟨"GladBasket$Basket", "lacks", "(I)Z"⟩, prog_2_method_7_code, 2, (some FieldType.boolean))
abbrev M_X0_lackingCount : gb_M := (⟨"GladBasket$Basket", "lackingCount", "()I"⟩, prog_2_method_8_code, 3, (some FieldType.int))
abbrev M_X0_sourceOf : gb_M := (⟨"GladBasket$Basket", "sourceOf", "(I)I"⟩, prog_2_method_9_code, 2, (some FieldType.int))
abbrev M_X0_ownWeight : gb_M := (⟨"GladBasket$Basket", "ownWeight", "(II)I"⟩, prog_2_method_10_code, 3, (some FieldType.int))
abbrev M_X0_enact : gb_M := (⟨"GladBasket$Basket", "enact", "(LGladBasket$Program;)I"⟩, prog_2_method_11_code, 2, (some FieldType.int))
abbrev M_X0_lawAt : gb_M := (⟨"GladBasket$Basket", "lawAt", "(I)LGladBasket$Program;"⟩, prog_2_method_12_code, 2, (some (FieldType.object "GladBasket$Program")))
abbrev M_X0_lawInForce : gb_M := (⟨"GladBasket$Basket", "lawInForce", "()LGladBasket$Program;"⟩, prog_2_method_13_code, 1, (some (FieldType.object "GladBasket$Program")))
abbrev M_X0_befall : gb_M := (⟨"GladBasket$Basket", "befall", "(II)V"⟩, prog_2_method_14_code, 4, (none : Option FieldType))
abbrev M_X1_init : gb_M := (⟨"GladBasket$Figures", "<init>", "(LGladBasket$Judge;)V"⟩, prog_3_method_1_code, 2, (none : Option FieldType))
abbrev M_X1_load : gb_M := (⟨"GladBasket$Figures", "load", "(LGladBasket$Basket;LGladBasket$Program;)V"⟩, prog_3_method_2_code, 5, (none : Option FieldType))
abbrev M_X1_countOfAll : gb_M := (⟨"GladBasket$Figures", "countOfAll", "()I"⟩, prog_3_method_3_code, 3, (some FieldType.int))
abbrev M_X1_byRule : gb_M := (⟨"GladBasket$Figures", "byRule", "(I)LGladBasket$Fraction;"⟩, prog_3_method_4_code, 2, (some (FieldType.object "GladBasket$Fraction")))
abbrev M_X1_turnedByRule : gb_M := (⟨"GladBasket$Figures", "turnedByRule", "(I)LGladBasket$Fraction;"⟩, prog_3_method_5_code, 2, (some (FieldType.object "GladBasket$Fraction")))
abbrev M_X1_reckon : gb_M := (⟨"GladBasket$Figures", "reckon", "(I[I[ILGladBasket$Fraction;)V"⟩, prog_3_method_6_code, 6, (none : Option FieldType))
abbrev M_X1_weighed : gb_M := (⟨"GladBasket$Figures", "weighed", "([I)J"⟩, prog_3_method_7_code, 5, (some FieldType.long))
abbrev M_X1_outermost : gb_M := (⟨"GladBasket$Figures", "outermost", "([I[II)I"⟩, prog_3_method_8_code, 6, (some FieldType.int))
abbrev M_X1_hundredths : gb_M := (⟨"GladBasket$Figures", "hundredths", "()I"⟩, prog_3_method_9_code, 1, (some FieldType.int))
abbrev M_X1_thousandths : gb_M := (⟨"GladBasket$Figures", "thousandths", "()I"⟩, prog_3_method_10_code, 1, (some FieldType.int))
abbrev M_X1_cutTimes : gb_M := (⟨"GladBasket$Figures", "cutTimes", "(I)I"⟩, prog_3_method_11_code, 4, (some FieldType.int))
abbrev M_X2_init : gb_M := (⟨"GladBasket$Fraction", "<init>", "()V"⟩, prog_4_method_1_code, 1, (none : Option FieldType))
abbrev M_X2_put : gb_M := (⟨"GladBasket$Fraction", "put", "(JJ)V"⟩, prog_4_method_2_code, 9, (none : Option FieldType))
abbrev M_X2_add : gb_M := (⟨"GladBasket$Fraction", "add", "(JJ)V"⟩, prog_4_method_3_code, 5, (none : Option FieldType))
abbrev M_X2_multiply : gb_M := (⟨"GladBasket$Fraction", "multiply", "(LGladBasket$Fraction;)V"⟩, prog_4_method_4_code, 2, (none : Option FieldType))
abbrev M_X2_divide : gb_M := (⟨"GladBasket$Fraction", "divide", "(J)V"⟩, prog_4_method_5_code, 3, (none : Option FieldType))
abbrev M_X2_side : gb_M := (⟨"GladBasket$Fraction", "side", "(I)J"⟩, prog_4_method_6_code, 2, (some FieldType.long))
abbrev M_X2_commonDivisor : gb_M := (⟨"GladBasket$Fraction", "commonDivisor", "(JJ)J"⟩, prog_4_method_7_code, 11, (some FieldType.long))
abbrev M_X3_init : gb_M := (⟨"GladBasket$History", "<init>", "()V"⟩, prog_5_method_1_code, 1, (none : Option FieldType))
abbrev M_X3_clear : gb_M := (⟨"GladBasket$History", "clear", "()V"⟩, prog_5_method_2_code, 1, (none : Option FieldType))
abbrev M_X3_copyFrom : gb_M := (⟨"GladBasket$History", "copyFrom", "(LGladBasket$History;)V"⟩, prog_5_method_3_code, 2, (none : Option FieldType))
abbrev M_X3_remember : gb_M := (⟨"GladBasket$History", "remember", "(IILGladBasket$Basket;)V"⟩, prog_5_method_4_code, 5, (none : Option FieldType))
abbrev M_X3_dropOldest : gb_M := (⟨"GladBasket$History", "dropOldest", "()V"⟩, prog_5_method_5_code, 1, (none : Option FieldType))
abbrev M_X3_takeBack : gb_M := (⟨"GladBasket$History", "takeBack", "(LGladBasket$Basket;)I"⟩, prog_5_method_6_code, 4, (some FieldType.int))
abbrev M_X4_init : gb_M := (⟨"GladBasket$Judge", "<init>", "(LGladBasket$Machine;)V"⟩, prog_6_method_1_code, 2, (none : Option FieldType))
abbrev M_X4_tell : gb_M := (⟨"GladBasket$Judge", "tell", "(LGladBasket$Basket;LGladBasket$Program;II)I"⟩, prog_6_method_2_code, 7, (some FieldType.int))
abbrev M_X4_fillWords : gb_M := (⟨"GladBasket$Judge", "fillWords", "(LGladBasket$Basket;I)V"⟩, prog_6_method_3_code, 3, (none : Option FieldType))
abbrev M_X4_moveAll : gb_M := (⟨"GladBasket$Judge", "moveAll", "(LGladBasket$Basket;)V"⟩, prog_6_method_4_code, 4, (none : Option FieldType))
abbrev M_X5_init : gb_M := (⟨"GladBasket$Machine", "<init>", "()V"⟩, prog_7_method_1_code, 1, (none : Option FieldType))
abbrev M_X5_run : gb_M := (⟨"GladBasket$Machine", "run", "(LGladBasket$Program;II[I)I"⟩, prog_7_method_2_code, 13, (some FieldType.int))
abbrev M_X5_join : gb_M := (⟨"GladBasket$Machine", "join", "(III)I"⟩, prog_7_method_3_code, 5, (some FieldType.int))
abbrev M_X6_init : gb_M := (⟨"GladBasket$Paper", "<init>", "(LGladBasket$Judge;LGladBasket$Figures;)V"⟩, prog_8_method_1_code, 3, (none : Option FieldType))
abbrev M_X6_loadWares : gb_M := (⟨"GladBasket$Paper", "loadWares", "(LGladBasket$Basket;)V"⟩, prog_8_method_2_code, 5, (none : Option FieldType))
abbrev M_X6_cheapest : gb_M := (⟨"GladBasket$Paper", "cheapest", "(LGladBasket$Basket;I)I"⟩, prog_8_method_3_code, 7, (some FieldType.int))
abbrev M_X6_bestAmount : gb_M := (⟨"GladBasket$Paper", "bestAmount", "(II)I"⟩, prog_8_method_4_code, 7, (some FieldType.int))
abbrev M_X6_costWith : gb_M := (⟨"GladBasket$Paper", "costWith", "(III)I"⟩, prog_8_method_5_code, 5, (some FieldType.int))
abbrev M_X6_amountOf : gb_M := (⟨"GladBasket$Paper", "amountOf", "(I)I"⟩, prog_8_method_6_code, 2, (some FieldType.int))
abbrev M_X6_walk : gb_M := (⟨"GladBasket$Paper", "walk", "(LGladBasket$Basket;I)I"⟩, prog_8_method_7_code, 9, (some FieldType.int))
abbrev M_X6_loadPlaces : gb_M := (⟨"GladBasket$Paper", "loadPlaces", "(LGladBasket$Basket;)I"⟩, prog_8_method_8_code, 5, (some FieldType.int))
abbrev M_X6_shortest : gb_M := (⟨"GladBasket$Paper", "shortest", "(II)I"⟩, prog_8_method_9_code, 8, (some FieldType.int))
abbrev M_X6_stepsBetween : gb_M := (⟨"GladBasket$Paper", "stepsBetween", "(II)I"⟩, prog_8_method_10_code, 2, (some FieldType.int))
abbrev M_X6_walkedTo : gb_M := (⟨"GladBasket$Paper", "walkedTo", "(I)I"⟩, prog_8_method_11_code, 2, (some FieldType.int))
abbrev M_X6_seekSets : gb_M := (⟨"GladBasket$Paper", "seekSets", "(LGladBasket$Basket;II)I"⟩, prog_8_method_12_code, 10, (some FieldType.int))
abbrev M_X6_setAt : gb_M := (⟨"GladBasket$Paper", "setAt", "(I)I"⟩, prog_8_method_13_code, 2, (some FieldType.int))
abbrev M_X6_setsWith : gb_M := (⟨"GladBasket$Paper", "setsWith", "(I)I"⟩, prog_8_method_14_code, 4, (some FieldType.int))
abbrev M_X6_rise : gb_M := (⟨"GladBasket$Paper", "rise", "(LGladBasket$Basket;)LGladBasket$Fraction;"⟩, prog_8_method_15_code, 8, (some (FieldType.object "GladBasket$Fraction")))
abbrev M_X6_atStart : gb_M := (⟨"GladBasket$Paper", "atStart", "(LGladBasket$Basket;)LGladBasket$Fraction;"⟩, prog_8_method_16_code, 8, (some (FieldType.object "GladBasket$Fraction")))
abbrev M_X6_sumOfMonths : gb_M := (⟨"GladBasket$Paper", "sumOfMonths", "(LGladBasket$Basket;II)J"⟩, prog_8_method_17_code, 9, (some FieldType.long))
abbrev M_X6_partsAtTop : gb_M := (⟨"GladBasket$Paper", "partsAtTop", "(III)J"⟩, prog_8_method_18_code, 6, (some FieldType.long))
abbrev M_X7_init : gb_M := (⟨"GladBasket$Program", "<init>", "()V"⟩, prog_9_method_1_code, 1, (none : Option FieldType))
abbrev M_X7_init_ : gb_M := (⟨"GladBasket$Program", "<init>", "(LGladBasket$Program;)V"⟩, prog_9_method_2_code, 2, (none : Option FieldType))
abbrev M_X7_clear : gb_M := (⟨"GladBasket$Program", "clear", "()V"⟩, prog_9_method_3_code, 1, (none : Option FieldType))
abbrev M_X7_beginClause : gb_M := (⟨"GladBasket$Program", "beginClause", "(I)V"⟩, prog_9_method_4_code, 2, (none : Option FieldType))
abbrev M_X7_endPiece : gb_M := (⟨"GladBasket$Program", "endPiece", "(I)V"⟩, prog_9_method_5_code, 3, (none : Option FieldType))
abbrev M_X7_emit : gb_M := (⟨"GladBasket$Program", "emit", "(II)I"⟩, prog_9_method_6_code, 4, (some FieldType.int))
abbrev M_X7_aimHere : gb_M := (⟨"GladBasket$Program", "aimHere", "(I)V"⟩, prog_9_method_7_code, 2, (none : Option FieldType))
abbrev M_X8_init : gb_M := (⟨"GladBasket$Reader", "<init>", "(LGladBasket$Tape;)V"⟩, prog_10_method_1_code, 2, (none : Option FieldType))
abbrev M_X8_read : gb_M := (⟨"GladBasket$Reader", "read", "(Z)I"⟩, prog_10_method_2_code, 5, (some FieldType.int))
abbrev M_X8_readClause : gb_M := (⟨"GladBasket$Reader", "readClause", "()Z"⟩, prog_10_method_3_code, 2, (some FieldType.boolean))
abbrev M_X8_readKeyword : gb_M := (⟨"GladBasket$Reader", "readKeyword", "(Ljava/lang/String;)Z"⟩, prog_10_method_4_code, 2, (some FieldType.boolean))
abbrev M_X8_readSign : gb_M := (⟨"GladBasket$Reader", "readSign", "(I)Z"⟩, prog_10_method_5_code, 2, (some FieldType.boolean))
abbrev M_X8_readTimes : gb_M := (⟨"GladBasket$Reader", "readTimes", "()Z"⟩, prog_10_method_6_code, 2, (some FieldType.boolean))
abbrev M_X8_readTest : gb_M := (⟨"GladBasket$Reader", "readTest", "(I)Z"⟩, prog_10_method_7_code, 5, (some FieldType.boolean))
abbrev M_X8_readBoth : gb_M := (⟨"GladBasket$Reader", "readBoth", "(I)Z"⟩, prog_10_method_8_code, 5, (some FieldType.boolean))
abbrev M_X8_readPlain : gb_M := (⟨"GladBasket$Reader", "readPlain", "(I)Z"⟩, prog_10_method_9_code, 5, (some FieldType.boolean))
abbrev M_X8_readSum : gb_M := (⟨"GladBasket$Reader", "readSum", "(I)Z"⟩, prog_10_method_10_code, 5, (some FieldType.boolean))
abbrev M_X8_readTerm : gb_M := (⟨"GladBasket$Reader", "readTerm", "(I)Z"⟩, prog_10_method_11_code, 5, (some FieldType.boolean))
abbrev M_X8_readPart : gb_M := (⟨"GladBasket$Reader", "readPart", "(I)Z"⟩, prog_10_method_12_code, 2, (some FieldType.boolean))
abbrev M_X8_readNumber : gb_M := (⟨"GladBasket$Reader", "readNumber", "()Z"⟩, prog_10_method_13_code, 2, (some FieldType.boolean))
abbrev M_X8_readWord : gb_M := (⟨"GladBasket$Reader", "readWord", "()Z"⟩, prog_10_method_14_code, 3, (some FieldType.boolean))
abbrev M_X9_init : gb_M := (⟨"GladBasket$Tape", "<init>", "()V"⟩, prog_11_method_1_code, 1, (none : Option FieldType))
abbrev M_X9_append : gb_M := (⟨"GladBasket$Tape", "append", "(I)V"⟩, prog_11_method_2_code, 3, (none : Option FieldType))
abbrev M_X9_byteAt : gb_M := (⟨"GladBasket$Tape", "byteAt", "(I)I"⟩, prog_11_method_3_code, 2, (some FieldType.int))
abbrev M_X9_rewind : gb_M := (⟨"GladBasket$Tape", "rewind", "()V"⟩, prog_11_method_4_code, 1, (none : Option FieldType))
abbrev M_X9_step : gb_M := (⟨"GladBasket$Tape", "step", "()V"⟩, prog_11_method_5_code, 1, (none : Option FieldType))
abbrev M_X9_kindOf : gb_M := (⟨"GladBasket$Tape", "kindOf", "(I)I"⟩, prog_11_method_6_code, 1, (some FieldType.int))
abbrev M_X9_ended : gb_M := (⟨"GladBasket$Tape", "ended", "()Z"⟩, prog_11_method_7_code, 1, (some FieldType.boolean))
abbrev M_X9_isSign : gb_M := (⟨"GladBasket$Tape", "isSign", "(I)Z"⟩, prog_11_method_8_code, 2, (some FieldType.boolean))
abbrev M_X9_signIn : gb_M := (⟨"GladBasket$Tape", "signIn", "(Ljava/lang/String;)I"⟩, prog_11_method_9_code, 2, (some FieldType.int))
abbrev M_X9_isNumber : gb_M := (⟨"GladBasket$Tape", "isNumber", "()Z"⟩, prog_11_method_10_code, 1, (some FieldType.boolean))
abbrev M_X9_number : gb_M := (⟨"GladBasket$Tape", "number", "()I"⟩, prog_11_method_11_code, 3, (some FieldType.int))
abbrev M_X9_wordIn : gb_M := (⟨"GladBasket$Tape", "wordIn", "(Ljava/lang/String;)I"⟩, prog_11_method_12_code, 6, (some FieldType.int))
abbrev M_X10_init : gb_M := (⟨"GladBasket", "<init>", "()V"⟩, prog_1_method_1_code, 1, (none : Option FieldType))
abbrev M_X10_good : gb_M := (⟨"GladBasket", "good", "(IIIII)I"⟩, prog_1_method_2_code, 6, (some FieldType.int))
abbrev M_X10_of : gb_M := (⟨"GladBasket", "of", "(II)I"⟩, prog_1_method_3_code, 3, (some FieldType.int))
abbrev M_X10_asks : gb_M := (⟨"GladBasket", "asks", "(II)I"⟩, prog_1_method_4_code, 3, (some FieldType.int))
abbrev M_X10_stand : gb_M := (⟨"GladBasket", "stand", "(II)I"⟩, prog_1_method_5_code, 3, (some FieldType.int))
abbrev M_X10_person : gb_M := (⟨"GladBasket", "person", "()I"⟩, prog_1_method_6_code, 1, (some FieldType.int))
abbrev M_X10_own : gb_M := (⟨"GladBasket", "own", "(III)I"⟩, prog_1_method_7_code, 5, (some FieldType.int))
abbrev M_X10_terms : gb_M := (⟨"GladBasket", "terms", "(II)I"⟩, prog_1_method_8_code, 4, (some FieldType.int))
abbrev M_X10_feed : gb_M := (⟨"GladBasket", "feed", "(IIIII)I"⟩, prog_1_method_9_code, 6, (some FieldType.int))
abbrev M_X10_end : gb_M := (⟨"GladBasket", "end", "(I)I"⟩, prog_1_method_10_code, 2, (some FieldType.int))
abbrev M_X10_row : gb_M := (⟨"GladBasket", "row", "()I"⟩, prog_1_method_11_code, 3, (some FieldType.int))
abbrev M_X10_addFromTape : gb_M := (⟨"GladBasket", "addFromTape", "(I)Z"⟩, prog_1_method_12_code, 6, (some FieldType.boolean))
abbrev M_X10_commas : gb_M := (⟨"GladBasket", "commas", "()I"⟩, prog_1_method_13_code, 1, (some FieldType.int))
abbrev M_X10_law : gb_M := (⟨"GladBasket", "law", "()I"⟩, prog_1_method_14_code, 1, (some FieldType.int))
abbrev M_X10_orders : gb_M := (⟨"GladBasket", "orders", "()I"⟩, prog_1_method_15_code, 4, (some FieldType.int))
abbrev M_X10_fault : gb_M := (⟨"GladBasket", "fault", "()I"⟩, prog_1_method_16_code, 1, (some FieldType.int))
abbrev M_X10_stopped : gb_M := (⟨"GladBasket", "stopped", "()I"⟩, prog_1_method_17_code, 1, (some FieldType.int))
abbrev M_X10_force : gb_M := (⟨"GladBasket", "force", "(I)I"⟩, prog_1_method_18_code, 3, (some FieldType.int))
abbrev M_X10_runOnce : gb_M := (⟨"GladBasket", "runOnce", "(LGladBasket$Program;I)Z"⟩, prog_1_method_19_code, 6, (some FieldType.boolean))
abbrev M_X10_fillOrderWords : gb_M := (⟨"GladBasket", "fillOrderWords", "(LGladBasket$Program;)V"⟩, prog_1_method_20_code, 3, (none : Option FieldType))
abbrev M_X10_changeLacking : gb_M := (⟨"GladBasket", "changeLacking", "(II)I"⟩, prog_1_method_21_code, 3, (some FieldType.int))
abbrev M_X10_changeWeight : gb_M := (⟨"GladBasket", "changeWeight", "(II)I"⟩, prog_1_method_22_code, 4, (some FieldType.int))
abbrev M_X10_passMonth : gb_M := (⟨"GladBasket", "passMonth", "()I"⟩, prog_1_method_23_code, 1, (some FieldType.int))
abbrev M_X10_lack : gb_M := (⟨"GladBasket", "lack", "(I)I"⟩, prog_1_method_24_code, 2, (some FieldType.int))
abbrev M_X10_find : gb_M := (⟨"GladBasket", "find", "(I)I"⟩, prog_1_method_25_code, 2, (some FieldType.int))
abbrev M_X10_weigh : gb_M := (⟨"GladBasket", "weigh", "(II)I"⟩, prog_1_method_26_code, 3, (some FieldType.int))
abbrev M_X10_pass : gb_M := (⟨"GladBasket", "pass", "()I"⟩, prog_1_method_27_code, 1, (some FieldType.int))
abbrev M_X10_undo : gb_M := (⟨"GladBasket", "undo", "()I"⟩, prog_1_method_28_code, 1, (some FieldType.int))
abbrev M_X10_figure : gb_M := (⟨"GladBasket", "figure", "(II)J"⟩, prog_1_method_29_code, 3, (some FieldType.long))
abbrev M_X10_turned : gb_M := (⟨"GladBasket", "turned", "(II)J"⟩, prog_1_method_30_code, 3, (some FieldType.long))
abbrev M_X10_pension : gb_M := (⟨"GladBasket", "pension", "()I"⟩, prog_1_method_31_code, 1, (some FieldType.int))
abbrev M_X10_glad : gb_M := (⟨"GladBasket", "glad", "(II)I"⟩, prog_1_method_32_code, 4, (some FieldType.int))
abbrev M_X10_round : gb_M := (⟨"GladBasket", "round", "(II)I"⟩, prog_1_method_33_code, 4, (some FieldType.int))
abbrev M_X10_spent : gb_M := (⟨"GladBasket", "spent", "(III)I"⟩, prog_1_method_34_code, 5, (some FieldType.int))
abbrev M_X10_ask : gb_M := (⟨"GladBasket", "ask", "(III)I"⟩, prog_1_method_35_code, 10, (some FieldType.int))
abbrev M_X10_fair : gb_M := (⟨"GladBasket", "fair", "(II)I"⟩, prog_1_method_36_code, 8, (some FieldType.int))
abbrev M_X10_hear : gb_M := (⟨"GladBasket", "hear", "(I)I"⟩, prog_1_method_37_code, 2, (some FieldType.int))
abbrev M_X10_forget : gb_M := (⟨"GladBasket", "forget", "()I"⟩, prog_1_method_38_code, 2, (some FieldType.int))
abbrev M_X10_trend : gb_M := (⟨"GladBasket", "trend", "(I)I"⟩, prog_1_method_39_code, 3, (some FieldType.int))
abbrev M_X10_does : gb_M := (⟨"GladBasket", "does", "(I)I"⟩, prog_1_method_40_code, 3, (some FieldType.int))
abbrev M_X10_compare : gb_M := (⟨"GladBasket", "compare", "(I)I"⟩, prog_1_method_41_code, 2, (some FieldType.int))
abbrev M_X10_gets : gb_M := (⟨"GladBasket", "gets", "(II)J"⟩, prog_1_method_42_code, 3, (some FieldType.long))
abbrev M_X10_years : gb_M := (⟨"GladBasket", "years", "(II)I"⟩, prog_1_method_43_code, 7, (some FieldType.int))
abbrev M_X10_nextDraw : gb_M := (⟨"GladBasket", "nextDraw", "(I)I"⟩, prog_1_method_44_code, 1, (some FieldType.int))
abbrev M_X10_drawn : gb_M := (⟨"GladBasket", "drawn", "(II)I"⟩, prog_1_method_45_code, 3, (some FieldType.int))
abbrev M_X10_image : gb_M := (⟨"GladBasket", "image", "(I)I"⟩, prog_1_method_46_code, 2, (some FieldType.int))
abbrev M_X10_back : gb_M := (⟨"GladBasket", "back", "(I)I"⟩, prog_1_method_47_code, 2, (some FieldType.int))
abbrev M_X10_count : gb_M := (⟨"GladBasket", "count", "(I)I"⟩, prog_1_method_48_code, 2, (some FieldType.int))
abbrev M_X10_status : gb_M := (⟨"GladBasket", "status", "()I"⟩, prog_1_method_49_code, 1, (some FieldType.int))
abbrev M_X10_refuse : gb_M := (⟨"GladBasket", "refuse", "(I)I"⟩, prog_1_method_50_code, 2, (some FieldType.int))
abbrev M_X10_grant : gb_M := (⟨"GladBasket", "grant", "(I)I"⟩, prog_1_method_51_code, 2, (some FieldType.int))
abbrev M_X10_settle : gb_M := (⟨"GladBasket", "settle", "(I)I"⟩, prog_1_method_52_code, 2, (some FieldType.int))
abbrev M_X10_within : gb_M := (⟨"GladBasket", "within", "(III)Z"⟩, prog_1_method_53_code, 3, (some FieldType.boolean))
abbrev M_X10_nearest : gb_M := (⟨"GladBasket", "nearest", "(III)I"⟩, prog_1_method_54_code, 3, (some FieldType.int))
abbrev M_X10_canBeGood : gb_M := (⟨"GladBasket", "canBeGood", "(IIII)Z"⟩, prog_1_method_55_code, 4, (some FieldType.boolean))
abbrev M_X11_init : gb_M := (⟨"GladBasketModel", "<init>", "()V"⟩, prog_13_method_1_code, 1, (none : Option FieldType))
abbrev M_X11_in : gb_M := (⟨"GladBasketModel", "in", "(JJJ)Z"⟩, prog_13_method_3_code, 6, (some FieldType.boolean))
abbrev M_X11_is : gb_M := (⟨"GladBasketModel", "is", "(II)Z"⟩, prog_13_method_4_code, 2, (some FieldType.boolean))
abbrev M_X11_within : gb_M := (⟨"GladBasketModel", "within", "(JII)I"⟩, prog_13_method_5_code, 4, (some FieldType.int))
abbrev M_X11_tell : gb_M := (⟨"GladBasketModel", "tell", "(I)I"⟩, prog_13_method_6_code, 2, (some FieldType.int))
abbrev M_X11_change : gb_M := (⟨"GladBasketModel", "change", "(II)I"⟩, prog_13_method_7_code, 4, (some FieldType.int))
abbrev M_X11_settled : gb_M := (⟨"GladBasketModel", "settled", "(I)I"⟩, prog_13_method_8_code, 2, (some FieldType.int))
abbrev M_X11_keepAll : gb_M := (⟨"GladBasketModel", "keepAll", "(I)V"⟩, prog_13_method_9_code, 3, (none : Option FieldType))
abbrev M_X11_putBack : gb_M := (⟨"GladBasketModel", "putBack", "(I)V"⟩, prog_13_method_10_code, 3, (none : Option FieldType))
abbrev M_X11_remember : gb_M := (⟨"GladBasketModel", "remember", "(I)V"⟩, prog_13_method_11_code, 3, (none : Option FieldType))
abbrev M_X11_undo : gb_M := (⟨"GladBasketModel", "undo", "()I"⟩, prog_13_method_12_code, 1, (some FieldType.int))
abbrev M_X11_image : gb_M := (⟨"GladBasketModel", "image", "(I)I"⟩, prog_13_method_13_code, 3, (some FieldType.int))
abbrev M_X11_back : gb_M := (⟨"GladBasketModel", "back", "(I)I"⟩, prog_13_method_14_code, 3, (some FieldType.int))
abbrev M_X11_isGood : gb_M := (⟨"GladBasketModel", "isGood", "(I)Z"⟩, prog_13_method_15_code, 2, (some FieldType.boolean))
abbrev M_X11_isPerson : gb_M := (⟨"GladBasketModel", "isPerson", "(I)Z"⟩, prog_13_method_16_code, 2, (some FieldType.boolean))
abbrev M_X11_stepsOf : gb_M := (⟨"GladBasketModel", "stepsOf", "(II)I"⟩, prog_13_method_17_code, 4, (some FieldType.int))
abbrev M_X11_lackingOnes : gb_M := (⟨"GladBasketModel", "lackingOnes", "()I"⟩, prog_13_method_18_code, 3, (some FieldType.int))
abbrev M_X11_come : gb_M := (⟨"GladBasketModel", "come", "(IIIII)I"⟩, prog_13_method_19_code, 8, (some FieldType.int))
abbrev M_X11_good : gb_M := (⟨"GladBasketModel", "good", "(IIIII)I"⟩, prog_13_method_20_code, 6, (some FieldType.int))
abbrev M_X11_of : gb_M := (⟨"GladBasketModel", "of", "(II)I"⟩, prog_13_method_21_code, 3, (some FieldType.int))
abbrev M_X11_asks : gb_M := (⟨"GladBasketModel", "asks", "(II)I"⟩, prog_13_method_22_code, 3, (some FieldType.int))
abbrev M_X11_stand : gb_M := (⟨"GladBasketModel", "stand", "(II)I"⟩, prog_13_method_23_code, 3, (some FieldType.int))
abbrev M_X11_person : gb_M := (⟨"GladBasketModel", "person", "()I"⟩, prog_13_method_24_code, 3, (some FieldType.int))
abbrev M_X11_own : gb_M := (⟨"GladBasketModel", "own", "(III)I"⟩, prog_13_method_25_code, 4, (some FieldType.int))
abbrev M_X11_terms : gb_M := (⟨"GladBasketModel", "terms", "(II)I"⟩, prog_13_method_26_code, 4, (some FieldType.int))
abbrev M_X11_row : gb_M := (⟨"GladBasketModel", "row", "()I"⟩, prog_13_method_27_code, 4, (some FieldType.int))
abbrev M_X11_commas : gb_M := (⟨"GladBasketModel", "commas", "()I"⟩, prog_13_method_28_code, 1, (some FieldType.int))
abbrev M_X11_four : gb_M := (⟨"GladBasketModel", "four", "(I)V"⟩, prog_13_method_29_code, 3, (none : Option FieldType))
abbrev M_X11_feed : gb_M := (⟨"GladBasketModel", "feed", "(IIIII)I"⟩, prog_13_method_30_code, 6, (some FieldType.int))
abbrev M_X11_end : gb_M := (⟨"GladBasketModel", "end", "(I)I"⟩, prog_13_method_31_code, 2, (some FieldType.int))
abbrev M_X11_isSmall : gb_M := (⟨"GladBasketModel", "isSmall", "(I)Z"⟩, prog_13_method_32_code, 1, (some FieldType.boolean))
abbrev M_X11_isDigit : gb_M := (⟨"GladBasketModel", "isDigit", "(I)Z"⟩, prog_13_method_33_code, 1, (some FieldType.boolean))
abbrev M_X11_begin : gb_M := (⟨"GladBasketModel", "begin", "()V"⟩, prog_13_method_34_code, 1, (none : Option FieldType))
abbrev M_X11_next : gb_M := (⟨"GladBasketModel", "next", "()V"⟩, prog_13_method_35_code, 1, (none : Option FieldType))
abbrev M_X11_isWord : gb_M := (⟨"GladBasketModel", "isWord", "(J)Z"⟩, prog_13_method_36_code, 3, (some FieldType.boolean))
abbrev M_X11_isSign : gb_M := (⟨"GladBasketModel", "isSign", "(I)Z"⟩, prog_13_method_37_code, 2, (some FieldType.boolean))
abbrev M_X11_must : gb_M := (⟨"GladBasketModel", "must", "(Z)V"⟩, prog_13_method_38_code, 2, (none : Option FieldType))
abbrev M_X11_number : gb_M := (⟨"GladBasketModel", "number", "(JJ)I"⟩, prog_13_method_39_code, 6, (some FieldType.int))
abbrev M_X11_fault : gb_M := (⟨"GladBasketModel", "fault", "()I"⟩, prog_13_method_40_code, 1, (some FieldType.int))
abbrev M_X11_emit : gb_M := (⟨"GladBasketModel", "emit", "(II)V"⟩, prog_13_method_41_code, 3, (none : Option FieldType))
abbrev M_X11_push : gb_M := (⟨"GladBasketModel", "push", "(II)V"⟩, prog_13_method_42_code, 3, (none : Option FieldType))
abbrev M_X11_binds : gb_M := (⟨"GladBasketModel", "binds", "(I)I"⟩, prog_13_method_43_code, 1, (some FieldType.int))
abbrev M_X11_settle : gb_M := (⟨"GladBasketModel", "settle", "(I)V"⟩, prog_13_method_44_code, 2, (none : Option FieldType))
abbrev M_X11_inner : gb_M := (⟨"GladBasketModel", "inner", "()I"⟩, prog_13_method_45_code, 3, (some FieldType.int))
abbrev M_X11_isCompared : gb_M := (⟨"GladBasketModel", "isCompared", "()Z"⟩, prog_13_method_46_code, 2, (some FieldType.boolean))
abbrev M_X11_partAt : gb_M := (⟨"GladBasketModel", "partAt", "()I"⟩, prog_13_method_47_code, 3, (some FieldType.int))
abbrev M_X11_orderPartAt : gb_M := (⟨"GladBasketModel", "orderPartAt", "()I"⟩, prog_13_method_48_code, 3, (some FieldType.int))
abbrev M_X11_openBracket : gb_M := (⟨"GladBasketModel", "openBracket", "(I)V"⟩, prog_13_method_49_code, 2, (none : Option FieldType))
abbrev M_X11_leaf : gb_M := (⟨"GladBasketModel", "leaf", "(ZII)V"⟩, prog_13_method_50_code, 4, (none : Option FieldType))
abbrev M_X11_readPart : gb_M := (⟨"GladBasketModel", "readPart", "()I"⟩, prog_13_method_51_code, 4, (some FieldType.int))
abbrev M_X11_readPlain : gb_M := (⟨"GladBasketModel", "readPlain", "()I"⟩, prog_13_method_52_code, 1, (some FieldType.int))
abbrev M_X11_behindSum : gb_M := (⟨"GladBasketModel", "behindSum", "(Z)I"⟩, prog_13_method_53_code, 4, (some FieldType.int))
abbrev M_X11_behindTest : gb_M := (⟨"GladBasketModel", "behindTest", "()I"⟩, prog_13_method_54_code, 2, (some FieldType.int))
abbrev M_X11_readExpression : gb_M := (⟨"GladBasketModel", "readExpression", "(Z)V"⟩, prog_13_method_55_code, 3, (none : Option FieldType))
abbrev M_X11_beginText : gb_M := (⟨"GladBasketModel", "beginText", "(Z)V"⟩, prog_13_method_56_code, 2, (none : Option FieldType))
abbrev M_X11_endText : gb_M := (⟨"GladBasketModel", "endText", "()V"⟩, prog_13_method_57_code, 1, (none : Option FieldType))
abbrev M_X11_readLaw : gb_M := (⟨"GladBasketModel", "readLaw", "()V"⟩, prog_13_method_58_code, 4, (none : Option FieldType))
abbrev M_X11_law : gb_M := (⟨"GladBasketModel", "law", "()I"⟩, prog_13_method_59_code, 3, (some FieldType.int))
abbrev M_X11_isLaw : gb_M := (⟨"GladBasketModel", "isLaw", "(I)Z"⟩, prog_13_method_60_code, 2, (some FieldType.boolean))
abbrev M_X11_force : gb_M := (⟨"GladBasketModel", "force", "(I)I"⟩, prog_13_method_61_code, 2, (some FieldType.int))
abbrev M_X11_reckon : gb_M := (⟨"GladBasketModel", "reckon", "(IJJ)J"⟩, prog_13_method_62_code, 6, (some FieldType.long))
abbrev M_X11_reckonAll : gb_M := (⟨"GladBasketModel", "reckonAll", "(II)V"⟩, prog_13_method_63_code, 7, (none : Option FieldType))
abbrev M_X11_isSo : gb_M := (⟨"GladBasketModel", "isSo", "(I)Z"⟩, prog_13_method_64_code, 2, (some FieldType.boolean))
abbrev M_X11_tells : gb_M := (⟨"GladBasketModel", "tells", "(IIJ)J"⟩, prog_13_method_65_code, 9, (some FieldType.long))
abbrev M_X11_movesOf : gb_M := (⟨"GladBasketModel", "movesOf", "(I)I"⟩, prog_13_method_66_code, 2, (some FieldType.int))
abbrev M_X11_countsOf : gb_M := (⟨"GladBasketModel", "countsOf", "(I)I"⟩, prog_13_method_67_code, 3, (some FieldType.int))
abbrev M_X11_gladsOf : gb_M := (⟨"GladBasketModel", "gladsOf", "(I)I"⟩, prog_13_method_68_code, 2, (some FieldType.int))
abbrev M_X11_isBarred : gb_M := (⟨"GladBasketModel", "isBarred", "(I)Z"⟩, prog_13_method_69_code, 2, (some FieldType.boolean))
abbrev M_X11_pricedBy : gb_M := (⟨"GladBasketModel", "pricedBy", "(I)I"⟩, prog_13_method_70_code, 2, (some FieldType.int))
abbrev M_X11_lackNow : gb_M := (⟨"GladBasketModel", "lackNow", "(I)I"⟩, prog_13_method_71_code, 2, (some FieldType.int))
abbrev M_X11_lack : gb_M := (⟨"GladBasketModel", "lack", "(I)I"⟩, prog_13_method_72_code, 2, (some FieldType.int))
abbrev M_X11_findNow : gb_M := (⟨"GladBasketModel", "findNow", "(I)I"⟩, prog_13_method_73_code, 2, (some FieldType.int))
abbrev M_X11_find : gb_M := (⟨"GladBasketModel", "find", "(I)I"⟩, prog_13_method_74_code, 2, (some FieldType.int))
abbrev M_X11_weighNow : gb_M := (⟨"GladBasketModel", "weighNow", "(II)I"⟩, prog_13_method_75_code, 4, (some FieldType.int))
abbrev M_X11_weigh : gb_M := (⟨"GladBasketModel", "weigh", "(II)I"⟩, prog_13_method_76_code, 3, (some FieldType.int))
abbrev M_X11_passIt : gb_M := (⟨"GladBasketModel", "passIt", "()V"⟩, prog_13_method_77_code, 2, (none : Option FieldType))
abbrev M_X11_passNow : gb_M := (⟨"GladBasketModel", "passNow", "()I"⟩, prog_13_method_78_code, 1, (some FieldType.int))
abbrev M_X11_pass : gb_M := (⟨"GladBasketModel", "pass", "()I"⟩, prog_13_method_79_code, 1, (some FieldType.int))
abbrev M_X11_common : gb_M := (⟨"GladBasketModel", "common", "(JJ)J"⟩, prog_13_method_80_code, 10, (some FieldType.long))
abbrev M_X11_lowest : gb_M := (⟨"GladBasketModel", "lowest", "(JJ)V"⟩, prog_13_method_81_code, 7, (none : Option FieldType))
abbrev M_X11_figureBy : gb_M := (⟨"GladBasketModel", "figureBy", "(IZI)V"⟩, prog_13_method_82_code, 20, (none : Option FieldType))
abbrev M_X11_figure : gb_M := (⟨"GladBasketModel", "figure", "(II)J"⟩, prog_13_method_83_code, 3, (some FieldType.long))
abbrev M_X11_turned : gb_M := (⟨"GladBasketModel", "turned", "(II)J"⟩, prog_13_method_84_code, 7, (some FieldType.long))
abbrev M_X11_pensionNow : gb_M := (⟨"GladBasketModel", "pensionNow", "()I"⟩, prog_13_method_85_code, 1, (some FieldType.int))
abbrev M_X11_pension : gb_M := (⟨"GladBasketModel", "pension", "()I"⟩, prog_13_method_86_code, 1, (some FieldType.int))
abbrev M_X11_thousandths : gb_M := (⟨"GladBasketModel", "thousandths", "(I)I"⟩, prog_13_method_87_code, 2, (some FieldType.int))
abbrev M_X11_does : gb_M := (⟨"GladBasketModel", "does", "(I)I"⟩, prog_13_method_88_code, 2, (some FieldType.int))
abbrev M_X11_compare : gb_M := (⟨"GladBasketModel", "compare", "(I)I"⟩, prog_13_method_89_code, 4, (some FieldType.int))
abbrev M_X11_leastBy : gb_M := (⟨"GladBasketModel", "leastBy", "(III)I"⟩, prog_13_method_90_code, 6, (some FieldType.int))
abbrev M_X11_mostOf : gb_M := (⟨"GladBasketModel", "mostOf", "(I)I"⟩, prog_13_method_91_code, 2, (some FieldType.int))
abbrev M_X11_glad : gb_M := (⟨"GladBasketModel", "glad", "(II)I"⟩, prog_13_method_92_code, 10, (some FieldType.int))
abbrev M_X11_placeOf : gb_M := (⟨"GladBasketModel", "placeOf", "(I)I"⟩, prog_13_method_93_code, 2, (some FieldType.int))
abbrev M_X11_layRounds : gb_M := (⟨"GladBasketModel", "layRounds", "(I)V"⟩, prog_13_method_94_code, 7, (none : Option FieldType))
abbrev M_X11_fromPlace : gb_M := (⟨"GladBasketModel", "fromPlace", "(III)I"⟩, prog_13_method_95_code, 4, (some FieldType.int))
abbrev M_X11_round : gb_M := (⟨"GladBasketModel", "round", "(II)I"⟩, prog_13_method_96_code, 9, (some FieldType.int))
abbrev M_X11_isBought : gb_M := (⟨"GladBasketModel", "isBought", "(III)Z"⟩, prog_13_method_97_code, 8, (some FieldType.boolean))
abbrev M_X11_areSpent : gb_M := (⟨"GladBasketModel", "areSpent", "(II)Z"⟩, prog_13_method_98_code, 2, (some FieldType.boolean))
abbrev M_X11_spent : gb_M := (⟨"GladBasketModel", "spent", "(III)I"⟩, prog_13_method_99_code, 7, (some FieldType.int))
abbrev M_X11_ask : gb_M := (⟨"GladBasketModel", "ask", "(III)I"⟩, prog_13_method_100_code, 9, (some FieldType.int))
abbrev M_X11_fair : gb_M := (⟨"GladBasketModel", "fair", "(II)I"⟩, prog_13_method_101_code, 9, (some FieldType.int))
abbrev M_X11_hear : gb_M := (⟨"GladBasketModel", "hear", "(I)I"⟩, prog_13_method_102_code, 3, (some FieldType.int))
abbrev M_X11_forget : gb_M := (⟨"GladBasketModel", "forget", "()I"⟩, prog_13_method_103_code, 2, (some FieldType.int))
abbrev M_X11_trend : gb_M := (⟨"GladBasketModel", "trend", "(I)I"⟩, prog_13_method_104_code, 13, (some FieldType.int))
abbrev M_X11_gets : gb_M := (⟨"GladBasketModel", "gets", "(II)J"⟩, prog_13_method_105_code, 8, (some FieldType.long))
abbrev M_X11_readSum : gb_M := (⟨"GladBasketModel", "readSum", "(I)V"⟩, prog_13_method_106_code, 2, (none : Option FieldType))
abbrev M_X11_readOrder : gb_M := (⟨"GladBasketModel", "readOrder", "()V"⟩, prog_13_method_107_code, 4, (none : Option FieldType))
abbrev M_X11_sumOf : gb_M := (⟨"GladBasketModel", "sumOf", "(I)I"⟩, prog_13_method_108_code, 2, (some FieldType.int))
abbrev M_X11_act : gb_M := (⟨"GladBasketModel", "act", "(III)I"⟩, prog_13_method_109_code, 4, (some FieldType.int))
abbrev M_X11_run : gb_M := (⟨"GladBasketModel", "run", "(I)I"⟩, prog_13_method_110_code, 5, (some FieldType.int))
abbrev M_X11_orders : gb_M := (⟨"GladBasketModel", "orders", "()I"⟩, prog_13_method_111_code, 4, (some FieldType.int))
abbrev M_X11_giveBack : gb_M := (⟨"GladBasketModel", "giveBack", "(I)V"⟩, prog_13_method_112_code, 3, (none : Option FieldType))
abbrev M_X11_stopped : gb_M := (⟨"GladBasketModel", "stopped", "()I"⟩, prog_13_method_113_code, 1, (some FieldType.int))
abbrev M_X11_draw : gb_M := (⟨"GladBasketModel", "draw", "(I)I"⟩, prog_13_method_114_code, 2, (some FieldType.int))
abbrev M_X11_years : gb_M := (⟨"GladBasketModel", "years", "(II)I"⟩, prog_13_method_115_code, 8, (some FieldType.int))
abbrev M_X11_drawn : gb_M := (⟨"GladBasketModel", "drawn", "(II)I"⟩, prog_13_method_116_code, 3, (some FieldType.int))
abbrev M_X11_count : gb_M := (⟨"GladBasketModel", "count", "(I)I"⟩, prog_13_method_117_code, 2, (some FieldType.int))
abbrev M_X11_status : gb_M := (⟨"GladBasketModel", "status", "()I"⟩, prog_13_method_118_code, 1, (some FieldType.int))
abbrev M_J11_isValidCodePoint_9a6ad : gb_M := (⟨"java/lang/Character", "isValidCodePoint", "(I)Z"⟩, prog_14_method_11_code, 2, (some FieldType.boolean))
abbrev M_J11_highSurrogate_5068e : gb_M := (⟨"java/lang/Character", "highSurrogate", "(I)C"⟩, prog_14_method_28_code, 1, (some FieldType.char))
abbrev M_J11_lowSurrogate_5068e : gb_M := (⟨"java/lang/Character", "lowSurrogate", "(I)C"⟩, prog_14_method_29_code, 1, (some FieldType.char))
abbrev M_J9_floorMod_7cf53 : gb_M := (⟨"java/lang/Math", "floorMod", "(II)I"⟩, prog_16_method_50_code, 3, (some FieldType.int))
abbrev M_J9_abs_0f7a4 : gb_M := (⟨"java/lang/Math", "abs", "(I)I"⟩, prog_16_method_59_code, 1, (some FieldType.int))
abbrev M_J9_abs_067f4 : gb_M := (⟨"java/lang/Math", "abs", "(J)J"⟩, prog_16_method_61_code, 2, (some FieldType.long))
abbrev M_J9_max_7cf53 : gb_M := (⟨"java/lang/Math", "max", "(II)I"⟩, prog_16_method_65_code, 2, (some FieldType.int))
abbrev M_J9_min_7cf53 : gb_M := (⟨"java/lang/Math", "min", "(II)I"⟩, prog_16_method_69_code, 2, (some FieldType.int))
abbrev M_J0_length_8abf5 : gb_M := (⟨"java/lang/String", "length", "()I"⟩, prog_17_method_54_code, 1, (some FieldType.int))
abbrev M_J0_charAt_5068e : gb_M := (⟨"java/lang/String", "charAt", "(I)C"⟩, prog_17_method_56_code, 2, (some FieldType.char))
abbrev M_J0_indexOf_0f7a4 : gb_M := (⟨"java/lang/String", "indexOf", "(I)I"⟩, prog_17_method_79_code, 2, (some FieldType.int))
abbrev M_J0_indexOf_7cf53 : gb_M := (⟨"java/lang/String", "indexOf", "(II)I"⟩, prog_17_method_80_code, 3, (some FieldType.int))
abbrev M_J0_coder_7d493 : gb_M := (⟨"java/lang/String", "coder", "()B"⟩, prog_17_method_152_code, 1, (some FieldType.byte))
abbrev M_J0_isLatin1_aae02 : gb_M := (⟨"java/lang/String", "isLatin1", "()Z"⟩, prog_17_method_154_code, 1, (some FieldType.boolean))
abbrev M_J0_checkIndex_df160 : gb_M := (⟨"java/lang/String", "checkIndex", "(II)V"⟩, prog_17_method_155_code, 2, (none : Option FieldType))
abbrev M_J0_checkBoundsBeginEnd_23922 : gb_M := (⟨"java/lang/String", "checkBoundsBeginEnd", "(III)V"⟩, prog_17_method_158_code, 3, (none : Option FieldType))
abbrev M_J1_charAt_3b067 : gb_M := (⟨"java/lang/StringLatin1", "charAt", "([BI)C"⟩, prog_18_method_2_code, 2, (some FieldType.char))
abbrev M_J1_canEncode_9a6ad : gb_M := (⟨"java/lang/StringLatin1", "canEncode", "(I)Z"⟩, prog_18_method_4_code, 1, (some FieldType.boolean))
abbrev M_J1_indexOf_4cfef : gb_M := (⟨"java/lang/StringLatin1", "indexOf", "([BIII)I"⟩, prog_18_method_22_code, 4, (some FieldType.int))
abbrev M_J1_indexOfChar_4cfef : gb_M := (⟨"java/lang/StringLatin1", "indexOfChar", "([BIII)I"⟩, prog_18_method_23_code, 6, (some FieldType.int))
abbrev M_J2_getChar_3b067 : gb_M := (⟨"java/lang/StringUTF16", "getChar", "([BI)C"⟩, prog_19_method_5_code, 2, (some FieldType.char))
abbrev M_J2_length_9d52b : gb_M := (⟨"java/lang/StringUTF16", "length", "([B)I"⟩, prog_19_method_6_code, 1, (some FieldType.int))
abbrev M_J2_indexOf_4cfef : gb_M := (⟨"java/lang/StringUTF16", "indexOf", "([BIII)I"⟩, prog_19_method_40_code, 4, (some FieldType.int))
abbrev M_J2_indexOfChar_4cfef : gb_M := (⟨"java/lang/StringUTF16", "indexOfChar", "([BIII)I"⟩, prog_19_method_47_code, 4, (some FieldType.int))
abbrev M_J2_indexOfCharUnsafe_4cfef : gb_M := (⟨"java/lang/StringUTF16", "indexOfCharUnsafe", "([BIII)I"⟩, prog_19_method_48_code, 5, (some FieldType.int))
abbrev M_J2_indexOfSupplementary_4cfef : gb_M := (⟨"java/lang/StringUTF16", "indexOfSupplementary", "([BIII)I"⟩, prog_19_method_49_code, 7, (some FieldType.int))
abbrev M_J2_charAt_3b067 : gb_M := (⟨"java/lang/StringUTF16", "charAt", "([BI)C"⟩, prog_19_method_83_code, 2, (some FieldType.char))
abbrev M_J2_checkIndex_2214a : gb_M := (⟨"java/lang/StringUTF16", "checkIndex", "(I[B)V"⟩, prog_19_method_91_code, 2, (none : Option FieldType))
abbrev M_J2_checkBoundsBeginEnd_d044e : gb_M := (⟨"java/lang/StringUTF16", "checkBoundsBeginEnd", "(II[B)V"⟩, prog_19_method_93_code, 3, (none : Option FieldType))
abbrev M_J7_fill_d0a16 : gb_M := (⟨"java/util/Arrays", "fill", "([JJ)V"⟩, prog_21_method_101_code, 5, (none : Option FieldType))
abbrev M_J7_copyOf_59c91 : gb_M := (⟨"java/util/Arrays", "copyOf", "([II)[I"⟩, prog_21_method_123_code, 3, (some (FieldType.array FieldType.int)))
abbrev M_J3_checkIndex_8e157 : gb_M := (⟨"jdk/internal/util/Preconditions", "checkIndex", "(IILjava/util/function/BiFunction;)I"⟩, prog_22_method_11_code, 3, (some FieldType.int))
abbrev M_J3_checkFromToIndex_8c36e : gb_M := (⟨"jdk/internal/util/Preconditions", "checkFromToIndex", "(IIILjava/util/function/BiFunction;)I"⟩, prog_22_method_12_code, 4, (some FieldType.int))
theorem gb_cl0 : gb_Cl 0 RX0 TX0 10 tyX0 := ⟨rfl, inX0, tyX0_ok, nmX0⟩
theorem gb_cl1 : gb_Cl 1 RX1 TX1 7 tyX1 := ⟨rfl, inX1, tyX1_ok, nmX1⟩
theorem gb_cl2 : gb_Cl 2 RX2 TX2 2 tyX2 := ⟨rfl, inX2, tyX2_ok, nmX2⟩
theorem gb_cl3 : gb_Cl 3 RX3 TX3 5 tyX3 := ⟨rfl, inX3, tyX3_ok, nmX3⟩
theorem gb_cl4 : gb_Cl 4 RX4 TX4 3 tyX4 := ⟨rfl, inX4, tyX4_ok, nmX4⟩
theorem gb_cl5 : gb_Cl 5 RX5 TX5 1 tyX5 := ⟨rfl, inX5, tyX5_ok, nmX5⟩
theorem gb_cl6 : gb_Cl 6 RX6 TX6 15 tyX6 := ⟨rfl, inX6, tyX6_ok, nmX6⟩
theorem gb_cl7 : gb_Cl 7 RX7 TX7 8 tyX7 := ⟨rfl, inX7, tyX7_ok, nmX7⟩
theorem gb_cl8 : gb_Cl 8 RX8 TX8 4 tyX8 := ⟨rfl, inX8, tyX8_ok, nmX8⟩
theorem gb_cl9 : gb_Cl 9 RX9 TX9 5 tyX9 := ⟨rfl, inX9, tyX9_ok, nmX9⟩
theorem gb_cl10 : gb_Cl 10 RX10 TX10 19 tyX10 := ⟨rfl, inX10, tyX10_ok, nmX10⟩
theorem gb_cl11 : gb_Cl 11 RX11 TX11 56 tyX11 := ⟨rfl, inX11, tyX11_ok, nmX11⟩
theorem wc_X0_init : Cond.code M_X0_init.1 M_X0_init.2.1 M_X0_init.2.2.1 M_X0_init.2.2.2 ∈ lw_tbl := (gb_t1 _ (List.mem_of_getElem? (i := 33) rfl))
theorem wi_X0_init : Cond.instanceMethod M_X0_init.1 ∈ lw_tbl := (gb_t1 _ (List.mem_of_getElem? (i := 32) rfl))
theorem wc_X0_copyFrom : Cond.code M_X0_copyFrom.1 M_X0_copyFrom.2.1 M_X0_copyFrom.2.2.1 M_X0_copyFrom.2.2.2 ∈ lw_tbl := (gb_t4 _ (List.mem_of_getElem? (i := 68) rfl))
theorem wi_X0_copyFrom : Cond.instanceMethod M_X0_copyFrom.1 ∈ lw_tbl := (gb_t4 _ (List.mem_of_getElem? (i := 66) rfl))
theorem ws_X0_copyFrom : Cond.selects M_X0_copyFrom.1.cls M_X0_copyFrom.1 M_X0_copyFrom.1 ∈ lw_tbl := (gb_t4 _ (List.mem_of_getElem? (i := 67) rfl))
theorem wc_X0_has : Cond.code M_X0_has.1 M_X0_has.2.1 M_X0_has.2.2.1 M_X0_has.2.2.2 ∈ lw_tbl := (gb_t2 _ (List.mem_of_getElem? (i := 171) rfl))
theorem wi_X0_has : Cond.instanceMethod M_X0_has.1 ∈ lw_tbl := (gb_t2 _ (List.mem_of_getElem? (i := 169) rfl))
theorem ws_X0_has : Cond.selects M_X0_has.1.cls M_X0_has.1 M_X0_has.1 ∈ lw_tbl := (gb_t2 _ (List.mem_of_getElem? (i := 170) rfl))
theorem wc_X0_add : Cond.code M_X0_add.1 M_X0_add.2.1 M_X0_add.2.2.1 M_X0_add.2.2.2 ∈ lw_tbl := (gb_t2 _ (List.mem_of_getElem? (i := 160) rfl))
theorem wi_X0_add : Cond.instanceMethod M_X0_add.1 ∈ lw_tbl := (gb_t2 _ (List.mem_of_getElem? (i := 158) rfl))
theorem ws_X0_add : Cond.selects M_X0_add.1.cls M_X0_add.1 M_X0_add.1 ∈ lw_tbl := (gb_t2 _ (List.mem_of_getElem? (i := 159) rfl))
theorem wc_X0_read : Cond.code M_X0_read.1 M_X0_read.2.1 M_X0_read.2.2.1 M_X0_read.2.2.2 ∈ lw_tbl := (gb_t2 _ (List.mem_of_getElem? (i := 184) rfl))
theorem wi_X0_read : Cond.instanceMethod M_X0_read.1 ∈ lw_tbl := (gb_t2 _ (List.mem_of_getElem? (i := 182) rfl))
theorem ws_X0_read : Cond.selects M_X0_read.1.cls M_X0_read.1 M_X0_read.1 ∈ lw_tbl := (gb_t2 _ (List.mem_of_getElem? (i := 183) rfl))
theorem wc_X0_write : Cond.code M_X0_write.1 M_X0_write.2.1 M_X0_write.2.2.1 M_X0_write.2.2.2 ∈ lw_tbl := (gb_t2 _ (List.mem_of_getElem? (i := 167) rfl))
theorem wi_X0_write : Cond.instanceMethod M_X0_write.1 ∈ lw_tbl := (gb_t2 _ (List.mem_of_getElem? (i := 165) rfl))
theorem ws_X0_write : Cond.selects M_X0_write.1.cls M_X0_write.1 M_X0_write.1 ∈ lw_tbl := (gb_t2 _ (List.mem_of_getElem? (i := 166) rfl))
theorem wc_X0_lacks : Cond.code M_X0_lacks.1 M_X0_lacks.2.1 M_X0_lacks.2.2.1 M_X0_lacks.2.2.2 ∈ lw_tbl := (gb_t5 _ (List.mem_of_getElem? (i := 20) rfl))
theorem wi_X0_lacks : Cond.instanceMethod M_X0_lacks.1 ∈ lw_tbl := (gb_t5 _ (List.mem_of_getElem? (i := 18) rfl))
theorem ws_X0_lacks : Cond.selects M_X0_lacks.1.cls M_X0_lacks.1 M_X0_lacks.1 ∈ lw_tbl := (gb_t5 _ (List.mem_of_getElem? (i := 19) rfl))
theorem wc_X0_lackingCount : Cond.code M_X0_lackingCount.1 M_X0_lackingCount.2.1 M_X0_lackingCount.2.2.1 M_X0_lackingCount.2.2.2 ∈ lw_tbl := (gb_t4 _ (List.mem_of_getElem? (i := 86) rfl))
theorem wi_X0_lackingCount : Cond.instanceMethod M_X0_lackingCount.1 ∈ lw_tbl := (gb_t4 _ (List.mem_of_getElem? (i := 84) rfl))
theorem ws_X0_lackingCount : Cond.selects M_X0_lackingCount.1.cls M_X0_lackingCount.1 M_X0_lackingCount.1 ∈ lw_tbl := (gb_t4 _ (List.mem_of_getElem? (i := 85) rfl))
theorem wc_X0_sourceOf : Cond.code M_X0_sourceOf.1 M_X0_sourceOf.2.1 M_X0_sourceOf.2.2.1 M_X0_sourceOf.2.2.2 ∈ lw_tbl := (gb_t2 _ (List.mem_of_getElem? (i := 231) rfl))
theorem wi_X0_sourceOf : Cond.instanceMethod M_X0_sourceOf.1 ∈ lw_tbl := (gb_t2 _ (List.mem_of_getElem? (i := 229) rfl))
theorem ws_X0_sourceOf : Cond.selects M_X0_sourceOf.1.cls M_X0_sourceOf.1 M_X0_sourceOf.1 ∈ lw_tbl := (gb_t2 _ (List.mem_of_getElem? (i := 230) rfl))
theorem wc_X0_ownWeight : Cond.code M_X0_ownWeight.1 M_X0_ownWeight.2.1 M_X0_ownWeight.2.2.1 M_X0_ownWeight.2.2.2 ∈ lw_tbl := (gb_t3 _ (List.mem_of_getElem? (i := 9) rfl))
theorem wi_X0_ownWeight : Cond.instanceMethod M_X0_ownWeight.1 ∈ lw_tbl := (gb_t3 _ (List.mem_of_getElem? (i := 7) rfl))
theorem ws_X0_ownWeight : Cond.selects M_X0_ownWeight.1.cls M_X0_ownWeight.1 M_X0_ownWeight.1 ∈ lw_tbl := (gb_t3 _ (List.mem_of_getElem? (i := 8) rfl))
theorem wc_X0_enact : Cond.code M_X0_enact.1 M_X0_enact.2.1 M_X0_enact.2.2.1 M_X0_enact.2.2.2 ∈ lw_tbl := (gb_t4 _ (List.mem_of_getElem? (i := 59) rfl))
theorem wi_X0_enact : Cond.instanceMethod M_X0_enact.1 ∈ lw_tbl := (gb_t4 _ (List.mem_of_getElem? (i := 57) rfl))
theorem ws_X0_enact : Cond.selects M_X0_enact.1.cls M_X0_enact.1 M_X0_enact.1 ∈ lw_tbl := (gb_t4 _ (List.mem_of_getElem? (i := 58) rfl))
theorem wc_X0_lawAt : Cond.code M_X0_lawAt.1 M_X0_lawAt.2.1 M_X0_lawAt.2.2.1 M_X0_lawAt.2.2.2 ∈ lw_tbl := (gb_t2 _ (List.mem_of_getElem? (i := 198) rfl))
theorem wi_X0_lawAt : Cond.instanceMethod M_X0_lawAt.1 ∈ lw_tbl := (gb_t2 _ (List.mem_of_getElem? (i := 196) rfl))
theorem ws_X0_lawAt : Cond.selects M_X0_lawAt.1.cls M_X0_lawAt.1 M_X0_lawAt.1 ∈ lw_tbl := (gb_t2 _ (List.mem_of_getElem? (i := 197) rfl))
theorem wc_X0_lawInForce : Cond.code M_X0_lawInForce.1 M_X0_lawInForce.2.1 M_X0_lawInForce.2.2.1 M_X0_lawInForce.2.2.2 ∈ lw_tbl := (gb_t2 _ (List.mem_of_getElem? (i := 194) rfl))
theorem wi_X0_lawInForce : Cond.instanceMethod M_X0_lawInForce.1 ∈ lw_tbl := (gb_t2 _ (List.mem_of_getElem? (i := 192) rfl))
theorem ws_X0_lawInForce : Cond.selects M_X0_lawInForce.1.cls M_X0_lawInForce.1 M_X0_lawInForce.1 ∈ lw_tbl := (gb_t2 _ (List.mem_of_getElem? (i := 193) rfl))
theorem wc_X0_befall : Cond.code M_X0_befall.1 M_X0_befall.2.1 M_X0_befall.2.2.1 M_X0_befall.2.2.2 ∈ lw_tbl := (gb_t5 _ (List.mem_of_getElem? (i := 159) rfl))
theorem wi_X0_befall : Cond.instanceMethod M_X0_befall.1 ∈ lw_tbl := (gb_t5 _ (List.mem_of_getElem? (i := 157) rfl))
theorem ws_X0_befall : Cond.selects M_X0_befall.1.cls M_X0_befall.1 M_X0_befall.1 ∈ lw_tbl := (gb_t5 _ (List.mem_of_getElem? (i := 158) rfl))
theorem wc_X1_init : Cond.code M_X1_init.1 M_X1_init.2.1 M_X1_init.2.2.1 M_X1_init.2.2.2 ∈ lw_tbl := (gb_t1 _ (List.mem_of_getElem? (i := 227) rfl))
theorem wi_X1_init : Cond.instanceMethod M_X1_init.1 ∈ lw_tbl := (gb_t1 _ (List.mem_of_getElem? (i := 226) rfl))
theorem wc_X1_load : Cond.code M_X1_load.1 M_X1_load.2.1 M_X1_load.2.2.1 M_X1_load.2.2.2 ∈ lw_tbl := (gb_t4 _ (List.mem_of_getElem? (i := 90) rfl))
theorem wi_X1_load : Cond.instanceMethod M_X1_load.1 ∈ lw_tbl := (gb_t4 _ (List.mem_of_getElem? (i := 88) rfl))
theorem ws_X1_load : Cond.selects M_X1_load.1.cls M_X1_load.1 M_X1_load.1 ∈ lw_tbl := (gb_t4 _ (List.mem_of_getElem? (i := 89) rfl))
theorem wc_X1_countOfAll : Cond.code M_X1_countOfAll.1 M_X1_countOfAll.2.1 M_X1_countOfAll.2.2.1 M_X1_countOfAll.2.2.2 ∈ lw_tbl := (gb_t4 _ (List.mem_of_getElem? (i := 102) rfl))
theorem wi_X1_countOfAll : Cond.instanceMethod M_X1_countOfAll.1 ∈ lw_tbl := (gb_t4 _ (List.mem_of_getElem? (i := 101) rfl))
theorem ws_X1_countOfAll : Cond.selects M_X1_countOfAll.1.cls M_X1_countOfAll.1 M_X1_countOfAll.1 ∈ lw_tbl := (List.mem_of_getElem? (i := 18) (by decide +kernel))
theorem wc_X1_byRule : Cond.code M_X1_byRule.1 M_X1_byRule.2.1 M_X1_byRule.2.2.1 M_X1_byRule.2.2.2 ∈ lw_tbl := (gb_t4 _ (List.mem_of_getElem? (i := 192) rfl))
theorem wi_X1_byRule : Cond.instanceMethod M_X1_byRule.1 ∈ lw_tbl := (gb_t4 _ (List.mem_of_getElem? (i := 190) rfl))
theorem ws_X1_byRule : Cond.selects M_X1_byRule.1.cls M_X1_byRule.1 M_X1_byRule.1 ∈ lw_tbl := (gb_t4 _ (List.mem_of_getElem? (i := 191) rfl))
theorem wc_X1_turnedByRule : Cond.code M_X1_turnedByRule.1 M_X1_turnedByRule.2.1 M_X1_turnedByRule.2.2.1 M_X1_turnedByRule.2.2.2 ∈ lw_tbl := (gb_t4 _ (List.mem_of_getElem? (i := 233) rfl))
theorem wi_X1_turnedByRule : Cond.instanceMethod M_X1_turnedByRule.1 ∈ lw_tbl := (gb_t4 _ (List.mem_of_getElem? (i := 231) rfl))
theorem ws_X1_turnedByRule : Cond.selects M_X1_turnedByRule.1.cls M_X1_turnedByRule.1 M_X1_turnedByRule.1 ∈ lw_tbl := (gb_t4 _ (List.mem_of_getElem? (i := 232) rfl))
theorem wc_X1_reckon : Cond.code M_X1_reckon.1 M_X1_reckon.2.1 M_X1_reckon.2.2.1 M_X1_reckon.2.2.2 ∈ lw_tbl := (gb_t4 _ (List.mem_of_getElem? (i := 196) rfl))
theorem wi_X1_reckon : Cond.instanceMethod M_X1_reckon.1 ∈ lw_tbl := (gb_t4 _ (List.mem_of_getElem? (i := 195) rfl))
theorem ws_X1_reckon : Cond.selects M_X1_reckon.1.cls M_X1_reckon.1 M_X1_reckon.1 ∈ lw_tbl := (List.mem_of_getElem? (i := 26) (by decide +kernel))
theorem wc_X1_weighed : Cond.code M_X1_weighed.1 M_X1_weighed.2.1 M_X1_weighed.2.2.1 M_X1_weighed.2.2.2 ∈ lw_tbl := (gb_t4 _ (List.mem_of_getElem? (i := 110) rfl))
theorem wi_X1_weighed : Cond.instanceMethod M_X1_weighed.1 ∈ lw_tbl := (gb_t4 _ (List.mem_of_getElem? (i := 109) rfl))
theorem ws_X1_weighed : Cond.selects M_X1_weighed.1.cls M_X1_weighed.1 M_X1_weighed.1 ∈ lw_tbl := (List.mem_of_getElem? (i := 20) (by decide +kernel))
theorem wc_X1_outermost : Cond.code M_X1_outermost.1 M_X1_outermost.2.1 M_X1_outermost.2.2.1 M_X1_outermost.2.2.2 ∈ lw_tbl := (gb_t4 _ (List.mem_of_getElem? (i := 220) rfl))
theorem wi_X1_outermost : Cond.instanceMethod M_X1_outermost.1 ∈ lw_tbl := (gb_t4 _ (List.mem_of_getElem? (i := 219) rfl))
theorem ws_X1_outermost : Cond.selects M_X1_outermost.1.cls M_X1_outermost.1 M_X1_outermost.1 ∈ lw_tbl := (List.mem_of_getElem? (i := 27) (by decide +kernel))
theorem wc_X1_hundredths : Cond.code M_X1_hundredths.1 M_X1_hundredths.2.1 M_X1_hundredths.2.2.1 M_X1_hundredths.2.2.2 ∈ lw_tbl := (gb_t4 _ (List.mem_of_getElem? (i := 98) rfl))
theorem wi_X1_hundredths : Cond.instanceMethod M_X1_hundredths.1 ∈ lw_tbl := (gb_t4 _ (List.mem_of_getElem? (i := 96) rfl))
theorem ws_X1_hundredths : Cond.selects M_X1_hundredths.1.cls M_X1_hundredths.1 M_X1_hundredths.1 ∈ lw_tbl := (gb_t4 _ (List.mem_of_getElem? (i := 97) rfl))
theorem wc_X1_thousandths : Cond.code M_X1_thousandths.1 M_X1_thousandths.2.1 M_X1_thousandths.2.2.1 M_X1_thousandths.2.2.2 ∈ lw_tbl := (gb_t5 _ (List.mem_of_getElem? (i := 123) rfl))
theorem wi_X1_thousandths : Cond.instanceMethod M_X1_thousandths.1 ∈ lw_tbl := (gb_t5 _ (List.mem_of_getElem? (i := 121) rfl))
theorem ws_X1_thousandths : Cond.selects M_X1_thousandths.1.cls M_X1_thousandths.1 M_X1_thousandths.1 ∈ lw_tbl := (gb_t5 _ (List.mem_of_getElem? (i := 122) rfl))
theorem wc_X1_cutTimes : Cond.code M_X1_cutTimes.1 M_X1_cutTimes.2.1 M_X1_cutTimes.2.2.1 M_X1_cutTimes.2.2.2 ∈ lw_tbl := (gb_t4 _ (List.mem_of_getElem? (i := 106) rfl))
theorem wi_X1_cutTimes : Cond.instanceMethod M_X1_cutTimes.1 ∈ lw_tbl := (gb_t4 _ (List.mem_of_getElem? (i := 105) rfl))
theorem ws_X1_cutTimes : Cond.selects M_X1_cutTimes.1.cls M_X1_cutTimes.1 M_X1_cutTimes.1 ∈ lw_tbl := (List.mem_of_getElem? (i := 19) (by decide +kernel))
theorem wc_X2_init : Cond.code M_X2_init.1 M_X2_init.2.1 M_X2_init.2.2.1 M_X2_init.2.2.2 ∈ lw_tbl := (gb_t1 _ (List.mem_of_getElem? (i := 233) rfl))
theorem wi_X2_init : Cond.instanceMethod M_X2_init.1 ∈ lw_tbl := (gb_t1 _ (List.mem_of_getElem? (i := 232) rfl))
theorem wc_X2_put : Cond.code M_X2_put.1 M_X2_put.2.1 M_X2_put.2.2.1 M_X2_put.2.2.2 ∈ lw_tbl := (gb_t4 _ (List.mem_of_getElem? (i := 200) rfl))
theorem wi_X2_put : Cond.instanceMethod M_X2_put.1 ∈ lw_tbl := (gb_t4 _ (List.mem_of_getElem? (i := 198) rfl))
theorem ws_X2_put : Cond.selects M_X2_put.1.cls M_X2_put.1 M_X2_put.1 ∈ lw_tbl := (gb_t4 _ (List.mem_of_getElem? (i := 199) rfl))
theorem wc_X2_add : Cond.code M_X2_add.1 M_X2_add.2.1 M_X2_add.2.2.1 M_X2_add.2.2.2 ∈ lw_tbl := (gb_t4 _ (List.mem_of_getElem? (i := 211) rfl))
theorem wi_X2_add : Cond.instanceMethod M_X2_add.1 ∈ lw_tbl := (gb_t4 _ (List.mem_of_getElem? (i := 209) rfl))
theorem ws_X2_add : Cond.selects M_X2_add.1.cls M_X2_add.1 M_X2_add.1 ∈ lw_tbl := (gb_t4 _ (List.mem_of_getElem? (i := 210) rfl))
theorem wc_X2_multiply : Cond.code M_X2_multiply.1 M_X2_multiply.2.1 M_X2_multiply.2.2.1 M_X2_multiply.2.2.2 ∈ lw_tbl := (gb_t4 _ (List.mem_of_getElem? (i := 237) rfl))
theorem wi_X2_multiply : Cond.instanceMethod M_X2_multiply.1 ∈ lw_tbl := (gb_t4 _ (List.mem_of_getElem? (i := 235) rfl))
theorem ws_X2_multiply : Cond.selects M_X2_multiply.1.cls M_X2_multiply.1 M_X2_multiply.1 ∈ lw_tbl := (gb_t4 _ (List.mem_of_getElem? (i := 236) rfl))
theorem wc_X2_divide : Cond.code M_X2_divide.1 M_X2_divide.2.1 M_X2_divide.2.2.1 M_X2_divide.2.2.2 ∈ lw_tbl := (gb_t4 _ (List.mem_of_getElem? (i := 216) rfl))
theorem wi_X2_divide : Cond.instanceMethod M_X2_divide.1 ∈ lw_tbl := (gb_t4 _ (List.mem_of_getElem? (i := 214) rfl))
theorem ws_X2_divide : Cond.selects M_X2_divide.1.cls M_X2_divide.1 M_X2_divide.1 ∈ lw_tbl := (gb_t4 _ (List.mem_of_getElem? (i := 215) rfl))
theorem wc_X2_side : Cond.code M_X2_side.1 M_X2_side.2.1 M_X2_side.2.2.1 M_X2_side.2.2.2 ∈ lw_tbl := (gb_t4 _ (List.mem_of_getElem? (i := 225) rfl))
theorem wi_X2_side : Cond.instanceMethod M_X2_side.1 ∈ lw_tbl := (gb_t4 _ (List.mem_of_getElem? (i := 223) rfl))
theorem ws_X2_side : Cond.selects M_X2_side.1.cls M_X2_side.1 M_X2_side.1 ∈ lw_tbl := (gb_t4 _ (List.mem_of_getElem? (i := 224) rfl))
theorem wc_X2_commonDivisor : Cond.code M_X2_commonDivisor.1 M_X2_commonDivisor.2.1 M_X2_commonDivisor.2.2.1 M_X2_commonDivisor.2.2.2 ∈ lw_tbl := (gb_t4 _ (List.mem_of_getElem? (i := 206) rfl))
theorem wt_X2_commonDivisor : Cond.static M_X2_commonDivisor.1 ∈ lw_tbl := (gb_t4 _ (List.mem_of_getElem? (i := 205) rfl))
theorem wc_X3_init : Cond.code M_X3_init.1 M_X3_init.2.1 M_X3_init.2.2.1 M_X3_init.2.2.2 ∈ lw_tbl := (gb_t1 _ (List.mem_of_getElem? (i := 89) rfl))
theorem wi_X3_init : Cond.instanceMethod M_X3_init.1 ∈ lw_tbl := (gb_t1 _ (List.mem_of_getElem? (i := 88) rfl))
theorem wc_X3_clear : Cond.code M_X3_clear.1 M_X3_clear.2.1 M_X3_clear.2.2.1 M_X3_clear.2.2.2 ∈ lw_tbl := (gb_t2 _ (List.mem_of_getElem? (i := 156) rfl))
theorem wi_X3_clear : Cond.instanceMethod M_X3_clear.1 ∈ lw_tbl := (gb_t2 _ (List.mem_of_getElem? (i := 154) rfl))
theorem ws_X3_clear : Cond.selects M_X3_clear.1.cls M_X3_clear.1 M_X3_clear.1 ∈ lw_tbl := (gb_t2 _ (List.mem_of_getElem? (i := 155) rfl))
theorem wc_X3_copyFrom : Cond.code M_X3_copyFrom.1 M_X3_copyFrom.2.1 M_X3_copyFrom.2.2.1 M_X3_copyFrom.2.2.2 ∈ lw_tbl := (gb_t4 _ (List.mem_of_getElem? (i := 73) rfl))
theorem wi_X3_copyFrom : Cond.instanceMethod M_X3_copyFrom.1 ∈ lw_tbl := (gb_t4 _ (List.mem_of_getElem? (i := 71) rfl))
theorem ws_X3_copyFrom : Cond.selects M_X3_copyFrom.1.cls M_X3_copyFrom.1 M_X3_copyFrom.1 ∈ lw_tbl := (gb_t4 _ (List.mem_of_getElem? (i := 72) rfl))
theorem wc_X3_remember : Cond.code M_X3_remember.1 M_X3_remember.2.1 M_X3_remember.2.2.1 M_X3_remember.2.2.2 ∈ lw_tbl := (gb_t4 _ (List.mem_of_getElem? (i := 120) rfl))
theorem wi_X3_remember : Cond.instanceMethod M_X3_remember.1 ∈ lw_tbl := (gb_t4 _ (List.mem_of_getElem? (i := 118) rfl))
theorem ws_X3_remember : Cond.selects M_X3_remember.1.cls M_X3_remember.1 M_X3_remember.1 ∈ lw_tbl := (gb_t4 _ (List.mem_of_getElem? (i := 119) rfl))
theorem wc_X3_dropOldest : Cond.code M_X3_dropOldest.1 M_X3_dropOldest.2.1 M_X3_dropOldest.2.2.1 M_X3_dropOldest.2.2.2 ∈ lw_tbl := (gb_t4 _ (List.mem_of_getElem? (i := 124) rfl))
theorem wi_X3_dropOldest : Cond.instanceMethod M_X3_dropOldest.1 ∈ lw_tbl := (gb_t4 _ (List.mem_of_getElem? (i := 123) rfl))
theorem ws_X3_dropOldest : Cond.selects M_X3_dropOldest.1.cls M_X3_dropOldest.1 M_X3_dropOldest.1 ∈ lw_tbl := (List.mem_of_getElem? (i := 22) (by decide +kernel))
theorem wc_X3_takeBack : Cond.code M_X3_takeBack.1 M_X3_takeBack.2.1 M_X3_takeBack.2.2.1 M_X3_takeBack.2.2.2 ∈ lw_tbl := (gb_t4 _ (List.mem_of_getElem? (i := 181) rfl))
theorem wi_X3_takeBack : Cond.instanceMethod M_X3_takeBack.1 ∈ lw_tbl := (gb_t4 _ (List.mem_of_getElem? (i := 179) rfl))
theorem ws_X3_takeBack : Cond.selects M_X3_takeBack.1.cls M_X3_takeBack.1 M_X3_takeBack.1 ∈ lw_tbl := (gb_t4 _ (List.mem_of_getElem? (i := 180) rfl))
theorem wc_X4_init : Cond.code M_X4_init.1 M_X4_init.2.1 M_X4_init.2.2.1 M_X4_init.2.2.2 ∈ lw_tbl := (gb_t1 _ (List.mem_of_getElem? (i := 211) rfl))
theorem wi_X4_init : Cond.instanceMethod M_X4_init.1 ∈ lw_tbl := (gb_t1 _ (List.mem_of_getElem? (i := 210) rfl))
theorem wc_X4_tell : Cond.code M_X4_tell.1 M_X4_tell.2.1 M_X4_tell.2.2.1 M_X4_tell.2.2.2 ∈ lw_tbl := (gb_t2 _ (List.mem_of_getElem? (i := 202) rfl))
theorem wi_X4_tell : Cond.instanceMethod M_X4_tell.1 ∈ lw_tbl := (gb_t2 _ (List.mem_of_getElem? (i := 200) rfl))
theorem ws_X4_tell : Cond.selects M_X4_tell.1.cls M_X4_tell.1 M_X4_tell.1 ∈ lw_tbl := (gb_t2 _ (List.mem_of_getElem? (i := 201) rfl))
theorem wc_X4_fillWords : Cond.code M_X4_fillWords.1 M_X4_fillWords.2.1 M_X4_fillWords.2.2.1 M_X4_fillWords.2.2.2 ∈ lw_tbl := (gb_t2 _ (List.mem_of_getElem? (i := 207) rfl))
theorem wi_X4_fillWords : Cond.instanceMethod M_X4_fillWords.1 ∈ lw_tbl := (gb_t2 _ (List.mem_of_getElem? (i := 206) rfl))
theorem ws_X4_fillWords : Cond.selects M_X4_fillWords.1.cls M_X4_fillWords.1 M_X4_fillWords.1 ∈ lw_tbl := (List.mem_of_getElem? (i := 2) (by decide +kernel))
theorem wc_X4_moveAll : Cond.code M_X4_moveAll.1 M_X4_moveAll.2.1 M_X4_moveAll.2.2.1 M_X4_moveAll.2.2.2 ∈ lw_tbl := (gb_t4 _ (List.mem_of_getElem? (i := 137) rfl))
theorem wi_X4_moveAll : Cond.instanceMethod M_X4_moveAll.1 ∈ lw_tbl := (gb_t4 _ (List.mem_of_getElem? (i := 135) rfl))
theorem ws_X4_moveAll : Cond.selects M_X4_moveAll.1.cls M_X4_moveAll.1 M_X4_moveAll.1 ∈ lw_tbl := (gb_t4 _ (List.mem_of_getElem? (i := 136) rfl))
theorem wc_X5_init : Cond.code M_X5_init.1 M_X5_init.2.1 M_X5_init.2.2.1 M_X5_init.2.2.2 ∈ lw_tbl := (gb_t1 _ (List.mem_of_getElem? (i := 201) rfl))
theorem wi_X5_init : Cond.instanceMethod M_X5_init.1 ∈ lw_tbl := (gb_t1 _ (List.mem_of_getElem? (i := 200) rfl))
theorem wc_X5_run : Cond.code M_X5_run.1 M_X5_run.2.1 M_X5_run.2.2.1 M_X5_run.2.2.2 ∈ lw_tbl := (gb_t2 _ (List.mem_of_getElem? (i := 212) rfl))
theorem wi_X5_run : Cond.instanceMethod M_X5_run.1 ∈ lw_tbl := (gb_t2 _ (List.mem_of_getElem? (i := 210) rfl))
theorem ws_X5_run : Cond.selects M_X5_run.1.cls M_X5_run.1 M_X5_run.1 ∈ lw_tbl := (gb_t2 _ (List.mem_of_getElem? (i := 211) rfl))
theorem wc_X5_join : Cond.code M_X5_join.1 M_X5_join.2.1 M_X5_join.2.2.1 M_X5_join.2.2.2 ∈ lw_tbl := (gb_t2 _ (List.mem_of_getElem? (i := 220) rfl))
theorem wt_X5_join : Cond.static M_X5_join.1 ∈ lw_tbl := (gb_t2 _ (List.mem_of_getElem? (i := 219) rfl))
theorem wc_X6_init : Cond.code M_X6_init.1 M_X6_init.2.1 M_X6_init.2.2.1 M_X6_init.2.2.2 ∈ lw_tbl := (gb_t2 _ (List.mem_of_getElem? (i := 30) rfl))
theorem wi_X6_init : Cond.instanceMethod M_X6_init.1 ∈ lw_tbl := (gb_t2 _ (List.mem_of_getElem? (i := 29) rfl))
theorem wc_X6_loadWares : Cond.code M_X6_loadWares.1 M_X6_loadWares.2.1 M_X6_loadWares.2.2.1 M_X6_loadWares.2.2.2 ∈ lw_tbl := (gb_t5 _ (List.mem_of_getElem? (i := 13) rfl))
theorem wi_X6_loadWares : Cond.instanceMethod M_X6_loadWares.1 ∈ lw_tbl := (gb_t5 _ (List.mem_of_getElem? (i := 12) rfl))
theorem ws_X6_loadWares : Cond.selects M_X6_loadWares.1.cls M_X6_loadWares.1 M_X6_loadWares.1 ∈ lw_tbl := (List.mem_of_getElem? (i := 28) (by decide +kernel))
theorem wc_X6_cheapest : Cond.code M_X6_cheapest.1 M_X6_cheapest.2.1 M_X6_cheapest.2.2.1 M_X6_cheapest.2.2.2 ∈ lw_tbl := (gb_t5 _ (List.mem_of_getElem? (i := 9) rfl))
theorem wi_X6_cheapest : Cond.instanceMethod M_X6_cheapest.1 ∈ lw_tbl := (gb_t5 _ (List.mem_of_getElem? (i := 7) rfl))
theorem ws_X6_cheapest : Cond.selects M_X6_cheapest.1.cls M_X6_cheapest.1 M_X6_cheapest.1 ∈ lw_tbl := (gb_t5 _ (List.mem_of_getElem? (i := 8) rfl))
theorem wc_X6_bestAmount : Cond.code M_X6_bestAmount.1 M_X6_bestAmount.2.1 M_X6_bestAmount.2.2.1 M_X6_bestAmount.2.2.2 ∈ lw_tbl := (gb_t5 _ (List.mem_of_getElem? (i := 27) rfl))
theorem wi_X6_bestAmount : Cond.instanceMethod M_X6_bestAmount.1 ∈ lw_tbl := (gb_t5 _ (List.mem_of_getElem? (i := 26) rfl))
theorem ws_X6_bestAmount : Cond.selects M_X6_bestAmount.1.cls M_X6_bestAmount.1 M_X6_bestAmount.1 ∈ lw_tbl := (List.mem_of_getElem? (i := 29) (by decide +kernel))
theorem wc_X6_costWith : Cond.code M_X6_costWith.1 M_X6_costWith.2.1 M_X6_costWith.2.2.1 M_X6_costWith.2.2.2 ∈ lw_tbl := (gb_t5 _ (List.mem_of_getElem? (i := 31) rfl))
theorem wi_X6_costWith : Cond.instanceMethod M_X6_costWith.1 ∈ lw_tbl := (gb_t5 _ (List.mem_of_getElem? (i := 30) rfl))
theorem ws_X6_costWith : Cond.selects M_X6_costWith.1.cls M_X6_costWith.1 M_X6_costWith.1 ∈ lw_tbl := (List.mem_of_getElem? (i := 30) (by decide +kernel))
theorem wc_X6_amountOf : Cond.code M_X6_amountOf.1 M_X6_amountOf.2.1 M_X6_amountOf.2.2.1 M_X6_amountOf.2.2.2 ∈ lw_tbl := (gb_t5 _ (List.mem_of_getElem? (i := 36) rfl))
theorem wi_X6_amountOf : Cond.instanceMethod M_X6_amountOf.1 ∈ lw_tbl := (gb_t5 _ (List.mem_of_getElem? (i := 34) rfl))
theorem ws_X6_amountOf : Cond.selects M_X6_amountOf.1.cls M_X6_amountOf.1 M_X6_amountOf.1 ∈ lw_tbl := (gb_t5 _ (List.mem_of_getElem? (i := 35) rfl))
theorem wc_X6_walk : Cond.code M_X6_walk.1 M_X6_walk.2.1 M_X6_walk.2.2.1 M_X6_walk.2.2.2 ∈ lw_tbl := (gb_t5 _ (List.mem_of_getElem? (i := 45) rfl))
theorem wi_X6_walk : Cond.instanceMethod M_X6_walk.1 ∈ lw_tbl := (gb_t5 _ (List.mem_of_getElem? (i := 43) rfl))
theorem ws_X6_walk : Cond.selects M_X6_walk.1.cls M_X6_walk.1 M_X6_walk.1 ∈ lw_tbl := (gb_t5 _ (List.mem_of_getElem? (i := 44) rfl))
theorem wc_X6_loadPlaces : Cond.code M_X6_loadPlaces.1 M_X6_loadPlaces.2.1 M_X6_loadPlaces.2.2.1 M_X6_loadPlaces.2.2.2 ∈ lw_tbl := (gb_t5 _ (List.mem_of_getElem? (i := 49) rfl))
theorem wi_X6_loadPlaces : Cond.instanceMethod M_X6_loadPlaces.1 ∈ lw_tbl := (gb_t5 _ (List.mem_of_getElem? (i := 48) rfl))
theorem ws_X6_loadPlaces : Cond.selects M_X6_loadPlaces.1.cls M_X6_loadPlaces.1 M_X6_loadPlaces.1 ∈ lw_tbl := (List.mem_of_getElem? (i := 31) (by decide +kernel))
theorem wc_X6_shortest : Cond.code M_X6_shortest.1 M_X6_shortest.2.1 M_X6_shortest.2.2.1 M_X6_shortest.2.2.2 ∈ lw_tbl := (gb_t5 _ (List.mem_of_getElem? (i := 56) rfl))
theorem wi_X6_shortest : Cond.instanceMethod M_X6_shortest.1 ∈ lw_tbl := (gb_t5 _ (List.mem_of_getElem? (i := 55) rfl))
theorem ws_X6_shortest : Cond.selects M_X6_shortest.1.cls M_X6_shortest.1 M_X6_shortest.1 ∈ lw_tbl := (List.mem_of_getElem? (i := 32) (by decide +kernel))
theorem wc_X6_stepsBetween : Cond.code M_X6_stepsBetween.1 M_X6_stepsBetween.2.1 M_X6_stepsBetween.2.2.1 M_X6_stepsBetween.2.2.2 ∈ lw_tbl := (gb_t5 _ (List.mem_of_getElem? (i := 59) rfl))
theorem wt_X6_stepsBetween : Cond.static M_X6_stepsBetween.1 ∈ lw_tbl := (gb_t5 _ (List.mem_of_getElem? (i := 58) rfl))
theorem wc_X6_walkedTo : Cond.code M_X6_walkedTo.1 M_X6_walkedTo.2.1 M_X6_walkedTo.2.2.1 M_X6_walkedTo.2.2.2 ∈ lw_tbl := (gb_t5 _ (List.mem_of_getElem? (i := 66) rfl))
theorem wi_X6_walkedTo : Cond.instanceMethod M_X6_walkedTo.1 ∈ lw_tbl := (gb_t5 _ (List.mem_of_getElem? (i := 64) rfl))
theorem ws_X6_walkedTo : Cond.selects M_X6_walkedTo.1.cls M_X6_walkedTo.1 M_X6_walkedTo.1 ∈ lw_tbl := (gb_t5 _ (List.mem_of_getElem? (i := 65) rfl))
theorem wc_X6_seekSets : Cond.code M_X6_seekSets.1 M_X6_seekSets.2.1 M_X6_seekSets.2.2.1 M_X6_seekSets.2.2.2 ∈ lw_tbl := (gb_t5 _ (List.mem_of_getElem? (i := 74) rfl))
theorem wi_X6_seekSets : Cond.instanceMethod M_X6_seekSets.1 ∈ lw_tbl := (gb_t5 _ (List.mem_of_getElem? (i := 72) rfl))
theorem ws_X6_seekSets : Cond.selects M_X6_seekSets.1.cls M_X6_seekSets.1 M_X6_seekSets.1 ∈ lw_tbl := (gb_t5 _ (List.mem_of_getElem? (i := 73) rfl))
theorem wc_X6_setAt : Cond.code M_X6_setAt.1 M_X6_setAt.2.1 M_X6_setAt.2.2.1 M_X6_setAt.2.2.2 ∈ lw_tbl := (gb_t5 _ (List.mem_of_getElem? (i := 78) rfl))
theorem wi_X6_setAt : Cond.instanceMethod M_X6_setAt.1 ∈ lw_tbl := (gb_t5 _ (List.mem_of_getElem? (i := 76) rfl))
theorem ws_X6_setAt : Cond.selects M_X6_setAt.1.cls M_X6_setAt.1 M_X6_setAt.1 ∈ lw_tbl := (gb_t5 _ (List.mem_of_getElem? (i := 77) rfl))
theorem wc_X6_setsWith : Cond.code M_X6_setsWith.1 M_X6_setsWith.2.1 M_X6_setsWith.2.2.1 M_X6_setsWith.2.2.2 ∈ lw_tbl := (gb_t5 _ (List.mem_of_getElem? (i := 86) rfl))
theorem wi_X6_setsWith : Cond.instanceMethod M_X6_setsWith.1 ∈ lw_tbl := (gb_t5 _ (List.mem_of_getElem? (i := 84) rfl))
theorem ws_X6_setsWith : Cond.selects M_X6_setsWith.1.cls M_X6_setsWith.1 M_X6_setsWith.1 ∈ lw_tbl := (gb_t5 _ (List.mem_of_getElem? (i := 85) rfl))
theorem wc_X6_rise : Cond.code M_X6_rise.1 M_X6_rise.2.1 M_X6_rise.2.2.1 M_X6_rise.2.2.2 ∈ lw_tbl := (gb_t5 _ (List.mem_of_getElem? (i := 107) rfl))
theorem wi_X6_rise : Cond.instanceMethod M_X6_rise.1 ∈ lw_tbl := (gb_t5 _ (List.mem_of_getElem? (i := 105) rfl))
theorem ws_X6_rise : Cond.selects M_X6_rise.1.cls M_X6_rise.1 M_X6_rise.1 ∈ lw_tbl := (gb_t5 _ (List.mem_of_getElem? (i := 106) rfl))
theorem wc_X6_atStart : Cond.code M_X6_atStart.1 M_X6_atStart.2.1 M_X6_atStart.2.2.1 M_X6_atStart.2.2.2 ∈ lw_tbl := (gb_t5 _ (List.mem_of_getElem? (i := 115) rfl))
theorem wi_X6_atStart : Cond.instanceMethod M_X6_atStart.1 ∈ lw_tbl := (gb_t5 _ (List.mem_of_getElem? (i := 113) rfl))
theorem ws_X6_atStart : Cond.selects M_X6_atStart.1.cls M_X6_atStart.1 M_X6_atStart.1 ∈ lw_tbl := (gb_t5 _ (List.mem_of_getElem? (i := 114) rfl))
theorem wc_X6_sumOfMonths : Cond.code M_X6_sumOfMonths.1 M_X6_sumOfMonths.2.1 M_X6_sumOfMonths.2.2.1 M_X6_sumOfMonths.2.2.2 ∈ lw_tbl := (gb_t5 _ (List.mem_of_getElem? (i := 110) rfl))
theorem wt_X6_sumOfMonths : Cond.static M_X6_sumOfMonths.1 ∈ lw_tbl := (gb_t5 _ (List.mem_of_getElem? (i := 109) rfl))
theorem wc_X6_partsAtTop : Cond.code M_X6_partsAtTop.1 M_X6_partsAtTop.2.1 M_X6_partsAtTop.2.2.1 M_X6_partsAtTop.2.2.2 ∈ lw_tbl := (gb_t5 _ (List.mem_of_getElem? (i := 136) rfl))
theorem wi_X6_partsAtTop : Cond.instanceMethod M_X6_partsAtTop.1 ∈ lw_tbl := (gb_t5 _ (List.mem_of_getElem? (i := 134) rfl))
theorem ws_X6_partsAtTop : Cond.selects M_X6_partsAtTop.1.cls M_X6_partsAtTop.1 M_X6_partsAtTop.1 ∈ lw_tbl := (gb_t5 _ (List.mem_of_getElem? (i := 135) rfl))
theorem wc_X7_init : Cond.code M_X7_init.1 M_X7_init.2.1 M_X7_init.2.2.1 M_X7_init.2.2.2 ∈ lw_tbl := (gb_t1 _ (List.mem_of_getElem? (i := 143) rfl))
theorem wi_X7_init : Cond.instanceMethod M_X7_init.1 ∈ lw_tbl := (gb_t1 _ (List.mem_of_getElem? (i := 142) rfl))
theorem wc_X7_init_ : Cond.code M_X7_init_.1 M_X7_init_.2.1 M_X7_init_.2.2.1 M_X7_init_.2.2.2 ∈ lw_tbl := (gb_t4 _ (List.mem_of_getElem? (i := 40) rfl))
theorem wi_X7_init_ : Cond.instanceMethod M_X7_init_.1 ∈ lw_tbl := (gb_t4 _ (List.mem_of_getElem? (i := 39) rfl))
theorem wc_X7_clear : Cond.code M_X7_clear.1 M_X7_clear.2.1 M_X7_clear.2.2.1 M_X7_clear.2.2.2 ∈ lw_tbl := (gb_t3 _ (List.mem_of_getElem? (i := 55) rfl))
theorem wi_X7_clear : Cond.instanceMethod M_X7_clear.1 ∈ lw_tbl := (gb_t3 _ (List.mem_of_getElem? (i := 53) rfl))
theorem ws_X7_clear : Cond.selects M_X7_clear.1.cls M_X7_clear.1 M_X7_clear.1 ∈ lw_tbl := (gb_t3 _ (List.mem_of_getElem? (i := 54) rfl))
theorem wc_X7_beginClause : Cond.code M_X7_beginClause.1 M_X7_beginClause.2.1 M_X7_beginClause.2.2.1 M_X7_beginClause.2.2.2 ∈ lw_tbl := (gb_t3 _ (List.mem_of_getElem? (i := 131) rfl))
theorem wi_X7_beginClause : Cond.instanceMethod M_X7_beginClause.1 ∈ lw_tbl := (gb_t3 _ (List.mem_of_getElem? (i := 129) rfl))
theorem ws_X7_beginClause : Cond.selects M_X7_beginClause.1.cls M_X7_beginClause.1 M_X7_beginClause.1 ∈ lw_tbl := (gb_t3 _ (List.mem_of_getElem? (i := 130) rfl))
theorem wc_X7_endPiece : Cond.code M_X7_endPiece.1 M_X7_endPiece.2.1 M_X7_endPiece.2.2.1 M_X7_endPiece.2.2.2 ∈ lw_tbl := (gb_t4 _ (List.mem_of_getElem? (i := 3) rfl))
theorem wi_X7_endPiece : Cond.instanceMethod M_X7_endPiece.1 ∈ lw_tbl := (gb_t4 _ (List.mem_of_getElem? (i := 1) rfl))
theorem ws_X7_endPiece : Cond.selects M_X7_endPiece.1.cls M_X7_endPiece.1 M_X7_endPiece.1 ∈ lw_tbl := (gb_t4 _ (List.mem_of_getElem? (i := 2) rfl))
theorem wc_X7_emit : Cond.code M_X7_emit.1 M_X7_emit.2.1 M_X7_emit.2.2.1 M_X7_emit.2.2.2 ∈ lw_tbl := (gb_t3 _ (List.mem_of_getElem? (i := 167) rfl))
theorem wi_X7_emit : Cond.instanceMethod M_X7_emit.1 ∈ lw_tbl := (gb_t3 _ (List.mem_of_getElem? (i := 165) rfl))
theorem ws_X7_emit : Cond.selects M_X7_emit.1.cls M_X7_emit.1 M_X7_emit.1 ∈ lw_tbl := (gb_t3 _ (List.mem_of_getElem? (i := 166) rfl))
theorem wc_X7_aimHere : Cond.code M_X7_aimHere.1 M_X7_aimHere.2.1 M_X7_aimHere.2.2.1 M_X7_aimHere.2.2.2 ∈ lw_tbl := (gb_t4 _ (List.mem_of_getElem? (i := 34) rfl))
theorem wi_X7_aimHere : Cond.instanceMethod M_X7_aimHere.1 ∈ lw_tbl := (gb_t4 _ (List.mem_of_getElem? (i := 32) rfl))
theorem ws_X7_aimHere : Cond.selects M_X7_aimHere.1.cls M_X7_aimHere.1 M_X7_aimHere.1 ∈ lw_tbl := (gb_t4 _ (List.mem_of_getElem? (i := 33) rfl))
theorem wc_X8_init : Cond.code M_X8_init.1 M_X8_init.2.1 M_X8_init.2.2.1 M_X8_init.2.2.2 ∈ lw_tbl := (gb_t1 _ (List.mem_of_getElem? (i := 137) rfl))
theorem wi_X8_init : Cond.instanceMethod M_X8_init.1 ∈ lw_tbl := (gb_t1 _ (List.mem_of_getElem? (i := 136) rfl))
theorem wc_X8_read : Cond.code M_X8_read.1 M_X8_read.2.1 M_X8_read.2.2.1 M_X8_read.2.2.2 ∈ lw_tbl := (gb_t3 _ (List.mem_of_getElem? (i := 51) rfl))
theorem wi_X8_read : Cond.instanceMethod M_X8_read.1 ∈ lw_tbl := (gb_t3 _ (List.mem_of_getElem? (i := 49) rfl))
theorem ws_X8_read : Cond.selects M_X8_read.1.cls M_X8_read.1 M_X8_read.1 ∈ lw_tbl := (gb_t3 _ (List.mem_of_getElem? (i := 50) rfl))
theorem wc_X8_readClause : Cond.code M_X8_readClause.1 M_X8_readClause.2.1 M_X8_readClause.2.2.1 M_X8_readClause.2.2.2 ∈ lw_tbl := (gb_t3 _ (List.mem_of_getElem? (i := 72) rfl))
theorem wi_X8_readClause : Cond.instanceMethod M_X8_readClause.1 ∈ lw_tbl := (gb_t3 _ (List.mem_of_getElem? (i := 71) rfl))
theorem ws_X8_readClause : Cond.selects M_X8_readClause.1.cls M_X8_readClause.1 M_X8_readClause.1 ∈ lw_tbl := (List.mem_of_getElem? (i := 4) (by decide +kernel))
theorem wc_X8_readKeyword : Cond.code M_X8_readKeyword.1 M_X8_readKeyword.2.1 M_X8_readKeyword.2.2.1 M_X8_readKeyword.2.2.2 ∈ lw_tbl := (gb_t4 _ (List.mem_of_getElem? (i := 9) rfl))
theorem wi_X8_readKeyword : Cond.instanceMethod M_X8_readKeyword.1 ∈ lw_tbl := (gb_t4 _ (List.mem_of_getElem? (i := 8) rfl))
theorem ws_X8_readKeyword : Cond.selects M_X8_readKeyword.1.cls M_X8_readKeyword.1 M_X8_readKeyword.1 ∈ lw_tbl := (List.mem_of_getElem? (i := 11) (by decide +kernel))
theorem wc_X8_readSign : Cond.code M_X8_readSign.1 M_X8_readSign.2.1 M_X8_readSign.2.2.1 M_X8_readSign.2.2.2 ∈ lw_tbl := (gb_t3 _ (List.mem_of_getElem? (i := 151) rfl))
theorem wi_X8_readSign : Cond.instanceMethod M_X8_readSign.1 ∈ lw_tbl := (gb_t3 _ (List.mem_of_getElem? (i := 150) rfl))
theorem ws_X8_readSign : Cond.selects M_X8_readSign.1.cls M_X8_readSign.1 M_X8_readSign.1 ∈ lw_tbl := (List.mem_of_getElem? (i := 8) (by decide +kernel))
theorem wc_X8_readTimes : Cond.code M_X8_readTimes.1 M_X8_readTimes.2.1 M_X8_readTimes.2.2.1 M_X8_readTimes.2.2.2 ∈ lw_tbl := (gb_t4 _ (List.mem_of_getElem? (i := 14) rfl))
theorem wi_X8_readTimes : Cond.instanceMethod M_X8_readTimes.1 ∈ lw_tbl := (gb_t4 _ (List.mem_of_getElem? (i := 13) rfl))
theorem ws_X8_readTimes : Cond.selects M_X8_readTimes.1.cls M_X8_readTimes.1 M_X8_readTimes.1 ∈ lw_tbl := (List.mem_of_getElem? (i := 12) (by decide +kernel))
theorem wc_X8_readTest : Cond.code M_X8_readTest.1 M_X8_readTest.2.1 M_X8_readTest.2.2.1 M_X8_readTest.2.2.2 ∈ lw_tbl := (gb_t4 _ (List.mem_of_getElem? (i := 19) rfl))
theorem wi_X8_readTest : Cond.instanceMethod M_X8_readTest.1 ∈ lw_tbl := (gb_t4 _ (List.mem_of_getElem? (i := 18) rfl))
theorem ws_X8_readTest : Cond.selects M_X8_readTest.1.cls M_X8_readTest.1 M_X8_readTest.1 ∈ lw_tbl := (List.mem_of_getElem? (i := 13) (by decide +kernel))
theorem wc_X8_readBoth : Cond.code M_X8_readBoth.1 M_X8_readBoth.2.1 M_X8_readBoth.2.2.1 M_X8_readBoth.2.2.2 ∈ lw_tbl := (gb_t4 _ (List.mem_of_getElem? (i := 23) rfl))
theorem wi_X8_readBoth : Cond.instanceMethod M_X8_readBoth.1 ∈ lw_tbl := (gb_t4 _ (List.mem_of_getElem? (i := 22) rfl))
theorem ws_X8_readBoth : Cond.selects M_X8_readBoth.1.cls M_X8_readBoth.1 M_X8_readBoth.1 ∈ lw_tbl := (List.mem_of_getElem? (i := 14) (by decide +kernel))
theorem wc_X8_readPlain : Cond.code M_X8_readPlain.1 M_X8_readPlain.2.1 M_X8_readPlain.2.2.1 M_X8_readPlain.2.2.2 ∈ lw_tbl := (gb_t4 _ (List.mem_of_getElem? (i := 27) rfl))
theorem wi_X8_readPlain : Cond.instanceMethod M_X8_readPlain.1 ∈ lw_tbl := (gb_t4 _ (List.mem_of_getElem? (i := 26) rfl))
theorem ws_X8_readPlain : Cond.selects M_X8_readPlain.1.cls M_X8_readPlain.1 M_X8_readPlain.1 ∈ lw_tbl := (List.mem_of_getElem? (i := 15) (by decide +kernel))
theorem wc_X8_readSum : Cond.code M_X8_readSum.1 M_X8_readSum.2.1 M_X8_readSum.2.2.1 M_X8_readSum.2.2.2 ∈ lw_tbl := (gb_t3 _ (List.mem_of_getElem? (i := 135) rfl))
theorem wi_X8_readSum : Cond.instanceMethod M_X8_readSum.1 ∈ lw_tbl := (gb_t3 _ (List.mem_of_getElem? (i := 134) rfl))
theorem ws_X8_readSum : Cond.selects M_X8_readSum.1.cls M_X8_readSum.1 M_X8_readSum.1 ∈ lw_tbl := (List.mem_of_getElem? (i := 5) (by decide +kernel))
theorem wc_X8_readTerm : Cond.code M_X8_readTerm.1 M_X8_readTerm.2.1 M_X8_readTerm.2.2.1 M_X8_readTerm.2.2.2 ∈ lw_tbl := (gb_t3 _ (List.mem_of_getElem? (i := 139) rfl))
theorem wi_X8_readTerm : Cond.instanceMethod M_X8_readTerm.1 ∈ lw_tbl := (gb_t3 _ (List.mem_of_getElem? (i := 138) rfl))
theorem ws_X8_readTerm : Cond.selects M_X8_readTerm.1.cls M_X8_readTerm.1 M_X8_readTerm.1 ∈ lw_tbl := (List.mem_of_getElem? (i := 6) (by decide +kernel))
theorem wc_X8_readPart : Cond.code M_X8_readPart.1 M_X8_readPart.2.1 M_X8_readPart.2.2.1 M_X8_readPart.2.2.2 ∈ lw_tbl := (gb_t3 _ (List.mem_of_getElem? (i := 143) rfl))
theorem wi_X8_readPart : Cond.instanceMethod M_X8_readPart.1 ∈ lw_tbl := (gb_t3 _ (List.mem_of_getElem? (i := 142) rfl))
theorem ws_X8_readPart : Cond.selects M_X8_readPart.1.cls M_X8_readPart.1 M_X8_readPart.1 ∈ lw_tbl := (List.mem_of_getElem? (i := 7) (by decide +kernel))
theorem wc_X8_readNumber : Cond.code M_X8_readNumber.1 M_X8_readNumber.2.1 M_X8_readNumber.2.2.1 M_X8_readNumber.2.2.2 ∈ lw_tbl := (gb_t3 _ (List.mem_of_getElem? (i := 159) rfl))
theorem wi_X8_readNumber : Cond.instanceMethod M_X8_readNumber.1 ∈ lw_tbl := (gb_t3 _ (List.mem_of_getElem? (i := 158) rfl))
theorem ws_X8_readNumber : Cond.selects M_X8_readNumber.1.cls M_X8_readNumber.1 M_X8_readNumber.1 ∈ lw_tbl := (List.mem_of_getElem? (i := 9) (by decide +kernel))
theorem wc_X8_readWord : Cond.code M_X8_readWord.1 M_X8_readWord.2.1 M_X8_readWord.2.2.1 M_X8_readWord.2.2.2 ∈ lw_tbl := (gb_t3 _ (List.mem_of_getElem? (i := 171) rfl))
theorem wi_X8_readWord : Cond.instanceMethod M_X8_readWord.1 ∈ lw_tbl := (gb_t3 _ (List.mem_of_getElem? (i := 170) rfl))
theorem ws_X8_readWord : Cond.selects M_X8_readWord.1.cls M_X8_readWord.1 M_X8_readWord.1 ∈ lw_tbl := (List.mem_of_getElem? (i := 10) (by decide +kernel))
theorem wc_X9_init : Cond.code M_X9_init.1 M_X9_init.2.1 M_X9_init.2.2.1 M_X9_init.2.2.2 ∈ lw_tbl := (gb_t1 _ (List.mem_of_getElem? (i := 112) rfl))
theorem wi_X9_init : Cond.instanceMethod M_X9_init.1 ∈ lw_tbl := (gb_t1 _ (List.mem_of_getElem? (i := 111) rfl))
theorem wc_X9_append : Cond.code M_X9_append.1 M_X9_append.2.1 M_X9_append.2.2.1 M_X9_append.2.2.2 ∈ lw_tbl := (gb_t3 _ (List.mem_of_getElem? (i := 23) rfl))
theorem wi_X9_append : Cond.instanceMethod M_X9_append.1 ∈ lw_tbl := (gb_t3 _ (List.mem_of_getElem? (i := 21) rfl))
theorem ws_X9_append : Cond.selects M_X9_append.1.cls M_X9_append.1 M_X9_append.1 ∈ lw_tbl := (gb_t3 _ (List.mem_of_getElem? (i := 22) rfl))
theorem wc_X9_byteAt : Cond.code M_X9_byteAt.1 M_X9_byteAt.2.1 M_X9_byteAt.2.2.1 M_X9_byteAt.2.2.2 ∈ lw_tbl := (gb_t3 _ (List.mem_of_getElem? (i := 39) rfl))
theorem wi_X9_byteAt : Cond.instanceMethod M_X9_byteAt.1 ∈ lw_tbl := (gb_t3 _ (List.mem_of_getElem? (i := 37) rfl))
theorem ws_X9_byteAt : Cond.selects M_X9_byteAt.1.cls M_X9_byteAt.1 M_X9_byteAt.1 ∈ lw_tbl := (gb_t3 _ (List.mem_of_getElem? (i := 38) rfl))
theorem wc_X9_rewind : Cond.code M_X9_rewind.1 M_X9_rewind.2.1 M_X9_rewind.2.2.1 M_X9_rewind.2.2.2 ∈ lw_tbl := (gb_t3 _ (List.mem_of_getElem? (i := 59) rfl))
theorem wi_X9_rewind : Cond.instanceMethod M_X9_rewind.1 ∈ lw_tbl := (gb_t3 _ (List.mem_of_getElem? (i := 57) rfl))
theorem ws_X9_rewind : Cond.selects M_X9_rewind.1.cls M_X9_rewind.1 M_X9_rewind.1 ∈ lw_tbl := (gb_t3 _ (List.mem_of_getElem? (i := 58) rfl))
theorem wc_X9_step : Cond.code M_X9_step.1 M_X9_step.2.1 M_X9_step.2.2.1 M_X9_step.2.2.2 ∈ lw_tbl := (gb_t3 _ (List.mem_of_getElem? (i := 63) rfl))
theorem wi_X9_step : Cond.instanceMethod M_X9_step.1 ∈ lw_tbl := (gb_t3 _ (List.mem_of_getElem? (i := 61) rfl))
theorem ws_X9_step : Cond.selects M_X9_step.1.cls M_X9_step.1 M_X9_step.1 ∈ lw_tbl := (gb_t3 _ (List.mem_of_getElem? (i := 62) rfl))
theorem wc_X9_kindOf : Cond.code M_X9_kindOf.1 M_X9_kindOf.2.1 M_X9_kindOf.2.2.1 M_X9_kindOf.2.2.2 ∈ lw_tbl := (gb_t3 _ (List.mem_of_getElem? (i := 67) rfl))
theorem wt_X9_kindOf : Cond.static M_X9_kindOf.1 ∈ lw_tbl := (gb_t3 _ (List.mem_of_getElem? (i := 66) rfl))
theorem wc_X9_ended : Cond.code M_X9_ended.1 M_X9_ended.2.1 M_X9_ended.2.2.1 M_X9_ended.2.2.2 ∈ lw_tbl := (gb_t3 _ (List.mem_of_getElem? (i := 183) rfl))
theorem wi_X9_ended : Cond.instanceMethod M_X9_ended.1 ∈ lw_tbl := (gb_t3 _ (List.mem_of_getElem? (i := 181) rfl))
theorem ws_X9_ended : Cond.selects M_X9_ended.1.cls M_X9_ended.1 M_X9_ended.1 ∈ lw_tbl := (gb_t3 _ (List.mem_of_getElem? (i := 182) rfl))
theorem wc_X9_isSign : Cond.code M_X9_isSign.1 M_X9_isSign.2.1 M_X9_isSign.2.2.1 M_X9_isSign.2.2.2 ∈ lw_tbl := (gb_t3 _ (List.mem_of_getElem? (i := 147) rfl))
theorem wi_X9_isSign : Cond.instanceMethod M_X9_isSign.1 ∈ lw_tbl := (gb_t3 _ (List.mem_of_getElem? (i := 145) rfl))
theorem ws_X9_isSign : Cond.selects M_X9_isSign.1.cls M_X9_isSign.1 M_X9_isSign.1 ∈ lw_tbl := (gb_t3 _ (List.mem_of_getElem? (i := 146) rfl))
theorem wc_X9_signIn : Cond.code M_X9_signIn.1 M_X9_signIn.2.1 M_X9_signIn.2.2.1 M_X9_signIn.2.2.2 ∈ lw_tbl := (gb_t3 _ (List.mem_of_getElem? (i := 179) rfl))
theorem wi_X9_signIn : Cond.instanceMethod M_X9_signIn.1 ∈ lw_tbl := (gb_t3 _ (List.mem_of_getElem? (i := 177) rfl))
theorem ws_X9_signIn : Cond.selects M_X9_signIn.1.cls M_X9_signIn.1 M_X9_signIn.1 ∈ lw_tbl := (gb_t3 _ (List.mem_of_getElem? (i := 178) rfl))
theorem wc_X9_isNumber : Cond.code M_X9_isNumber.1 M_X9_isNumber.2.1 M_X9_isNumber.2.2.1 M_X9_isNumber.2.2.2 ∈ lw_tbl := (gb_t3 _ (List.mem_of_getElem? (i := 155) rfl))
theorem wi_X9_isNumber : Cond.instanceMethod M_X9_isNumber.1 ∈ lw_tbl := (gb_t3 _ (List.mem_of_getElem? (i := 153) rfl))
theorem ws_X9_isNumber : Cond.selects M_X9_isNumber.1.cls M_X9_isNumber.1 M_X9_isNumber.1 ∈ lw_tbl := (gb_t3 _ (List.mem_of_getElem? (i := 154) rfl))
theorem wc_X9_number : Cond.code M_X9_number.1 M_X9_number.2.1 M_X9_number.2.2.1 M_X9_number.2.2.2 ∈ lw_tbl := (gb_t3 _ (List.mem_of_getElem? (i := 163) rfl))
theorem wi_X9_number : Cond.instanceMethod M_X9_number.1 ∈ lw_tbl := (gb_t3 _ (List.mem_of_getElem? (i := 161) rfl))
theorem ws_X9_number : Cond.selects M_X9_number.1.cls M_X9_number.1 M_X9_number.1 ∈ lw_tbl := (gb_t3 _ (List.mem_of_getElem? (i := 162) rfl))
theorem wc_X9_wordIn : Cond.code M_X9_wordIn.1 M_X9_wordIn.2.1 M_X9_wordIn.2.2.1 M_X9_wordIn.2.2.2 ∈ lw_tbl := (gb_t3 _ (List.mem_of_getElem? (i := 78) rfl))
theorem wi_X9_wordIn : Cond.instanceMethod M_X9_wordIn.1 ∈ lw_tbl := (gb_t3 _ (List.mem_of_getElem? (i := 76) rfl))
theorem ws_X9_wordIn : Cond.selects M_X9_wordIn.1.cls M_X9_wordIn.1 M_X9_wordIn.1 ∈ lw_tbl := (gb_t3 _ (List.mem_of_getElem? (i := 77) rfl))
theorem wc_X10_init : Cond.code M_X10_init.1 M_X10_init.2.1 M_X10_init.2.2.1 M_X10_init.2.2.2 ∈ lw_tbl := (gb_t1 _ (List.mem_of_getElem? (i := 25) rfl))
theorem wi_X10_init : Cond.instanceMethod M_X10_init.1 ∈ lw_tbl := (gb_t1 _ (List.mem_of_getElem? (i := 24) rfl))
theorem wc_X10_good : Cond.code M_X10_good.1 M_X10_good.2.1 M_X10_good.2.2.1 M_X10_good.2.2.2 ∈ lw_tbl := (gb_t2 _ (List.mem_of_getElem? (i := 142) rfl))
theorem wi_X10_good : Cond.instanceMethod M_X10_good.1 ∈ lw_tbl := (gb_t2 _ (List.mem_of_getElem? (i := 140) rfl))
theorem ws_X10_good : Cond.selects M_X10_good.1.cls M_X10_good.1 M_X10_good.1 ∈ lw_tbl := (gb_t2 _ (List.mem_of_getElem? (i := 141) rfl))
theorem wc_X10_of : Cond.code M_X10_of.1 M_X10_of.2.1 M_X10_of.2.2.1 M_X10_of.2.2.2 ∈ lw_tbl := (gb_t2 _ (List.mem_of_getElem? (i := 180) rfl))
theorem wi_X10_of : Cond.instanceMethod M_X10_of.1 ∈ lw_tbl := (gb_t2 _ (List.mem_of_getElem? (i := 178) rfl))
theorem ws_X10_of : Cond.selects M_X10_of.1.cls M_X10_of.1 M_X10_of.1 ∈ lw_tbl := (gb_t2 _ (List.mem_of_getElem? (i := 179) rfl))
theorem wc_X10_asks : Cond.code M_X10_asks.1 M_X10_asks.2.1 M_X10_asks.2.2.1 M_X10_asks.2.2.2 ∈ lw_tbl := (gb_t2 _ (List.mem_of_getElem? (i := 188) rfl))
theorem wi_X10_asks : Cond.instanceMethod M_X10_asks.1 ∈ lw_tbl := (gb_t2 _ (List.mem_of_getElem? (i := 186) rfl))
theorem ws_X10_asks : Cond.selects M_X10_asks.1.cls M_X10_asks.1 M_X10_asks.1 ∈ lw_tbl := (gb_t2 _ (List.mem_of_getElem? (i := 187) rfl))
theorem wc_X10_stand : Cond.code M_X10_stand.1 M_X10_stand.2.1 M_X10_stand.2.2.1 M_X10_stand.2.2.2 ∈ lw_tbl := (gb_t2 _ (List.mem_of_getElem? (i := 236) rfl))
theorem wi_X10_stand : Cond.instanceMethod M_X10_stand.1 ∈ lw_tbl := (gb_t2 _ (List.mem_of_getElem? (i := 234) rfl))
theorem ws_X10_stand : Cond.selects M_X10_stand.1.cls M_X10_stand.1 M_X10_stand.1 ∈ lw_tbl := (gb_t2 _ (List.mem_of_getElem? (i := 235) rfl))
theorem wc_X10_person : Cond.code M_X10_person.1 M_X10_person.2.1 M_X10_person.2.2.1 M_X10_person.2.2.2 ∈ lw_tbl := (gb_t3 _ (List.mem_of_getElem? (i := 1) rfl))
theorem wi_X10_person : Cond.instanceMethod M_X10_person.1 ∈ lw_tbl := (gb_t2 _ (List.mem_of_getElem? (i := 239) rfl))
theorem ws_X10_person : Cond.selects M_X10_person.1.cls M_X10_person.1 M_X10_person.1 ∈ lw_tbl := (gb_t3 _ (List.mem_of_getElem? (i := 0) rfl))
theorem wc_X10_own : Cond.code M_X10_own.1 M_X10_own.2.1 M_X10_own.2.2.1 M_X10_own.2.2.2 ∈ lw_tbl := (gb_t3 _ (List.mem_of_getElem? (i := 5) rfl))
theorem wi_X10_own : Cond.instanceMethod M_X10_own.1 ∈ lw_tbl := (gb_t3 _ (List.mem_of_getElem? (i := 3) rfl))
theorem ws_X10_own : Cond.selects M_X10_own.1.cls M_X10_own.1 M_X10_own.1 ∈ lw_tbl := (gb_t3 _ (List.mem_of_getElem? (i := 4) rfl))
theorem wc_X10_terms : Cond.code M_X10_terms.1 M_X10_terms.2.1 M_X10_terms.2.2.1 M_X10_terms.2.2.2 ∈ lw_tbl := (gb_t3 _ (List.mem_of_getElem? (i := 13) rfl))
theorem wi_X10_terms : Cond.instanceMethod M_X10_terms.1 ∈ lw_tbl := (gb_t3 _ (List.mem_of_getElem? (i := 11) rfl))
theorem ws_X10_terms : Cond.selects M_X10_terms.1.cls M_X10_terms.1 M_X10_terms.1 ∈ lw_tbl := (gb_t3 _ (List.mem_of_getElem? (i := 12) rfl))
theorem wc_X10_feed : Cond.code M_X10_feed.1 M_X10_feed.2.1 M_X10_feed.2.2.1 M_X10_feed.2.2.2 ∈ lw_tbl := (gb_t3 _ (List.mem_of_getElem? (i := 19) rfl))
theorem wi_X10_feed : Cond.instanceMethod M_X10_feed.1 ∈ lw_tbl := (gb_t3 _ (List.mem_of_getElem? (i := 17) rfl))
theorem ws_X10_feed : Cond.selects M_X10_feed.1.cls M_X10_feed.1 M_X10_feed.1 ∈ lw_tbl := (gb_t3 _ (List.mem_of_getElem? (i := 18) rfl))
theorem wc_X10_end : Cond.code M_X10_end.1 M_X10_end.2.1 M_X10_end.2.2.1 M_X10_end.2.2.2 ∈ lw_tbl := (gb_t3 _ (List.mem_of_getElem? (i := 27) rfl))
theorem wi_X10_end : Cond.instanceMethod M_X10_end.1 ∈ lw_tbl := (gb_t3 _ (List.mem_of_getElem? (i := 25) rfl))
theorem ws_X10_end : Cond.selects M_X10_end.1.cls M_X10_end.1 M_X10_end.1 ∈ lw_tbl := (gb_t3 _ (List.mem_of_getElem? (i := 26) rfl))
theorem wc_X10_row : Cond.code M_X10_row.1 M_X10_row.2.1 M_X10_row.2.2.1 M_X10_row.2.2.2 ∈ lw_tbl := (gb_t3 _ (List.mem_of_getElem? (i := 31) rfl))
theorem wi_X10_row : Cond.instanceMethod M_X10_row.1 ∈ lw_tbl := (gb_t3 _ (List.mem_of_getElem? (i := 29) rfl))
theorem ws_X10_row : Cond.selects M_X10_row.1.cls M_X10_row.1 M_X10_row.1 ∈ lw_tbl := (gb_t3 _ (List.mem_of_getElem? (i := 30) rfl))
theorem wc_X10_addFromTape : Cond.code M_X10_addFromTape.1 M_X10_addFromTape.2.1 M_X10_addFromTape.2.2.1 M_X10_addFromTape.2.2.2 ∈ lw_tbl := (gb_t3 _ (List.mem_of_getElem? (i := 35) rfl))
theorem wi_X10_addFromTape : Cond.instanceMethod M_X10_addFromTape.1 ∈ lw_tbl := (gb_t3 _ (List.mem_of_getElem? (i := 34) rfl))
theorem ws_X10_addFromTape : Cond.selects M_X10_addFromTape.1.cls M_X10_addFromTape.1 M_X10_addFromTape.1 ∈ lw_tbl := (List.mem_of_getElem? (i := 3) (by decide +kernel))
theorem wc_X10_commas : Cond.code M_X10_commas.1 M_X10_commas.2.1 M_X10_commas.2.2.1 M_X10_commas.2.2.2 ∈ lw_tbl := (gb_t3 _ (List.mem_of_getElem? (i := 43) rfl))
theorem wi_X10_commas : Cond.instanceMethod M_X10_commas.1 ∈ lw_tbl := (gb_t3 _ (List.mem_of_getElem? (i := 41) rfl))
theorem ws_X10_commas : Cond.selects M_X10_commas.1.cls M_X10_commas.1 M_X10_commas.1 ∈ lw_tbl := (gb_t3 _ (List.mem_of_getElem? (i := 42) rfl))
theorem wc_X10_law : Cond.code M_X10_law.1 M_X10_law.2.1 M_X10_law.2.2.1 M_X10_law.2.2.2 ∈ lw_tbl := (gb_t3 _ (List.mem_of_getElem? (i := 47) rfl))
theorem wi_X10_law : Cond.instanceMethod M_X10_law.1 ∈ lw_tbl := (gb_t3 _ (List.mem_of_getElem? (i := 45) rfl))
theorem ws_X10_law : Cond.selects M_X10_law.1.cls M_X10_law.1 M_X10_law.1 ∈ lw_tbl := (gb_t3 _ (List.mem_of_getElem? (i := 46) rfl))
theorem wc_X10_orders : Cond.code M_X10_orders.1 M_X10_orders.2.1 M_X10_orders.2.2.1 M_X10_orders.2.2.2 ∈ lw_tbl := (gb_t4 _ (List.mem_of_getElem? (i := 64) rfl))
theorem wi_X10_orders : Cond.instanceMethod M_X10_orders.1 ∈ lw_tbl := (gb_t4 _ (List.mem_of_getElem? (i := 62) rfl))
theorem ws_X10_orders : Cond.selects M_X10_orders.1.cls M_X10_orders.1 M_X10_orders.1 ∈ lw_tbl := (gb_t4 _ (List.mem_of_getElem? (i := 63) rfl))
theorem wc_X10_fault : Cond.code M_X10_fault.1 M_X10_fault.2.1 M_X10_fault.2.2.1 M_X10_fault.2.2.2 ∈ lw_tbl := (gb_t4 _ (List.mem_of_getElem? (i := 145) rfl))
theorem wi_X10_fault : Cond.instanceMethod M_X10_fault.1 ∈ lw_tbl := (gb_t4 _ (List.mem_of_getElem? (i := 143) rfl))
theorem ws_X10_fault : Cond.selects M_X10_fault.1.cls M_X10_fault.1 M_X10_fault.1 ∈ lw_tbl := (gb_t4 _ (List.mem_of_getElem? (i := 144) rfl))
theorem wc_X10_stopped : Cond.code M_X10_stopped.1 M_X10_stopped.2.1 M_X10_stopped.2.2.1 M_X10_stopped.2.2.2 ∈ lw_tbl := (gb_t4 _ (List.mem_of_getElem? (i := 149) rfl))
theorem wi_X10_stopped : Cond.instanceMethod M_X10_stopped.1 ∈ lw_tbl := (gb_t4 _ (List.mem_of_getElem? (i := 147) rfl))
theorem ws_X10_stopped : Cond.selects M_X10_stopped.1.cls M_X10_stopped.1 M_X10_stopped.1 ∈ lw_tbl := (gb_t4 _ (List.mem_of_getElem? (i := 148) rfl))
theorem wc_X10_force : Cond.code M_X10_force.1 M_X10_force.2.1 M_X10_force.2.2.1 M_X10_force.2.2.2 ∈ lw_tbl := (gb_t4 _ (List.mem_of_getElem? (i := 153) rfl))
theorem wi_X10_force : Cond.instanceMethod M_X10_force.1 ∈ lw_tbl := (gb_t4 _ (List.mem_of_getElem? (i := 151) rfl))
theorem ws_X10_force : Cond.selects M_X10_force.1.cls M_X10_force.1 M_X10_force.1 ∈ lw_tbl := (gb_t4 _ (List.mem_of_getElem? (i := 152) rfl))
theorem wc_X10_runOnce : Cond.code M_X10_runOnce.1 M_X10_runOnce.2.1 M_X10_runOnce.2.2.1 M_X10_runOnce.2.2.2 ∈ lw_tbl := (gb_t4 _ (List.mem_of_getElem? (i := 78) rfl))
theorem wi_X10_runOnce : Cond.instanceMethod M_X10_runOnce.1 ∈ lw_tbl := (gb_t4 _ (List.mem_of_getElem? (i := 77) rfl))
theorem ws_X10_runOnce : Cond.selects M_X10_runOnce.1.cls M_X10_runOnce.1 M_X10_runOnce.1 ∈ lw_tbl := (List.mem_of_getElem? (i := 16) (by decide +kernel))
theorem wc_X10_fillOrderWords : Cond.code M_X10_fillOrderWords.1 M_X10_fillOrderWords.2.1 M_X10_fillOrderWords.2.2.1 M_X10_fillOrderWords.2.2.2 ∈ lw_tbl := (gb_t4 _ (List.mem_of_getElem? (i := 82) rfl))
theorem wi_X10_fillOrderWords : Cond.instanceMethod M_X10_fillOrderWords.1 ∈ lw_tbl := (gb_t4 _ (List.mem_of_getElem? (i := 81) rfl))
theorem ws_X10_fillOrderWords : Cond.selects M_X10_fillOrderWords.1.cls M_X10_fillOrderWords.1 M_X10_fillOrderWords.1 ∈ lw_tbl := (List.mem_of_getElem? (i := 17) (by decide +kernel))
theorem wc_X10_changeLacking : Cond.code M_X10_changeLacking.1 M_X10_changeLacking.2.1 M_X10_changeLacking.2.2.1 M_X10_changeLacking.2.2.2 ∈ lw_tbl := (gb_t4 _ (List.mem_of_getElem? (i := 116) rfl))
theorem wi_X10_changeLacking : Cond.instanceMethod M_X10_changeLacking.1 ∈ lw_tbl := (gb_t4 _ (List.mem_of_getElem? (i := 115) rfl))
theorem ws_X10_changeLacking : Cond.selects M_X10_changeLacking.1.cls M_X10_changeLacking.1 M_X10_changeLacking.1 ∈ lw_tbl := (List.mem_of_getElem? (i := 21) (by decide +kernel))
theorem wc_X10_changeWeight : Cond.code M_X10_changeWeight.1 M_X10_changeWeight.2.1 M_X10_changeWeight.2.2.1 M_X10_changeWeight.2.2.2 ∈ lw_tbl := (gb_t4 _ (List.mem_of_getElem? (i := 129) rfl))
theorem wi_X10_changeWeight : Cond.instanceMethod M_X10_changeWeight.1 ∈ lw_tbl := (gb_t4 _ (List.mem_of_getElem? (i := 128) rfl))
theorem ws_X10_changeWeight : Cond.selects M_X10_changeWeight.1.cls M_X10_changeWeight.1 M_X10_changeWeight.1 ∈ lw_tbl := (List.mem_of_getElem? (i := 23) (by decide +kernel))
theorem wc_X10_passMonth : Cond.code M_X10_passMonth.1 M_X10_passMonth.2.1 M_X10_passMonth.2.2.1 M_X10_passMonth.2.2.2 ∈ lw_tbl := (gb_t4 _ (List.mem_of_getElem? (i := 133) rfl))
theorem wi_X10_passMonth : Cond.instanceMethod M_X10_passMonth.1 ∈ lw_tbl := (gb_t4 _ (List.mem_of_getElem? (i := 132) rfl))
theorem ws_X10_passMonth : Cond.selects M_X10_passMonth.1.cls M_X10_passMonth.1 M_X10_passMonth.1 ∈ lw_tbl := (List.mem_of_getElem? (i := 24) (by decide +kernel))
theorem wc_X10_lack : Cond.code M_X10_lack.1 M_X10_lack.2.1 M_X10_lack.2.2.1 M_X10_lack.2.2.2 ∈ lw_tbl := (gb_t4 _ (List.mem_of_getElem? (i := 157) rfl))
theorem wi_X10_lack : Cond.instanceMethod M_X10_lack.1 ∈ lw_tbl := (gb_t4 _ (List.mem_of_getElem? (i := 155) rfl))
theorem ws_X10_lack : Cond.selects M_X10_lack.1.cls M_X10_lack.1 M_X10_lack.1 ∈ lw_tbl := (gb_t4 _ (List.mem_of_getElem? (i := 156) rfl))
theorem wc_X10_find : Cond.code M_X10_find.1 M_X10_find.2.1 M_X10_find.2.2.1 M_X10_find.2.2.2 ∈ lw_tbl := (gb_t4 _ (List.mem_of_getElem? (i := 165) rfl))
theorem wi_X10_find : Cond.instanceMethod M_X10_find.1 ∈ lw_tbl := (gb_t4 _ (List.mem_of_getElem? (i := 163) rfl))
theorem ws_X10_find : Cond.selects M_X10_find.1.cls M_X10_find.1 M_X10_find.1 ∈ lw_tbl := (gb_t4 _ (List.mem_of_getElem? (i := 164) rfl))
theorem wc_X10_weigh : Cond.code M_X10_weigh.1 M_X10_weigh.2.1 M_X10_weigh.2.2.1 M_X10_weigh.2.2.2 ∈ lw_tbl := (gb_t4 _ (List.mem_of_getElem? (i := 169) rfl))
theorem wi_X10_weigh : Cond.instanceMethod M_X10_weigh.1 ∈ lw_tbl := (gb_t4 _ (List.mem_of_getElem? (i := 167) rfl))
theorem ws_X10_weigh : Cond.selects M_X10_weigh.1.cls M_X10_weigh.1 M_X10_weigh.1 ∈ lw_tbl := (gb_t4 _ (List.mem_of_getElem? (i := 168) rfl))
theorem wc_X10_pass : Cond.code M_X10_pass.1 M_X10_pass.2.1 M_X10_pass.2.2.1 M_X10_pass.2.2.2 ∈ lw_tbl := (gb_t4 _ (List.mem_of_getElem? (i := 173) rfl))
theorem wi_X10_pass : Cond.instanceMethod M_X10_pass.1 ∈ lw_tbl := (gb_t4 _ (List.mem_of_getElem? (i := 171) rfl))
theorem ws_X10_pass : Cond.selects M_X10_pass.1.cls M_X10_pass.1 M_X10_pass.1 ∈ lw_tbl := (gb_t4 _ (List.mem_of_getElem? (i := 172) rfl))
theorem wc_X10_undo : Cond.code M_X10_undo.1 M_X10_undo.2.1 M_X10_undo.2.2.1 M_X10_undo.2.2.2 ∈ lw_tbl := (gb_t4 _ (List.mem_of_getElem? (i := 177) rfl))
theorem wi_X10_undo : Cond.instanceMethod M_X10_undo.1 ∈ lw_tbl := (gb_t4 _ (List.mem_of_getElem? (i := 175) rfl))
theorem ws_X10_undo : Cond.selects M_X10_undo.1.cls M_X10_undo.1 M_X10_undo.1 ∈ lw_tbl := (gb_t4 _ (List.mem_of_getElem? (i := 176) rfl))
theorem wc_X10_figure : Cond.code M_X10_figure.1 M_X10_figure.2.1 M_X10_figure.2.2.1 M_X10_figure.2.2.2 ∈ lw_tbl := (gb_t4 _ (List.mem_of_getElem? (i := 187) rfl))
theorem wi_X10_figure : Cond.instanceMethod M_X10_figure.1 ∈ lw_tbl := (gb_t4 _ (List.mem_of_getElem? (i := 185) rfl))
theorem ws_X10_figure : Cond.selects M_X10_figure.1.cls M_X10_figure.1 M_X10_figure.1 ∈ lw_tbl := (gb_t4 _ (List.mem_of_getElem? (i := 186) rfl))
theorem wc_X10_turned : Cond.code M_X10_turned.1 M_X10_turned.2.1 M_X10_turned.2.2.1 M_X10_turned.2.2.2 ∈ lw_tbl := (gb_t4 _ (List.mem_of_getElem? (i := 229) rfl))
theorem wi_X10_turned : Cond.instanceMethod M_X10_turned.1 ∈ lw_tbl := (gb_t4 _ (List.mem_of_getElem? (i := 227) rfl))
theorem ws_X10_turned : Cond.selects M_X10_turned.1.cls M_X10_turned.1 M_X10_turned.1 ∈ lw_tbl := (gb_t4 _ (List.mem_of_getElem? (i := 228) rfl))
theorem wc_X10_pension : Cond.code M_X10_pension.1 M_X10_pension.2.1 M_X10_pension.2.2.1 M_X10_pension.2.2.2 ∈ lw_tbl := (gb_t5 _ (List.mem_of_getElem? (i := 1) rfl))
theorem wi_X10_pension : Cond.instanceMethod M_X10_pension.1 ∈ lw_tbl := (gb_t4 _ (List.mem_of_getElem? (i := 239) rfl))
theorem ws_X10_pension : Cond.selects M_X10_pension.1.cls M_X10_pension.1 M_X10_pension.1 ∈ lw_tbl := (gb_t5 _ (List.mem_of_getElem? (i := 0) rfl))
theorem wc_X10_glad : Cond.code M_X10_glad.1 M_X10_glad.2.1 M_X10_glad.2.2.1 M_X10_glad.2.2.2 ∈ lw_tbl := (gb_t5 _ (List.mem_of_getElem? (i := 5) rfl))
theorem wi_X10_glad : Cond.instanceMethod M_X10_glad.1 ∈ lw_tbl := (gb_t5 _ (List.mem_of_getElem? (i := 3) rfl))
theorem ws_X10_glad : Cond.selects M_X10_glad.1.cls M_X10_glad.1 M_X10_glad.1 ∈ lw_tbl := (gb_t5 _ (List.mem_of_getElem? (i := 4) rfl))
theorem wc_X10_round : Cond.code M_X10_round.1 M_X10_round.2.1 M_X10_round.2.2.1 M_X10_round.2.2.2 ∈ lw_tbl := (gb_t5 _ (List.mem_of_getElem? (i := 41) rfl))
theorem wi_X10_round : Cond.instanceMethod M_X10_round.1 ∈ lw_tbl := (gb_t5 _ (List.mem_of_getElem? (i := 39) rfl))
theorem ws_X10_round : Cond.selects M_X10_round.1.cls M_X10_round.1 M_X10_round.1 ∈ lw_tbl := (gb_t5 _ (List.mem_of_getElem? (i := 40) rfl))
theorem wc_X10_spent : Cond.code M_X10_spent.1 M_X10_spent.2.1 M_X10_spent.2.2.1 M_X10_spent.2.2.2 ∈ lw_tbl := (gb_t5 _ (List.mem_of_getElem? (i := 70) rfl))
theorem wi_X10_spent : Cond.instanceMethod M_X10_spent.1 ∈ lw_tbl := (gb_t5 _ (List.mem_of_getElem? (i := 68) rfl))
theorem ws_X10_spent : Cond.selects M_X10_spent.1.cls M_X10_spent.1 M_X10_spent.1 ∈ lw_tbl := (gb_t5 _ (List.mem_of_getElem? (i := 69) rfl))
theorem wc_X10_ask : Cond.code M_X10_ask.1 M_X10_ask.2.1 M_X10_ask.2.2.1 M_X10_ask.2.2.2 ∈ lw_tbl := (gb_t5 _ (List.mem_of_getElem? (i := 82) rfl))
theorem wi_X10_ask : Cond.instanceMethod M_X10_ask.1 ∈ lw_tbl := (gb_t5 _ (List.mem_of_getElem? (i := 80) rfl))
theorem ws_X10_ask : Cond.selects M_X10_ask.1.cls M_X10_ask.1 M_X10_ask.1 ∈ lw_tbl := (gb_t5 _ (List.mem_of_getElem? (i := 81) rfl))
theorem wc_X10_fair : Cond.code M_X10_fair.1 M_X10_fair.2.1 M_X10_fair.2.2.1 M_X10_fair.2.2.2 ∈ lw_tbl := (gb_t5 _ (List.mem_of_getElem? (i := 90) rfl))
theorem wi_X10_fair : Cond.instanceMethod M_X10_fair.1 ∈ lw_tbl := (gb_t5 _ (List.mem_of_getElem? (i := 88) rfl))
theorem ws_X10_fair : Cond.selects M_X10_fair.1.cls M_X10_fair.1 M_X10_fair.1 ∈ lw_tbl := (gb_t5 _ (List.mem_of_getElem? (i := 89) rfl))
theorem wc_X10_hear : Cond.code M_X10_hear.1 M_X10_hear.2.1 M_X10_hear.2.2.1 M_X10_hear.2.2.2 ∈ lw_tbl := (gb_t5 _ (List.mem_of_getElem? (i := 95) rfl))
theorem wi_X10_hear : Cond.instanceMethod M_X10_hear.1 ∈ lw_tbl := (gb_t5 _ (List.mem_of_getElem? (i := 93) rfl))
theorem ws_X10_hear : Cond.selects M_X10_hear.1.cls M_X10_hear.1 M_X10_hear.1 ∈ lw_tbl := (gb_t5 _ (List.mem_of_getElem? (i := 94) rfl))
theorem wc_X10_forget : Cond.code M_X10_forget.1 M_X10_forget.2.1 M_X10_forget.2.2.1 M_X10_forget.2.2.2 ∈ lw_tbl := (gb_t5 _ (List.mem_of_getElem? (i := 99) rfl))
theorem wi_X10_forget : Cond.instanceMethod M_X10_forget.1 ∈ lw_tbl := (gb_t5 _ (List.mem_of_getElem? (i := 97) rfl))
theorem ws_X10_forget : Cond.selects M_X10_forget.1.cls M_X10_forget.1 M_X10_forget.1 ∈ lw_tbl := (gb_t5 _ (List.mem_of_getElem? (i := 98) rfl))
theorem wc_X10_trend : Cond.code M_X10_trend.1 M_X10_trend.2.1 M_X10_trend.2.2.1 M_X10_trend.2.2.2 ∈ lw_tbl := (gb_t5 _ (List.mem_of_getElem? (i := 103) rfl))
theorem wi_X10_trend : Cond.instanceMethod M_X10_trend.1 ∈ lw_tbl := (gb_t5 _ (List.mem_of_getElem? (i := 101) rfl))
theorem ws_X10_trend : Cond.selects M_X10_trend.1.cls M_X10_trend.1 M_X10_trend.1 ∈ lw_tbl := (gb_t5 _ (List.mem_of_getElem? (i := 102) rfl))
theorem wc_X10_does : Cond.code M_X10_does.1 M_X10_does.2.1 M_X10_does.2.2.1 M_X10_does.2.2.2 ∈ lw_tbl := (gb_t5 _ (List.mem_of_getElem? (i := 119) rfl))
theorem wi_X10_does : Cond.instanceMethod M_X10_does.1 ∈ lw_tbl := (gb_t5 _ (List.mem_of_getElem? (i := 117) rfl))
theorem ws_X10_does : Cond.selects M_X10_does.1.cls M_X10_does.1 M_X10_does.1 ∈ lw_tbl := (gb_t5 _ (List.mem_of_getElem? (i := 118) rfl))
theorem wc_X10_compare : Cond.code M_X10_compare.1 M_X10_compare.2.1 M_X10_compare.2.2.1 M_X10_compare.2.2.2 ∈ lw_tbl := (gb_t5 _ (List.mem_of_getElem? (i := 127) rfl))
theorem wi_X10_compare : Cond.instanceMethod M_X10_compare.1 ∈ lw_tbl := (gb_t5 _ (List.mem_of_getElem? (i := 125) rfl))
theorem ws_X10_compare : Cond.selects M_X10_compare.1.cls M_X10_compare.1 M_X10_compare.1 ∈ lw_tbl := (gb_t5 _ (List.mem_of_getElem? (i := 126) rfl))
theorem wc_X10_gets : Cond.code M_X10_gets.1 M_X10_gets.2.1 M_X10_gets.2.2.1 M_X10_gets.2.2.2 ∈ lw_tbl := (gb_t5 _ (List.mem_of_getElem? (i := 132) rfl))
theorem wi_X10_gets : Cond.instanceMethod M_X10_gets.1 ∈ lw_tbl := (gb_t5 _ (List.mem_of_getElem? (i := 130) rfl))
theorem ws_X10_gets : Cond.selects M_X10_gets.1.cls M_X10_gets.1 M_X10_gets.1 ∈ lw_tbl := (gb_t5 _ (List.mem_of_getElem? (i := 131) rfl))
theorem wc_X10_years : Cond.code M_X10_years.1 M_X10_years.2.1 M_X10_years.2.2.1 M_X10_years.2.2.2 ∈ lw_tbl := (gb_t5 _ (List.mem_of_getElem? (i := 145) rfl))
theorem wi_X10_years : Cond.instanceMethod M_X10_years.1 ∈ lw_tbl := (gb_t5 _ (List.mem_of_getElem? (i := 143) rfl))
theorem ws_X10_years : Cond.selects M_X10_years.1.cls M_X10_years.1 M_X10_years.1 ∈ lw_tbl := (gb_t5 _ (List.mem_of_getElem? (i := 144) rfl))
theorem wc_X10_nextDraw : Cond.code M_X10_nextDraw.1 M_X10_nextDraw.2.1 M_X10_nextDraw.2.2.1 M_X10_nextDraw.2.2.2 ∈ lw_tbl := (gb_t5 _ (List.mem_of_getElem? (i := 149) rfl))
theorem wt_X10_nextDraw : Cond.static M_X10_nextDraw.1 ∈ lw_tbl := (gb_t5 _ (List.mem_of_getElem? (i := 148) rfl))
theorem wc_X10_drawn : Cond.code M_X10_drawn.1 M_X10_drawn.2.1 M_X10_drawn.2.2.1 M_X10_drawn.2.2.2 ∈ lw_tbl := (gb_t5 _ (List.mem_of_getElem? (i := 164) rfl))
theorem wi_X10_drawn : Cond.instanceMethod M_X10_drawn.1 ∈ lw_tbl := (gb_t5 _ (List.mem_of_getElem? (i := 162) rfl))
theorem ws_X10_drawn : Cond.selects M_X10_drawn.1.cls M_X10_drawn.1 M_X10_drawn.1 ∈ lw_tbl := (gb_t5 _ (List.mem_of_getElem? (i := 163) rfl))
theorem wc_X10_image : Cond.code M_X10_image.1 M_X10_image.2.1 M_X10_image.2.2.1 M_X10_image.2.2.2 ∈ lw_tbl := (gb_t5 _ (List.mem_of_getElem? (i := 168) rfl))
theorem wi_X10_image : Cond.instanceMethod M_X10_image.1 ∈ lw_tbl := (gb_t5 _ (List.mem_of_getElem? (i := 166) rfl))
theorem ws_X10_image : Cond.selects M_X10_image.1.cls M_X10_image.1 M_X10_image.1 ∈ lw_tbl := (gb_t5 _ (List.mem_of_getElem? (i := 167) rfl))
theorem wc_X10_back : Cond.code M_X10_back.1 M_X10_back.2.1 M_X10_back.2.2.1 M_X10_back.2.2.2 ∈ lw_tbl := (gb_t5 _ (List.mem_of_getElem? (i := 172) rfl))
theorem wi_X10_back : Cond.instanceMethod M_X10_back.1 ∈ lw_tbl := (gb_t5 _ (List.mem_of_getElem? (i := 170) rfl))
theorem ws_X10_back : Cond.selects M_X10_back.1.cls M_X10_back.1 M_X10_back.1 ∈ lw_tbl := (gb_t5 _ (List.mem_of_getElem? (i := 171) rfl))
theorem wc_X10_count : Cond.code M_X10_count.1 M_X10_count.2.1 M_X10_count.2.2.1 M_X10_count.2.2.2 ∈ lw_tbl := (gb_t5 _ (List.mem_of_getElem? (i := 176) rfl))
theorem wi_X10_count : Cond.instanceMethod M_X10_count.1 ∈ lw_tbl := (gb_t5 _ (List.mem_of_getElem? (i := 174) rfl))
theorem ws_X10_count : Cond.selects M_X10_count.1.cls M_X10_count.1 M_X10_count.1 ∈ lw_tbl := (gb_t5 _ (List.mem_of_getElem? (i := 175) rfl))
theorem wc_X10_status : Cond.code M_X10_status.1 M_X10_status.2.1 M_X10_status.2.2.1 M_X10_status.2.2.2 ∈ lw_tbl := (gb_t5 _ (List.mem_of_getElem? (i := 180) rfl))
theorem wi_X10_status : Cond.instanceMethod M_X10_status.1 ∈ lw_tbl := (gb_t5 _ (List.mem_of_getElem? (i := 178) rfl))
theorem ws_X10_status : Cond.selects M_X10_status.1.cls M_X10_status.1 M_X10_status.1 ∈ lw_tbl := (gb_t5 _ (List.mem_of_getElem? (i := 179) rfl))
theorem wc_X10_refuse : Cond.code M_X10_refuse.1 M_X10_refuse.2.1 M_X10_refuse.2.2.1 M_X10_refuse.2.2.2 ∈ lw_tbl := (gb_t2 _ (List.mem_of_getElem? (i := 152) rfl))
theorem wi_X10_refuse : Cond.instanceMethod M_X10_refuse.1 ∈ lw_tbl := (gb_t2 _ (List.mem_of_getElem? (i := 151) rfl))
theorem ws_X10_refuse : Cond.selects M_X10_refuse.1.cls M_X10_refuse.1 M_X10_refuse.1 ∈ lw_tbl := (List.mem_of_getElem? (i := 0) (by decide +kernel))
theorem wc_X10_grant : Cond.code M_X10_grant.1 M_X10_grant.2.1 M_X10_grant.2.2.1 M_X10_grant.2.2.2 ∈ lw_tbl := (gb_t2 _ (List.mem_of_getElem? (i := 176) rfl))
theorem wi_X10_grant : Cond.instanceMethod M_X10_grant.1 ∈ lw_tbl := (gb_t2 _ (List.mem_of_getElem? (i := 175) rfl))
theorem ws_X10_grant : Cond.selects M_X10_grant.1.cls M_X10_grant.1 M_X10_grant.1 ∈ lw_tbl := (List.mem_of_getElem? (i := 1) (by decide +kernel))
theorem wc_X10_settle : Cond.code M_X10_settle.1 M_X10_settle.2.1 M_X10_settle.2.2.1 M_X10_settle.2.2.2 ∈ lw_tbl := (gb_t4 _ (List.mem_of_getElem? (i := 161) rfl))
theorem wi_X10_settle : Cond.instanceMethod M_X10_settle.1 ∈ lw_tbl := (gb_t4 _ (List.mem_of_getElem? (i := 160) rfl))
theorem ws_X10_settle : Cond.selects M_X10_settle.1.cls M_X10_settle.1 M_X10_settle.1 ∈ lw_tbl := (List.mem_of_getElem? (i := 25) (by decide +kernel))
theorem wc_X10_within : Cond.code M_X10_within.1 M_X10_within.2.1 M_X10_within.2.2.1 M_X10_within.2.2.2 ∈ lw_tbl := (gb_t2 _ (List.mem_of_getElem? (i := 148) rfl))
theorem wt_X10_within : Cond.static M_X10_within.1 ∈ lw_tbl := (gb_t2 _ (List.mem_of_getElem? (i := 147) rfl))
theorem wc_X10_nearest : Cond.code M_X10_nearest.1 M_X10_nearest.2.1 M_X10_nearest.2.2.1 M_X10_nearest.2.2.2 ∈ lw_tbl := (gb_t2 _ (List.mem_of_getElem? (i := 225) rfl))
theorem wt_X10_nearest : Cond.static M_X10_nearest.1 ∈ lw_tbl := (gb_t2 _ (List.mem_of_getElem? (i := 224) rfl))
theorem wc_X10_canBeGood : Cond.code M_X10_canBeGood.1 M_X10_canBeGood.2.1 M_X10_canBeGood.2.2.1 M_X10_canBeGood.2.2.2 ∈ lw_tbl := (gb_t2 _ (List.mem_of_getElem? (i := 145) rfl))
theorem wt_X10_canBeGood : Cond.static M_X10_canBeGood.1 ∈ lw_tbl := (gb_t2 _ (List.mem_of_getElem? (i := 144) rfl))
theorem wc_X11_init : Cond.code M_X11_init.1 M_X11_init.2.1 M_X11_init.2.2.1 M_X11_init.2.2.2 ∈ lw_tbl := (gb_t5 _ (List.mem_of_getElem? (i := 185) rfl))
theorem wi_X11_init : Cond.instanceMethod M_X11_init.1 ∈ lw_tbl := (gb_t5 _ (List.mem_of_getElem? (i := 184) rfl))
theorem wc_X11_in : Cond.code M_X11_in.1 M_X11_in.2.1 M_X11_in.2.2.1 M_X11_in.2.2.2 ∈ lw_tbl := (gb_t6 _ (List.mem_of_getElem? (i := 156) rfl))
theorem wt_X11_in : Cond.static M_X11_in.1 ∈ lw_tbl := (gb_t6 _ (List.mem_of_getElem? (i := 155) rfl))
theorem wc_X11_is : Cond.code M_X11_is.1 M_X11_is.2.1 M_X11_is.2.2.1 M_X11_is.2.2.2 ∈ lw_tbl := (gb_t8 _ (List.mem_of_getElem? (i := 41) rfl))
theorem wt_X11_is : Cond.static M_X11_is.1 ∈ lw_tbl := (gb_t8 _ (List.mem_of_getElem? (i := 40) rfl))
theorem wc_X11_within : Cond.code M_X11_within.1 M_X11_within.2.1 M_X11_within.2.2.1 M_X11_within.2.2.2 ∈ lw_tbl := (gb_t6 _ (List.mem_of_getElem? (i := 215) rfl))
theorem wt_X11_within : Cond.static M_X11_within.1 ∈ lw_tbl := (gb_t6 _ (List.mem_of_getElem? (i := 214) rfl))
theorem wc_X11_tell : Cond.code M_X11_tell.1 M_X11_tell.2.1 M_X11_tell.2.2.1 M_X11_tell.2.2.2 ∈ lw_tbl := (gb_t6 _ (List.mem_of_getElem? (i := 145) rfl))
theorem wi_X11_tell : Cond.instanceMethod M_X11_tell.1 ∈ lw_tbl := (gb_t6 _ (List.mem_of_getElem? (i := 144) rfl))
theorem ws_X11_tell : Cond.selects M_X11_tell.1.cls M_X11_tell.1 M_X11_tell.1 ∈ lw_tbl := (List.mem_of_getElem? (i := 33) (by decide +kernel))
theorem wc_X11_change : Cond.code M_X11_change.1 M_X11_change.2.1 M_X11_change.2.2.1 M_X11_change.2.2.2 ∈ lw_tbl := (gb_t7 _ (List.mem_of_getElem? (i := 7) rfl))
theorem wi_X11_change : Cond.instanceMethod M_X11_change.1 ∈ lw_tbl := (gb_t7 _ (List.mem_of_getElem? (i := 6) rfl))
theorem ws_X11_change : Cond.selects M_X11_change.1.cls M_X11_change.1 M_X11_change.1 ∈ lw_tbl := (List.mem_of_getElem? (i := 47) (by decide +kernel))
theorem wc_X11_settled : Cond.code M_X11_settled.1 M_X11_settled.2.1 M_X11_settled.2.2.1 M_X11_settled.2.2.2 ∈ lw_tbl := (gb_t6 _ (List.mem_of_getElem? (i := 164) rfl))
theorem wi_X11_settled : Cond.instanceMethod M_X11_settled.1 ∈ lw_tbl := (gb_t6 _ (List.mem_of_getElem? (i := 163) rfl))
theorem ws_X11_settled : Cond.selects M_X11_settled.1.cls M_X11_settled.1 M_X11_settled.1 ∈ lw_tbl := (List.mem_of_getElem? (i := 35) (by decide +kernel))
theorem wc_X11_keepAll : Cond.code M_X11_keepAll.1 M_X11_keepAll.2.1 M_X11_keepAll.2.2.1 M_X11_keepAll.2.2.2 ∈ lw_tbl := (gb_t7 _ (List.mem_of_getElem? (i := 179) rfl))
theorem wi_X11_keepAll : Cond.instanceMethod M_X11_keepAll.1 ∈ lw_tbl := (gb_t7 _ (List.mem_of_getElem? (i := 178) rfl))
theorem ws_X11_keepAll : Cond.selects M_X11_keepAll.1.cls M_X11_keepAll.1 M_X11_keepAll.1 ∈ lw_tbl := (List.mem_of_getElem? (i := 75) (by decide +kernel))
theorem wc_X11_putBack : Cond.code M_X11_putBack.1 M_X11_putBack.2.1 M_X11_putBack.2.2.1 M_X11_putBack.2.2.2 ∈ lw_tbl := (gb_t6 _ (List.mem_of_getElem? (i := 149) rfl))
theorem wi_X11_putBack : Cond.instanceMethod M_X11_putBack.1 ∈ lw_tbl := (gb_t6 _ (List.mem_of_getElem? (i := 148) rfl))
theorem ws_X11_putBack : Cond.selects M_X11_putBack.1.cls M_X11_putBack.1 M_X11_putBack.1 ∈ lw_tbl := (List.mem_of_getElem? (i := 34) (by decide +kernel))
theorem wc_X11_remember : Cond.code M_X11_remember.1 M_X11_remember.2.1 M_X11_remember.2.2.1 M_X11_remember.2.2.2 ∈ lw_tbl := (gb_t7 _ (List.mem_of_getElem? (i := 175) rfl))
theorem wi_X11_remember : Cond.instanceMethod M_X11_remember.1 ∈ lw_tbl := (gb_t7 _ (List.mem_of_getElem? (i := 174) rfl))
theorem ws_X11_remember : Cond.selects M_X11_remember.1.cls M_X11_remember.1 M_X11_remember.1 ∈ lw_tbl := (List.mem_of_getElem? (i := 74) (by decide +kernel))
theorem wc_X11_undo : Cond.code M_X11_undo.1 M_X11_undo.2.1 M_X11_undo.2.2.1 M_X11_undo.2.2.2 ∈ lw_tbl := (gb_t6 _ (List.mem_of_getElem? (i := 141) rfl))
theorem wi_X11_undo : Cond.instanceMethod M_X11_undo.1 ∈ lw_tbl := (gb_t6 _ (List.mem_of_getElem? (i := 139) rfl))
theorem ws_X11_undo : Cond.selects M_X11_undo.1.cls M_X11_undo.1 M_X11_undo.1 ∈ lw_tbl := (gb_t6 _ (List.mem_of_getElem? (i := 140) rfl))
theorem wc_X11_image : Cond.code M_X11_image.1 M_X11_image.2.1 M_X11_image.2.2.1 M_X11_image.2.2.2 ∈ lw_tbl := (gb_t6 _ (List.mem_of_getElem? (i := 153) rfl))
theorem wi_X11_image : Cond.instanceMethod M_X11_image.1 ∈ lw_tbl := (gb_t6 _ (List.mem_of_getElem? (i := 151) rfl))
theorem ws_X11_image : Cond.selects M_X11_image.1.cls M_X11_image.1 M_X11_image.1 ∈ lw_tbl := (gb_t6 _ (List.mem_of_getElem? (i := 152) rfl))
theorem wc_X11_back : Cond.code M_X11_back.1 M_X11_back.2.1 M_X11_back.2.2.1 M_X11_back.2.2.2 ∈ lw_tbl := (gb_t6 _ (List.mem_of_getElem? (i := 160) rfl))
theorem wi_X11_back : Cond.instanceMethod M_X11_back.1 ∈ lw_tbl := (gb_t6 _ (List.mem_of_getElem? (i := 158) rfl))
theorem ws_X11_back : Cond.selects M_X11_back.1.cls M_X11_back.1 M_X11_back.1 ∈ lw_tbl := (gb_t6 _ (List.mem_of_getElem? (i := 159) rfl))
theorem wc_X11_isGood : Cond.code M_X11_isGood.1 M_X11_isGood.2.1 M_X11_isGood.2.2.1 M_X11_isGood.2.2.2 ∈ lw_tbl := (gb_t6 _ (List.mem_of_getElem? (i := 184) rfl))
theorem wi_X11_isGood : Cond.instanceMethod M_X11_isGood.1 ∈ lw_tbl := (gb_t6 _ (List.mem_of_getElem? (i := 183) rfl))
theorem ws_X11_isGood : Cond.selects M_X11_isGood.1.cls M_X11_isGood.1 M_X11_isGood.1 ∈ lw_tbl := (List.mem_of_getElem? (i := 37) (by decide +kernel))
theorem wc_X11_isPerson : Cond.code M_X11_isPerson.1 M_X11_isPerson.2.1 M_X11_isPerson.2.2.1 M_X11_isPerson.2.2.2 ∈ lw_tbl := (gb_t7 _ (List.mem_of_getElem? (i := 3) rfl))
theorem wi_X11_isPerson : Cond.instanceMethod M_X11_isPerson.1 ∈ lw_tbl := (gb_t7 _ (List.mem_of_getElem? (i := 2) rfl))
theorem ws_X11_isPerson : Cond.selects M_X11_isPerson.1.cls M_X11_isPerson.1 M_X11_isPerson.1 ∈ lw_tbl := (List.mem_of_getElem? (i := 46) (by decide +kernel))
theorem wc_X11_stepsOf : Cond.code M_X11_stepsOf.1 M_X11_stepsOf.2.1 M_X11_stepsOf.2.2.1 M_X11_stepsOf.2.2.2 ∈ lw_tbl := (gb_t8 _ (List.mem_of_getElem? (i := 48) rfl))
theorem wt_X11_stepsOf : Cond.static M_X11_stepsOf.1 ∈ lw_tbl := (gb_t8 _ (List.mem_of_getElem? (i := 47) rfl))
theorem wc_X11_lackingOnes : Cond.code M_X11_lackingOnes.1 M_X11_lackingOnes.2.1 M_X11_lackingOnes.2.2.1 M_X11_lackingOnes.2.2.2 ∈ lw_tbl := (gb_t7 _ (List.mem_of_getElem? (i := 183) rfl))
theorem wi_X11_lackingOnes : Cond.instanceMethod M_X11_lackingOnes.1 ∈ lw_tbl := (gb_t7 _ (List.mem_of_getElem? (i := 182) rfl))
theorem ws_X11_lackingOnes : Cond.selects M_X11_lackingOnes.1.cls M_X11_lackingOnes.1 M_X11_lackingOnes.1 ∈ lw_tbl := (List.mem_of_getElem? (i := 76) (by decide +kernel))
theorem wc_X11_come : Cond.code M_X11_come.1 M_X11_come.2.1 M_X11_come.2.2.1 M_X11_come.2.2.2 ∈ lw_tbl := (gb_t6 _ (List.mem_of_getElem? (i := 172) rfl))
theorem wi_X11_come : Cond.instanceMethod M_X11_come.1 ∈ lw_tbl := (gb_t6 _ (List.mem_of_getElem? (i := 171) rfl))
theorem ws_X11_come : Cond.selects M_X11_come.1.cls M_X11_come.1 M_X11_come.1 ∈ lw_tbl := (List.mem_of_getElem? (i := 36) (by decide +kernel))
theorem wc_X11_good : Cond.code M_X11_good.1 M_X11_good.2.1 M_X11_good.2.2.1 M_X11_good.2.2.2 ∈ lw_tbl := (gb_t6 _ (List.mem_of_getElem? (i := 168) rfl))
theorem wi_X11_good : Cond.instanceMethod M_X11_good.1 ∈ lw_tbl := (gb_t6 _ (List.mem_of_getElem? (i := 166) rfl))
theorem ws_X11_good : Cond.selects M_X11_good.1.cls M_X11_good.1 M_X11_good.1 ∈ lw_tbl := (gb_t6 _ (List.mem_of_getElem? (i := 167) rfl))
theorem wc_X11_of : Cond.code M_X11_of.1 M_X11_of.2.1 M_X11_of.2.2.1 M_X11_of.2.2.2 ∈ lw_tbl := (gb_t6 _ (List.mem_of_getElem? (i := 180) rfl))
theorem wi_X11_of : Cond.instanceMethod M_X11_of.1 ∈ lw_tbl := (gb_t6 _ (List.mem_of_getElem? (i := 178) rfl))
theorem ws_X11_of : Cond.selects M_X11_of.1.cls M_X11_of.1 M_X11_of.1 ∈ lw_tbl := (gb_t6 _ (List.mem_of_getElem? (i := 179) rfl))
theorem wc_X11_asks : Cond.code M_X11_asks.1 M_X11_asks.2.1 M_X11_asks.2.2.1 M_X11_asks.2.2.2 ∈ lw_tbl := (gb_t6 _ (List.mem_of_getElem? (i := 188) rfl))
theorem wi_X11_asks : Cond.instanceMethod M_X11_asks.1 ∈ lw_tbl := (gb_t6 _ (List.mem_of_getElem? (i := 186) rfl))
theorem ws_X11_asks : Cond.selects M_X11_asks.1.cls M_X11_asks.1 M_X11_asks.1 ∈ lw_tbl := (gb_t6 _ (List.mem_of_getElem? (i := 187) rfl))
theorem wc_X11_stand : Cond.code M_X11_stand.1 M_X11_stand.2.1 M_X11_stand.2.2.1 M_X11_stand.2.2.2 ∈ lw_tbl := (gb_t6 _ (List.mem_of_getElem? (i := 231) rfl))
theorem wi_X11_stand : Cond.instanceMethod M_X11_stand.1 ∈ lw_tbl := (gb_t6 _ (List.mem_of_getElem? (i := 229) rfl))
theorem ws_X11_stand : Cond.selects M_X11_stand.1.cls M_X11_stand.1 M_X11_stand.1 ∈ lw_tbl := (gb_t6 _ (List.mem_of_getElem? (i := 230) rfl))
theorem wc_X11_person : Cond.code M_X11_person.1 M_X11_person.2.1 M_X11_person.2.2.1 M_X11_person.2.2.2 ∈ lw_tbl := (gb_t6 _ (List.mem_of_getElem? (i := 235) rfl))
theorem wi_X11_person : Cond.instanceMethod M_X11_person.1 ∈ lw_tbl := (gb_t6 _ (List.mem_of_getElem? (i := 233) rfl))
theorem ws_X11_person : Cond.selects M_X11_person.1.cls M_X11_person.1 M_X11_person.1 ∈ lw_tbl := (gb_t6 _ (List.mem_of_getElem? (i := 234) rfl))
theorem wc_X11_own : Cond.code M_X11_own.1 M_X11_own.2.1 M_X11_own.2.2.1 M_X11_own.2.2.2 ∈ lw_tbl := (gb_t6 _ (List.mem_of_getElem? (i := 239) rfl))
theorem wi_X11_own : Cond.instanceMethod M_X11_own.1 ∈ lw_tbl := (gb_t6 _ (List.mem_of_getElem? (i := 237) rfl))
theorem ws_X11_own : Cond.selects M_X11_own.1.cls M_X11_own.1 M_X11_own.1 ∈ lw_tbl := (gb_t6 _ (List.mem_of_getElem? (i := 238) rfl))
theorem wc_X11_terms : Cond.code M_X11_terms.1 M_X11_terms.2.1 M_X11_terms.2.2.1 M_X11_terms.2.2.2 ∈ lw_tbl := (gb_t7 _ (List.mem_of_getElem? (i := 11) rfl))
theorem wi_X11_terms : Cond.instanceMethod M_X11_terms.1 ∈ lw_tbl := (gb_t7 _ (List.mem_of_getElem? (i := 9) rfl))
theorem ws_X11_terms : Cond.selects M_X11_terms.1.cls M_X11_terms.1 M_X11_terms.1 ∈ lw_tbl := (gb_t7 _ (List.mem_of_getElem? (i := 10) rfl))
theorem wc_X11_row : Cond.code M_X11_row.1 M_X11_row.2.1 M_X11_row.2.2.1 M_X11_row.2.2.2 ∈ lw_tbl := (gb_t7 _ (List.mem_of_getElem? (i := 17) rfl))
theorem wi_X11_row : Cond.instanceMethod M_X11_row.1 ∈ lw_tbl := (gb_t7 _ (List.mem_of_getElem? (i := 15) rfl))
theorem ws_X11_row : Cond.selects M_X11_row.1.cls M_X11_row.1 M_X11_row.1 ∈ lw_tbl := (gb_t7 _ (List.mem_of_getElem? (i := 16) rfl))
theorem wc_X11_commas : Cond.code M_X11_commas.1 M_X11_commas.2.1 M_X11_commas.2.2.1 M_X11_commas.2.2.2 ∈ lw_tbl := (gb_t7 _ (List.mem_of_getElem? (i := 21) rfl))
theorem wi_X11_commas : Cond.instanceMethod M_X11_commas.1 ∈ lw_tbl := (gb_t7 _ (List.mem_of_getElem? (i := 19) rfl))
theorem ws_X11_commas : Cond.selects M_X11_commas.1.cls M_X11_commas.1 M_X11_commas.1 ∈ lw_tbl := (gb_t7 _ (List.mem_of_getElem? (i := 20) rfl))
theorem wc_X11_four : Cond.code M_X11_four.1 M_X11_four.2.1 M_X11_four.2.2.1 M_X11_four.2.2.2 ∈ lw_tbl := (gb_t7 _ (List.mem_of_getElem? (i := 29) rfl))
theorem wi_X11_four : Cond.instanceMethod M_X11_four.1 ∈ lw_tbl := (gb_t7 _ (List.mem_of_getElem? (i := 28) rfl))
theorem ws_X11_four : Cond.selects M_X11_four.1.cls M_X11_four.1 M_X11_four.1 ∈ lw_tbl := (List.mem_of_getElem? (i := 48) (by decide +kernel))
theorem wc_X11_feed : Cond.code M_X11_feed.1 M_X11_feed.2.1 M_X11_feed.2.2.1 M_X11_feed.2.2.2 ∈ lw_tbl := (gb_t7 _ (List.mem_of_getElem? (i := 25) rfl))
theorem wi_X11_feed : Cond.instanceMethod M_X11_feed.1 ∈ lw_tbl := (gb_t7 _ (List.mem_of_getElem? (i := 23) rfl))
theorem ws_X11_feed : Cond.selects M_X11_feed.1.cls M_X11_feed.1 M_X11_feed.1 ∈ lw_tbl := (gb_t7 _ (List.mem_of_getElem? (i := 24) rfl))
theorem wc_X11_end : Cond.code M_X11_end.1 M_X11_end.2.1 M_X11_end.2.2.1 M_X11_end.2.2.2 ∈ lw_tbl := (gb_t7 _ (List.mem_of_getElem? (i := 33) rfl))
theorem wi_X11_end : Cond.instanceMethod M_X11_end.1 ∈ lw_tbl := (gb_t7 _ (List.mem_of_getElem? (i := 31) rfl))
theorem ws_X11_end : Cond.selects M_X11_end.1.cls M_X11_end.1 M_X11_end.1 ∈ lw_tbl := (gb_t7 _ (List.mem_of_getElem? (i := 32) rfl))
theorem wc_X11_isSmall : Cond.code M_X11_isSmall.1 M_X11_isSmall.2.1 M_X11_isSmall.2.2.1 M_X11_isSmall.2.2.2 ∈ lw_tbl := (gb_t7 _ (List.mem_of_getElem? (i := 56) rfl))
theorem wt_X11_isSmall : Cond.static M_X11_isSmall.1 ∈ lw_tbl := (gb_t7 _ (List.mem_of_getElem? (i := 55) rfl))
theorem wc_X11_isDigit : Cond.code M_X11_isDigit.1 M_X11_isDigit.2.1 M_X11_isDigit.2.2.1 M_X11_isDigit.2.2.2 ∈ lw_tbl := (gb_t7 _ (List.mem_of_getElem? (i := 59) rfl))
theorem wt_X11_isDigit : Cond.static M_X11_isDigit.1 ∈ lw_tbl := (gb_t7 _ (List.mem_of_getElem? (i := 58) rfl))
theorem wc_X11_begin : Cond.code M_X11_begin.1 M_X11_begin.2.1 M_X11_begin.2.2.1 M_X11_begin.2.2.2 ∈ lw_tbl := (gb_t7 _ (List.mem_of_getElem? (i := 49) rfl))
theorem wi_X11_begin : Cond.instanceMethod M_X11_begin.1 ∈ lw_tbl := (gb_t7 _ (List.mem_of_getElem? (i := 48) rfl))
theorem ws_X11_begin : Cond.selects M_X11_begin.1.cls M_X11_begin.1 M_X11_begin.1 ∈ lw_tbl := (List.mem_of_getElem? (i := 50) (by decide +kernel))
theorem wc_X11_next : Cond.code M_X11_next.1 M_X11_next.2.1 M_X11_next.2.2.1 M_X11_next.2.2.2 ∈ lw_tbl := (gb_t7 _ (List.mem_of_getElem? (i := 53) rfl))
theorem wi_X11_next : Cond.instanceMethod M_X11_next.1 ∈ lw_tbl := (gb_t7 _ (List.mem_of_getElem? (i := 52) rfl))
theorem ws_X11_next : Cond.selects M_X11_next.1.cls M_X11_next.1 M_X11_next.1 ∈ lw_tbl := (List.mem_of_getElem? (i := 51) (by decide +kernel))
theorem wc_X11_isWord : Cond.code M_X11_isWord.1 M_X11_isWord.2.1 M_X11_isWord.2.2.1 M_X11_isWord.2.2.2 ∈ lw_tbl := (gb_t7 _ (List.mem_of_getElem? (i := 71) rfl))
theorem wi_X11_isWord : Cond.instanceMethod M_X11_isWord.1 ∈ lw_tbl := (gb_t7 _ (List.mem_of_getElem? (i := 70) rfl))
theorem ws_X11_isWord : Cond.selects M_X11_isWord.1.cls M_X11_isWord.1 M_X11_isWord.1 ∈ lw_tbl := (List.mem_of_getElem? (i := 53) (by decide +kernel))
theorem wc_X11_isSign : Cond.code M_X11_isSign.1 M_X11_isSign.2.1 M_X11_isSign.2.2.1 M_X11_isSign.2.2.2 ∈ lw_tbl := (gb_t7 _ (List.mem_of_getElem? (i := 92) rfl))
theorem wi_X11_isSign : Cond.instanceMethod M_X11_isSign.1 ∈ lw_tbl := (gb_t7 _ (List.mem_of_getElem? (i := 91) rfl))
theorem ws_X11_isSign : Cond.selects M_X11_isSign.1.cls M_X11_isSign.1 M_X11_isSign.1 ∈ lw_tbl := (List.mem_of_getElem? (i := 58) (by decide +kernel))
theorem wc_X11_must : Cond.code M_X11_must.1 M_X11_must.2.1 M_X11_must.2.2.1 M_X11_must.2.2.2 ∈ lw_tbl := (gb_t7 _ (List.mem_of_getElem? (i := 75) rfl))
theorem wi_X11_must : Cond.instanceMethod M_X11_must.1 ∈ lw_tbl := (gb_t7 _ (List.mem_of_getElem? (i := 74) rfl))
theorem ws_X11_must : Cond.selects M_X11_must.1.cls M_X11_must.1 M_X11_must.1 ∈ lw_tbl := (List.mem_of_getElem? (i := 54) (by decide +kernel))
theorem wc_X11_number : Cond.code M_X11_number.1 M_X11_number.2.1 M_X11_number.2.2.1 M_X11_number.2.2.2 ∈ lw_tbl := (gb_t7 _ (List.mem_of_getElem? (i := 122) rfl))
theorem wi_X11_number : Cond.instanceMethod M_X11_number.1 ∈ lw_tbl := (gb_t7 _ (List.mem_of_getElem? (i := 121) rfl))
theorem ws_X11_number : Cond.selects M_X11_number.1.cls M_X11_number.1 M_X11_number.1 ∈ lw_tbl := (List.mem_of_getElem? (i := 65) (by decide +kernel))
theorem wc_X11_fault : Cond.code M_X11_fault.1 M_X11_fault.2.1 M_X11_fault.2.2.1 M_X11_fault.2.2.2 ∈ lw_tbl := (gb_t7 _ (List.mem_of_getElem? (i := 37) rfl))
theorem wi_X11_fault : Cond.instanceMethod M_X11_fault.1 ∈ lw_tbl := (gb_t7 _ (List.mem_of_getElem? (i := 35) rfl))
theorem ws_X11_fault : Cond.selects M_X11_fault.1.cls M_X11_fault.1 M_X11_fault.1 ∈ lw_tbl := (gb_t7 _ (List.mem_of_getElem? (i := 36) rfl))
theorem wc_X11_emit : Cond.code M_X11_emit.1 M_X11_emit.2.1 M_X11_emit.2.2.1 M_X11_emit.2.2.2 ∈ lw_tbl := (gb_t7 _ (List.mem_of_getElem? (i := 117) rfl))
theorem wi_X11_emit : Cond.instanceMethod M_X11_emit.1 ∈ lw_tbl := (gb_t7 _ (List.mem_of_getElem? (i := 116) rfl))
theorem ws_X11_emit : Cond.selects M_X11_emit.1.cls M_X11_emit.1 M_X11_emit.1 ∈ lw_tbl := (List.mem_of_getElem? (i := 64) (by decide +kernel))
theorem wc_X11_push : Cond.code M_X11_push.1 M_X11_push.2.1 M_X11_push.2.2.1 M_X11_push.2.2.2 ∈ lw_tbl := (gb_t7 _ (List.mem_of_getElem? (i := 88) rfl))
theorem wi_X11_push : Cond.instanceMethod M_X11_push.1 ∈ lw_tbl := (gb_t7 _ (List.mem_of_getElem? (i := 87) rfl))
theorem ws_X11_push : Cond.selects M_X11_push.1.cls M_X11_push.1 M_X11_push.1 ∈ lw_tbl := (List.mem_of_getElem? (i := 57) (by decide +kernel))
theorem wc_X11_binds : Cond.code M_X11_binds.1 M_X11_binds.2.1 M_X11_binds.2.2.1 M_X11_binds.2.2.2 ∈ lw_tbl := (gb_t7 _ (List.mem_of_getElem? (i := 129) rfl))
theorem wt_X11_binds : Cond.static M_X11_binds.1 ∈ lw_tbl := (gb_t7 _ (List.mem_of_getElem? (i := 128) rfl))
theorem wc_X11_settle : Cond.code M_X11_settle.1 M_X11_settle.2.1 M_X11_settle.2.2.1 M_X11_settle.2.2.2 ∈ lw_tbl := (gb_t7 _ (List.mem_of_getElem? (i := 133) rfl))
theorem wi_X11_settle : Cond.instanceMethod M_X11_settle.1 ∈ lw_tbl := (gb_t7 _ (List.mem_of_getElem? (i := 132) rfl))
theorem ws_X11_settle : Cond.selects M_X11_settle.1.cls M_X11_settle.1 M_X11_settle.1 ∈ lw_tbl := (List.mem_of_getElem? (i := 67) (by decide +kernel))
theorem wc_X11_inner : Cond.code M_X11_inner.1 M_X11_inner.2.1 M_X11_inner.2.2.1 M_X11_inner.2.2.2 ∈ lw_tbl := (gb_t7 _ (List.mem_of_getElem? (i := 137) rfl))
theorem wi_X11_inner : Cond.instanceMethod M_X11_inner.1 ∈ lw_tbl := (gb_t7 _ (List.mem_of_getElem? (i := 136) rfl))
theorem ws_X11_inner : Cond.selects M_X11_inner.1.cls M_X11_inner.1 M_X11_inner.1 ∈ lw_tbl := (List.mem_of_getElem? (i := 68) (by decide +kernel))
theorem wc_X11_isCompared : Cond.code M_X11_isCompared.1 M_X11_isCompared.2.1 M_X11_isCompared.2.2.1 M_X11_isCompared.2.2.2 ∈ lw_tbl := (gb_t7 _ (List.mem_of_getElem? (i := 141) rfl))
theorem wi_X11_isCompared : Cond.instanceMethod M_X11_isCompared.1 ∈ lw_tbl := (gb_t7 _ (List.mem_of_getElem? (i := 140) rfl))
theorem ws_X11_isCompared : Cond.selects M_X11_isCompared.1.cls M_X11_isCompared.1 M_X11_isCompared.1 ∈ lw_tbl := (List.mem_of_getElem? (i := 69) (by decide +kernel))
theorem wc_X11_partAt : Cond.code M_X11_partAt.1 M_X11_partAt.2.1 M_X11_partAt.2.2.1 M_X11_partAt.2.2.2 ∈ lw_tbl := (gb_t7 _ (List.mem_of_getElem? (i := 108) rfl))
theorem wi_X11_partAt : Cond.instanceMethod M_X11_partAt.1 ∈ lw_tbl := (gb_t7 _ (List.mem_of_getElem? (i := 107) rfl))
theorem ws_X11_partAt : Cond.selects M_X11_partAt.1.cls M_X11_partAt.1 M_X11_partAt.1 ∈ lw_tbl := (List.mem_of_getElem? (i := 62) (by decide +kernel))
theorem wc_X11_orderPartAt : Cond.code M_X11_orderPartAt.1 M_X11_orderPartAt.2.1 M_X11_orderPartAt.2.2.1 M_X11_orderPartAt.2.2.2 ∈ lw_tbl := (gb_t7 _ (List.mem_of_getElem? (i := 104) rfl))
theorem wi_X11_orderPartAt : Cond.instanceMethod M_X11_orderPartAt.1 ∈ lw_tbl := (gb_t7 _ (List.mem_of_getElem? (i := 103) rfl))
theorem ws_X11_orderPartAt : Cond.selects M_X11_orderPartAt.1.cls M_X11_orderPartAt.1 M_X11_orderPartAt.1 ∈ lw_tbl := (List.mem_of_getElem? (i := 61) (by decide +kernel))
theorem wc_X11_openBracket : Cond.code M_X11_openBracket.1 M_X11_openBracket.2.1 M_X11_openBracket.2.2.1 M_X11_openBracket.2.2.2 ∈ lw_tbl := (gb_t7 _ (List.mem_of_getElem? (i := 96) rfl))
theorem wi_X11_openBracket : Cond.instanceMethod M_X11_openBracket.1 ∈ lw_tbl := (gb_t7 _ (List.mem_of_getElem? (i := 95) rfl))
theorem ws_X11_openBracket : Cond.selects M_X11_openBracket.1.cls M_X11_openBracket.1 M_X11_openBracket.1 ∈ lw_tbl := (List.mem_of_getElem? (i := 59) (by decide +kernel))
theorem wc_X11_leaf : Cond.code M_X11_leaf.1 M_X11_leaf.2.1 M_X11_leaf.2.2.1 M_X11_leaf.2.2.2 ∈ lw_tbl := (gb_t7 _ (List.mem_of_getElem? (i := 113) rfl))
theorem wi_X11_leaf : Cond.instanceMethod M_X11_leaf.1 ∈ lw_tbl := (gb_t7 _ (List.mem_of_getElem? (i := 112) rfl))
theorem ws_X11_leaf : Cond.selects M_X11_leaf.1.cls M_X11_leaf.1 M_X11_leaf.1 ∈ lw_tbl := (List.mem_of_getElem? (i := 63) (by decide +kernel))
theorem wc_X11_readPart : Cond.code M_X11_readPart.1 M_X11_readPart.2.1 M_X11_readPart.2.2.1 M_X11_readPart.2.2.2 ∈ lw_tbl := (gb_t7 _ (List.mem_of_getElem? (i := 100) rfl))
theorem wi_X11_readPart : Cond.instanceMethod M_X11_readPart.1 ∈ lw_tbl := (gb_t7 _ (List.mem_of_getElem? (i := 99) rfl))
theorem ws_X11_readPart : Cond.selects M_X11_readPart.1.cls M_X11_readPart.1 M_X11_readPart.1 ∈ lw_tbl := (List.mem_of_getElem? (i := 60) (by decide +kernel))
theorem wc_X11_readPlain : Cond.code M_X11_readPlain.1 M_X11_readPlain.2.1 M_X11_readPlain.2.2.1 M_X11_readPlain.2.2.2 ∈ lw_tbl := (gb_t7 _ (List.mem_of_getElem? (i := 83) rfl))
theorem wi_X11_readPlain : Cond.instanceMethod M_X11_readPlain.1 ∈ lw_tbl := (gb_t7 _ (List.mem_of_getElem? (i := 82) rfl))
theorem ws_X11_readPlain : Cond.selects M_X11_readPlain.1.cls M_X11_readPlain.1 M_X11_readPlain.1 ∈ lw_tbl := (List.mem_of_getElem? (i := 56) (by decide +kernel))
theorem wc_X11_behindSum : Cond.code M_X11_behindSum.1 M_X11_behindSum.2.1 M_X11_behindSum.2.2.1 M_X11_behindSum.2.2.2 ∈ lw_tbl := (gb_t7 _ (List.mem_of_getElem? (i := 126) rfl))
theorem wi_X11_behindSum : Cond.instanceMethod M_X11_behindSum.1 ∈ lw_tbl := (gb_t7 _ (List.mem_of_getElem? (i := 125) rfl))
theorem ws_X11_behindSum : Cond.selects M_X11_behindSum.1.cls M_X11_behindSum.1 M_X11_behindSum.1 ∈ lw_tbl := (List.mem_of_getElem? (i := 66) (by decide +kernel))
theorem wc_X11_behindTest : Cond.code M_X11_behindTest.1 M_X11_behindTest.2.1 M_X11_behindTest.2.2.1 M_X11_behindTest.2.2.2 ∈ lw_tbl := (gb_t7 _ (List.mem_of_getElem? (i := 148) rfl))
theorem wi_X11_behindTest : Cond.instanceMethod M_X11_behindTest.1 ∈ lw_tbl := (gb_t7 _ (List.mem_of_getElem? (i := 147) rfl))
theorem ws_X11_behindTest : Cond.selects M_X11_behindTest.1.cls M_X11_behindTest.1 M_X11_behindTest.1 ∈ lw_tbl := (List.mem_of_getElem? (i := 70) (by decide +kernel))
theorem wc_X11_readExpression : Cond.code M_X11_readExpression.1 M_X11_readExpression.2.1 M_X11_readExpression.2.2.1 M_X11_readExpression.2.2.2 ∈ lw_tbl := (gb_t7 _ (List.mem_of_getElem? (i := 79) rfl))
theorem wi_X11_readExpression : Cond.instanceMethod M_X11_readExpression.1 ∈ lw_tbl := (gb_t7 _ (List.mem_of_getElem? (i := 78) rfl))
theorem ws_X11_readExpression : Cond.selects M_X11_readExpression.1.cls M_X11_readExpression.1 M_X11_readExpression.1 ∈ lw_tbl := (List.mem_of_getElem? (i := 55) (by decide +kernel))
theorem wc_X11_beginText : Cond.code M_X11_beginText.1 M_X11_beginText.2.1 M_X11_beginText.2.2.1 M_X11_beginText.2.2.2 ∈ lw_tbl := (gb_t7 _ (List.mem_of_getElem? (i := 45) rfl))
theorem wi_X11_beginText : Cond.instanceMethod M_X11_beginText.1 ∈ lw_tbl := (gb_t7 _ (List.mem_of_getElem? (i := 44) rfl))
theorem ws_X11_beginText : Cond.selects M_X11_beginText.1.cls M_X11_beginText.1 M_X11_beginText.1 ∈ lw_tbl := (List.mem_of_getElem? (i := 49) (by decide +kernel))
theorem wc_X11_endText : Cond.code M_X11_endText.1 M_X11_endText.2.1 M_X11_endText.2.2.1 M_X11_endText.2.2.2 ∈ lw_tbl := (gb_t7 _ (List.mem_of_getElem? (i := 155) rfl))
theorem wi_X11_endText : Cond.instanceMethod M_X11_endText.1 ∈ lw_tbl := (gb_t7 _ (List.mem_of_getElem? (i := 154) rfl))
theorem ws_X11_endText : Cond.selects M_X11_endText.1.cls M_X11_endText.1 M_X11_endText.1 ∈ lw_tbl := (List.mem_of_getElem? (i := 71) (by decide +kernel))
theorem wc_X11_readLaw : Cond.code M_X11_readLaw.1 M_X11_readLaw.2.1 M_X11_readLaw.2.2.1 M_X11_readLaw.2.2.2 ∈ lw_tbl := (gb_t7 _ (List.mem_of_getElem? (i := 67) rfl))
theorem wi_X11_readLaw : Cond.instanceMethod M_X11_readLaw.1 ∈ lw_tbl := (gb_t7 _ (List.mem_of_getElem? (i := 66) rfl))
theorem ws_X11_readLaw : Cond.selects M_X11_readLaw.1.cls M_X11_readLaw.1 M_X11_readLaw.1 ∈ lw_tbl := (List.mem_of_getElem? (i := 52) (by decide +kernel))
theorem wc_X11_law : Cond.code M_X11_law.1 M_X11_law.2.1 M_X11_law.2.2.1 M_X11_law.2.2.2 ∈ lw_tbl := (gb_t7 _ (List.mem_of_getElem? (i := 41) rfl))
theorem wi_X11_law : Cond.instanceMethod M_X11_law.1 ∈ lw_tbl := (gb_t7 _ (List.mem_of_getElem? (i := 39) rfl))
theorem ws_X11_law : Cond.selects M_X11_law.1.cls M_X11_law.1 M_X11_law.1 ∈ lw_tbl := (gb_t7 _ (List.mem_of_getElem? (i := 40) rfl))
theorem wc_X11_isLaw : Cond.code M_X11_isLaw.1 M_X11_isLaw.2.1 M_X11_isLaw.2.2.1 M_X11_isLaw.2.2.2 ∈ lw_tbl := (gb_t7 _ (List.mem_of_getElem? (i := 163) rfl))
theorem wi_X11_isLaw : Cond.instanceMethod M_X11_isLaw.1 ∈ lw_tbl := (gb_t7 _ (List.mem_of_getElem? (i := 162) rfl))
theorem ws_X11_isLaw : Cond.selects M_X11_isLaw.1.cls M_X11_isLaw.1 M_X11_isLaw.1 ∈ lw_tbl := (List.mem_of_getElem? (i := 72) (by decide +kernel))
theorem wc_X11_force : Cond.code M_X11_force.1 M_X11_force.2.1 M_X11_force.2.2.1 M_X11_force.2.2.2 ∈ lw_tbl := (gb_t7 _ (List.mem_of_getElem? (i := 159) rfl))
theorem wi_X11_force : Cond.instanceMethod M_X11_force.1 ∈ lw_tbl := (gb_t7 _ (List.mem_of_getElem? (i := 157) rfl))
theorem ws_X11_force : Cond.selects M_X11_force.1.cls M_X11_force.1 M_X11_force.1 ∈ lw_tbl := (gb_t7 _ (List.mem_of_getElem? (i := 158) rfl))
theorem wc_X11_reckon : Cond.code M_X11_reckon.1 M_X11_reckon.2.1 M_X11_reckon.2.2.1 M_X11_reckon.2.2.2 ∈ lw_tbl := (gb_t6 _ (List.mem_of_getElem? (i := 210) rfl))
theorem wi_X11_reckon : Cond.instanceMethod M_X11_reckon.1 ∈ lw_tbl := (gb_t6 _ (List.mem_of_getElem? (i := 209) rfl))
theorem ws_X11_reckon : Cond.selects M_X11_reckon.1.cls M_X11_reckon.1 M_X11_reckon.1 ∈ lw_tbl := (List.mem_of_getElem? (i := 42) (by decide +kernel))
theorem wc_X11_reckonAll : Cond.code M_X11_reckonAll.1 M_X11_reckonAll.2.1 M_X11_reckonAll.2.2.1 M_X11_reckonAll.2.2.2 ∈ lw_tbl := (gb_t6 _ (List.mem_of_getElem? (i := 205) rfl))
theorem wi_X11_reckonAll : Cond.instanceMethod M_X11_reckonAll.1 ∈ lw_tbl := (gb_t6 _ (List.mem_of_getElem? (i := 204) rfl))
theorem ws_X11_reckonAll : Cond.selects M_X11_reckonAll.1.cls M_X11_reckonAll.1 M_X11_reckonAll.1 ∈ lw_tbl := (List.mem_of_getElem? (i := 41) (by decide +kernel))
theorem wc_X11_isSo : Cond.code M_X11_isSo.1 M_X11_isSo.2.1 M_X11_isSo.2.2.1 M_X11_isSo.2.2.2 ∈ lw_tbl := (gb_t6 _ (List.mem_of_getElem? (i := 201) rfl))
theorem wi_X11_isSo : Cond.instanceMethod M_X11_isSo.1 ∈ lw_tbl := (gb_t6 _ (List.mem_of_getElem? (i := 200) rfl))
theorem ws_X11_isSo : Cond.selects M_X11_isSo.1.cls M_X11_isSo.1 M_X11_isSo.1 ∈ lw_tbl := (List.mem_of_getElem? (i := 40) (by decide +kernel))
theorem wc_X11_tells : Cond.code M_X11_tells.1 M_X11_tells.2.1 M_X11_tells.2.2.1 M_X11_tells.2.2.2 ∈ lw_tbl := (gb_t6 _ (List.mem_of_getElem? (i := 197) rfl))
theorem wi_X11_tells : Cond.instanceMethod M_X11_tells.1 ∈ lw_tbl := (gb_t6 _ (List.mem_of_getElem? (i := 196) rfl))
theorem ws_X11_tells : Cond.selects M_X11_tells.1.cls M_X11_tells.1 M_X11_tells.1 ∈ lw_tbl := (List.mem_of_getElem? (i := 39) (by decide +kernel))
theorem wc_X11_movesOf : Cond.code M_X11_movesOf.1 M_X11_movesOf.2.1 M_X11_movesOf.2.2.1 M_X11_movesOf.2.2.2 ∈ lw_tbl := (gb_t6 _ (List.mem_of_getElem? (i := 193) rfl))
theorem wi_X11_movesOf : Cond.instanceMethod M_X11_movesOf.1 ∈ lw_tbl := (gb_t6 _ (List.mem_of_getElem? (i := 192) rfl))
theorem ws_X11_movesOf : Cond.selects M_X11_movesOf.1.cls M_X11_movesOf.1 M_X11_movesOf.1 ∈ lw_tbl := (List.mem_of_getElem? (i := 38) (by decide +kernel))
theorem wc_X11_countsOf : Cond.code M_X11_countsOf.1 M_X11_countsOf.2.1 M_X11_countsOf.2.2.1 M_X11_countsOf.2.2.2 ∈ lw_tbl := (gb_t6 _ (List.mem_of_getElem? (i := 219) rfl))
theorem wi_X11_countsOf : Cond.instanceMethod M_X11_countsOf.1 ∈ lw_tbl := (gb_t6 _ (List.mem_of_getElem? (i := 218) rfl))
theorem ws_X11_countsOf : Cond.selects M_X11_countsOf.1.cls M_X11_countsOf.1 M_X11_countsOf.1 ∈ lw_tbl := (List.mem_of_getElem? (i := 43) (by decide +kernel))
theorem wc_X11_gladsOf : Cond.code M_X11_gladsOf.1 M_X11_gladsOf.2.1 M_X11_gladsOf.2.2.1 M_X11_gladsOf.2.2.2 ∈ lw_tbl := (gb_t6 _ (List.mem_of_getElem? (i := 223) rfl))
theorem wi_X11_gladsOf : Cond.instanceMethod M_X11_gladsOf.1 ∈ lw_tbl := (gb_t6 _ (List.mem_of_getElem? (i := 222) rfl))
theorem ws_X11_gladsOf : Cond.selects M_X11_gladsOf.1.cls M_X11_gladsOf.1 M_X11_gladsOf.1 ∈ lw_tbl := (List.mem_of_getElem? (i := 44) (by decide +kernel))
theorem wc_X11_isBarred : Cond.code M_X11_isBarred.1 M_X11_isBarred.2.1 M_X11_isBarred.2.2.1 M_X11_isBarred.2.2.2 ∈ lw_tbl := (gb_t6 _ (List.mem_of_getElem? (i := 227) rfl))
theorem wi_X11_isBarred : Cond.instanceMethod M_X11_isBarred.1 ∈ lw_tbl := (gb_t6 _ (List.mem_of_getElem? (i := 226) rfl))
theorem ws_X11_isBarred : Cond.selects M_X11_isBarred.1.cls M_X11_isBarred.1 M_X11_isBarred.1 ∈ lw_tbl := (List.mem_of_getElem? (i := 45) (by decide +kernel))
theorem wc_X11_pricedBy : Cond.code M_X11_pricedBy.1 M_X11_pricedBy.2.1 M_X11_pricedBy.2.2.1 M_X11_pricedBy.2.2.2 ∈ lw_tbl := (gb_t7 _ (List.mem_of_getElem? (i := 224) rfl))
theorem wi_X11_pricedBy : Cond.instanceMethod M_X11_pricedBy.1 ∈ lw_tbl := (gb_t7 _ (List.mem_of_getElem? (i := 223) rfl))
theorem ws_X11_pricedBy : Cond.selects M_X11_pricedBy.1.cls M_X11_pricedBy.1 M_X11_pricedBy.1 ∈ lw_tbl := (List.mem_of_getElem? (i := 82) (by decide +kernel))
theorem wc_X11_lackNow : Cond.code M_X11_lackNow.1 M_X11_lackNow.2.1 M_X11_lackNow.2.2.1 M_X11_lackNow.2.2.2 ∈ lw_tbl := (gb_t7 _ (List.mem_of_getElem? (i := 171) rfl))
theorem wi_X11_lackNow : Cond.instanceMethod M_X11_lackNow.1 ∈ lw_tbl := (gb_t7 _ (List.mem_of_getElem? (i := 170) rfl))
theorem ws_X11_lackNow : Cond.selects M_X11_lackNow.1.cls M_X11_lackNow.1 M_X11_lackNow.1 ∈ lw_tbl := (List.mem_of_getElem? (i := 73) (by decide +kernel))
theorem wc_X11_lack : Cond.code M_X11_lack.1 M_X11_lack.2.1 M_X11_lack.2.2.1 M_X11_lack.2.2.2 ∈ lw_tbl := (gb_t7 _ (List.mem_of_getElem? (i := 167) rfl))
theorem wi_X11_lack : Cond.instanceMethod M_X11_lack.1 ∈ lw_tbl := (gb_t7 _ (List.mem_of_getElem? (i := 165) rfl))
theorem ws_X11_lack : Cond.selects M_X11_lack.1.cls M_X11_lack.1 M_X11_lack.1 ∈ lw_tbl := (gb_t7 _ (List.mem_of_getElem? (i := 166) rfl))
theorem wc_X11_findNow : Cond.code M_X11_findNow.1 M_X11_findNow.2.1 M_X11_findNow.2.2.1 M_X11_findNow.2.2.2 ∈ lw_tbl := (gb_t7 _ (List.mem_of_getElem? (i := 191) rfl))
theorem wi_X11_findNow : Cond.instanceMethod M_X11_findNow.1 ∈ lw_tbl := (gb_t7 _ (List.mem_of_getElem? (i := 190) rfl))
theorem ws_X11_findNow : Cond.selects M_X11_findNow.1.cls M_X11_findNow.1 M_X11_findNow.1 ∈ lw_tbl := (List.mem_of_getElem? (i := 77) (by decide +kernel))
theorem wc_X11_find : Cond.code M_X11_find.1 M_X11_find.2.1 M_X11_find.2.2.1 M_X11_find.2.2.2 ∈ lw_tbl := (gb_t7 _ (List.mem_of_getElem? (i := 187) rfl))
theorem wi_X11_find : Cond.instanceMethod M_X11_find.1 ∈ lw_tbl := (gb_t7 _ (List.mem_of_getElem? (i := 185) rfl))
theorem ws_X11_find : Cond.selects M_X11_find.1.cls M_X11_find.1 M_X11_find.1 ∈ lw_tbl := (gb_t7 _ (List.mem_of_getElem? (i := 186) rfl))
theorem wc_X11_weighNow : Cond.code M_X11_weighNow.1 M_X11_weighNow.2.1 M_X11_weighNow.2.2.1 M_X11_weighNow.2.2.2 ∈ lw_tbl := (gb_t7 _ (List.mem_of_getElem? (i := 199) rfl))
theorem wi_X11_weighNow : Cond.instanceMethod M_X11_weighNow.1 ∈ lw_tbl := (gb_t7 _ (List.mem_of_getElem? (i := 198) rfl))
theorem ws_X11_weighNow : Cond.selects M_X11_weighNow.1.cls M_X11_weighNow.1 M_X11_weighNow.1 ∈ lw_tbl := (List.mem_of_getElem? (i := 78) (by decide +kernel))
theorem wc_X11_weigh : Cond.code M_X11_weigh.1 M_X11_weigh.2.1 M_X11_weigh.2.2.1 M_X11_weigh.2.2.2 ∈ lw_tbl := (gb_t7 _ (List.mem_of_getElem? (i := 195) rfl))
theorem wi_X11_weigh : Cond.instanceMethod M_X11_weigh.1 ∈ lw_tbl := (gb_t7 _ (List.mem_of_getElem? (i := 193) rfl))
theorem ws_X11_weigh : Cond.selects M_X11_weigh.1.cls M_X11_weigh.1 M_X11_weigh.1 ∈ lw_tbl := (gb_t7 _ (List.mem_of_getElem? (i := 194) rfl))
theorem wc_X11_passIt : Cond.code M_X11_passIt.1 M_X11_passIt.2.1 M_X11_passIt.2.2.1 M_X11_passIt.2.2.2 ∈ lw_tbl := (gb_t7 _ (List.mem_of_getElem? (i := 211) rfl))
theorem wi_X11_passIt : Cond.instanceMethod M_X11_passIt.1 ∈ lw_tbl := (gb_t7 _ (List.mem_of_getElem? (i := 210) rfl))
theorem ws_X11_passIt : Cond.selects M_X11_passIt.1.cls M_X11_passIt.1 M_X11_passIt.1 ∈ lw_tbl := (List.mem_of_getElem? (i := 80) (by decide +kernel))
theorem wc_X11_passNow : Cond.code M_X11_passNow.1 M_X11_passNow.2.1 M_X11_passNow.2.2.1 M_X11_passNow.2.2.2 ∈ lw_tbl := (gb_t7 _ (List.mem_of_getElem? (i := 207) rfl))
theorem wi_X11_passNow : Cond.instanceMethod M_X11_passNow.1 ∈ lw_tbl := (gb_t7 _ (List.mem_of_getElem? (i := 206) rfl))
theorem ws_X11_passNow : Cond.selects M_X11_passNow.1.cls M_X11_passNow.1 M_X11_passNow.1 ∈ lw_tbl := (List.mem_of_getElem? (i := 79) (by decide +kernel))
theorem wc_X11_pass : Cond.code M_X11_pass.1 M_X11_pass.2.1 M_X11_pass.2.2.1 M_X11_pass.2.2.2 ∈ lw_tbl := (gb_t7 _ (List.mem_of_getElem? (i := 203) rfl))
theorem wi_X11_pass : Cond.instanceMethod M_X11_pass.1 ∈ lw_tbl := (gb_t7 _ (List.mem_of_getElem? (i := 201) rfl))
theorem ws_X11_pass : Cond.selects M_X11_pass.1.cls M_X11_pass.1 M_X11_pass.1 ∈ lw_tbl := (gb_t7 _ (List.mem_of_getElem? (i := 202) rfl))
theorem wc_X11_common : Cond.code M_X11_common.1 M_X11_common.2.1 M_X11_common.2.2.1 M_X11_common.2.2.2 ∈ lw_tbl := (gb_t7 _ (List.mem_of_getElem? (i := 232) rfl))
theorem wt_X11_common : Cond.static M_X11_common.1 ∈ lw_tbl := (gb_t7 _ (List.mem_of_getElem? (i := 231) rfl))
theorem wc_X11_lowest : Cond.code M_X11_lowest.1 M_X11_lowest.2.1 M_X11_lowest.2.2.1 M_X11_lowest.2.2.2 ∈ lw_tbl := (gb_t7 _ (List.mem_of_getElem? (i := 229) rfl))
theorem wi_X11_lowest : Cond.instanceMethod M_X11_lowest.1 ∈ lw_tbl := (gb_t7 _ (List.mem_of_getElem? (i := 228) rfl))
theorem ws_X11_lowest : Cond.selects M_X11_lowest.1.cls M_X11_lowest.1 M_X11_lowest.1 ∈ lw_tbl := (List.mem_of_getElem? (i := 83) (by decide +kernel))
theorem wc_X11_figureBy : Cond.code M_X11_figureBy.1 M_X11_figureBy.2.1 M_X11_figureBy.2.2.1 M_X11_figureBy.2.2.2 ∈ lw_tbl := (gb_t7 _ (List.mem_of_getElem? (i := 220) rfl))
theorem wi_X11_figureBy : Cond.instanceMethod M_X11_figureBy.1 ∈ lw_tbl := (gb_t7 _ (List.mem_of_getElem? (i := 219) rfl))
theorem ws_X11_figureBy : Cond.selects M_X11_figureBy.1.cls M_X11_figureBy.1 M_X11_figureBy.1 ∈ lw_tbl := (List.mem_of_getElem? (i := 81) (by decide +kernel))
theorem wc_X11_figure : Cond.code M_X11_figure.1 M_X11_figure.2.1 M_X11_figure.2.2.1 M_X11_figure.2.2.2 ∈ lw_tbl := (gb_t7 _ (List.mem_of_getElem? (i := 215) rfl))
theorem wi_X11_figure : Cond.instanceMethod M_X11_figure.1 ∈ lw_tbl := (gb_t7 _ (List.mem_of_getElem? (i := 213) rfl))
theorem ws_X11_figure : Cond.selects M_X11_figure.1.cls M_X11_figure.1 M_X11_figure.1 ∈ lw_tbl := (gb_t7 _ (List.mem_of_getElem? (i := 214) rfl))
theorem wc_X11_turned : Cond.code M_X11_turned.1 M_X11_turned.2.1 M_X11_turned.2.2.1 M_X11_turned.2.2.2 ∈ lw_tbl := (gb_t7 _ (List.mem_of_getElem? (i := 236) rfl))
theorem wi_X11_turned : Cond.instanceMethod M_X11_turned.1 ∈ lw_tbl := (gb_t7 _ (List.mem_of_getElem? (i := 234) rfl))
theorem ws_X11_turned : Cond.selects M_X11_turned.1.cls M_X11_turned.1 M_X11_turned.1 ∈ lw_tbl := (gb_t7 _ (List.mem_of_getElem? (i := 235) rfl))
theorem wc_X11_pensionNow : Cond.code M_X11_pensionNow.1 M_X11_pensionNow.2.1 M_X11_pensionNow.2.2.1 M_X11_pensionNow.2.2.2 ∈ lw_tbl := (gb_t8 _ (List.mem_of_getElem? (i := 4) rfl))
theorem wi_X11_pensionNow : Cond.instanceMethod M_X11_pensionNow.1 ∈ lw_tbl := (gb_t8 _ (List.mem_of_getElem? (i := 3) rfl))
theorem ws_X11_pensionNow : Cond.selects M_X11_pensionNow.1.cls M_X11_pensionNow.1 M_X11_pensionNow.1 ∈ lw_tbl := (List.mem_of_getElem? (i := 84) (by decide +kernel))
theorem wc_X11_pension : Cond.code M_X11_pension.1 M_X11_pension.2.1 M_X11_pension.2.2.1 M_X11_pension.2.2.2 ∈ lw_tbl := (gb_t8 _ (List.mem_of_getElem? (i := 0) rfl))
theorem wi_X11_pension : Cond.instanceMethod M_X11_pension.1 ∈ lw_tbl := (gb_t7 _ (List.mem_of_getElem? (i := 238) rfl))
theorem ws_X11_pension : Cond.selects M_X11_pension.1.cls M_X11_pension.1 M_X11_pension.1 ∈ lw_tbl := (gb_t7 _ (List.mem_of_getElem? (i := 239) rfl))
theorem wc_X11_thousandths : Cond.code M_X11_thousandths.1 M_X11_thousandths.2.1 M_X11_thousandths.2.2.1 M_X11_thousandths.2.2.2 ∈ lw_tbl := (gb_t8 _ (List.mem_of_getElem? (i := 13) rfl))
theorem wi_X11_thousandths : Cond.instanceMethod M_X11_thousandths.1 ∈ lw_tbl := (gb_t8 _ (List.mem_of_getElem? (i := 12) rfl))
theorem ws_X11_thousandths : Cond.selects M_X11_thousandths.1.cls M_X11_thousandths.1 M_X11_thousandths.1 ∈ lw_tbl := (List.mem_of_getElem? (i := 85) (by decide +kernel))
theorem wc_X11_does : Cond.code M_X11_does.1 M_X11_does.2.1 M_X11_does.2.2.1 M_X11_does.2.2.2 ∈ lw_tbl := (gb_t8 _ (List.mem_of_getElem? (i := 9) rfl))
theorem wi_X11_does : Cond.instanceMethod M_X11_does.1 ∈ lw_tbl := (gb_t8 _ (List.mem_of_getElem? (i := 7) rfl))
theorem ws_X11_does : Cond.selects M_X11_does.1.cls M_X11_does.1 M_X11_does.1 ∈ lw_tbl := (gb_t8 _ (List.mem_of_getElem? (i := 8) rfl))
theorem wc_X11_compare : Cond.code M_X11_compare.1 M_X11_compare.2.1 M_X11_compare.2.2.1 M_X11_compare.2.2.2 ∈ lw_tbl := (gb_t8 _ (List.mem_of_getElem? (i := 17) rfl))
theorem wi_X11_compare : Cond.instanceMethod M_X11_compare.1 ∈ lw_tbl := (gb_t8 _ (List.mem_of_getElem? (i := 15) rfl))
theorem ws_X11_compare : Cond.selects M_X11_compare.1.cls M_X11_compare.1 M_X11_compare.1 ∈ lw_tbl := (gb_t8 _ (List.mem_of_getElem? (i := 16) rfl))
theorem wc_X11_leastBy : Cond.code M_X11_leastBy.1 M_X11_leastBy.2.1 M_X11_leastBy.2.2.1 M_X11_leastBy.2.2.2 ∈ lw_tbl := (gb_t8 _ (List.mem_of_getElem? (i := 30) rfl))
theorem wi_X11_leastBy : Cond.instanceMethod M_X11_leastBy.1 ∈ lw_tbl := (gb_t8 _ (List.mem_of_getElem? (i := 29) rfl))
theorem ws_X11_leastBy : Cond.selects M_X11_leastBy.1.cls M_X11_leastBy.1 M_X11_leastBy.1 ∈ lw_tbl := (List.mem_of_getElem? (i := 87) (by decide +kernel))
theorem wc_X11_mostOf : Cond.code M_X11_mostOf.1 M_X11_mostOf.2.1 M_X11_mostOf.2.2.1 M_X11_mostOf.2.2.2 ∈ lw_tbl := (gb_t8 _ (List.mem_of_getElem? (i := 26) rfl))
theorem wi_X11_mostOf : Cond.instanceMethod M_X11_mostOf.1 ∈ lw_tbl := (gb_t8 _ (List.mem_of_getElem? (i := 25) rfl))
theorem ws_X11_mostOf : Cond.selects M_X11_mostOf.1.cls M_X11_mostOf.1 M_X11_mostOf.1 ∈ lw_tbl := (List.mem_of_getElem? (i := 86) (by decide +kernel))
theorem wc_X11_glad : Cond.code M_X11_glad.1 M_X11_glad.2.1 M_X11_glad.2.2.1 M_X11_glad.2.2.2 ∈ lw_tbl := (gb_t8 _ (List.mem_of_getElem? (i := 21) rfl))
theorem wi_X11_glad : Cond.instanceMethod M_X11_glad.1 ∈ lw_tbl := (gb_t8 _ (List.mem_of_getElem? (i := 19) rfl))
theorem ws_X11_glad : Cond.selects M_X11_glad.1.cls M_X11_glad.1 M_X11_glad.1 ∈ lw_tbl := (gb_t8 _ (List.mem_of_getElem? (i := 20) rfl))
theorem wc_X11_placeOf : Cond.code M_X11_placeOf.1 M_X11_placeOf.2.1 M_X11_placeOf.2.2.1 M_X11_placeOf.2.2.2 ∈ lw_tbl := (gb_t8 _ (List.mem_of_getElem? (i := 45) rfl))
theorem wi_X11_placeOf : Cond.instanceMethod M_X11_placeOf.1 ∈ lw_tbl := (gb_t8 _ (List.mem_of_getElem? (i := 44) rfl))
theorem ws_X11_placeOf : Cond.selects M_X11_placeOf.1.cls M_X11_placeOf.1 M_X11_placeOf.1 ∈ lw_tbl := (List.mem_of_getElem? (i := 89) (by decide +kernel))
theorem wc_X11_layRounds : Cond.code M_X11_layRounds.1 M_X11_layRounds.2.1 M_X11_layRounds.2.2.1 M_X11_layRounds.2.2.2 ∈ lw_tbl := (gb_t8 _ (List.mem_of_getElem? (i := 38) rfl))
theorem wi_X11_layRounds : Cond.instanceMethod M_X11_layRounds.1 ∈ lw_tbl := (gb_t8 _ (List.mem_of_getElem? (i := 37) rfl))
theorem ws_X11_layRounds : Cond.selects M_X11_layRounds.1.cls M_X11_layRounds.1 M_X11_layRounds.1 ∈ lw_tbl := (List.mem_of_getElem? (i := 88) (by decide +kernel))
theorem wc_X11_fromPlace : Cond.code M_X11_fromPlace.1 M_X11_fromPlace.2.1 M_X11_fromPlace.2.2.1 M_X11_fromPlace.2.2.2 ∈ lw_tbl := (gb_t8 _ (List.mem_of_getElem? (i := 52) rfl))
theorem wi_X11_fromPlace : Cond.instanceMethod M_X11_fromPlace.1 ∈ lw_tbl := (gb_t8 _ (List.mem_of_getElem? (i := 51) rfl))
theorem ws_X11_fromPlace : Cond.selects M_X11_fromPlace.1.cls M_X11_fromPlace.1 M_X11_fromPlace.1 ∈ lw_tbl := (List.mem_of_getElem? (i := 90) (by decide +kernel))
theorem wc_X11_round : Cond.code M_X11_round.1 M_X11_round.2.1 M_X11_round.2.2.1 M_X11_round.2.2.2 ∈ lw_tbl := (gb_t8 _ (List.mem_of_getElem? (i := 34) rfl))
theorem wi_X11_round : Cond.instanceMethod M_X11_round.1 ∈ lw_tbl := (gb_t8 _ (List.mem_of_getElem? (i := 32) rfl))
theorem ws_X11_round : Cond.selects M_X11_round.1.cls M_X11_round.1 M_X11_round.1 ∈ lw_tbl := (gb_t8 _ (List.mem_of_getElem? (i := 33) rfl))
theorem wc_X11_isBought : Cond.code M_X11_isBought.1 M_X11_isBought.2.1 M_X11_isBought.2.2.1 M_X11_isBought.2.2.2 ∈ lw_tbl := (gb_t8 _ (List.mem_of_getElem? (i := 63) rfl))
theorem wi_X11_isBought : Cond.instanceMethod M_X11_isBought.1 ∈ lw_tbl := (gb_t8 _ (List.mem_of_getElem? (i := 62) rfl))
theorem ws_X11_isBought : Cond.selects M_X11_isBought.1.cls M_X11_isBought.1 M_X11_isBought.1 ∈ lw_tbl := (List.mem_of_getElem? (i := 91) (by decide +kernel))
theorem wc_X11_areSpent : Cond.code M_X11_areSpent.1 M_X11_areSpent.2.1 M_X11_areSpent.2.2.1 M_X11_areSpent.2.2.2 ∈ lw_tbl := (gb_t8 _ (List.mem_of_getElem? (i := 59) rfl))
theorem wt_X11_areSpent : Cond.static M_X11_areSpent.1 ∈ lw_tbl := (gb_t8 _ (List.mem_of_getElem? (i := 58) rfl))
theorem wc_X11_spent : Cond.code M_X11_spent.1 M_X11_spent.2.1 M_X11_spent.2.2.1 M_X11_spent.2.2.2 ∈ lw_tbl := (gb_t8 _ (List.mem_of_getElem? (i := 56) rfl))
theorem wi_X11_spent : Cond.instanceMethod M_X11_spent.1 ∈ lw_tbl := (gb_t8 _ (List.mem_of_getElem? (i := 54) rfl))
theorem ws_X11_spent : Cond.selects M_X11_spent.1.cls M_X11_spent.1 M_X11_spent.1 ∈ lw_tbl := (gb_t8 _ (List.mem_of_getElem? (i := 55) rfl))
theorem wc_X11_ask : Cond.code M_X11_ask.1 M_X11_ask.2.1 M_X11_ask.2.2.1 M_X11_ask.2.2.2 ∈ lw_tbl := (gb_t8 _ (List.mem_of_getElem? (i := 67) rfl))
theorem wi_X11_ask : Cond.instanceMethod M_X11_ask.1 ∈ lw_tbl := (gb_t8 _ (List.mem_of_getElem? (i := 65) rfl))
theorem ws_X11_ask : Cond.selects M_X11_ask.1.cls M_X11_ask.1 M_X11_ask.1 ∈ lw_tbl := (gb_t8 _ (List.mem_of_getElem? (i := 66) rfl))
theorem wc_X11_fair : Cond.code M_X11_fair.1 M_X11_fair.2.1 M_X11_fair.2.2.1 M_X11_fair.2.2.2 ∈ lw_tbl := (gb_t8 _ (List.mem_of_getElem? (i := 71) rfl))
theorem wi_X11_fair : Cond.instanceMethod M_X11_fair.1 ∈ lw_tbl := (gb_t8 _ (List.mem_of_getElem? (i := 69) rfl))
theorem ws_X11_fair : Cond.selects M_X11_fair.1.cls M_X11_fair.1 M_X11_fair.1 ∈ lw_tbl := (gb_t8 _ (List.mem_of_getElem? (i := 70) rfl))
theorem wc_X11_hear : Cond.code M_X11_hear.1 M_X11_hear.2.1 M_X11_hear.2.2.1 M_X11_hear.2.2.2 ∈ lw_tbl := (gb_t8 _ (List.mem_of_getElem? (i := 75) rfl))
theorem wi_X11_hear : Cond.instanceMethod M_X11_hear.1 ∈ lw_tbl := (gb_t8 _ (List.mem_of_getElem? (i := 73) rfl))
theorem ws_X11_hear : Cond.selects M_X11_hear.1.cls M_X11_hear.1 M_X11_hear.1 ∈ lw_tbl := (gb_t8 _ (List.mem_of_getElem? (i := 74) rfl))
theorem wc_X11_forget : Cond.code M_X11_forget.1 M_X11_forget.2.1 M_X11_forget.2.2.1 M_X11_forget.2.2.2 ∈ lw_tbl := (gb_t8 _ (List.mem_of_getElem? (i := 79) rfl))
theorem wi_X11_forget : Cond.instanceMethod M_X11_forget.1 ∈ lw_tbl := (gb_t8 _ (List.mem_of_getElem? (i := 77) rfl))
theorem ws_X11_forget : Cond.selects M_X11_forget.1.cls M_X11_forget.1 M_X11_forget.1 ∈ lw_tbl := (gb_t8 _ (List.mem_of_getElem? (i := 78) rfl))
theorem wc_X11_trend : Cond.code M_X11_trend.1 M_X11_trend.2.1 M_X11_trend.2.2.1 M_X11_trend.2.2.2 ∈ lw_tbl := (gb_t8 _ (List.mem_of_getElem? (i := 83) rfl))
theorem wi_X11_trend : Cond.instanceMethod M_X11_trend.1 ∈ lw_tbl := (gb_t8 _ (List.mem_of_getElem? (i := 81) rfl))
theorem ws_X11_trend : Cond.selects M_X11_trend.1.cls M_X11_trend.1 M_X11_trend.1 ∈ lw_tbl := (gb_t8 _ (List.mem_of_getElem? (i := 82) rfl))
theorem wc_X11_gets : Cond.code M_X11_gets.1 M_X11_gets.2.1 M_X11_gets.2.2.1 M_X11_gets.2.2.2 ∈ lw_tbl := (gb_t8 _ (List.mem_of_getElem? (i := 87) rfl))
theorem wi_X11_gets : Cond.instanceMethod M_X11_gets.1 ∈ lw_tbl := (gb_t8 _ (List.mem_of_getElem? (i := 85) rfl))
theorem ws_X11_gets : Cond.selects M_X11_gets.1.cls M_X11_gets.1 M_X11_gets.1 ∈ lw_tbl := (gb_t8 _ (List.mem_of_getElem? (i := 86) rfl))
theorem wc_X11_readSum : Cond.code M_X11_readSum.1 M_X11_readSum.2.1 M_X11_readSum.2.2.1 M_X11_readSum.2.2.2 ∈ lw_tbl := (gb_t8 _ (List.mem_of_getElem? (i := 101) rfl))
theorem wi_X11_readSum : Cond.instanceMethod M_X11_readSum.1 ∈ lw_tbl := (gb_t8 _ (List.mem_of_getElem? (i := 100) rfl))
theorem ws_X11_readSum : Cond.selects M_X11_readSum.1.cls M_X11_readSum.1 M_X11_readSum.1 ∈ lw_tbl := (List.mem_of_getElem? (i := 93) (by decide +kernel))
theorem wc_X11_readOrder : Cond.code M_X11_readOrder.1 M_X11_readOrder.2.1 M_X11_readOrder.2.2.1 M_X11_readOrder.2.2.2 ∈ lw_tbl := (gb_t8 _ (List.mem_of_getElem? (i := 97) rfl))
theorem wi_X11_readOrder : Cond.instanceMethod M_X11_readOrder.1 ∈ lw_tbl := (gb_t8 _ (List.mem_of_getElem? (i := 96) rfl))
theorem ws_X11_readOrder : Cond.selects M_X11_readOrder.1.cls M_X11_readOrder.1 M_X11_readOrder.1 ∈ lw_tbl := (List.mem_of_getElem? (i := 92) (by decide +kernel))
theorem wc_X11_sumOf : Cond.code M_X11_sumOf.1 M_X11_sumOf.2.1 M_X11_sumOf.2.2.1 M_X11_sumOf.2.2.2 ∈ lw_tbl := (gb_t8 _ (List.mem_of_getElem? (i := 111) rfl))
theorem wi_X11_sumOf : Cond.instanceMethod M_X11_sumOf.1 ∈ lw_tbl := (gb_t8 _ (List.mem_of_getElem? (i := 110) rfl))
theorem ws_X11_sumOf : Cond.selects M_X11_sumOf.1.cls M_X11_sumOf.1 M_X11_sumOf.1 ∈ lw_tbl := (List.mem_of_getElem? (i := 95) (by decide +kernel))
theorem wc_X11_act : Cond.code M_X11_act.1 M_X11_act.2.1 M_X11_act.2.2.1 M_X11_act.2.2.2 ∈ lw_tbl := (gb_t8 _ (List.mem_of_getElem? (i := 115) rfl))
theorem wi_X11_act : Cond.instanceMethod M_X11_act.1 ∈ lw_tbl := (gb_t8 _ (List.mem_of_getElem? (i := 114) rfl))
theorem ws_X11_act : Cond.selects M_X11_act.1.cls M_X11_act.1 M_X11_act.1 ∈ lw_tbl := (List.mem_of_getElem? (i := 96) (by decide +kernel))
theorem wc_X11_run : Cond.code M_X11_run.1 M_X11_run.2.1 M_X11_run.2.2.1 M_X11_run.2.2.2 ∈ lw_tbl := (gb_t8 _ (List.mem_of_getElem? (i := 107) rfl))
theorem wi_X11_run : Cond.instanceMethod M_X11_run.1 ∈ lw_tbl := (gb_t8 _ (List.mem_of_getElem? (i := 106) rfl))
theorem ws_X11_run : Cond.selects M_X11_run.1.cls M_X11_run.1 M_X11_run.1 ∈ lw_tbl := (List.mem_of_getElem? (i := 94) (by decide +kernel))
theorem wc_X11_orders : Cond.code M_X11_orders.1 M_X11_orders.2.1 M_X11_orders.2.2.1 M_X11_orders.2.2.2 ∈ lw_tbl := (gb_t8 _ (List.mem_of_getElem? (i := 93) rfl))
theorem wi_X11_orders : Cond.instanceMethod M_X11_orders.1 ∈ lw_tbl := (gb_t8 _ (List.mem_of_getElem? (i := 91) rfl))
theorem ws_X11_orders : Cond.selects M_X11_orders.1.cls M_X11_orders.1 M_X11_orders.1 ∈ lw_tbl := (gb_t8 _ (List.mem_of_getElem? (i := 92) rfl))
theorem wc_X11_giveBack : Cond.code M_X11_giveBack.1 M_X11_giveBack.2.1 M_X11_giveBack.2.2.1 M_X11_giveBack.2.2.2 ∈ lw_tbl := (gb_t8 _ (List.mem_of_getElem? (i := 119) rfl))
theorem wi_X11_giveBack : Cond.instanceMethod M_X11_giveBack.1 ∈ lw_tbl := (gb_t8 _ (List.mem_of_getElem? (i := 118) rfl))
theorem ws_X11_giveBack : Cond.selects M_X11_giveBack.1.cls M_X11_giveBack.1 M_X11_giveBack.1 ∈ lw_tbl := (List.mem_of_getElem? (i := 97) (by decide +kernel))
theorem wc_X11_stopped : Cond.code M_X11_stopped.1 M_X11_stopped.2.1 M_X11_stopped.2.2.1 M_X11_stopped.2.2.2 ∈ lw_tbl := (gb_t8 _ (List.mem_of_getElem? (i := 123) rfl))
theorem wi_X11_stopped : Cond.instanceMethod M_X11_stopped.1 ∈ lw_tbl := (gb_t8 _ (List.mem_of_getElem? (i := 121) rfl))
theorem ws_X11_stopped : Cond.selects M_X11_stopped.1.cls M_X11_stopped.1 M_X11_stopped.1 ∈ lw_tbl := (gb_t8 _ (List.mem_of_getElem? (i := 122) rfl))
theorem wc_X11_draw : Cond.code M_X11_draw.1 M_X11_draw.2.1 M_X11_draw.2.2.1 M_X11_draw.2.2.2 ∈ lw_tbl := (gb_t8 _ (List.mem_of_getElem? (i := 131) rfl))
theorem wi_X11_draw : Cond.instanceMethod M_X11_draw.1 ∈ lw_tbl := (gb_t8 _ (List.mem_of_getElem? (i := 130) rfl))
theorem ws_X11_draw : Cond.selects M_X11_draw.1.cls M_X11_draw.1 M_X11_draw.1 ∈ lw_tbl := (List.mem_of_getElem? (i := 98) (by decide +kernel))
theorem wc_X11_years : Cond.code M_X11_years.1 M_X11_years.2.1 M_X11_years.2.2.1 M_X11_years.2.2.2 ∈ lw_tbl := (gb_t8 _ (List.mem_of_getElem? (i := 127) rfl))
theorem wi_X11_years : Cond.instanceMethod M_X11_years.1 ∈ lw_tbl := (gb_t8 _ (List.mem_of_getElem? (i := 125) rfl))
theorem ws_X11_years : Cond.selects M_X11_years.1.cls M_X11_years.1 M_X11_years.1 ∈ lw_tbl := (gb_t8 _ (List.mem_of_getElem? (i := 126) rfl))
theorem wc_X11_drawn : Cond.code M_X11_drawn.1 M_X11_drawn.2.1 M_X11_drawn.2.2.1 M_X11_drawn.2.2.2 ∈ lw_tbl := (gb_t8 _ (List.mem_of_getElem? (i := 138) rfl))
theorem wi_X11_drawn : Cond.instanceMethod M_X11_drawn.1 ∈ lw_tbl := (gb_t8 _ (List.mem_of_getElem? (i := 136) rfl))
theorem ws_X11_drawn : Cond.selects M_X11_drawn.1.cls M_X11_drawn.1 M_X11_drawn.1 ∈ lw_tbl := (gb_t8 _ (List.mem_of_getElem? (i := 137) rfl))
theorem wc_X11_count : Cond.code M_X11_count.1 M_X11_count.2.1 M_X11_count.2.2.1 M_X11_count.2.2.2 ∈ lw_tbl := (gb_t8 _ (List.mem_of_getElem? (i := 142) rfl))
theorem wi_X11_count : Cond.instanceMethod M_X11_count.1 ∈ lw_tbl := (gb_t8 _ (List.mem_of_getElem? (i := 140) rfl))
theorem ws_X11_count : Cond.selects M_X11_count.1.cls M_X11_count.1 M_X11_count.1 ∈ lw_tbl := (gb_t8 _ (List.mem_of_getElem? (i := 141) rfl))
theorem wc_X11_status : Cond.code M_X11_status.1 M_X11_status.2.1 M_X11_status.2.2.1 M_X11_status.2.2.2 ∈ lw_tbl := (gb_t8 _ (List.mem_of_getElem? (i := 148) rfl))
theorem wi_X11_status : Cond.instanceMethod M_X11_status.1 ∈ lw_tbl := (gb_t8 _ (List.mem_of_getElem? (i := 146) rfl))
theorem ws_X11_status : Cond.selects M_X11_status.1.cls M_X11_status.1 M_X11_status.1 ∈ lw_tbl := (gb_t8 _ (List.mem_of_getElem? (i := 147) rfl))
theorem wc_J11_isValidCodePoint_9a6ad : Cond.code M_J11_isValidCodePoint_9a6ad.1 M_J11_isValidCodePoint_9a6ad.2.1 M_J11_isValidCodePoint_9a6ad.2.2.1 M_J11_isValidCodePoint_9a6ad.2.2.2 ∈ lw_tbl := (gb_t3 _ (List.mem_of_getElem? (i := 230) rfl))
theorem wt_J11_isValidCodePoint_9a6ad : Cond.static M_J11_isValidCodePoint_9a6ad.1 ∈ lw_tbl := (gb_t3 _ (List.mem_of_getElem? (i := 229) rfl))
theorem wc_J11_highSurrogate_5068e : Cond.code M_J11_highSurrogate_5068e.1 M_J11_highSurrogate_5068e.2.1 M_J11_highSurrogate_5068e.2.2.1 M_J11_highSurrogate_5068e.2.2.2 ∈ lw_tbl := (gb_t3 _ (List.mem_of_getElem? (i := 233) rfl))
theorem wt_J11_highSurrogate_5068e : Cond.static M_J11_highSurrogate_5068e.1 ∈ lw_tbl := (gb_t3 _ (List.mem_of_getElem? (i := 232) rfl))
theorem wc_J11_lowSurrogate_5068e : Cond.code M_J11_lowSurrogate_5068e.1 M_J11_lowSurrogate_5068e.2.1 M_J11_lowSurrogate_5068e.2.2.1 M_J11_lowSurrogate_5068e.2.2.2 ∈ lw_tbl := (gb_t3 _ (List.mem_of_getElem? (i := 237) rfl))
theorem wt_J11_lowSurrogate_5068e : Cond.static M_J11_lowSurrogate_5068e.1 ∈ lw_tbl := (gb_t3 _ (List.mem_of_getElem? (i := 236) rfl))
theorem wc_J9_floorMod_7cf53 : Cond.code M_J9_floorMod_7cf53.1 M_J9_floorMod_7cf53.2.1 M_J9_floorMod_7cf53.2.2.1 M_J9_floorMod_7cf53.2.2.2 ∈ lw_tbl := (gb_t5 _ (List.mem_of_getElem? (i := 155) rfl))
theorem wt_J9_floorMod_7cf53 : Cond.static M_J9_floorMod_7cf53.1 ∈ lw_tbl := (gb_t5 _ (List.mem_of_getElem? (i := 154) rfl))
theorem wc_J9_abs_0f7a4 : Cond.code M_J9_abs_0f7a4.1 M_J9_abs_0f7a4.2.1 M_J9_abs_0f7a4.2.2.1 M_J9_abs_0f7a4.2.2.2 ∈ lw_tbl := (gb_t5 _ (List.mem_of_getElem? (i := 62) rfl))
theorem wt_J9_abs_0f7a4 : Cond.static M_J9_abs_0f7a4.1 ∈ lw_tbl := (gb_t5 _ (List.mem_of_getElem? (i := 61) rfl))
theorem wc_J9_abs_067f4 : Cond.code M_J9_abs_067f4.1 M_J9_abs_067f4.2.1 M_J9_abs_067f4.2.2.1 M_J9_abs_067f4.2.2.2 ∈ lw_tbl := (gb_t4 _ (List.mem_of_getElem? (i := 203) rfl))
theorem wt_J9_abs_067f4 : Cond.static M_J9_abs_067f4.1 ∈ lw_tbl := (gb_t4 _ (List.mem_of_getElem? (i := 202) rfl))
theorem wc_J9_max_7cf53 : Cond.code M_J9_max_7cf53.1 M_J9_max_7cf53.2.1 M_J9_max_7cf53.2.2.1 M_J9_max_7cf53.2.2.2 ∈ lw_tbl := (gb_t2 _ (List.mem_of_getElem? (i := 217) rfl))
theorem wt_J9_max_7cf53 : Cond.static M_J9_max_7cf53.1 ∈ lw_tbl := (gb_t2 _ (List.mem_of_getElem? (i := 216) rfl))
theorem wc_J9_min_7cf53 : Cond.code M_J9_min_7cf53.1 M_J9_min_7cf53.2.1 M_J9_min_7cf53.2.2.1 M_J9_min_7cf53.2.2.2 ∈ lw_tbl := (gb_t2 _ (List.mem_of_getElem? (i := 163) rfl))
theorem wt_J9_min_7cf53 : Cond.static M_J9_min_7cf53.1 ∈ lw_tbl := (gb_t2 _ (List.mem_of_getElem? (i := 162) rfl))
theorem wc_J0_length_8abf5 : Cond.code M_J0_length_8abf5.1 M_J0_length_8abf5.2.1 M_J0_length_8abf5.2.2.1 M_J0_length_8abf5.2.2.2 ∈ lw_tbl := (gb_t3 _ (List.mem_of_getElem? (i := 82) rfl))
theorem wi_J0_length_8abf5 : Cond.instanceMethod M_J0_length_8abf5.1 ∈ lw_tbl := (gb_t3 _ (List.mem_of_getElem? (i := 80) rfl))
theorem ws_J0_length_8abf5 : Cond.selects M_J0_length_8abf5.1.cls M_J0_length_8abf5.1 M_J0_length_8abf5.1 ∈ lw_tbl := (gb_t3 _ (List.mem_of_getElem? (i := 81) rfl))
theorem wc_J0_charAt_5068e : Cond.code M_J0_charAt_5068e.1 M_J0_charAt_5068e.2.1 M_J0_charAt_5068e.2.2.1 M_J0_charAt_5068e.2.2.2 ∈ lw_tbl := (gb_t3 _ (List.mem_of_getElem? (i := 92) rfl))
theorem wi_J0_charAt_5068e : Cond.instanceMethod M_J0_charAt_5068e.1 ∈ lw_tbl := (gb_t3 _ (List.mem_of_getElem? (i := 90) rfl))
theorem ws_J0_charAt_5068e : Cond.selects M_J0_charAt_5068e.1.cls M_J0_charAt_5068e.1 M_J0_charAt_5068e.1 ∈ lw_tbl := (gb_t3 _ (List.mem_of_getElem? (i := 91) rfl))
theorem wc_J0_indexOf_0f7a4 : Cond.code M_J0_indexOf_0f7a4.1 M_J0_indexOf_0f7a4.2.1 M_J0_indexOf_0f7a4.2.2.1 M_J0_indexOf_0f7a4.2.2.2 ∈ lw_tbl := (gb_t3 _ (List.mem_of_getElem? (i := 187) rfl))
theorem wi_J0_indexOf_0f7a4 : Cond.instanceMethod M_J0_indexOf_0f7a4.1 ∈ lw_tbl := (gb_t3 _ (List.mem_of_getElem? (i := 185) rfl))
theorem ws_J0_indexOf_0f7a4 : Cond.selects M_J0_indexOf_0f7a4.1.cls M_J0_indexOf_0f7a4.1 M_J0_indexOf_0f7a4.1 ∈ lw_tbl := (gb_t3 _ (List.mem_of_getElem? (i := 186) rfl))
theorem wc_J0_indexOf_7cf53 : Cond.code M_J0_indexOf_7cf53.1 M_J0_indexOf_7cf53.2.1 M_J0_indexOf_7cf53.2.2.1 M_J0_indexOf_7cf53.2.2.2 ∈ lw_tbl := (gb_t3 _ (List.mem_of_getElem? (i := 191) rfl))
theorem wi_J0_indexOf_7cf53 : Cond.instanceMethod M_J0_indexOf_7cf53.1 ∈ lw_tbl := (gb_t3 _ (List.mem_of_getElem? (i := 189) rfl))
theorem ws_J0_indexOf_7cf53 : Cond.selects M_J0_indexOf_7cf53.1.cls M_J0_indexOf_7cf53.1 M_J0_indexOf_7cf53.1 ∈ lw_tbl := (gb_t3 _ (List.mem_of_getElem? (i := 190) rfl))
theorem wc_J0_coder_7d493 : Cond.code M_J0_coder_7d493.1 M_J0_coder_7d493.2.1 M_J0_coder_7d493.2.2.1 M_J0_coder_7d493.2.2.2 ∈ lw_tbl := (gb_t3 _ (List.mem_of_getElem? (i := 86) rfl))
theorem wi_J0_coder_7d493 : Cond.instanceMethod M_J0_coder_7d493.1 ∈ lw_tbl := (gb_t3 _ (List.mem_of_getElem? (i := 84) rfl))
theorem ws_J0_coder_7d493 : Cond.selects M_J0_coder_7d493.1.cls M_J0_coder_7d493.1 M_J0_coder_7d493.1 ∈ lw_tbl := (gb_t3 _ (List.mem_of_getElem? (i := 85) rfl))
theorem wc_J0_isLatin1_aae02 : Cond.code M_J0_isLatin1_aae02.1 M_J0_isLatin1_aae02.2.1 M_J0_isLatin1_aae02.2.2.1 M_J0_isLatin1_aae02.2.2.2 ∈ lw_tbl := (gb_t3 _ (List.mem_of_getElem? (i := 96) rfl))
theorem wi_J0_isLatin1_aae02 : Cond.instanceMethod M_J0_isLatin1_aae02.1 ∈ lw_tbl := (gb_t3 _ (List.mem_of_getElem? (i := 94) rfl))
theorem ws_J0_isLatin1_aae02 : Cond.selects M_J0_isLatin1_aae02.1.cls M_J0_isLatin1_aae02.1 M_J0_isLatin1_aae02.1 ∈ lw_tbl := (gb_t3 _ (List.mem_of_getElem? (i := 95) rfl))
theorem wc_J0_checkIndex_df160 : Cond.code M_J0_checkIndex_df160.1 M_J0_checkIndex_df160.2.1 M_J0_checkIndex_df160.2.2.1 M_J0_checkIndex_df160.2.2.2 ∈ lw_tbl := (gb_t3 _ (List.mem_of_getElem? (i := 102) rfl))
theorem wt_J0_checkIndex_df160 : Cond.static M_J0_checkIndex_df160.1 ∈ lw_tbl := (gb_t3 _ (List.mem_of_getElem? (i := 101) rfl))
theorem wc_J0_checkBoundsBeginEnd_23922 : Cond.code M_J0_checkBoundsBeginEnd_23922.1 M_J0_checkBoundsBeginEnd_23922.2.1 M_J0_checkBoundsBeginEnd_23922.2.2.1 M_J0_checkBoundsBeginEnd_23922.2.2.2 ∈ lw_tbl := (gb_t3 _ (List.mem_of_getElem? (i := 218) rfl))
theorem wt_J0_checkBoundsBeginEnd_23922 : Cond.static M_J0_checkBoundsBeginEnd_23922.1 ∈ lw_tbl := (gb_t3 _ (List.mem_of_getElem? (i := 217) rfl))
theorem wc_J1_charAt_3b067 : Cond.code M_J1_charAt_3b067.1 M_J1_charAt_3b067.2.1 M_J1_charAt_3b067.2.2.1 M_J1_charAt_3b067.2.2.2 ∈ lw_tbl := (gb_t3 _ (List.mem_of_getElem? (i := 99) rfl))
theorem wt_J1_charAt_3b067 : Cond.static M_J1_charAt_3b067.1 ∈ lw_tbl := (gb_t3 _ (List.mem_of_getElem? (i := 98) rfl))
theorem wc_J1_canEncode_9a6ad : Cond.code M_J1_canEncode_9a6ad.1 M_J1_canEncode_9a6ad.2.1 M_J1_canEncode_9a6ad.2.2.1 M_J1_canEncode_9a6ad.2.2.2 ∈ lw_tbl := (gb_t3 _ (List.mem_of_getElem? (i := 198) rfl))
theorem wt_J1_canEncode_9a6ad : Cond.static M_J1_canEncode_9a6ad.1 ∈ lw_tbl := (gb_t3 _ (List.mem_of_getElem? (i := 197) rfl))
theorem wc_J1_indexOf_4cfef : Cond.code M_J1_indexOf_4cfef.1 M_J1_indexOf_4cfef.2.1 M_J1_indexOf_4cfef.2.2.1 M_J1_indexOf_4cfef.2.2.2 ∈ lw_tbl := (gb_t3 _ (List.mem_of_getElem? (i := 195) rfl))
theorem wt_J1_indexOf_4cfef : Cond.static M_J1_indexOf_4cfef.1 ∈ lw_tbl := (gb_t3 _ (List.mem_of_getElem? (i := 194) rfl))
theorem wc_J1_indexOfChar_4cfef : Cond.code M_J1_indexOfChar_4cfef.1 M_J1_indexOfChar_4cfef.2.1 M_J1_indexOfChar_4cfef.2.2.1 M_J1_indexOfChar_4cfef.2.2.2 ∈ lw_tbl := (gb_t3 _ (List.mem_of_getElem? (i := 203) rfl))
theorem wt_J1_indexOfChar_4cfef : Cond.static M_J1_indexOfChar_4cfef.1 ∈ lw_tbl := (gb_t3 _ (List.mem_of_getElem? (i := 202) rfl))
theorem wc_J2_getChar_3b067 : Cond.code M_J2_getChar_3b067.1 M_J2_getChar_3b067.2.1 M_J2_getChar_3b067.2.2.1 M_J2_getChar_3b067.2.2.2 ∈ lw_tbl := (gb_t3 _ (List.mem_of_getElem? (i := 120) rfl))
theorem wt_J2_getChar_3b067 : Cond.static M_J2_getChar_3b067.1 ∈ lw_tbl := (gb_t3 _ (List.mem_of_getElem? (i := 119) rfl))
theorem wc_J2_length_9d52b : Cond.code M_J2_length_9d52b.1 M_J2_length_9d52b.2.1 M_J2_length_9d52b.2.2.1 M_J2_length_9d52b.2.2.2 ∈ lw_tbl := (gb_t3 _ (List.mem_of_getElem? (i := 116) rfl))
theorem wt_J2_length_9d52b : Cond.static M_J2_length_9d52b.1 ∈ lw_tbl := (gb_t3 _ (List.mem_of_getElem? (i := 115) rfl))
theorem wc_J2_indexOf_4cfef : Cond.code M_J2_indexOf_4cfef.1 M_J2_indexOf_4cfef.2.1 M_J2_indexOf_4cfef.2.2.1 M_J2_indexOf_4cfef.2.2.2 ∈ lw_tbl := (gb_t3 _ (List.mem_of_getElem? (i := 206) rfl))
theorem wt_J2_indexOf_4cfef : Cond.static M_J2_indexOf_4cfef.1 ∈ lw_tbl := (gb_t3 _ (List.mem_of_getElem? (i := 205) rfl))
theorem wc_J2_indexOfChar_4cfef : Cond.code M_J2_indexOfChar_4cfef.1 M_J2_indexOfChar_4cfef.2.1 M_J2_indexOfChar_4cfef.2.2.1 M_J2_indexOfChar_4cfef.2.2.2 ∈ lw_tbl := (gb_t3 _ (List.mem_of_getElem? (i := 212) rfl))
theorem wt_J2_indexOfChar_4cfef : Cond.static M_J2_indexOfChar_4cfef.1 ∈ lw_tbl := (gb_t3 _ (List.mem_of_getElem? (i := 211) rfl))
theorem wc_J2_indexOfCharUnsafe_4cfef : Cond.code M_J2_indexOfCharUnsafe_4cfef.1 M_J2_indexOfCharUnsafe_4cfef.2.1 M_J2_indexOfCharUnsafe_4cfef.2.2.1 M_J2_indexOfCharUnsafe_4cfef.2.2.2 ∈ lw_tbl := (gb_t3 _ (List.mem_of_getElem? (i := 224) rfl))
theorem wt_J2_indexOfCharUnsafe_4cfef : Cond.static M_J2_indexOfCharUnsafe_4cfef.1 ∈ lw_tbl := (gb_t3 _ (List.mem_of_getElem? (i := 223) rfl))
theorem wc_J2_indexOfSupplementary_4cfef : Cond.code M_J2_indexOfSupplementary_4cfef.1 M_J2_indexOfSupplementary_4cfef.2.1 M_J2_indexOfSupplementary_4cfef.2.2.1 M_J2_indexOfSupplementary_4cfef.2.2.2 ∈ lw_tbl := (gb_t3 _ (List.mem_of_getElem? (i := 227) rfl))
theorem wt_J2_indexOfSupplementary_4cfef : Cond.static M_J2_indexOfSupplementary_4cfef.1 ∈ lw_tbl := (gb_t3 _ (List.mem_of_getElem? (i := 226) rfl))
theorem wc_J2_charAt_3b067 : Cond.code M_J2_charAt_3b067.1 M_J2_charAt_3b067.2.1 M_J2_charAt_3b067.2.2.1 M_J2_charAt_3b067.2.2.2 ∈ lw_tbl := (gb_t3 _ (List.mem_of_getElem? (i := 110) rfl))
theorem wt_J2_charAt_3b067 : Cond.static M_J2_charAt_3b067.1 ∈ lw_tbl := (gb_t3 _ (List.mem_of_getElem? (i := 109) rfl))
theorem wc_J2_checkIndex_2214a : Cond.code M_J2_checkIndex_2214a.1 M_J2_checkIndex_2214a.2.1 M_J2_checkIndex_2214a.2.2.1 M_J2_checkIndex_2214a.2.2.2 ∈ lw_tbl := (gb_t3 _ (List.mem_of_getElem? (i := 113) rfl))
theorem wt_J2_checkIndex_2214a : Cond.static M_J2_checkIndex_2214a.1 ∈ lw_tbl := (gb_t3 _ (List.mem_of_getElem? (i := 112) rfl))
theorem wc_J2_checkBoundsBeginEnd_d044e : Cond.code M_J2_checkBoundsBeginEnd_d044e.1 M_J2_checkBoundsBeginEnd_d044e.2.1 M_J2_checkBoundsBeginEnd_d044e.2.2.1 M_J2_checkBoundsBeginEnd_d044e.2.2.2 ∈ lw_tbl := (gb_t3 _ (List.mem_of_getElem? (i := 215) rfl))
theorem wt_J2_checkBoundsBeginEnd_d044e : Cond.static M_J2_checkBoundsBeginEnd_d044e.1 ∈ lw_tbl := (gb_t3 _ (List.mem_of_getElem? (i := 214) rfl))
theorem wc_J7_fill_d0a16 : Cond.code M_J7_fill_d0a16.1 M_J7_fill_d0a16.2.1 M_J7_fill_d0a16.2.2.1 M_J7_fill_d0a16.2.2.2 ∈ lw_tbl := (gb_t5 _ (List.mem_of_getElem? (i := 139) rfl))
theorem wt_J7_fill_d0a16 : Cond.static M_J7_fill_d0a16.1 ∈ lw_tbl := (gb_t5 _ (List.mem_of_getElem? (i := 138) rfl))
theorem wc_J7_copyOf_59c91 : Cond.code M_J7_copyOf_59c91.1 M_J7_copyOf_59c91.2.1 M_J7_copyOf_59c91.2.2.1 M_J7_copyOf_59c91.2.2.2 ∈ lw_tbl := (gb_t4 _ (List.mem_of_getElem? (i := 44) rfl))
theorem wt_J7_copyOf_59c91 : Cond.static M_J7_copyOf_59c91.1 ∈ lw_tbl := (gb_t4 _ (List.mem_of_getElem? (i := 43) rfl))
theorem wc_J3_checkIndex_8e157 : Cond.code M_J3_checkIndex_8e157.1 M_J3_checkIndex_8e157.2.1 M_J3_checkIndex_8e157.2.2.1 M_J3_checkIndex_8e157.2.2.2 ∈ lw_tbl := (gb_t3 _ (List.mem_of_getElem? (i := 107) rfl))
theorem wt_J3_checkIndex_8e157 : Cond.static M_J3_checkIndex_8e157.1 ∈ lw_tbl := (gb_t3 _ (List.mem_of_getElem? (i := 106) rfl))
theorem wc_J3_checkFromToIndex_8c36e : Cond.code M_J3_checkFromToIndex_8c36e.1 M_J3_checkFromToIndex_8c36e.2.1 M_J3_checkFromToIndex_8c36e.2.2.1 M_J3_checkFromToIndex_8c36e.2.2.2 ∈ lw_tbl := (gb_t3 _ (List.mem_of_getElem? (i := 221) rfl))
theorem wt_J3_checkFromToIndex_8c36e : Cond.static M_J3_checkFromToIndex_8c36e.1 ∈ lw_tbl := (gb_t3 _ (List.mem_of_getElem? (i := 220) rfl))
theorem wn_L : Cond.initialized "GladBasketLaw" ∈ lw_tbl := (gb_t1 _ (List.mem_of_getElem? (i := 0) rfl))
theorem wn_X10 : Cond.initialized "GladBasket" ∈ lw_tbl := (gb_t1 _ (List.mem_of_getElem? (i := 1) rfl))
theorem wn_X0 : Cond.initialized "GladBasket$Basket" ∈ lw_tbl := (gb_t1 _ (List.mem_of_getElem? (i := 2) rfl))
theorem wn_X3 : Cond.initialized "GladBasket$History" ∈ lw_tbl := (gb_t1 _ (List.mem_of_getElem? (i := 3) rfl))
theorem wn_X9 : Cond.initialized "GladBasket$Tape" ∈ lw_tbl := (gb_t1 _ (List.mem_of_getElem? (i := 4) rfl))
theorem wn_X8 : Cond.initialized "GladBasket$Reader" ∈ lw_tbl := (gb_t1 _ (List.mem_of_getElem? (i := 5) rfl))
theorem wn_X7 : Cond.initialized "GladBasket$Program" ∈ lw_tbl := (gb_t1 _ (List.mem_of_getElem? (i := 6) rfl))
theorem wn_X5 : Cond.initialized "GladBasket$Machine" ∈ lw_tbl := (gb_t1 _ (List.mem_of_getElem? (i := 7) rfl))
theorem wn_X4 : Cond.initialized "GladBasket$Judge" ∈ lw_tbl := (gb_t1 _ (List.mem_of_getElem? (i := 8) rfl))
theorem wn_X1 : Cond.initialized "GladBasket$Figures" ∈ lw_tbl := (gb_t1 _ (List.mem_of_getElem? (i := 9) rfl))
theorem wn_X2 : Cond.initialized "GladBasket$Fraction" ∈ lw_tbl := (gb_t1 _ (List.mem_of_getElem? (i := 10) rfl))
theorem wn_X6 : Cond.initialized "GladBasket$Paper" ∈ lw_tbl := (gb_t1 _ (List.mem_of_getElem? (i := 11) rfl))
theorem wn_X11 : Cond.initialized "GladBasketModel" ∈ lw_tbl := (gb_t1 _ (List.mem_of_getElem? (i := 12) rfl))
theorem wn_J9 : Cond.initialized "java/lang/Math" ∈ lw_tbl := (gb_t1 _ (List.mem_of_getElem? (i := 13) rfl))
theorem wn_J0 : Cond.initialized "java/lang/String" ∈ lw_tbl := (gb_t1 _ (List.mem_of_getElem? (i := 14) rfl))
theorem wn_J1 : Cond.initialized "java/lang/StringLatin1" ∈ lw_tbl := (gb_t1 _ (List.mem_of_getElem? (i := 15) rfl))
theorem wn_J3 : Cond.initialized "jdk/internal/util/Preconditions" ∈ lw_tbl := (gb_t1 _ (List.mem_of_getElem? (i := 16) rfl))
theorem wn_J2 : Cond.initialized "java/lang/StringUTF16" ∈ lw_tbl := (gb_t1 _ (List.mem_of_getElem? (i := 17) rfl))
theorem wn_J11 : Cond.initialized "java/lang/Character" ∈ lw_tbl := (gb_t1 _ (List.mem_of_getElem? (i := 18) rfl))
theorem wn_J7 : Cond.initialized "java/util/Arrays" ∈ lw_tbl := (gb_t1 _ (List.mem_of_getElem? (i := 19) rfl))
theorem wn_J10 : Cond.initialized "java/lang/System" ∈ lw_tbl := (gb_t1 _ (List.mem_of_getElem? (i := 20) rfl))
theorem na_X0_37 : Cond.classLink "GladBasket$Basket" 37 "GladBasket$Program" ∈ lw_tbl := (gb_t1 _ (List.mem_of_getElem? (i := 35) rfl))
theorem f_X0_9 : gb_FL "GladBasket$Basket" 9 0 0 false (.int) := ⟨RX0, TX0, 10, tyX0, gb_cl0, by decide, (gb_t1 _ (List.mem_of_getElem? (i := 37) rfl)), rfl, rfl, rfl⟩
theorem f_X0_15 : gb_FL "GladBasket$Basket" 15 0 1 true (.array .int) := ⟨RX0, TX0, 10, tyX0, gb_cl0, by decide, (gb_t1 _ (List.mem_of_getElem? (i := 42) rfl)), rfl, rfl, rfl⟩
theorem f_X0_19 : gb_FL "GladBasket$Basket" 19 0 2 false (.int) := ⟨RX0, TX0, 10, tyX0, gb_cl0, by decide, (gb_t1 _ (List.mem_of_getElem? (i := 43) rfl)), rfl, rfl, rfl⟩
theorem f_X0_22 : gb_FL "GladBasket$Basket" 22 0 3 true (.array .int) := ⟨RX0, TX0, 10, tyX0, gb_cl0, by decide, (gb_t1 _ (List.mem_of_getElem? (i := 45) rfl)), rfl, rfl, rfl⟩
theorem f_X0_25 : gb_FL "GladBasket$Basket" 25 0 4 false (.int) := ⟨RX0, TX0, 10, tyX0, gb_cl0, by decide, (gb_t1 _ (List.mem_of_getElem? (i := 47) rfl)), rfl, rfl, rfl⟩
theorem f_X0_28 : gb_FL "GladBasket$Basket" 28 0 5 true (.array .int) := ⟨RX0, TX0, 10, tyX0, gb_cl0, by decide, (gb_t1 _ (List.mem_of_getElem? (i := 50) rfl)), rfl, rfl, rfl⟩
theorem f_X0_31 : gb_FL "GladBasket$Basket" 31 0 6 true (.array .int) := ⟨RX0, TX0, 10, tyX0, gb_cl0, by decide, (gb_t1 _ (List.mem_of_getElem? (i := 53) rfl)), rfl, rfl, rfl⟩
theorem f_X0_34 : gb_FL "GladBasket$Basket" 34 0 7 false (.int) := ⟨RX0, TX0, 10, tyX0, gb_cl0, by decide, (gb_t1 _ (List.mem_of_getElem? (i := 57) rfl)), rfl, rfl, rfl⟩
theorem f_X0_39 : gb_FL "GladBasket$Basket" 39 0 8 true (.array (.object "GladBasket$Program")) := ⟨RX0, TX0, 10, tyX0, gb_cl0, by decide, (gb_t1 _ (List.mem_of_getElem? (i := 59) rfl)), rfl, rfl, rfl⟩
theorem f_X0_43 : gb_FL "GladBasket$Basket" 43 0 9 false (.int) := ⟨RX0, TX0, 10, tyX0, gb_cl0, by decide, (gb_t1 _ (List.mem_of_getElem? (i := 60) rfl)), rfl, rfl, rfl⟩
theorem m_X0_52 : gb_LSN "GladBasket$Basket" 52 M_X10_within 3 := ⟨⟨_, (gb_t2 _ (List.mem_of_getElem? (a := Cond.methodLinkNest "GladBasket$Basket" 52 M_X10_within.1 "GladBasket") (i := 172) rfl))⟩, wt_X10_within, wn_X10, wc_X10_within, ⟨by decide, by decide⟩, by decide +kernel, by decide⟩
theorem m_X0_56 : gb_LS "GladBasket$Basket" 56 M_J9_min_7cf53 2 := ⟨(gb_t2 _ (List.mem_of_getElem? (i := 161) rfl)), wt_J9_min_7cf53, wn_J9, wc_J9_min_7cf53, ⟨by decide, by decide⟩, by decide +kernel, by decide⟩
theorem m_X0_77 : gb_LS "GladBasket$Basket" 77 M_J9_max_7cf53 2 := ⟨(gb_t5 _ (List.mem_of_getElem? (i := 160) rfl)), wt_J9_max_7cf53, wn_J9, wc_J9_max_7cf53, ⟨by decide, by decide⟩, by decide +kernel, by decide⟩
theorem m_X0_62 : gb_LV "GladBasket$Basket" 62 M_X0_write 3 := ⟨(gb_t2 _ (List.mem_of_getElem? (i := 164) rfl)), wi_X0_write, ws_X0_write, wn_X0, wc_X0_write, ⟨by decide, by decide⟩, by decide +kernel, by decide⟩
theorem m_X0_66 : gb_LV "GladBasket$Basket" 66 M_X0_has 1 := ⟨(gb_t2 _ (List.mem_of_getElem? (i := 168) rfl)), wi_X0_has, ws_X0_has, wn_X0, wc_X0_has, ⟨by decide, by decide⟩, by decide +kernel, by decide⟩
theorem m_X0_70 : gb_LV "GladBasket$Basket" 70 M_X0_read 2 := ⟨(gb_t2 _ (List.mem_of_getElem? (i := 232) rfl)), wi_X0_read, ws_X0_read, wn_X0, wc_X0_read, ⟨by decide, by decide⟩, by decide +kernel, by decide⟩
theorem m_X0_73 : gb_LV "GladBasket$Basket" 73 M_X0_lawAt 1 := ⟨(gb_t2 _ (List.mem_of_getElem? (i := 195) rfl)), wi_X0_lawAt, ws_X0_lawAt, wn_X0, wc_X0_lawAt, ⟨by decide, by decide⟩, by decide +kernel, by decide⟩
theorem f_X1_9 : gb_FL "GladBasket$Figures" 9 1 1 false (.int) := ⟨RX1, TX1, 7, tyX1, gb_cl1, by decide, (gb_t2 _ (List.mem_of_getElem? (i := 3) rfl)), rfl, rfl, rfl⟩
theorem f_X1_15 : gb_FL "GladBasket$Figures" 15 1 2 true (.array .int) := ⟨RX1, TX1, 7, tyX1, gb_cl1, by decide, (gb_t2 _ (List.mem_of_getElem? (i := 4) rfl)), rfl, rfl, rfl⟩
theorem f_X1_19 : gb_FL "GladBasket$Figures" 19 1 3 true (.array .int) := ⟨RX1, TX1, 7, tyX1, gb_cl1, by decide, (gb_t2 _ (List.mem_of_getElem? (i := 5) rfl)), rfl, rfl, rfl⟩
theorem f_X1_22 : gb_FL "GladBasket$Figures" 22 1 4 true (.array .int) := ⟨RX1, TX1, 7, tyX1, gb_cl1, by decide, (gb_t2 _ (List.mem_of_getElem? (i := 6) rfl)), rfl, rfl, rfl⟩
theorem f_X1_28 : gb_FL "GladBasket$Figures" 28 1 5 true (.object "GladBasket$Fraction") := ⟨RX1, TX1, 7, tyX1, gb_cl1, by decide, (gb_t2 _ (List.mem_of_getElem? (i := 9) rfl)), rfl, rfl, rfl⟩
theorem f_X1_32 : gb_FL "GladBasket$Figures" 32 1 6 true (.object "GladBasket$Fraction") := ⟨RX1, TX1, 7, tyX1, gb_cl1, by decide, (gb_t2 _ (List.mem_of_getElem? (i := 10) rfl)), rfl, rfl, rfl⟩
theorem f_X1_35 : gb_FL "GladBasket$Figures" 35 1 0 true (.object "GladBasket$Judge") := ⟨RX1, TX1, 7, tyX1, gb_cl1, by decide, (gb_t2 _ (List.mem_of_getElem? (i := 2) rfl)), rfl, rfl, rfl⟩
theorem f_X1_39 : gb_FL "GladBasket$Figures" 39 0 0 false (.int) := ⟨RX0, TX0, 10, tyX0, gb_cl0, by decide, (gb_t1 _ (List.mem_of_getElem? (i := 38) rfl)), rfl, rfl, rfl⟩
theorem m_X1_27 : gb_LIN "GladBasket$Figures" 27 M_X2_init 0 := ⟨⟨_, (gb_t1 _ (List.mem_of_getElem? (a := Cond.methodLinkNest "GladBasket$Figures" 27 M_X2_init.1 "GladBasket") (i := 231) rfl))⟩, wi_X2_init, rfl, rfl, wn_X2, wc_X2_init, ⟨by decide, by decide⟩, by decide +kernel, by decide⟩
theorem m_X1_42 : gb_LS "GladBasket$Figures" 42 M_J9_min_7cf53 2 := ⟨(gb_t4 _ (List.mem_of_getElem? (i := 91) rfl)), wt_J9_min_7cf53, wn_J9, wc_J9_min_7cf53, ⟨by decide, by decide⟩, by decide +kernel, by decide⟩
theorem m_X1_92 : gb_LSN "GladBasket$Figures" 92 M_X10_within 3 := ⟨⟨_, (gb_t4 _ (List.mem_of_getElem? (a := Cond.methodLinkNest "GladBasket$Figures" 92 M_X10_within.1 "GladBasket") (i := 221) rfl))⟩, wt_X10_within, wn_X10, wc_X10_within, ⟨by decide, by decide⟩, by decide +kernel, by decide⟩
theorem m_X1_48 : gb_LV "GladBasket$Figures" 48 M_X0_sourceOf 1 := ⟨(gb_t4 _ (List.mem_of_getElem? (i := 92) rfl)), wi_X0_sourceOf, ws_X0_sourceOf, wn_X0, wc_X0_sourceOf, ⟨by decide, by decide⟩, by decide +kernel, by decide⟩
theorem m_X1_52 : gb_LV "GladBasket$Figures" 52 M_X0_read 2 := ⟨(gb_t4 _ (List.mem_of_getElem? (i := 93) rfl)), wi_X0_read, ws_X0_read, wn_X0, wc_X0_read, ⟨by decide, by decide⟩, by decide +kernel, by decide⟩
theorem m_X1_55 : gb_LV "GladBasket$Figures" 55 M_X4_tell 4 := ⟨(gb_t4 _ (List.mem_of_getElem? (i := 94) rfl)), wi_X4_tell, ws_X4_tell, wn_X4, wc_X4_tell, ⟨by decide, by decide⟩, by decide +kernel, by decide⟩
theorem m_X1_61 : gb_LV "GladBasket$Figures" 61 M_X1_reckon 4 := ⟨(gb_t4 _ (List.mem_of_getElem? (i := 193) rfl)), wi_X1_reckon, ws_X1_reckon, wn_X1, wc_X1_reckon, ⟨by decide, by decide⟩, by decide +kernel, by decide⟩
theorem m_X1_65 : gb_LV "GladBasket$Figures" 65 M_X2_multiply 1 := ⟨(gb_t4 _ (List.mem_of_getElem? (i := 234) rfl)), wi_X2_multiply, ws_X2_multiply, wn_X2, wc_X2_multiply, ⟨by decide, by decide⟩, by decide +kernel, by decide⟩
theorem m_X1_69 : gb_LV "GladBasket$Figures" 69 M_X2_put 2 := ⟨(gb_t4 _ (List.mem_of_getElem? (i := 197) rfl)), wi_X2_put, ws_X2_put, wn_X2, wc_X2_put, ⟨by decide, by decide⟩, by decide +kernel, by decide⟩
theorem m_X1_73 : gb_LV "GladBasket$Figures" 73 M_X1_countOfAll 0 := ⟨(gb_t4 _ (List.mem_of_getElem? (i := 99) rfl)), wi_X1_countOfAll, ws_X1_countOfAll, wn_X1, wc_X1_countOfAll, ⟨by decide, by decide⟩, by decide +kernel, by decide⟩
theorem m_X1_77 : gb_LV "GladBasket$Figures" 77 M_X1_weighed 1 := ⟨(gb_t4 _ (List.mem_of_getElem? (i := 107) rfl)), wi_X1_weighed, ws_X1_weighed, wn_X1, wc_X1_weighed, ⟨by decide, by decide⟩, by decide +kernel, by decide⟩
theorem m_X1_81 : gb_LV "GladBasket$Figures" 81 M_X2_add 2 := ⟨(gb_t4 _ (List.mem_of_getElem? (i := 208) rfl)), wi_X2_add, ws_X2_add, wn_X2, wc_X2_add, ⟨by decide, by decide⟩, by decide +kernel, by decide⟩
theorem m_X1_84 : gb_LV "GladBasket$Figures" 84 M_X2_divide 1 := ⟨(gb_t4 _ (List.mem_of_getElem? (i := 213) rfl)), wi_X2_divide, ws_X2_divide, wn_X2, wc_X2_divide, ⟨by decide, by decide⟩, by decide +kernel, by decide⟩
theorem m_X1_88 : gb_LV "GladBasket$Figures" 88 M_X1_outermost 3 := ⟨(gb_t4 _ (List.mem_of_getElem? (i := 217) rfl)), wi_X1_outermost, ws_X1_outermost, wn_X1, wc_X1_outermost, ⟨by decide, by decide⟩, by decide +kernel, by decide⟩
theorem m_X1_96 : gb_LV "GladBasket$Figures" 96 M_X1_cutTimes 1 := ⟨(gb_t4 _ (List.mem_of_getElem? (i := 103) rfl)), wi_X1_cutTimes, ws_X1_cutTimes, wn_X1, wc_X1_cutTimes, ⟨by decide, by decide⟩, by decide +kernel, by decide⟩
theorem n_X1_25 : gb_NW "GladBasket$Figures" 25 2 2 [1, 1] := ⟨RX2, TX2, tyX2, gb_cl2, (gb_t1 _ (List.mem_of_getElem? (i := 229) rfl)), (gb_t1 _ (List.mem_of_getElem? (i := 230) rfl)), wn_X2, by decide +kernel, by decide⟩
theorem f_X2_7 : gb_FL "GladBasket$Fraction" 7 2 0 false (.long) := ⟨RX2, TX2, 2, tyX2, gb_cl2, by decide, (gb_t1 _ (List.mem_of_getElem? (i := 235) rfl)), rfl, rfl, rfl⟩
theorem f_X2_13 : gb_FL "GladBasket$Fraction" 13 2 1 false (.long) := ⟨RX2, TX2, 2, tyX2, gb_cl2, by decide, (gb_t1 _ (List.mem_of_getElem? (i := 236) rfl)), rfl, rfl, rfl⟩
theorem m_X2_16 : gb_LS "GladBasket$Fraction" 16 M_J9_abs_067f4 1 := ⟨(gb_t4 _ (List.mem_of_getElem? (i := 201) rfl)), wt_J9_abs_067f4, wn_J9, wc_J9_abs_067f4, ⟨by decide, by decide⟩, by decide +kernel, by decide⟩
theorem m_X2_22 : gb_LS "GladBasket$Fraction" 22 M_X2_commonDivisor 2 := ⟨(gb_t4 _ (List.mem_of_getElem? (i := 204) rfl)), wt_X2_commonDivisor, wn_X2, wc_X2_commonDivisor, ⟨by decide, by decide⟩, by decide +kernel, by decide⟩
theorem m_X2_28 : gb_LV "GladBasket$Fraction" 28 M_X2_put 2 := ⟨(gb_t4 _ (List.mem_of_getElem? (i := 212) rfl)), wi_X2_put, ws_X2_put, wn_X2, wc_X2_put, ⟨by decide, by decide⟩, by decide +kernel, by decide⟩
theorem k_X2_26 : Cond.constantLong "GladBasket$Fraction" 26 (-1) ∈ lw_tbl := (gb_t4 _ (List.mem_of_getElem? (i := 207) rfl))
theorem f_X3_9 : gb_FL "GladBasket$History" 9 3 0 false (.int) := ⟨RX3, TX3, 5, tyX3, gb_cl3, by decide, (gb_t1 _ (List.mem_of_getElem? (i := 91) rfl)), rfl, rfl, rfl⟩
theorem f_X3_15 : gb_FL "GladBasket$History" 15 3 1 true (.array .int) := ⟨RX3, TX3, 5, tyX3, gb_cl3, by decide, (gb_t1 _ (List.mem_of_getElem? (i := 93) rfl)), rfl, rfl, rfl⟩
theorem f_X3_19 : gb_FL "GladBasket$History" 19 3 2 true (.array .int) := ⟨RX3, TX3, 5, tyX3, gb_cl3, by decide, (gb_t1 _ (List.mem_of_getElem? (i := 94) rfl)), rfl, rfl, rfl⟩
theorem f_X3_22 : gb_FL "GladBasket$History" 22 3 3 true (.array .int) := ⟨RX3, TX3, 5, tyX3, gb_cl3, by decide, (gb_t1 _ (List.mem_of_getElem? (i := 95) rfl)), rfl, rfl, rfl⟩
theorem f_X3_25 : gb_FL "GladBasket$History" 25 3 4 true (.array .int) := ⟨RX3, TX3, 5, tyX3, gb_cl3, by decide, (gb_t1 _ (List.mem_of_getElem? (i := 96) rfl)), rfl, rfl, rfl⟩
theorem f_X3_52 : gb_FL "GladBasket$History" 52 0 0 false (.int) := ⟨RX0, TX0, 10, tyX0, gb_cl0, by decide, (gb_t1 _ (List.mem_of_getElem? (i := 41) rfl)), rfl, rfl, rfl⟩
theorem f_X3_54 : gb_FL "GladBasket$History" 54 0 6 true (.array .int) := ⟨RX0, TX0, 10, tyX0, gb_cl0, by decide, (gb_t1 _ (List.mem_of_getElem? (i := 55) rfl)), rfl, rfl, rfl⟩
theorem m_X3_43 : gb_LS "GladBasket$History" 43 M_J9_max_7cf53 2 := ⟨(gb_t4 _ (List.mem_of_getElem? (i := 182) rfl)), wt_J9_max_7cf53, wn_J9, wc_J9_max_7cf53, ⟨by decide, by decide⟩, by decide +kernel, by decide⟩
theorem m_X3_34 : gb_LV "GladBasket$History" 34 M_X3_dropOldest 0 := ⟨(gb_t4 _ (List.mem_of_getElem? (i := 121) rfl)), wi_X3_dropOldest, ws_X3_dropOldest, wn_X3, wc_X3_dropOldest, ⟨by decide, by decide⟩, by decide +kernel, by decide⟩
theorem m_X3_37 : gb_LV "GladBasket$History" 37 M_X0_read 2 := ⟨(gb_t4 _ (List.mem_of_getElem? (i := 125) rfl)), wi_X0_read, ws_X0_read, wn_X0, wc_X0_read, ⟨by decide, by decide⟩, by decide +kernel, by decide⟩
theorem m_X3_48 : gb_LV "GladBasket$History" 48 M_X0_write 3 := ⟨(gb_t4 _ (List.mem_of_getElem? (i := 183) rfl)), wi_X0_write, ws_X0_write, wn_X0, wc_X0_write, ⟨by decide, by decide⟩, by decide +kernel, by decide⟩
theorem f_X4_9 : gb_FL "GladBasket$Judge" 9 4 1 true (.array .int) := ⟨RX4, TX4, 3, tyX4, gb_cl4, by decide, (gb_t1 _ (List.mem_of_getElem? (i := 214) rfl)), rfl, rfl, rfl⟩
theorem f_X4_15 : gb_FL "GladBasket$Judge" 15 4 2 true (.array .int) := ⟨RX4, TX4, 3, tyX4, gb_cl4, by decide, (gb_t1 _ (List.mem_of_getElem? (i := 215) rfl)), rfl, rfl, rfl⟩
theorem f_X4_18 : gb_FL "GladBasket$Judge" 18 4 0 true (.object "GladBasket$Machine") := ⟨RX4, TX4, 3, tyX4, gb_cl4, by decide, (gb_t1 _ (List.mem_of_getElem? (i := 213) rfl)), rfl, rfl, rfl⟩
theorem f_X4_27 : gb_FL "GladBasket$Judge" 27 7 3 false (.int) := ⟨RX7, TX7, 8, tyX7, gb_cl7, by decide, (gb_t1 _ (List.mem_of_getElem? (i := 152) rfl)), rfl, rfl, rfl⟩
theorem f_X4_33 : gb_FL "GladBasket$Judge" 33 7 4 true (.array .int) := ⟨RX7, TX7, 8, tyX7, gb_cl7, by decide, (gb_t1 _ (List.mem_of_getElem? (i := 156) rfl)), rfl, rfl, rfl⟩
theorem f_X4_56 : gb_FL "GladBasket$Judge" 56 0 6 true (.array .int) := ⟨RX0, TX0, 10, tyX0, gb_cl0, by decide, (gb_t1 _ (List.mem_of_getElem? (i := 54) rfl)), rfl, rfl, rfl⟩
theorem m_X4_42 : gb_LSN "GladBasket$Judge" 42 M_X10_nearest 3 := ⟨⟨_, (gb_t2 _ (List.mem_of_getElem? (a := Cond.methodLinkNest "GladBasket$Judge" 42 M_X10_nearest.1 "GladBasket") (i := 223) rfl))⟩, wt_X10_nearest, wn_X10, wc_X10_nearest, ⟨by decide, by decide⟩, by decide +kernel, by decide⟩
theorem m_X4_23 : gb_LV "GladBasket$Judge" 23 M_X4_fillWords 2 := ⟨(gb_t2 _ (List.mem_of_getElem? (i := 204) rfl)), wi_X4_fillWords, ws_X4_fillWords, wn_X4, wc_X4_fillWords, ⟨by decide, by decide⟩, by decide +kernel, by decide⟩
theorem m_X4_36 : gb_LV "GladBasket$Judge" 36 M_X5_run 4 := ⟨(gb_t2 _ (List.mem_of_getElem? (i := 209) rfl)), wi_X5_run, ws_X5_run, wn_X5, wc_X5_run, ⟨by decide, by decide⟩, by decide +kernel, by decide⟩
theorem m_X4_46 : gb_LV "GladBasket$Judge" 46 M_X0_sourceOf 1 := ⟨(gb_t2 _ (List.mem_of_getElem? (i := 228) rfl)), wi_X0_sourceOf, ws_X0_sourceOf, wn_X0, wc_X0_sourceOf, ⟨by decide, by decide⟩, by decide +kernel, by decide⟩
theorem m_X4_52 : gb_LV "GladBasket$Judge" 52 M_X0_read 2 := ⟨(gb_t2 _ (List.mem_of_getElem? (i := 208) rfl)), wi_X0_read, ws_X0_read, wn_X0, wc_X0_read, ⟨by decide, by decide⟩, by decide +kernel, by decide⟩
theorem m_X4_59 : gb_LV "GladBasket$Judge" 59 M_X0_lawInForce 0 := ⟨(gb_t4 _ (List.mem_of_getElem? (i := 138) rfl)), wi_X0_lawInForce, ws_X0_lawInForce, wn_X0, wc_X0_lawInForce, ⟨by decide, by decide⟩, by decide +kernel, by decide⟩
theorem m_X4_63 : gb_LV "GladBasket$Judge" 63 M_X0_has 1 := ⟨(gb_t4 _ (List.mem_of_getElem? (i := 139) rfl)), wi_X0_has, ws_X0_has, wn_X0, wc_X0_has, ⟨by decide, by decide⟩, by decide +kernel, by decide⟩
theorem m_X4_67 : gb_LV "GladBasket$Judge" 67 M_X4_tell 4 := ⟨(gb_t4 _ (List.mem_of_getElem? (i := 140) rfl)), wi_X4_tell, ws_X4_tell, wn_X4, wc_X4_tell, ⟨by decide, by decide⟩, by decide +kernel, by decide⟩
theorem m_X4_71 : gb_LV "GladBasket$Judge" 71 M_X0_write 3 := ⟨(gb_t4 _ (List.mem_of_getElem? (i := 141) rfl)), wi_X0_write, ws_X0_write, wn_X0, wc_X0_write, ⟨by decide, by decide⟩, by decide +kernel, by decide⟩
theorem k_X4_22 : Cond.constant "GladBasket$Judge" 22 (-2147483648) ∈ lw_tbl := (gb_t2 _ (List.mem_of_getElem? (i := 203) rfl))
theorem f_X5_9 : gb_FL "GladBasket$Machine" 9 5 0 true (.array .int) := ⟨RX5, TX5, 1, tyX5, gb_cl5, by decide, (gb_t1 _ (List.mem_of_getElem? (i := 203) rfl)), rfl, rfl, rfl⟩
theorem f_X5_15 : gb_FL "GladBasket$Machine" 15 7 6 true (.array .int) := ⟨RX7, TX7, 8, tyX7, gb_cl7, by decide, (gb_t1 _ (List.mem_of_getElem? (i := 162) rfl)), rfl, rfl, rfl⟩
theorem f_X5_21 : gb_FL "GladBasket$Machine" 21 7 0 false (.int) := ⟨RX7, TX7, 8, tyX7, gb_cl7, by decide, (gb_t1 _ (List.mem_of_getElem? (i := 146) rfl)), rfl, rfl, rfl⟩
theorem f_X5_31 : gb_FL "GladBasket$Machine" 31 7 1 true (.array .int) := ⟨RX7, TX7, 8, tyX7, gb_cl7, by decide, (gb_t1 _ (List.mem_of_getElem? (i := 148) rfl)), rfl, rfl, rfl⟩
theorem f_X5_34 : gb_FL "GladBasket$Machine" 34 7 2 true (.array .int) := ⟨RX7, TX7, 8, tyX7, gb_cl7, by decide, (gb_t1 _ (List.mem_of_getElem? (i := 150) rfl)), rfl, rfl, rfl⟩
theorem m_X5_25 : gb_LS "GladBasket$Machine" 25 M_J9_min_7cf53 2 := ⟨(gb_t2 _ (List.mem_of_getElem? (i := 214) rfl)), wt_J9_min_7cf53, wn_J9, wc_J9_min_7cf53, ⟨by decide, by decide⟩, by decide +kernel, by decide⟩
theorem m_X5_37 : gb_LS "GladBasket$Machine" 37 M_J9_max_7cf53 2 := ⟨(gb_t2 _ (List.mem_of_getElem? (i := 215) rfl)), wt_J9_max_7cf53, wn_J9, wc_J9_max_7cf53, ⟨by decide, by decide⟩, by decide +kernel, by decide⟩
theorem m_X5_40 : gb_LS "GladBasket$Machine" 40 M_X5_join 3 := ⟨(gb_t2 _ (List.mem_of_getElem? (i := 218) rfl)), wt_X5_join, wn_X5, wc_X5_join, ⟨by decide, by decide⟩, by decide +kernel, by decide⟩
theorem k_X5_20 : Cond.constant "GladBasket$Machine" 20 (-2147483648) ∈ lw_tbl := (gb_t2 _ (List.mem_of_getElem? (i := 213) rfl))
theorem k_X5_44 : Cond.constantLong "GladBasket$Machine" 44 (1000000000) ∈ lw_tbl := (gb_t2 _ (List.mem_of_getElem? (i := 221) rfl))
theorem k_X5_46 : Cond.constantLong "GladBasket$Machine" 46 (-1000000000) ∈ lw_tbl := (gb_t2 _ (List.mem_of_getElem? (i := 222) rfl))
theorem f_X6_11 : gb_FL "GladBasket$Paper" 11 6 2 true (.array .int) := ⟨RX6, TX6, 15, tyX6, gb_cl6, by decide, (gb_t2 _ (List.mem_of_getElem? (i := 36) rfl)), rfl, rfl, rfl⟩
theorem f_X6_15 : gb_FL "GladBasket$Paper" 15 6 3 true (.array .int) := ⟨RX6, TX6, 15, tyX6, gb_cl6, by decide, (gb_t2 _ (List.mem_of_getElem? (i := 37) rfl)), rfl, rfl, rfl⟩
theorem f_X6_18 : gb_FL "GladBasket$Paper" 18 6 4 true (.array .int) := ⟨RX6, TX6, 15, tyX6, gb_cl6, by decide, (gb_t2 _ (List.mem_of_getElem? (i := 38) rfl)), rfl, rfl, rfl⟩
theorem f_X6_21 : gb_FL "GladBasket$Paper" 21 6 5 true (.array .int) := ⟨RX6, TX6, 15, tyX6, gb_cl6, by decide, (gb_t2 _ (List.mem_of_getElem? (i := 39) rfl)), rfl, rfl, rfl⟩
theorem f_X6_24 : gb_FL "GladBasket$Paper" 24 6 6 true (.array .int) := ⟨RX6, TX6, 15, tyX6, gb_cl6, by decide, (gb_t2 _ (List.mem_of_getElem? (i := 40) rfl)), rfl, rfl, rfl⟩
theorem f_X6_27 : gb_FL "GladBasket$Paper" 27 6 7 true (.array .int) := ⟨RX6, TX6, 15, tyX6, gb_cl6, by decide, (gb_t2 _ (List.mem_of_getElem? (i := 41) rfl)), rfl, rfl, rfl⟩
theorem f_X6_30 : gb_FL "GladBasket$Paper" 30 6 8 true (.array .int) := ⟨RX6, TX6, 15, tyX6, gb_cl6, by decide, (gb_t2 _ (List.mem_of_getElem? (i := 42) rfl)), rfl, rfl, rfl⟩
theorem f_X6_33 : gb_FL "GladBasket$Paper" 33 6 9 true (.array .int) := ⟨RX6, TX6, 15, tyX6, gb_cl6, by decide, (gb_t2 _ (List.mem_of_getElem? (i := 43) rfl)), rfl, rfl, rfl⟩
theorem f_X6_36 : gb_FL "GladBasket$Paper" 36 6 10 false (.int) := ⟨RX6, TX6, 15, tyX6, gb_cl6, by decide, (gb_t2 _ (List.mem_of_getElem? (i := 44) rfl)), rfl, rfl, rfl⟩
theorem f_X6_40 : gb_FL "GladBasket$Paper" 40 6 11 true (.array .int) := ⟨RX6, TX6, 15, tyX6, gb_cl6, by decide, (gb_t2 _ (List.mem_of_getElem? (i := 45) rfl)), rfl, rfl, rfl⟩
theorem f_X6_43 : gb_FL "GladBasket$Paper" 43 6 12 false (.int) := ⟨RX6, TX6, 15, tyX6, gb_cl6, by decide, (gb_t2 _ (List.mem_of_getElem? (i := 46) rfl)), rfl, rfl, rfl⟩
theorem f_X6_46 : gb_FL "GladBasket$Paper" 46 6 13 true (.array .long) := ⟨RX6, TX6, 15, tyX6, gb_cl6, by decide, (gb_t2 _ (List.mem_of_getElem? (i := 47) rfl)), rfl, rfl, rfl⟩
theorem f_X6_53 : gb_FL "GladBasket$Paper" 53 6 14 true (.object "GladBasket$Fraction") := ⟨RX6, TX6, 15, tyX6, gb_cl6, by decide, (gb_t2 _ (List.mem_of_getElem? (i := 48) rfl)), rfl, rfl, rfl⟩
theorem f_X6_57 : gb_FL "GladBasket$Paper" 57 6 0 true (.object "GladBasket$Judge") := ⟨RX6, TX6, 15, tyX6, gb_cl6, by decide, (gb_t2 _ (List.mem_of_getElem? (i := 34) rfl)), rfl, rfl, rfl⟩
theorem f_X6_61 : gb_FL "GladBasket$Paper" 61 6 1 true (.object "GladBasket$Figures") := ⟨RX6, TX6, 15, tyX6, gb_cl6, by decide, (gb_t2 _ (List.mem_of_getElem? (i := 35) rfl)), rfl, rfl, rfl⟩
theorem f_X6_71 : gb_FL "GladBasket$Paper" 71 0 0 false (.int) := ⟨RX0, TX0, 10, tyX0, gb_cl0, by decide, (gb_t1 _ (List.mem_of_getElem? (i := 39) rfl)), rfl, rfl, rfl⟩
theorem f_X6_131 : gb_FL "GladBasket$Paper" 131 1 4 true (.array .int) := ⟨RX1, TX1, 7, tyX1, gb_cl1, by decide, (gb_t2 _ (List.mem_of_getElem? (i := 7) rfl)), rfl, rfl, rfl⟩
theorem f_X6_144 : gb_FL "GladBasket$Paper" 144 0 4 false (.int) := ⟨RX0, TX0, 10, tyX0, gb_cl0, by decide, (gb_t1 _ (List.mem_of_getElem? (i := 48) rfl)), rfl, rfl, rfl⟩
theorem f_X6_155 : gb_FL "GladBasket$Paper" 155 0 5 true (.array .int) := ⟨RX0, TX0, 10, tyX0, gb_cl0, by decide, (gb_t1 _ (List.mem_of_getElem? (i := 51) rfl)), rfl, rfl, rfl⟩
theorem m_X6_52 : gb_LIN "GladBasket$Paper" 52 M_X2_init 0 := ⟨⟨_, (gb_t2 _ (List.mem_of_getElem? (a := Cond.methodLinkNest "GladBasket$Paper" 52 M_X2_init.1 "GladBasket") (i := 33) rfl))⟩, wi_X2_init, rfl, rfl, wn_X2, wc_X2_init, ⟨by decide, by decide⟩, by decide +kernel, by decide⟩
theorem m_X6_92 : gb_LS "GladBasket$Paper" 92 M_J9_min_7cf53 2 := ⟨(gb_t5 _ (List.mem_of_getElem? (i := 21) rfl)), wt_J9_min_7cf53, wn_J9, wc_J9_min_7cf53, ⟨by decide, by decide⟩, by decide +kernel, by decide⟩
theorem m_X6_97 : gb_LSN "GladBasket$Paper" 97 M_X10_nearest 3 := ⟨⟨_, (gb_t5 _ (List.mem_of_getElem? (a := Cond.methodLinkNest "GladBasket$Paper" 97 M_X10_nearest.1 "GladBasket") (i := 22) rfl))⟩, wt_X10_nearest, wn_X10, wc_X10_nearest, ⟨by decide, by decide⟩, by decide +kernel, by decide⟩
theorem m_X6_108 : gb_LS "GladBasket$Paper" 108 M_J9_max_7cf53 2 := ⟨(gb_t5 _ (List.mem_of_getElem? (i := 32) rfl)), wt_J9_max_7cf53, wn_J9, wc_J9_max_7cf53, ⟨by decide, by decide⟩, by decide +kernel, by decide⟩
theorem m_X6_111 : gb_LSN "GladBasket$Paper" 111 M_X10_within 3 := ⟨⟨_, (gb_t5 _ (List.mem_of_getElem? (a := Cond.methodLinkNest "GladBasket$Paper" 111 M_X10_within.1 "GladBasket") (i := 37) rfl))⟩, wt_X10_within, wn_X10, wc_X10_within, ⟨by decide, by decide⟩, by decide +kernel, by decide⟩
theorem m_X6_138 : gb_LS "GladBasket$Paper" 138 M_X6_stepsBetween 2 := ⟨(gb_t5 _ (List.mem_of_getElem? (i := 57) rfl)), wt_X6_stepsBetween, wn_X6, wc_X6_stepsBetween, ⟨by decide, by decide⟩, by decide +kernel, by decide⟩
theorem m_X6_141 : gb_LS "GladBasket$Paper" 141 M_J9_abs_0f7a4 1 := ⟨(gb_t5 _ (List.mem_of_getElem? (i := 60) rfl)), wt_J9_abs_0f7a4, wn_J9, wc_J9_abs_0f7a4, ⟨by decide, by decide⟩, by decide +kernel, by decide⟩
theorem m_X6_147 : gb_LS "GladBasket$Paper" 147 M_X6_sumOfMonths 3 := ⟨(gb_t5 _ (List.mem_of_getElem? (i := 108) rfl)), wt_X6_sumOfMonths, wn_X6, wc_X6_sumOfMonths, ⟨by decide, by decide⟩, by decide +kernel, by decide⟩
theorem m_X6_158 : gb_LS "GladBasket$Paper" 158 M_J7_fill_d0a16 2 := ⟨(gb_t5 _ (List.mem_of_getElem? (i := 137) rfl)), wt_J7_fill_d0a16, wn_J7, wc_J7_fill_d0a16, ⟨by decide, by decide⟩, by decide +kernel, by decide⟩
theorem m_X6_65 : gb_LV "GladBasket$Paper" 65 M_X0_lawInForce 0 := ⟨(gb_t5 _ (List.mem_of_getElem? (i := 14) rfl)), wi_X0_lawInForce, ws_X0_lawInForce, wn_X0, wc_X0_lawInForce, ⟨by decide, by decide⟩, by decide +kernel, by decide⟩
theorem m_X6_74 : gb_LV "GladBasket$Paper" 74 M_X0_read 2 := ⟨(gb_t5 _ (List.mem_of_getElem? (i := 15) rfl)), wi_X0_read, ws_X0_read, wn_X0, wc_X0_read, ⟨by decide, by decide⟩, by decide +kernel, by decide⟩
theorem m_X6_78 : gb_LV "GladBasket$Paper" 78 M_X4_tell 4 := ⟨(gb_t5 _ (List.mem_of_getElem? (i := 16) rfl)), wi_X4_tell, ws_X4_tell, wn_X4, wc_X4_tell, ⟨by decide, by decide⟩, by decide +kernel, by decide⟩
theorem m_X6_84 : gb_LV "GladBasket$Paper" 84 M_X0_lacks 1 := ⟨(gb_t5 _ (List.mem_of_getElem? (i := 17) rfl)), wi_X0_lacks, ws_X0_lacks, wn_X0, wc_X0_lacks, ⟨by decide, by decide⟩, by decide +kernel, by decide⟩
theorem m_X6_88 : gb_LV "GladBasket$Paper" 88 M_X6_loadWares 1 := ⟨(gb_t5 _ (List.mem_of_getElem? (i := 10) rfl)), wi_X6_loadWares, ws_X6_loadWares, wn_X6, wc_X6_loadWares, ⟨by decide, by decide⟩, by decide +kernel, by decide⟩
theorem m_X6_102 : gb_LV "GladBasket$Paper" 102 M_X6_bestAmount 2 := ⟨(gb_t5 _ (List.mem_of_getElem? (i := 24) rfl)), wi_X6_bestAmount, ws_X6_bestAmount, wn_X6, wc_X6_bestAmount, ⟨by decide, by decide⟩, by decide +kernel, by decide⟩
theorem m_X6_105 : gb_LV "GladBasket$Paper" 105 M_X6_costWith 3 := ⟨(gb_t5 _ (List.mem_of_getElem? (i := 28) rfl)), wi_X6_costWith, ws_X6_costWith, wn_X6, wc_X6_costWith, ⟨by decide, by decide⟩, by decide +kernel, by decide⟩
theorem m_X6_115 : gb_LV "GladBasket$Paper" 115 M_X6_loadPlaces 1 := ⟨(gb_t5 _ (List.mem_of_getElem? (i := 46) rfl)), wi_X6_loadPlaces, ws_X6_loadPlaces, wn_X6, wc_X6_loadPlaces, ⟨by decide, by decide⟩, by decide +kernel, by decide⟩
theorem m_X6_119 : gb_LV "GladBasket$Paper" 119 M_X6_shortest 2 := ⟨(gb_t5 _ (List.mem_of_getElem? (i := 53) rfl)), wi_X6_shortest, ws_X6_shortest, wn_X6, wc_X6_shortest, ⟨by decide, by decide⟩, by decide +kernel, by decide⟩
theorem m_X6_122 : gb_LV "GladBasket$Paper" 122 M_X1_load 2 := ⟨(gb_t5 _ (List.mem_of_getElem? (i := 50) rfl)), wi_X1_load, ws_X1_load, wn_X1, wc_X1_load, ⟨by decide, by decide⟩, by decide +kernel, by decide⟩
theorem m_X6_128 : gb_LV "GladBasket$Paper" 128 M_X0_has 1 := ⟨(gb_t5 _ (List.mem_of_getElem? (i := 51) rfl)), wi_X0_has, ws_X0_has, wn_X0, wc_X0_has, ⟨by decide, by decide⟩, by decide +kernel, by decide⟩
theorem m_X6_134 : gb_LV "GladBasket$Paper" 134 M_X0_sourceOf 1 := ⟨(gb_t5 _ (List.mem_of_getElem? (i := 52) rfl)), wi_X0_sourceOf, ws_X0_sourceOf, wn_X0, wc_X0_sourceOf, ⟨by decide, by decide⟩, by decide +kernel, by decide⟩
theorem m_X6_151 : gb_LV "GladBasket$Paper" 151 M_X2_put 2 := ⟨(gb_t5 _ (List.mem_of_getElem? (i := 111) rfl)), wi_X2_put, ws_X2_put, wn_X2, wc_X2_put, ⟨by decide, by decide⟩, by decide +kernel, by decide⟩
theorem k_X6_101 : Cond.constant "GladBasket$Paper" 101 (1000000) ∈ lw_tbl := (gb_t5 _ (List.mem_of_getElem? (i := 23) rfl))
theorem k_X6_164 : Cond.constantLong "GladBasket$Paper" 164 (1000000000000) ∈ lw_tbl := (gb_t5 _ (List.mem_of_getElem? (i := 140) rfl))
theorem k_X6_166 : Cond.constantLong "GladBasket$Paper" 166 (10) ∈ lw_tbl := (gb_t5 _ (List.mem_of_getElem? (i := 141) rfl))
theorem n_X6_50 : gb_NW "GladBasket$Paper" 50 2 2 [1, 1] := ⟨RX2, TX2, tyX2, gb_cl2, (gb_t2 _ (List.mem_of_getElem? (i := 32) rfl)), (gb_t1 _ (List.mem_of_getElem? (i := 230) rfl)), wn_X2, by decide +kernel, by decide⟩
theorem f_X7_9 : gb_FL "GladBasket$Program" 9 7 0 false (.int) := ⟨RX7, TX7, 8, tyX7, gb_cl7, by decide, (gb_t1 _ (List.mem_of_getElem? (i := 145) rfl)), rfl, rfl, rfl⟩
theorem f_X7_15 : gb_FL "GladBasket$Program" 15 7 3 false (.int) := ⟨RX7, TX7, 8, tyX7, gb_cl7, by decide, (gb_t1 _ (List.mem_of_getElem? (i := 151) rfl)), rfl, rfl, rfl⟩
theorem f_X7_18 : gb_FL "GladBasket$Program" 18 7 7 false (.boolean) := ⟨RX7, TX7, 8, tyX7, gb_cl7, by decide, (gb_t1 _ (List.mem_of_getElem? (i := 163) rfl)), rfl, rfl, rfl⟩
theorem f_X7_22 : gb_FL "GladBasket$Program" 22 7 1 true (.array .int) := ⟨RX7, TX7, 8, tyX7, gb_cl7, by decide, (gb_t1 _ (List.mem_of_getElem? (i := 147) rfl)), rfl, rfl, rfl⟩
theorem f_X7_26 : gb_FL "GladBasket$Program" 26 7 2 true (.array .int) := ⟨RX7, TX7, 8, tyX7, gb_cl7, by decide, (gb_t1 _ (List.mem_of_getElem? (i := 149) rfl)), rfl, rfl, rfl⟩
theorem f_X7_29 : gb_FL "GladBasket$Program" 29 7 4 true (.array .int) := ⟨RX7, TX7, 8, tyX7, gb_cl7, by decide, (gb_t1 _ (List.mem_of_getElem? (i := 155) rfl)), rfl, rfl, rfl⟩
theorem f_X7_32 : gb_FL "GladBasket$Program" 32 7 5 true (.array .int) := ⟨RX7, TX7, 8, tyX7, gb_cl7, by decide, (gb_t1 _ (List.mem_of_getElem? (i := 158) rfl)), rfl, rfl, rfl⟩
theorem f_X7_35 : gb_FL "GladBasket$Program" 35 7 6 true (.array .int) := ⟨RX7, TX7, 8, tyX7, gb_cl7, by decide, (gb_t1 _ (List.mem_of_getElem? (i := 161) rfl)), rfl, rfl, rfl⟩
theorem m_X7_38 : gb_LSN "GladBasket$Program" 38 M_X10_nearest 3 := ⟨⟨_, (gb_t4 _ (List.mem_of_getElem? (a := Cond.methodLinkNest "GladBasket$Program" 38 M_X10_nearest.1 "GladBasket") (i := 41) rfl))⟩, wt_X10_nearest, wn_X10, wc_X10_nearest, ⟨by decide, by decide⟩, by decide +kernel, by decide⟩
theorem m_X7_42 : gb_LS "GladBasket$Program" 42 M_J7_copyOf_59c91 2 := ⟨(gb_t4 _ (List.mem_of_getElem? (i := 42) rfl)), wt_J7_copyOf_59c91, wn_J7, wc_J7_copyOf_59c91, ⟨by decide, by decide⟩, by decide +kernel, by decide⟩
theorem m_X7_48 : gb_LSN "GladBasket$Program" 48 M_X10_within 3 := ⟨⟨_, (gb_t4 _ (List.mem_of_getElem? (a := Cond.methodLinkNest "GladBasket$Program" 48 M_X10_within.1 "GladBasket") (i := 4) rfl))⟩, wt_X10_within, wn_X10, wc_X10_within, ⟨by decide, by decide⟩, by decide +kernel, by decide⟩
theorem f_X8_12 : gb_FL "GladBasket$Reader" 12 8 1 true (.object "GladBasket$Program") := ⟨RX8, TX8, 4, tyX8, gb_cl8, by decide, (gb_t1 _ (List.mem_of_getElem? (i := 184) rfl)), rfl, rfl, rfl⟩
theorem f_X8_18 : gb_FL "GladBasket$Reader" 18 8 2 false (.boolean) := ⟨RX8, TX8, 4, tyX8, gb_cl8, by decide, (gb_t1 _ (List.mem_of_getElem? (i := 186) rfl)), rfl, rfl, rfl⟩
theorem f_X8_22 : gb_FL "GladBasket$Reader" 22 8 3 false (.int) := ⟨RX8, TX8, 4, tyX8, gb_cl8, by decide, (gb_t1 _ (List.mem_of_getElem? (i := 187) rfl)), rfl, rfl, rfl⟩
theorem f_X8_26 : gb_FL "GladBasket$Reader" 26 8 0 true (.object "GladBasket$Tape") := ⟨RX8, TX8, 4, tyX8, gb_cl8, by decide, (gb_t1 _ (List.mem_of_getElem? (i := 183) rfl)), rfl, rfl, rfl⟩
theorem f_X8_49 : gb_FL "GladBasket$Reader" 49 9 2 false (.int) := ⟨RX9, TX9, 5, tyX9, gb_cl9, by decide, (gb_t1 _ (List.mem_of_getElem? (i := 119) rfl)), rfl, rfl, rfl⟩
theorem f_X8_92 : gb_FL "GladBasket$Reader" 92 7 3 false (.int) := ⟨RX7, TX7, 8, tyX7, gb_cl7, by decide, (gb_t1 _ (List.mem_of_getElem? (i := 153) rfl)), rfl, rfl, rfl⟩
theorem f_X8_106 : gb_FL "GladBasket$Reader" 106 7 5 true (.array .int) := ⟨RX7, TX7, 8, tyX7, gb_cl7, by decide, (gb_t1 _ (List.mem_of_getElem? (i := 159) rfl)), rfl, rfl, rfl⟩
theorem f_X8_156 : gb_FL "GladBasket$Reader" 156 7 7 false (.boolean) := ⟨RX7, TX7, 8, tyX7, gb_cl7, by decide, (gb_t1 _ (List.mem_of_getElem? (i := 164) rfl)), rfl, rfl, rfl⟩
theorem m_X8_11 : gb_LI "GladBasket$Reader" 11 M_X7_init 0 := ⟨(gb_t1 _ (List.mem_of_getElem? (i := 141) rfl)), wi_X7_init, rfl, rfl, wn_X7, wc_X7_init, ⟨by decide, by decide⟩, by decide +kernel, by decide⟩
theorem m_X8_102 : gb_LSN "GladBasket$Reader" 102 M_X10_within 3 := ⟨⟨_, (gb_t3 _ (List.mem_of_getElem? (a := Cond.methodLinkNest "GladBasket$Reader" 102 M_X10_within.1 "GladBasket") (i := 174) rfl))⟩, wt_X10_within, wn_X10, wc_X10_within, ⟨by decide, by decide⟩, by decide +kernel, by decide⟩
theorem m_X8_30 : gb_LV "GladBasket$Reader" 30 M_X7_clear 0 := ⟨(gb_t3 _ (List.mem_of_getElem? (i := 52) rfl)), wi_X7_clear, ws_X7_clear, wn_X7, wc_X7_clear, ⟨by decide, by decide⟩, by decide +kernel, by decide⟩
theorem m_X8_33 : gb_LV "GladBasket$Reader" 33 M_X9_rewind 0 := ⟨(gb_t3 _ (List.mem_of_getElem? (i := 56) rfl)), wi_X9_rewind, ws_X9_rewind, wn_X9, wc_X9_rewind, ⟨by decide, by decide⟩, by decide +kernel, by decide⟩
theorem m_X8_38 : gb_LV "GladBasket$Reader" 38 M_X8_readClause 0 := ⟨(gb_t3 _ (List.mem_of_getElem? (i := 69) rfl)), wi_X8_readClause, ws_X8_readClause, wn_X8, wc_X8_readClause, ⟨by decide, by decide⟩, by decide +kernel, by decide⟩
theorem m_X8_42 : gb_LV "GladBasket$Reader" 42 M_X8_readSign 1 := ⟨(gb_t3 _ (List.mem_of_getElem? (i := 148) rfl)), wi_X8_readSign, ws_X8_readSign, wn_X8, wc_X8_readSign, ⟨by decide, by decide⟩, by decide +kernel, by decide⟩
theorem m_X8_46 : gb_LV "GladBasket$Reader" 46 M_X9_ended 0 := ⟨(gb_t4 _ (List.mem_of_getElem? (i := 36) rfl)), wi_X9_ended, ws_X9_ended, wn_X9, wc_X9_ended, ⟨by decide, by decide⟩, by decide +kernel, by decide⟩
theorem m_X8_59 : gb_LV "GladBasket$Reader" 59 M_X9_wordIn 1 := ⟨(gb_t3 _ (List.mem_of_getElem? (i := 75) rfl)), wi_X9_wordIn, ws_X9_wordIn, wn_X9, wc_X9_wordIn, ⟨by decide, by decide⟩, by decide +kernel, by decide⟩
theorem m_X8_63 : gb_LV "GladBasket$Reader" 63 M_X9_step 0 := ⟨(gb_t3 _ (List.mem_of_getElem? (i := 127) rfl)), wi_X9_step, ws_X9_step, wn_X9, wc_X9_step, ⟨by decide, by decide⟩, by decide +kernel, by decide⟩
theorem m_X8_66 : gb_LV "GladBasket$Reader" 66 M_X7_beginClause 1 := ⟨(gb_t3 _ (List.mem_of_getElem? (i := 128) rfl)), wi_X7_beginClause, ws_X7_beginClause, wn_X7, wc_X7_beginClause, ⟨by decide, by decide⟩, by decide +kernel, by decide⟩
theorem m_X8_70 : gb_LV "GladBasket$Reader" 70 M_X8_readSum 1 := ⟨(gb_t3 _ (List.mem_of_getElem? (i := 132) rfl)), wi_X8_readSum, ws_X8_readSum, wn_X8, wc_X8_readSum, ⟨by decide, by decide⟩, by decide +kernel, by decide⟩
theorem m_X8_73 : gb_LV "GladBasket$Reader" 73 M_X7_endPiece 1 := ⟨(gb_t4 _ (List.mem_of_getElem? (i := 0) rfl)), wi_X7_endPiece, ws_X7_endPiece, wn_X7, wc_X7_endPiece, ⟨by decide, by decide⟩, by decide +kernel, by decide⟩
theorem m_X8_78 : gb_LV "GladBasket$Reader" 78 M_X8_readKeyword 1 := ⟨(gb_t4 _ (List.mem_of_getElem? (i := 6) rfl)), wi_X8_readKeyword, ws_X8_readKeyword, wn_X8, wc_X8_readKeyword, ⟨by decide, by decide⟩, by decide +kernel, by decide⟩
theorem m_X8_84 : gb_LV "GladBasket$Reader" 84 M_X8_readTimes 0 := ⟨(gb_t4 _ (List.mem_of_getElem? (i := 11) rfl)), wi_X8_readTimes, ws_X8_readTimes, wn_X8, wc_X8_readTimes, ⟨by decide, by decide⟩, by decide +kernel, by decide⟩
theorem m_X8_89 : gb_LV "GladBasket$Reader" 89 M_X8_readTest 1 := ⟨(gb_t4 _ (List.mem_of_getElem? (i := 16) rfl)), wi_X8_readTest, ws_X8_readTest, wn_X8, wc_X8_readTest, ⟨by decide, by decide⟩, by decide +kernel, by decide⟩
theorem m_X8_95 : gb_LV "GladBasket$Reader" 95 M_X9_isSign 1 := ⟨(gb_t3 _ (List.mem_of_getElem? (i := 144) rfl)), wi_X9_isSign, ws_X9_isSign, wn_X9, wc_X9_isSign, ⟨by decide, by decide⟩, by decide +kernel, by decide⟩
theorem m_X8_98 : gb_LV "GladBasket$Reader" 98 M_X9_number 0 := ⟨(gb_t3 _ (List.mem_of_getElem? (i := 160) rfl)), wi_X9_number, ws_X9_number, wn_X9, wc_X9_number, ⟨by decide, by decide⟩, by decide +kernel, by decide⟩
theorem m_X8_109 : gb_LV "GladBasket$Reader" 109 M_X8_readBoth 1 := ⟨(gb_t4 _ (List.mem_of_getElem? (i := 20) rfl)), wi_X8_readBoth, ws_X8_readBoth, wn_X8, wc_X8_readBoth, ⟨by decide, by decide⟩, by decide +kernel, by decide⟩
theorem m_X8_114 : gb_LV "GladBasket$Reader" 114 M_X7_emit 2 := ⟨(gb_t3 _ (List.mem_of_getElem? (i := 164) rfl)), wi_X7_emit, ws_X7_emit, wn_X7, wc_X7_emit, ⟨by decide, by decide⟩, by decide +kernel, by decide⟩
theorem m_X8_118 : gb_LV "GladBasket$Reader" 118 M_X7_aimHere 1 := ⟨(gb_t4 _ (List.mem_of_getElem? (i := 31) rfl)), wi_X7_aimHere, ws_X7_aimHere, wn_X7, wc_X7_aimHere, ⟨by decide, by decide⟩, by decide +kernel, by decide⟩
theorem m_X8_121 : gb_LV "GladBasket$Reader" 121 M_X8_readPlain 1 := ⟨(gb_t4 _ (List.mem_of_getElem? (i := 24) rfl)), wi_X8_readPlain, ws_X8_readPlain, wn_X8, wc_X8_readPlain, ⟨by decide, by decide⟩, by decide +kernel, by decide⟩
theorem m_X8_130 : gb_LV "GladBasket$Reader" 130 M_X9_signIn 1 := ⟨(gb_t3 _ (List.mem_of_getElem? (i := 176) rfl)), wi_X9_signIn, ws_X9_signIn, wn_X9, wc_X9_signIn, ⟨by decide, by decide⟩, by decide +kernel, by decide⟩
theorem m_X8_133 : gb_LV "GladBasket$Reader" 133 M_X8_readTerm 1 := ⟨(gb_t3 _ (List.mem_of_getElem? (i := 136) rfl)), wi_X8_readTerm, ws_X8_readTerm, wn_X8, wc_X8_readTerm, ⟨by decide, by decide⟩, by decide +kernel, by decide⟩
theorem m_X8_138 : gb_LV "GladBasket$Reader" 138 M_X8_readPart 1 := ⟨(gb_t3 _ (List.mem_of_getElem? (i := 140) rfl)), wi_X8_readPart, ws_X8_readPart, wn_X8, wc_X8_readPart, ⟨by decide, by decide⟩, by decide +kernel, by decide⟩
theorem m_X8_143 : gb_LV "GladBasket$Reader" 143 M_X9_isNumber 0 := ⟨(gb_t3 _ (List.mem_of_getElem? (i := 152) rfl)), wi_X9_isNumber, ws_X9_isNumber, wn_X9, wc_X9_isNumber, ⟨by decide, by decide⟩, by decide +kernel, by decide⟩
theorem m_X8_146 : gb_LV "GladBasket$Reader" 146 M_X8_readNumber 0 := ⟨(gb_t3 _ (List.mem_of_getElem? (i := 156) rfl)), wi_X8_readNumber, ws_X8_readNumber, wn_X8, wc_X8_readNumber, ⟨by decide, by decide⟩, by decide +kernel, by decide⟩
theorem m_X8_149 : gb_LV "GladBasket$Reader" 149 M_X8_readWord 0 := ⟨(gb_t3 _ (List.mem_of_getElem? (i := 168) rfl)), wi_X8_readWord, ws_X8_readWord, wn_X8, wc_X8_readWord, ⟨by decide, by decide⟩, by decide +kernel, by decide⟩
theorem n_X8_9 : gb_NW "GladBasket$Reader" 9 7 8 [0, 2, 2, 0, 2, 2, 2, 0] := ⟨RX7, TX7, tyX7, gb_cl7, (gb_t1 _ (List.mem_of_getElem? (i := 139) rfl)), (gb_t1 _ (List.mem_of_getElem? (i := 140) rfl)), wn_X7, by decide +kernel, by decide⟩
theorem f_X8_52 : gb_FL "GladBasket$Reader" 52 9 1 false (.int) := ⟨RX9, TX9, 5, tyX9, gb_cl9, by decide, (gb_t1 _ (List.mem_of_getElem? (i := 116) rfl)), rfl, rfl, rfl⟩
theorem f_X9_9 : gb_FL "GladBasket$Tape" 9 9 0 true (.array .int) := ⟨RX9, TX9, 5, tyX9, gb_cl9, by decide, (gb_t1 _ (List.mem_of_getElem? (i := 114) rfl)), rfl, rfl, rfl⟩
theorem f_X9_15 : gb_FL "GladBasket$Tape" 15 9 1 false (.int) := ⟨RX9, TX9, 5, tyX9, gb_cl9, by decide, (gb_t1 _ (List.mem_of_getElem? (i := 115) rfl)), rfl, rfl, rfl⟩
theorem f_X9_19 : gb_FL "GladBasket$Tape" 19 9 2 false (.int) := ⟨RX9, TX9, 5, tyX9, gb_cl9, by decide, (gb_t1 _ (List.mem_of_getElem? (i := 118) rfl)), rfl, rfl, rfl⟩
theorem f_X9_22 : gb_FL "GladBasket$Tape" 22 9 3 false (.int) := ⟨RX9, TX9, 5, tyX9, gb_cl9, by decide, (gb_t1 _ (List.mem_of_getElem? (i := 120) rfl)), rfl, rfl, rfl⟩
theorem f_X9_25 : gb_FL "GladBasket$Tape" 25 9 4 false (.int) := ⟨RX9, TX9, 5, tyX9, gb_cl9, by decide, (gb_t1 _ (List.mem_of_getElem? (i := 121) rfl)), rfl, rfl, rfl⟩
theorem m_X9_35 : gb_LS "GladBasket$Tape" 35 M_X9_kindOf 1 := ⟨(gb_t3 _ (List.mem_of_getElem? (i := 65) rfl)), wt_X9_kindOf, wn_X9, wc_X9_kindOf, ⟨by decide, by decide⟩, by decide +kernel, by decide⟩
theorem m_X9_38 : gb_LS "GladBasket$Tape" 38 M_J9_min_7cf53 2 := ⟨(gb_t3 _ (List.mem_of_getElem? (i := 68) rfl)), wt_J9_min_7cf53, wn_J9, wc_J9_min_7cf53, ⟨by decide, by decide⟩, by decide +kernel, by decide⟩
theorem m_X9_28 : gb_LV "GladBasket$Tape" 28 M_X9_step 0 := ⟨(gb_t3 _ (List.mem_of_getElem? (i := 60) rfl)), wi_X9_step, ws_X9_step, wn_X9, wc_X9_step, ⟨by decide, by decide⟩, by decide +kernel, by decide⟩
theorem m_X9_31 : gb_LV "GladBasket$Tape" 31 M_X9_byteAt 1 := ⟨(gb_t3 _ (List.mem_of_getElem? (i := 64) rfl)), wi_X9_byteAt, ws_X9_byteAt, wn_X9, wc_X9_byteAt, ⟨by decide, by decide⟩, by decide +kernel, by decide⟩
theorem m_X9_44 : gb_LV "GladBasket$Tape" 44 M_X9_ended 0 := ⟨(gb_t3 _ (List.mem_of_getElem? (i := 180) rfl)), wi_X9_ended, ws_X9_ended, wn_X9, wc_X9_ended, ⟨by decide, by decide⟩, by decide +kernel, by decide⟩
theorem m_X9_48 : gb_LV "GladBasket$Tape" 48 M_J0_indexOf_0f7a4 1 := ⟨(gb_t3 _ (List.mem_of_getElem? (i := 184) rfl)), wi_J0_indexOf_0f7a4, ws_J0_indexOf_0f7a4, wn_J0, wc_J0_indexOf_0f7a4, ⟨by decide, by decide⟩, by decide +kernel, by decide⟩
theorem m_X9_53 : gb_LV "GladBasket$Tape" 53 M_J0_length_8abf5 0 := ⟨(gb_t3 _ (List.mem_of_getElem? (i := 79) rfl)), wi_J0_length_8abf5, ws_J0_length_8abf5, wn_J0, wc_J0_length_8abf5, ⟨by decide, by decide⟩, by decide +kernel, by decide⟩
theorem m_X9_56 : gb_LV "GladBasket$Tape" 56 M_J0_charAt_5068e 1 := ⟨(gb_t3 _ (List.mem_of_getElem? (i := 89) rfl)), wi_J0_charAt_5068e, ws_J0_charAt_5068e, wn_J0, wc_J0_charAt_5068e, ⟨by decide, by decide⟩, by decide +kernel, by decide⟩
theorem na_X10_11 : Cond.classLink "GladBasket" 11 "GladBasket$Basket" ∈ lw_tbl := (gb_t1 _ (List.mem_of_getElem? (i := 29) rfl))
theorem f_X10_14 : gb_FL "GladBasket" 14 10 0 true (.object "GladBasket$Basket") := ⟨RX10, TX10, 19, tyX10, gb_cl10, by decide, (gb_t2 _ (List.mem_of_getElem? (i := 81) rfl)), rfl, rfl, rfl⟩
theorem f_X10_18 : gb_FL "GladBasket" 18 10 1 true (.object "GladBasket$Basket") := ⟨RX10, TX10, 19, tyX10, gb_cl10, by decide, (gb_t2 _ (List.mem_of_getElem? (i := 82) rfl)), rfl, rfl, rfl⟩
theorem f_X10_21 : gb_FL "GladBasket" 21 10 2 true (.object "GladBasket$Basket") := ⟨RX10, TX10, 19, tyX10, gb_cl10, by decide, (gb_t2 _ (List.mem_of_getElem? (i := 83) rfl)), rfl, rfl, rfl⟩
theorem f_X10_24 : gb_FL "GladBasket" 24 10 3 true (.array (.object "GladBasket$Basket")) := ⟨RX10, TX10, 19, tyX10, gb_cl10, by decide, (gb_t2 _ (List.mem_of_getElem? (i := 84) rfl)), rfl, rfl, rfl⟩
theorem f_X10_28 : gb_FL "GladBasket" 28 10 4 true (.array .int) := ⟨RX10, TX10, 19, tyX10, gb_cl10, by decide, (gb_t2 _ (List.mem_of_getElem? (i := 85) rfl)), rfl, rfl, rfl⟩
theorem f_X10_35 : gb_FL "GladBasket" 35 10 5 true (.object "GladBasket$History") := ⟨RX10, TX10, 19, tyX10, gb_cl10, by decide, (gb_t2 _ (List.mem_of_getElem? (i := 86) rfl)), rfl, rfl, rfl⟩
theorem f_X10_39 : gb_FL "GladBasket" 39 10 6 true (.object "GladBasket$History") := ⟨RX10, TX10, 19, tyX10, gb_cl10, by decide, (gb_t2 _ (List.mem_of_getElem? (i := 87) rfl)), rfl, rfl, rfl⟩
theorem f_X10_45 : gb_FL "GladBasket" 45 10 7 true (.object "GladBasket$Tape") := ⟨RX10, TX10, 19, tyX10, gb_cl10, by decide, (gb_t2 _ (List.mem_of_getElem? (i := 88) rfl)), rfl, rfl, rfl⟩
theorem f_X10_54 : gb_FL "GladBasket" 54 10 8 true (.object "GladBasket$Reader") := ⟨RX10, TX10, 19, tyX10, gb_cl10, by decide, (gb_t2 _ (List.mem_of_getElem? (i := 89) rfl)), rfl, rfl, rfl⟩
theorem f_X10_61 : gb_FL "GladBasket" 61 10 9 true (.object "GladBasket$Machine") := ⟨RX10, TX10, 19, tyX10, gb_cl10, by decide, (gb_t2 _ (List.mem_of_getElem? (i := 90) rfl)), rfl, rfl, rfl⟩
theorem f_X10_70 : gb_FL "GladBasket" 70 10 10 true (.object "GladBasket$Judge") := ⟨RX10, TX10, 19, tyX10, gb_cl10, by decide, (gb_t2 _ (List.mem_of_getElem? (i := 91) rfl)), rfl, rfl, rfl⟩
theorem f_X10_79 : gb_FL "GladBasket" 79 10 11 true (.object "GladBasket$Figures") := ⟨RX10, TX10, 19, tyX10, gb_cl10, by decide, (gb_t2 _ (List.mem_of_getElem? (i := 92) rfl)), rfl, rfl, rfl⟩
theorem f_X10_88 : gb_FL "GladBasket" 88 10 12 true (.object "GladBasket$Paper") := ⟨RX10, TX10, 19, tyX10, gb_cl10, by decide, (gb_t2 _ (List.mem_of_getElem? (i := 93) rfl)), rfl, rfl, rfl⟩
theorem f_X10_92 : gb_FL "GladBasket" 92 10 13 true (.array .int) := ⟨RX10, TX10, 19, tyX10, gb_cl10, by decide, (gb_t2 _ (List.mem_of_getElem? (i := 94) rfl)), rfl, rfl, rfl⟩
theorem f_X10_95 : gb_FL "GladBasket" 95 10 14 true (.array .int) := ⟨RX10, TX10, 19, tyX10, gb_cl10, by decide, (gb_t2 _ (List.mem_of_getElem? (i := 95) rfl)), rfl, rfl, rfl⟩
theorem f_X10_98 : gb_FL "GladBasket" 98 10 15 false (.int) := ⟨RX10, TX10, 19, tyX10, gb_cl10, by decide, (gb_t2 _ (List.mem_of_getElem? (i := 96) rfl)), rfl, rfl, rfl⟩
theorem f_X10_102 : gb_FL "GladBasket" 102 10 16 false (.int) := ⟨RX10, TX10, 19, tyX10, gb_cl10, by decide, (gb_t2 _ (List.mem_of_getElem? (i := 97) rfl)), rfl, rfl, rfl⟩
theorem f_X10_105 : gb_FL "GladBasket" 105 10 17 false (.int) := ⟨RX10, TX10, 19, tyX10, gb_cl10, by decide, (gb_t2 _ (List.mem_of_getElem? (i := 98) rfl)), rfl, rfl, rfl⟩
theorem f_X10_108 : gb_FL "GladBasket" 108 10 18 false (.int) := ⟨RX10, TX10, 19, tyX10, gb_cl10, by decide, (gb_t2 _ (List.mem_of_getElem? (i := 99) rfl)), rfl, rfl, rfl⟩
theorem f_X10_123 : gb_FL "GladBasket" 123 0 0 false (.int) := ⟨RX0, TX0, 10, tyX0, gb_cl0, by decide, (gb_t1 _ (List.mem_of_getElem? (i := 40) rfl)), rfl, rfl, rfl⟩
theorem f_X10_157 : gb_FL "GladBasket" 157 0 2 false (.int) := ⟨RX0, TX0, 10, tyX0, gb_cl0, by decide, (gb_t1 _ (List.mem_of_getElem? (i := 44) rfl)), rfl, rfl, rfl⟩
theorem f_X10_163 : gb_FL "GladBasket" 163 0 3 true (.array .int) := ⟨RX0, TX0, 10, tyX0, gb_cl0, by decide, (gb_t1 _ (List.mem_of_getElem? (i := 46) rfl)), rfl, rfl, rfl⟩
theorem f_X10_169 : gb_FL "GladBasket" 169 0 6 true (.array .int) := ⟨RX0, TX0, 10, tyX0, gb_cl0, by decide, (gb_t1 _ (List.mem_of_getElem? (i := 56) rfl)), rfl, rfl, rfl⟩
theorem f_X10_172 : gb_FL "GladBasket" 172 9 1 false (.int) := ⟨RX9, TX9, 5, tyX9, gb_cl9, by decide, (gb_t1 _ (List.mem_of_getElem? (i := 117) rfl)), rfl, rfl, rfl⟩
theorem f_X10_185 : gb_FL "GladBasket" 185 0 7 false (.int) := ⟨RX0, TX0, 10, tyX0, gb_cl0, by decide, (gb_t1 _ (List.mem_of_getElem? (i := 58) rfl)), rfl, rfl, rfl⟩
theorem f_X10_193 : gb_FL "GladBasket" 193 8 1 true (.object "GladBasket$Program") := ⟨RX8, TX8, 4, tyX8, gb_cl8, by decide, (gb_t1 _ (List.mem_of_getElem? (i := 185) rfl)), rfl, rfl, rfl⟩
theorem f_X10_211 : gb_FL "GladBasket" 211 7 3 false (.int) := ⟨RX7, TX7, 8, tyX7, gb_cl7, by decide, (gb_t1 _ (List.mem_of_getElem? (i := 154) rfl)), rfl, rfl, rfl⟩
theorem f_X10_214 : gb_FL "GladBasket" 214 7 5 true (.array .int) := ⟨RX7, TX7, 8, tyX7, gb_cl7, by decide, (gb_t1 _ (List.mem_of_getElem? (i := 160) rfl)), rfl, rfl, rfl⟩
theorem f_X10_221 : gb_FL "GladBasket" 221 0 9 false (.int) := ⟨RX0, TX0, 10, tyX0, gb_cl0, by decide, (gb_t1 _ (List.mem_of_getElem? (i := 61) rfl)), rfl, rfl, rfl⟩
theorem f_X10_232 : gb_FL "GladBasket" 232 7 4 true (.array .int) := ⟨RX7, TX7, 8, tyX7, gb_cl7, by decide, (gb_t1 _ (List.mem_of_getElem? (i := 157) rfl)), rfl, rfl, rfl⟩
theorem f_X10_248 : gb_FL "GladBasket" 248 7 7 false (.boolean) := ⟨RX7, TX7, 8, tyX7, gb_cl7, by decide, (gb_t1 _ (List.mem_of_getElem? (i := 165) rfl)), rfl, rfl, rfl⟩
theorem f_X10_269 : gb_FL "GladBasket" 269 3 0 false (.int) := ⟨RX3, TX3, 5, tyX3, gb_cl3, by decide, (gb_t1 _ (List.mem_of_getElem? (i := 92) rfl)), rfl, rfl, rfl⟩
theorem f_X10_322 : gb_FL "GladBasket" 322 0 4 false (.int) := ⟨RX0, TX0, 10, tyX0, gb_cl0, by decide, (gb_t1 _ (List.mem_of_getElem? (i := 49) rfl)), rfl, rfl, rfl⟩
theorem f_X10_325 : gb_FL "GladBasket" 325 0 5 true (.array .int) := ⟨RX0, TX0, 10, tyX0, gb_cl0, by decide, (gb_t1 _ (List.mem_of_getElem? (i := 52) rfl)), rfl, rfl, rfl⟩
theorem f_X10_338 : gb_FL "GladBasket" 338 1 4 true (.array .int) := ⟨RX1, TX1, 7, tyX1, gb_cl1, by decide, (gb_t2 _ (List.mem_of_getElem? (i := 8) rfl)), rfl, rfl, rfl⟩
theorem rf_X10_166 : Cond.fieldLink "GladBasket" 166 "GladBasket" "TOP_TERM" "[I" ∈ lw_tbl := (gb_t3 _ (List.mem_of_getElem? (i := 14) rfl))
theorem m_X10_13 : gb_LIN "GladBasket" 13 M_X0_init 0 := ⟨⟨_, (gb_t1 _ (List.mem_of_getElem? (a := Cond.methodLinkNest "GladBasket" 13 M_X0_init.1 "GladBasket") (i := 31) rfl))⟩, wi_X0_init, rfl, rfl, wn_X0, wc_X0_init, ⟨by decide, by decide⟩, by decide +kernel, by decide⟩
theorem m_X10_34 : gb_LIN "GladBasket" 34 M_X3_init 0 := ⟨⟨_, (gb_t1 _ (List.mem_of_getElem? (a := Cond.methodLinkNest "GladBasket" 34 M_X3_init.1 "GladBasket") (i := 87) rfl))⟩, wi_X3_init, rfl, rfl, wn_X3, wc_X3_init, ⟨by decide, by decide⟩, by decide +kernel, by decide⟩
theorem m_X10_44 : gb_LIN "GladBasket" 44 M_X9_init 0 := ⟨⟨_, (gb_t1 _ (List.mem_of_getElem? (a := Cond.methodLinkNest "GladBasket" 44 M_X9_init.1 "GladBasket") (i := 110) rfl))⟩, wi_X9_init, rfl, rfl, wn_X9, wc_X9_init, ⟨by decide, by decide⟩, by decide +kernel, by decide⟩
theorem m_X10_51 : gb_LI "GladBasket" 51 M_X8_init 1 := ⟨(gb_t1 _ (List.mem_of_getElem? (i := 135) rfl)), wi_X8_init, rfl, rfl, wn_X8, wc_X8_init, ⟨by decide, by decide⟩, by decide +kernel, by decide⟩
theorem m_X10_60 : gb_LIN "GladBasket" 60 M_X5_init 0 := ⟨⟨_, (gb_t1 _ (List.mem_of_getElem? (a := Cond.methodLinkNest "GladBasket" 60 M_X5_init.1 "GladBasket") (i := 199) rfl))⟩, wi_X5_init, rfl, rfl, wn_X5, wc_X5_init, ⟨by decide, by decide⟩, by decide +kernel, by decide⟩
theorem m_X10_67 : gb_LI "GladBasket" 67 M_X4_init 1 := ⟨(gb_t1 _ (List.mem_of_getElem? (i := 209) rfl)), wi_X4_init, rfl, rfl, wn_X4, wc_X4_init, ⟨by decide, by decide⟩, by decide +kernel, by decide⟩
theorem m_X10_76 : gb_LI "GladBasket" 76 M_X1_init 1 := ⟨(gb_t1 _ (List.mem_of_getElem? (i := 225) rfl)), wi_X1_init, rfl, rfl, wn_X1, wc_X1_init, ⟨by decide, by decide⟩, by decide +kernel, by decide⟩
theorem m_X10_85 : gb_LI "GladBasket" 85 M_X6_init 2 := ⟨(gb_t2 _ (List.mem_of_getElem? (i := 28) rfl)), wi_X6_init, rfl, rfl, wn_X6, wc_X6_init, ⟨by decide, by decide⟩, by decide +kernel, by decide⟩
theorem m_X10_197 : gb_LI "GladBasket" 197 M_X7_init_ 1 := ⟨(gb_t4 _ (List.mem_of_getElem? (i := 38) rfl)), wi_X7_init_, rfl, rfl, wn_X7, wc_X7_init_, ⟨by decide, by decide⟩, by decide +kernel, by decide⟩
theorem m_X10_111 : gb_LS "GladBasket" 111 M_X10_canBeGood 4 := ⟨(gb_t2 _ (List.mem_of_getElem? (i := 143) rfl)), wt_X10_canBeGood, wn_X10, wc_X10_canBeGood, ⟨by decide, by decide⟩, by decide +kernel, by decide⟩
theorem m_X10_115 : gb_LS "GladBasket" 115 M_X10_within 3 := ⟨(gb_t2 _ (List.mem_of_getElem? (i := 146) rfl)), wt_X10_within, wn_X10, wc_X10_within, ⟨by decide, by decide⟩, by decide +kernel, by decide⟩
theorem m_X10_314 : gb_LS "GladBasket" 314 M_J9_max_7cf53 2 := ⟨(gb_t2 _ (List.mem_of_getElem? (i := 227) rfl)), wt_J9_max_7cf53, wn_J9, wc_J9_max_7cf53, ⟨by decide, by decide⟩, by decide +kernel, by decide⟩
theorem m_X10_319 : gb_LS "GladBasket" 319 M_J9_abs_0f7a4 1 := ⟨(gb_t5 _ (List.mem_of_getElem? (i := 91) rfl)), wt_J9_abs_0f7a4, wn_J9, wc_J9_abs_0f7a4, ⟨by decide, by decide⟩, by decide +kernel, by decide⟩
theorem m_X10_350 : gb_LS "GladBasket" 350 M_X10_nextDraw 1 := ⟨(gb_t5 _ (List.mem_of_getElem? (i := 147) rfl)), wt_X10_nextDraw, wn_X10, wc_X10_nextDraw, ⟨by decide, by decide⟩, by decide +kernel, by decide⟩
theorem m_X10_353 : gb_LS "GladBasket" 353 M_J9_floorMod_7cf53 2 := ⟨(gb_t5 _ (List.mem_of_getElem? (i := 153) rfl)), wt_J9_floorMod_7cf53, wn_J9, wc_J9_floorMod_7cf53, ⟨by decide, by decide⟩, by decide +kernel, by decide⟩
theorem m_X10_366 : gb_LS "GladBasket" 366 M_J9_min_7cf53 2 := ⟨(gb_t2 _ (List.mem_of_getElem? (i := 226) rfl)), wt_J9_min_7cf53, wn_J9, wc_J9_min_7cf53, ⟨by decide, by decide⟩, by decide +kernel, by decide⟩
theorem m_X10_119 : gb_LV "GladBasket" 119 M_X10_refuse 1 := ⟨(gb_t2 _ (List.mem_of_getElem? (i := 149) rfl)), wi_X10_refuse, ws_X10_refuse, wn_X10, wc_X10_refuse, ⟨by decide, by decide⟩, by decide +kernel, by decide⟩
theorem m_X10_126 : gb_LV "GladBasket" 126 M_X3_clear 0 := ⟨(gb_t2 _ (List.mem_of_getElem? (i := 153) rfl)), wi_X3_clear, ws_X3_clear, wn_X3, wc_X3_clear, ⟨by decide, by decide⟩, by decide +kernel, by decide⟩
theorem m_X10_129 : gb_LV "GladBasket" 129 M_X0_add 5 := ⟨(gb_t2 _ (List.mem_of_getElem? (i := 157) rfl)), wi_X0_add, ws_X0_add, wn_X0, wc_X0_add, ⟨by decide, by decide⟩, by decide +kernel, by decide⟩
theorem m_X10_133 : gb_LV "GladBasket" 133 M_X10_grant 1 := ⟨(gb_t2 _ (List.mem_of_getElem? (i := 173) rfl)), wi_X10_grant, ws_X10_grant, wn_X10, wc_X10_grant, ⟨by decide, by decide⟩, by decide +kernel, by decide⟩
theorem m_X10_136 : gb_LV "GladBasket" 136 M_X0_read 2 := ⟨(gb_t2 _ (List.mem_of_getElem? (i := 181) rfl)), wi_X0_read, ws_X0_read, wn_X0, wc_X0_read, ⟨by decide, by decide⟩, by decide +kernel, by decide⟩
theorem m_X10_140 : gb_LV "GladBasket" 140 M_X0_has 1 := ⟨(gb_t2 _ (List.mem_of_getElem? (i := 189) rfl)), wi_X0_has, ws_X0_has, wn_X0, wc_X0_has, ⟨by decide, by decide⟩, by decide +kernel, by decide⟩
theorem m_X10_145 : gb_LV "GladBasket" 145 M_X0_lawInForce 0 := ⟨(gb_t2 _ (List.mem_of_getElem? (i := 191) rfl)), wi_X0_lawInForce, ws_X0_lawInForce, wn_X0, wc_X0_lawInForce, ⟨by decide, by decide⟩, by decide +kernel, by decide⟩
theorem m_X10_149 : gb_LV "GladBasket" 149 M_X4_tell 4 := ⟨(gb_t2 _ (List.mem_of_getElem? (i := 199) rfl)), wi_X4_tell, ws_X4_tell, wn_X4, wc_X4_tell, ⟨by decide, by decide⟩, by decide +kernel, by decide⟩
theorem m_X10_153 : gb_LV "GladBasket" 153 M_X0_write 3 := ⟨(gb_t2 _ (List.mem_of_getElem? (i := 237) rfl)), wi_X0_write, ws_X0_write, wn_X0, wc_X0_write, ⟨by decide, by decide⟩, by decide +kernel, by decide⟩
theorem m_X10_160 : gb_LV "GladBasket" 160 M_X0_ownWeight 2 := ⟨(gb_t3 _ (List.mem_of_getElem? (i := 6) rfl)), wi_X0_ownWeight, ws_X0_ownWeight, wn_X0, wc_X0_ownWeight, ⟨by decide, by decide⟩, by decide +kernel, by decide⟩
theorem m_X10_175 : gb_LV "GladBasket" 175 M_X9_append 1 := ⟨(gb_t3 _ (List.mem_of_getElem? (i := 20) rfl)), wi_X9_append, ws_X9_append, wn_X9, wc_X9_append, ⟨by decide, by decide⟩, by decide +kernel, by decide⟩
theorem m_X10_179 : gb_LV "GladBasket" 179 M_X10_addFromTape 1 := ⟨(gb_t3 _ (List.mem_of_getElem? (i := 32) rfl)), wi_X10_addFromTape, ws_X10_addFromTape, wn_X10, wc_X10_addFromTape, ⟨by decide, by decide⟩, by decide +kernel, by decide⟩
theorem m_X10_182 : gb_LV "GladBasket" 182 M_X9_byteAt 1 := ⟨(gb_t3 _ (List.mem_of_getElem? (i := 36) rfl)), wi_X9_byteAt, ws_X9_byteAt, wn_X9, wc_X9_byteAt, ⟨by decide, by decide⟩, by decide +kernel, by decide⟩
theorem m_X10_188 : gb_LV "GladBasket" 188 M_X8_read 1 := ⟨(gb_t3 _ (List.mem_of_getElem? (i := 48) rfl)), wi_X8_read, ws_X8_read, wn_X8, wc_X8_read, ⟨by decide, by decide⟩, by decide +kernel, by decide⟩
theorem m_X10_200 : gb_LV "GladBasket" 200 M_X0_enact 1 := ⟨(gb_t4 _ (List.mem_of_getElem? (i := 56) rfl)), wi_X0_enact, ws_X0_enact, wn_X0, wc_X0_enact, ⟨by decide, by decide⟩, by decide +kernel, by decide⟩
theorem m_X10_204 : gb_LV "GladBasket" 204 M_X0_copyFrom 1 := ⟨(gb_t4 _ (List.mem_of_getElem? (i := 65) rfl)), wi_X0_copyFrom, ws_X0_copyFrom, wn_X0, wc_X0_copyFrom, ⟨by decide, by decide⟩, by decide +kernel, by decide⟩
theorem m_X10_208 : gb_LV "GladBasket" 208 M_X3_copyFrom 1 := ⟨(gb_t4 _ (List.mem_of_getElem? (i := 70) rfl)), wi_X3_copyFrom, ws_X3_copyFrom, wn_X3, wc_X3_copyFrom, ⟨by decide, by decide⟩, by decide +kernel, by decide⟩
theorem m_X10_217 : gb_LV "GladBasket" 217 M_X10_runOnce 2 := ⟨(gb_t4 _ (List.mem_of_getElem? (i := 75) rfl)), wi_X10_runOnce, ws_X10_runOnce, wn_X10, wc_X10_runOnce, ⟨by decide, by decide⟩, by decide +kernel, by decide⟩
theorem m_X10_224 : gb_LV "GladBasket" 224 M_X10_fillOrderWords 1 := ⟨(gb_t4 _ (List.mem_of_getElem? (i := 79) rfl)), wi_X10_fillOrderWords, ws_X10_fillOrderWords, wn_X10, wc_X10_fillOrderWords, ⟨by decide, by decide⟩, by decide +kernel, by decide⟩
theorem m_X10_227 : gb_LV "GladBasket" 227 M_X5_run 4 := ⟨(gb_t4 _ (List.mem_of_getElem? (i := 111) rfl)), wi_X5_run, ws_X5_run, wn_X5, wc_X5_run, ⟨by decide, by decide⟩, by decide +kernel, by decide⟩
theorem m_X10_235 : gb_LV "GladBasket" 235 M_X10_changeLacking 2 := ⟨(gb_t4 _ (List.mem_of_getElem? (i := 113) rfl)), wi_X10_changeLacking, ws_X10_changeLacking, wn_X10, wc_X10_changeLacking, ⟨by decide, by decide⟩, by decide +kernel, by decide⟩
theorem m_X10_238 : gb_LV "GladBasket" 238 M_X10_changeWeight 2 := ⟨(gb_t4 _ (List.mem_of_getElem? (i := 126) rfl)), wi_X10_changeWeight, ws_X10_changeWeight, wn_X10, wc_X10_changeWeight, ⟨by decide, by decide⟩, by decide +kernel, by decide⟩
theorem m_X10_241 : gb_LV "GladBasket" 241 M_X10_passMonth 0 := ⟨(gb_t4 _ (List.mem_of_getElem? (i := 130) rfl)), wi_X10_passMonth, ws_X10_passMonth, wn_X10, wc_X10_passMonth, ⟨by decide, by decide⟩, by decide +kernel, by decide⟩
theorem m_X10_245 : gb_LV "GladBasket" 245 M_X0_lackingCount 0 := ⟨(gb_t4 _ (List.mem_of_getElem? (i := 83) rfl)), wi_X0_lackingCount, ws_X0_lackingCount, wn_X0, wc_X0_lackingCount, ⟨by decide, by decide⟩, by decide +kernel, by decide⟩
theorem m_X10_252 : gb_LV "GladBasket" 252 M_X1_load 2 := ⟨(gb_t4 _ (List.mem_of_getElem? (i := 87) rfl)), wi_X1_load, ws_X1_load, wn_X1, wc_X1_load, ⟨by decide, by decide⟩, by decide +kernel, by decide⟩
theorem m_X10_256 : gb_LV "GladBasket" 256 M_X1_hundredths 0 := ⟨(gb_t4 _ (List.mem_of_getElem? (i := 95) rfl)), wi_X1_hundredths, ws_X1_hundredths, wn_X1, wc_X1_hundredths, ⟨by decide, by decide⟩, by decide +kernel, by decide⟩
theorem m_X10_259 : gb_LV "GladBasket" 259 M_X3_remember 3 := ⟨(gb_t4 _ (List.mem_of_getElem? (i := 117) rfl)), wi_X3_remember, ws_X3_remember, wn_X3, wc_X3_remember, ⟨by decide, by decide⟩, by decide +kernel, by decide⟩
theorem m_X10_263 : gb_LV "GladBasket" 263 M_X4_moveAll 1 := ⟨(gb_t4 _ (List.mem_of_getElem? (i := 134) rfl)), wi_X4_moveAll, ws_X4_moveAll, wn_X4, wc_X4_moveAll, ⟨by decide, by decide⟩, by decide +kernel, by decide⟩
theorem m_X10_266 : gb_LV "GladBasket" 266 M_X10_settle 1 := ⟨(gb_t4 _ (List.mem_of_getElem? (i := 158) rfl)), wi_X10_settle, ws_X10_settle, wn_X10, wc_X10_settle, ⟨by decide, by decide⟩, by decide +kernel, by decide⟩
theorem m_X10_272 : gb_LV "GladBasket" 272 M_X3_takeBack 1 := ⟨(gb_t4 _ (List.mem_of_getElem? (i := 178) rfl)), wi_X3_takeBack, ws_X3_takeBack, wn_X3, wc_X3_takeBack, ⟨by decide, by decide⟩, by decide +kernel, by decide⟩
theorem m_X10_278 : gb_LV "GladBasket" 278 M_X1_byRule 1 := ⟨(gb_t4 _ (List.mem_of_getElem? (i := 189) rfl)), wi_X1_byRule, ws_X1_byRule, wn_X1, wc_X1_byRule, ⟨by decide, by decide⟩, by decide +kernel, by decide⟩
theorem m_X10_282 : gb_LV "GladBasket" 282 M_X2_side 1 := ⟨(gb_t4 _ (List.mem_of_getElem? (i := 222) rfl)), wi_X2_side, ws_X2_side, wn_X2, wc_X2_side, ⟨by decide, by decide⟩, by decide +kernel, by decide⟩
theorem m_X10_288 : gb_LV "GladBasket" 288 M_X1_turnedByRule 1 := ⟨(gb_t4 _ (List.mem_of_getElem? (i := 230) rfl)), wi_X1_turnedByRule, ws_X1_turnedByRule, wn_X1, wc_X1_turnedByRule, ⟨by decide, by decide⟩, by decide +kernel, by decide⟩
theorem m_X10_291 : gb_LV "GladBasket" 291 M_X6_cheapest 2 := ⟨(gb_t5 _ (List.mem_of_getElem? (i := 6) rfl)), wi_X6_cheapest, ws_X6_cheapest, wn_X6, wc_X6_cheapest, ⟨by decide, by decide⟩, by decide +kernel, by decide⟩
theorem m_X10_295 : gb_LV "GladBasket" 295 M_X6_amountOf 1 := ⟨(gb_t5 _ (List.mem_of_getElem? (i := 33) rfl)), wi_X6_amountOf, ws_X6_amountOf, wn_X6, wc_X6_amountOf, ⟨by decide, by decide⟩, by decide +kernel, by decide⟩
theorem m_X10_298 : gb_LV "GladBasket" 298 M_X6_walk 2 := ⟨(gb_t5 _ (List.mem_of_getElem? (i := 42) rfl)), wi_X6_walk, ws_X6_walk, wn_X6, wc_X6_walk, ⟨by decide, by decide⟩, by decide +kernel, by decide⟩
theorem m_X10_301 : gb_LV "GladBasket" 301 M_X6_walkedTo 1 := ⟨(gb_t5 _ (List.mem_of_getElem? (i := 63) rfl)), wi_X6_walkedTo, ws_X6_walkedTo, wn_X6, wc_X6_walkedTo, ⟨by decide, by decide⟩, by decide +kernel, by decide⟩
theorem m_X10_304 : gb_LV "GladBasket" 304 M_X6_seekSets 3 := ⟨(gb_t5 _ (List.mem_of_getElem? (i := 71) rfl)), wi_X6_seekSets, ws_X6_seekSets, wn_X6, wc_X6_seekSets, ⟨by decide, by decide⟩, by decide +kernel, by decide⟩
theorem m_X10_308 : gb_LV "GladBasket" 308 M_X6_setAt 1 := ⟨(gb_t5 _ (List.mem_of_getElem? (i := 75) rfl)), wi_X6_setAt, ws_X6_setAt, wn_X6, wc_X6_setAt, ⟨by decide, by decide⟩, by decide +kernel, by decide⟩
theorem m_X10_311 : gb_LV "GladBasket" 311 M_X6_setsWith 1 := ⟨(gb_t5 _ (List.mem_of_getElem? (i := 83) rfl)), wi_X6_setsWith, ws_X6_setsWith, wn_X6, wc_X6_setsWith, ⟨by decide, by decide⟩, by decide +kernel, by decide⟩
theorem m_X10_328 : gb_LV "GladBasket" 328 M_X6_rise 1 := ⟨(gb_t5 _ (List.mem_of_getElem? (i := 104) rfl)), wi_X6_rise, ws_X6_rise, wn_X6, wc_X6_rise, ⟨by decide, by decide⟩, by decide +kernel, by decide⟩
theorem m_X10_332 : gb_LV "GladBasket" 332 M_X6_atStart 1 := ⟨(gb_t5 _ (List.mem_of_getElem? (i := 112) rfl)), wi_X6_atStart, ws_X6_atStart, wn_X6, wc_X6_atStart, ⟨by decide, by decide⟩, by decide +kernel, by decide⟩
theorem m_X10_335 : gb_LV "GladBasket" 335 M_X1_thousandths 0 := ⟨(gb_t5 _ (List.mem_of_getElem? (i := 120) rfl)), wi_X1_thousandths, ws_X1_thousandths, wn_X1, wc_X1_thousandths, ⟨by decide, by decide⟩, by decide +kernel, by decide⟩
theorem m_X10_341 : gb_LV "GladBasket" 341 M_X0_lawAt 1 := ⟨(gb_t5 _ (List.mem_of_getElem? (i := 128) rfl)), wi_X0_lawAt, ws_X0_lawAt, wn_X0, wc_X0_lawAt, ⟨by decide, by decide⟩, by decide +kernel, by decide⟩
theorem m_X10_345 : gb_LV "GladBasket" 345 M_X6_partsAtTop 3 := ⟨(gb_t5 _ (List.mem_of_getElem? (i := 133) rfl)), wi_X6_partsAtTop, ws_X6_partsAtTop, wn_X6, wc_X6_partsAtTop, ⟨by decide, by decide⟩, by decide +kernel, by decide⟩
theorem m_X10_356 : gb_LV "GladBasket" 356 M_X0_befall 2 := ⟨(gb_t5 _ (List.mem_of_getElem? (i := 156) rfl)), wi_X0_befall, ws_X0_befall, wn_X0, wc_X0_befall, ⟨by decide, by decide⟩, by decide +kernel, by decide⟩
theorem k_X10_144 : Cond.constant "GladBasket" 144 (-100000) ∈ lw_tbl := (gb_t2 _ (List.mem_of_getElem? (i := 190) rfl))
theorem k_X10_231 : Cond.constant "GladBasket" 231 (-2147483648) ∈ lw_tbl := (gb_t4 _ (List.mem_of_getElem? (i := 112) rfl))
theorem k_X10_276 : Cond.constantLong "GladBasket" 276 (-1) ∈ lw_tbl := (gb_t4 _ (List.mem_of_getElem? (i := 188) rfl))
theorem k_X10_360 : Cond.constantLong "GladBasket" 360 (1103) ∈ lw_tbl := (gb_t5 _ (List.mem_of_getElem? (i := 150) rfl))
theorem k_X10_362 : Cond.constantLong "GladBasket" 362 (12345) ∈ lw_tbl := (gb_t5 _ (List.mem_of_getElem? (i := 151) rfl))
theorem k_X10_364 : Cond.constantLong "GladBasket" 364 (1000003) ∈ lw_tbl := (gb_t5 _ (List.mem_of_getElem? (i := 152) rfl))
theorem k_X10_349 : Cond.constant "GladBasket" 349 (1000000) ∈ lw_tbl := (gb_t5 _ (List.mem_of_getElem? (i := 146) rfl))
theorem n_X10_11 : gb_NW "GladBasket" 11 0 10 [0, 2, 0, 2, 0, 2, 2, 0, 2, 0] := ⟨RX0, TX0, tyX0, gb_cl0, (gb_t1 _ (List.mem_of_getElem? (i := 29) rfl)), (gb_t1 _ (List.mem_of_getElem? (i := 30) rfl)), wn_X0, by decide +kernel, by decide⟩
theorem n_X10_32 : gb_NW "GladBasket" 32 3 5 [0, 2, 2, 2, 2] := ⟨RX3, TX3, tyX3, gb_cl3, (gb_t1 _ (List.mem_of_getElem? (i := 85) rfl)), (gb_t1 _ (List.mem_of_getElem? (i := 86) rfl)), wn_X3, by decide +kernel, by decide⟩
theorem n_X10_42 : gb_NW "GladBasket" 42 9 5 [2, 0, 0, 0, 0] := ⟨RX9, TX9, tyX9, gb_cl9, (gb_t1 _ (List.mem_of_getElem? (i := 108) rfl)), (gb_t1 _ (List.mem_of_getElem? (i := 109) rfl)), wn_X9, by decide +kernel, by decide⟩
theorem n_X10_49 : gb_NW "GladBasket" 49 8 4 [2, 2, 0, 0] := ⟨RX8, TX8, tyX8, gb_cl8, (gb_t1 _ (List.mem_of_getElem? (i := 133) rfl)), (gb_t1 _ (List.mem_of_getElem? (i := 134) rfl)), wn_X8, by decide +kernel, by decide⟩
theorem n_X10_58 : gb_NW "GladBasket" 58 5 1 [2] := ⟨RX5, TX5, tyX5, gb_cl5, (gb_t1 _ (List.mem_of_getElem? (i := 197) rfl)), (gb_t1 _ (List.mem_of_getElem? (i := 198) rfl)), wn_X5, by decide +kernel, by decide⟩
theorem n_X10_65 : gb_NW "GladBasket" 65 4 3 [2, 2, 2] := ⟨RX4, TX4, tyX4, gb_cl4, (gb_t1 _ (List.mem_of_getElem? (i := 207) rfl)), (gb_t1 _ (List.mem_of_getElem? (i := 208) rfl)), wn_X4, by decide +kernel, by decide⟩
theorem n_X10_74 : gb_NW "GladBasket" 74 1 7 [2, 0, 2, 2, 2, 2, 2] := ⟨RX1, TX1, tyX1, gb_cl1, (gb_t1 _ (List.mem_of_getElem? (i := 223) rfl)), (gb_t1 _ (List.mem_of_getElem? (i := 224) rfl)), wn_X1, by decide +kernel, by decide⟩
theorem n_X10_83 : gb_NW "GladBasket" 83 6 15 [2, 2, 2, 2, 2, 2, 2, 2, 2, 2, 0, 2, 0, 2, 2] := ⟨RX6, TX6, tyX6, gb_cl6, (gb_t2 _ (List.mem_of_getElem? (i := 26) rfl)), (gb_t2 _ (List.mem_of_getElem? (i := 27) rfl)), wn_X6, by decide +kernel, by decide⟩
theorem n_X10_191 : gb_NW "GladBasket" 191 7 8 [0, 2, 2, 0, 2, 2, 2, 0] := ⟨RX7, TX7, tyX7, gb_cl7, (gb_t4 _ (List.mem_of_getElem? (i := 37) rfl)), (gb_t1 _ (List.mem_of_getElem? (i := 140) rfl)), wn_X7, by decide +kernel, by decide⟩
theorem f_X11_7 : gb_FL "GladBasketModel" 7 11 2 true (.array .int) := ⟨RX11, TX11, 56, tyX11, gb_cl11, by decide, (gb_t5 _ (List.mem_of_getElem? (i := 210) rfl)), rfl, rfl, rfl⟩
theorem f_X11_13 : gb_FL "GladBasketModel" 13 11 3 true (.array .int) := ⟨RX11, TX11, 56, tyX11, gb_cl11, by decide, (gb_t5 _ (List.mem_of_getElem? (i := 211) rfl)), rfl, rfl, rfl⟩
theorem f_X11_16 : gb_FL "GladBasketModel" 16 11 4 true (.array .int) := ⟨RX11, TX11, 56, tyX11, gb_cl11, by decide, (gb_t5 _ (List.mem_of_getElem? (i := 212) rfl)), rfl, rfl, rfl⟩
theorem f_X11_19 : gb_FL "GladBasketModel" 19 11 5 true (.array .boolean) := ⟨RX11, TX11, 56, tyX11, gb_cl11, by decide, (gb_t5 _ (List.mem_of_getElem? (i := 213) rfl)), rfl, rfl, rfl⟩
theorem f_X11_23 : gb_FL "GladBasketModel" 23 11 6 true (.array .int) := ⟨RX11, TX11, 56, tyX11, gb_cl11, by decide, (gb_t5 _ (List.mem_of_getElem? (i := 214) rfl)), rfl, rfl, rfl⟩
theorem f_X11_26 : gb_FL "GladBasketModel" 26 11 7 true (.array .int) := ⟨RX11, TX11, 56, tyX11, gb_cl11, by decide, (gb_t5 _ (List.mem_of_getElem? (i := 215) rfl)), rfl, rfl, rfl⟩
theorem f_X11_29 : gb_FL "GladBasketModel" 29 11 9 true (.array .int) := ⟨RX11, TX11, 56, tyX11, gb_cl11, by decide, (gb_t5 _ (List.mem_of_getElem? (i := 217) rfl)), rfl, rfl, rfl⟩
theorem f_X11_32 : gb_FL "GladBasketModel" 32 11 10 true (.array .int) := ⟨RX11, TX11, 56, tyX11, gb_cl11, by decide, (gb_t5 _ (List.mem_of_getElem? (i := 218) rfl)), rfl, rfl, rfl⟩
theorem f_X11_35 : gb_FL "GladBasketModel" 35 11 12 true (.array .int) := ⟨RX11, TX11, 56, tyX11, gb_cl11, by decide, (gb_t5 _ (List.mem_of_getElem? (i := 220) rfl)), rfl, rfl, rfl⟩
theorem f_X11_38 : gb_FL "GladBasketModel" 38 11 18 false (.int) := ⟨RX11, TX11, 56, tyX11, gb_cl11, by decide, (gb_t5 _ (List.mem_of_getElem? (i := 226) rfl)), rfl, rfl, rfl⟩
theorem f_X11_42 : gb_FL "GladBasketModel" 42 11 22 true (.array .int) := ⟨RX11, TX11, 56, tyX11, gb_cl11, by decide, (gb_t5 _ (List.mem_of_getElem? (i := 230) rfl)), rfl, rfl, rfl⟩
theorem f_X11_45 : gb_FL "GladBasketModel" 45 11 24 true (.array .int) := ⟨RX11, TX11, 56, tyX11, gb_cl11, by decide, (gb_t5 _ (List.mem_of_getElem? (i := 232) rfl)), rfl, rfl, rfl⟩
theorem f_X11_48 : gb_FL "GladBasketModel" 48 11 25 true (.array .int) := ⟨RX11, TX11, 56, tyX11, gb_cl11, by decide, (gb_t5 _ (List.mem_of_getElem? (i := 233) rfl)), rfl, rfl, rfl⟩
theorem f_X11_51 : gb_FL "GladBasketModel" 51 11 27 true (.array .int) := ⟨RX11, TX11, 56, tyX11, gb_cl11, by decide, (gb_t5 _ (List.mem_of_getElem? (i := 235) rfl)), rfl, rfl, rfl⟩
theorem f_X11_54 : gb_FL "GladBasketModel" 54 11 28 true (.array .int) := ⟨RX11, TX11, 56, tyX11, gb_cl11, by decide, (gb_t5 _ (List.mem_of_getElem? (i := 236) rfl)), rfl, rfl, rfl⟩
theorem f_X11_75 : gb_FL "GladBasketModel" 75 11 31 true (.array .long) := ⟨RX11, TX11, 56, tyX11, gb_cl11, by decide, (gb_t5 _ (List.mem_of_getElem? (i := 239) rfl)), rfl, rfl, rfl⟩
theorem f_X11_87 : gb_FL "GladBasketModel" 87 11 32 true (.array .long) := ⟨RX11, TX11, 56, tyX11, gb_cl11, by decide, (gb_t6 _ (List.mem_of_getElem? (i := 0) rfl)), rfl, rfl, rfl⟩
theorem f_X11_98 : gb_FL "GladBasketModel" 98 11 33 true (.array .long) := ⟨RX11, TX11, 56, tyX11, gb_cl11, by decide, (gb_t6 _ (List.mem_of_getElem? (i := 1) rfl)), rfl, rfl, rfl⟩
theorem f_X11_101 : gb_FL "GladBasketModel" 101 11 35 true (.array .long) := ⟨RX11, TX11, 56, tyX11, gb_cl11, by decide, (gb_t6 _ (List.mem_of_getElem? (i := 3) rfl)), rfl, rfl, rfl⟩
theorem f_X11_104 : gb_FL "GladBasketModel" 104 11 36 true (.array .long) := ⟨RX11, TX11, 56, tyX11, gb_cl11, by decide, (gb_t6 _ (List.mem_of_getElem? (i := 4) rfl)), rfl, rfl, rfl⟩
theorem f_X11_107 : gb_FL "GladBasketModel" 107 11 37 true (.array .long) := ⟨RX11, TX11, 56, tyX11, gb_cl11, by decide, (gb_t6 _ (List.mem_of_getElem? (i := 5) rfl)), rfl, rfl, rfl⟩
theorem f_X11_110 : gb_FL "GladBasketModel" 110 11 43 true (.array .int) := ⟨RX11, TX11, 56, tyX11, gb_cl11, by decide, (gb_t6 _ (List.mem_of_getElem? (i := 11) rfl)), rfl, rfl, rfl⟩
theorem f_X11_113 : gb_FL "GladBasketModel" 113 11 44 true (.array .int) := ⟨RX11, TX11, 56, tyX11, gb_cl11, by decide, (gb_t6 _ (List.mem_of_getElem? (i := 12) rfl)), rfl, rfl, rfl⟩
theorem f_X11_116 : gb_FL "GladBasketModel" 116 11 45 true (.array .int) := ⟨RX11, TX11, 56, tyX11, gb_cl11, by decide, (gb_t6 _ (List.mem_of_getElem? (i := 13) rfl)), rfl, rfl, rfl⟩
theorem f_X11_119 : gb_FL "GladBasketModel" 119 11 46 true (.array .long) := ⟨RX11, TX11, 56, tyX11, gb_cl11, by decide, (gb_t6 _ (List.mem_of_getElem? (i := 14) rfl)), rfl, rfl, rfl⟩
theorem f_X11_130 : gb_FL "GladBasketModel" 130 11 47 true (.array .long) := ⟨RX11, TX11, 56, tyX11, gb_cl11, by decide, (gb_t6 _ (List.mem_of_getElem? (i := 15) rfl)), rfl, rfl, rfl⟩
theorem f_X11_133 : gb_FL "GladBasketModel" 133 11 48 true (.array .int) := ⟨RX11, TX11, 56, tyX11, gb_cl11, by decide, (gb_t6 _ (List.mem_of_getElem? (i := 16) rfl)), rfl, rfl, rfl⟩
theorem f_X11_136 : gb_FL "GladBasketModel" 136 11 51 false (.int) := ⟨RX11, TX11, 56, tyX11, gb_cl11, by decide, (gb_t6 _ (List.mem_of_getElem? (i := 19) rfl)), rfl, rfl, rfl⟩
theorem f_X11_139 : gb_FL "GladBasketModel" 139 11 54 true (.array .int) := ⟨RX11, TX11, 56, tyX11, gb_cl11, by decide, (gb_t6 _ (List.mem_of_getElem? (i := 22) rfl)), rfl, rfl, rfl⟩
theorem f_X11_142 : gb_FL "GladBasketModel" 142 11 55 false (.int) := ⟨RX11, TX11, 56, tyX11, gb_cl11, by decide, (gb_t6 _ (List.mem_of_getElem? (i := 23) rfl)), rfl, rfl, rfl⟩
theorem f_X11_148 : gb_FL "GladBasketModel" 148 11 1 false (.int) := ⟨RX11, TX11, 56, tyX11, gb_cl11, by decide, (gb_t5 _ (List.mem_of_getElem? (i := 209) rfl)), rfl, rfl, rfl⟩
theorem f_X11_151 : gb_FL "GladBasketModel" 151 11 8 false (.int) := ⟨RX11, TX11, 56, tyX11, gb_cl11, by decide, (gb_t5 _ (List.mem_of_getElem? (i := 216) rfl)), rfl, rfl, rfl⟩
theorem f_X11_212 : gb_FL "GladBasketModel" 212 11 13 false (.int) := ⟨RX11, TX11, 56, tyX11, gb_cl11, by decide, (gb_t5 _ (List.mem_of_getElem? (i := 221) rfl)), rfl, rfl, rfl⟩
theorem f_X11_215 : gb_FL "GladBasketModel" 215 11 11 false (.int) := ⟨RX11, TX11, 56, tyX11, gb_cl11, by decide, (gb_t5 _ (List.mem_of_getElem? (i := 219) rfl)), rfl, rfl, rfl⟩
theorem f_X11_221 : gb_FL "GladBasketModel" 221 11 15 false (.int) := ⟨RX11, TX11, 56, tyX11, gb_cl11, by decide, (gb_t5 _ (List.mem_of_getElem? (i := 223) rfl)), rfl, rfl, rfl⟩
theorem f_X11_224 : gb_FL "GladBasketModel" 224 11 19 false (.boolean) := ⟨RX11, TX11, 56, tyX11, gb_cl11, by decide, (gb_t5 _ (List.mem_of_getElem? (i := 227) rfl)), rfl, rfl, rfl⟩
theorem f_X11_231 : gb_FL "GladBasketModel" 231 11 14 false (.int) := ⟨RX11, TX11, 56, tyX11, gb_cl11, by decide, (gb_t5 _ (List.mem_of_getElem? (i := 222) rfl)), rfl, rfl, rfl⟩
theorem f_X11_234 : gb_FL "GladBasketModel" 234 11 17 false (.long) := ⟨RX11, TX11, 56, tyX11, gb_cl11, by decide, (gb_t5 _ (List.mem_of_getElem? (i := 225) rfl)), rfl, rfl, rfl⟩
theorem f_X11_244 : gb_FL "GladBasketModel" 244 11 16 false (.int) := ⟨RX11, TX11, 56, tyX11, gb_cl11, by decide, (gb_t5 _ (List.mem_of_getElem? (i := 224) rfl)), rfl, rfl, rfl⟩
theorem f_X11_261 : gb_FL "GladBasketModel" 261 11 23 false (.int) := ⟨RX11, TX11, 56, tyX11, gb_cl11, by decide, (gb_t5 _ (List.mem_of_getElem? (i := 231) rfl)), rfl, rfl, rfl⟩
theorem f_X11_264 : gb_FL "GladBasketModel" 264 11 29 false (.int) := ⟨RX11, TX11, 56, tyX11, gb_cl11, by decide, (gb_t5 _ (List.mem_of_getElem? (i := 237) rfl)), rfl, rfl, rfl⟩
theorem f_X11_284 : gb_FL "GladBasketModel" 284 11 30 false (.int) := ⟨RX11, TX11, 56, tyX11, gb_cl11, by decide, (gb_t5 _ (List.mem_of_getElem? (i := 238) rfl)), rfl, rfl, rfl⟩
theorem f_X11_290 : gb_FL "GladBasketModel" 290 11 26 false (.int) := ⟨RX11, TX11, 56, tyX11, gb_cl11, by decide, (gb_t5 _ (List.mem_of_getElem? (i := 234) rfl)), rfl, rfl, rfl⟩
theorem f_X11_299 : gb_FL "GladBasketModel" 299 11 20 false (.boolean) := ⟨RX11, TX11, 56, tyX11, gb_cl11, by decide, (gb_t5 _ (List.mem_of_getElem? (i := 228) rfl)), rfl, rfl, rfl⟩
theorem f_X11_353 : gb_FL "GladBasketModel" 353 11 21 false (.int) := ⟨RX11, TX11, 56, tyX11, gb_cl11, by decide, (gb_t5 _ (List.mem_of_getElem? (i := 229) rfl)), rfl, rfl, rfl⟩
theorem f_X11_373 : gb_FL "GladBasketModel" 373 11 38 false (.boolean) := ⟨RX11, TX11, 56, tyX11, gb_cl11, by decide, (gb_t6 _ (List.mem_of_getElem? (i := 6) rfl)), rfl, rfl, rfl⟩
theorem f_X11_376 : gb_FL "GladBasketModel" 376 11 34 false (.int) := ⟨RX11, TX11, 56, tyX11, gb_cl11, by decide, (gb_t6 _ (List.mem_of_getElem? (i := 2) rfl)), rfl, rfl, rfl⟩
theorem f_X11_387 : gb_FL "GladBasketModel" 387 11 39 false (.long) := ⟨RX11, TX11, 56, tyX11, gb_cl11, by decide, (gb_t6 _ (List.mem_of_getElem? (i := 7) rfl)), rfl, rfl, rfl⟩
theorem f_X11_393 : gb_FL "GladBasketModel" 393 11 40 false (.long) := ⟨RX11, TX11, 56, tyX11, gb_cl11, by decide, (gb_t6 _ (List.mem_of_getElem? (i := 8) rfl)), rfl, rfl, rfl⟩
theorem f_X11_432 : gb_FL "GladBasketModel" 432 11 41 false (.long) := ⟨RX11, TX11, 56, tyX11, gb_cl11, by decide, (gb_t6 _ (List.mem_of_getElem? (i := 9) rfl)), rfl, rfl, rfl⟩
theorem f_X11_435 : gb_FL "GladBasketModel" 435 11 42 false (.long) := ⟨RX11, TX11, 56, tyX11, gb_cl11, by decide, (gb_t6 _ (List.mem_of_getElem? (i := 10) rfl)), rfl, rfl, rfl⟩
theorem f_X11_503 : gb_FL "GladBasketModel" 503 11 52 false (.boolean) := ⟨RX11, TX11, 56, tyX11, gb_cl11, by decide, (gb_t6 _ (List.mem_of_getElem? (i := 20) rfl)), rfl, rfl, rfl⟩
theorem f_X11_506 : gb_FL "GladBasketModel" 506 11 49 false (.int) := ⟨RX11, TX11, 56, tyX11, gb_cl11, by decide, (gb_t6 _ (List.mem_of_getElem? (i := 17) rfl)), rfl, rfl, rfl⟩
theorem f_X11_509 : gb_FL "GladBasketModel" 509 11 50 false (.int) := ⟨RX11, TX11, 56, tyX11, gb_cl11, by decide, (gb_t6 _ (List.mem_of_getElem? (i := 18) rfl)), rfl, rfl, rfl⟩
theorem f_X11_527 : gb_FL "GladBasketModel" 527 11 53 false (.long) := ⟨RX11, TX11, 56, tyX11, gb_cl11, by decide, (gb_t6 _ (List.mem_of_getElem? (i := 21) rfl)), rfl, rfl, rfl⟩
theorem m_X11_165 : gb_LS "GladBasketModel" 165 M_X11_in 3 := ⟨(gb_t6 _ (List.mem_of_getElem? (i := 154) rfl)), wt_X11_in, wn_X11, wc_X11_in, ⟨by decide, by decide⟩, by decide +kernel, by decide⟩
theorem m_X11_238 : gb_LS "GladBasketModel" 238 M_X11_isSmall 1 := ⟨(gb_t7 _ (List.mem_of_getElem? (i := 54) rfl)), wt_X11_isSmall, wn_X11, wc_X11_isSmall, ⟨by decide, by decide⟩, by decide +kernel, by decide⟩
theorem m_X11_241 : gb_LS "GladBasketModel" 241 M_X11_isDigit 1 := ⟨(gb_t7 _ (List.mem_of_getElem? (i := 57) rfl)), wt_X11_isDigit, wn_X11, wc_X11_isDigit, ⟨by decide, by decide⟩, by decide +kernel, by decide⟩
theorem m_X11_267 : gb_LS "GladBasketModel" 267 M_X11_binds 1 := ⟨(gb_t7 _ (List.mem_of_getElem? (i := 127) rfl)), wt_X11_binds, wn_X11, wc_X11_binds, ⟨by decide, by decide⟩, by decide +kernel, by decide⟩
theorem m_X11_403 : gb_LS "GladBasketModel" 403 M_X11_within 3 := ⟨(gb_t6 _ (List.mem_of_getElem? (i := 213) rfl)), wt_X11_within, wn_X11, wc_X11_within, ⟨by decide, by decide⟩, by decide +kernel, by decide⟩
theorem m_X11_428 : gb_LS "GladBasketModel" 428 M_X11_common 2 := ⟨(gb_t7 _ (List.mem_of_getElem? (i := 230) rfl)), wt_X11_common, wn_X11, wc_X11_common, ⟨by decide, by decide⟩, by decide +kernel, by decide⟩
theorem m_X11_469 : gb_LS "GladBasketModel" 469 M_X11_is 2 := ⟨(gb_t8 _ (List.mem_of_getElem? (i := 39) rfl)), wt_X11_is, wn_X11, wc_X11_is, ⟨by decide, by decide⟩, by decide +kernel, by decide⟩
theorem m_X11_476 : gb_LS "GladBasketModel" 476 M_X11_stepsOf 2 := ⟨(gb_t8 _ (List.mem_of_getElem? (i := 46) rfl)), wt_X11_stepsOf, wn_X11, wc_X11_stepsOf, ⟨by decide, by decide⟩, by decide +kernel, by decide⟩
theorem m_X11_485 : gb_LS "GladBasketModel" 485 M_X11_areSpent 2 := ⟨(gb_t8 _ (List.mem_of_getElem? (i := 57) rfl)), wt_X11_areSpent, wn_X11, wc_X11_areSpent, ⟨by decide, by decide⟩, by decide +kernel, by decide⟩
theorem m_X11_154 : gb_LV "GladBasketModel" 154 M_X11_tell 1 := ⟨(gb_t6 _ (List.mem_of_getElem? (i := 142) rfl)), wi_X11_tell, ws_X11_tell, wn_X11, wc_X11_tell, ⟨by decide, by decide⟩, by decide +kernel, by decide⟩
theorem m_X11_158 : gb_LV "GladBasketModel" 158 M_X11_keepAll 1 := ⟨(gb_t7 _ (List.mem_of_getElem? (i := 176) rfl)), wi_X11_keepAll, ws_X11_keepAll, wn_X11, wc_X11_keepAll, ⟨by decide, by decide⟩, by decide +kernel, by decide⟩
theorem m_X11_162 : gb_LV "GladBasketModel" 162 M_X11_putBack 1 := ⟨(gb_t6 _ (List.mem_of_getElem? (i := 146) rfl)), wi_X11_putBack, ws_X11_putBack, wn_X11, wc_X11_putBack, ⟨by decide, by decide⟩, by decide +kernel, by decide⟩
theorem m_X11_169 : gb_LV "GladBasketModel" 169 M_X11_settled 1 := ⟨(gb_t6 _ (List.mem_of_getElem? (i := 161) rfl)), wi_X11_settled, ws_X11_settled, wn_X11, wc_X11_settled, ⟨by decide, by decide⟩, by decide +kernel, by decide⟩
theorem m_X11_180 : gb_LV "GladBasketModel" 180 M_X11_come 5 := ⟨(gb_t6 _ (List.mem_of_getElem? (i := 169) rfl)), wi_X11_come, ws_X11_come, wn_X11, wc_X11_come, ⟨by decide, by decide⟩, by decide +kernel, by decide⟩
theorem m_X11_184 : gb_LV "GladBasketModel" 184 M_X11_isGood 1 := ⟨(gb_t6 _ (List.mem_of_getElem? (i := 181) rfl)), wi_X11_isGood, ws_X11_isGood, wn_X11, wc_X11_isGood, ⟨by decide, by decide⟩, by decide +kernel, by decide⟩
theorem m_X11_189 : gb_LV "GladBasketModel" 189 M_X11_movesOf 1 := ⟨(gb_t6 _ (List.mem_of_getElem? (i := 190) rfl)), wi_X11_movesOf, ws_X11_movesOf, wn_X11, wc_X11_movesOf, ⟨by decide, by decide⟩, by decide +kernel, by decide⟩
theorem m_X11_192 : gb_LV "GladBasketModel" 192 M_X11_countsOf 1 := ⟨(gb_t6 _ (List.mem_of_getElem? (i := 216) rfl)), wi_X11_countsOf, ws_X11_countsOf, wn_X11, wc_X11_countsOf, ⟨by decide, by decide⟩, by decide +kernel, by decide⟩
theorem m_X11_195 : gb_LV "GladBasketModel" 195 M_X11_gladsOf 1 := ⟨(gb_t6 _ (List.mem_of_getElem? (i := 220) rfl)), wi_X11_gladsOf, ws_X11_gladsOf, wn_X11, wc_X11_gladsOf, ⟨by decide, by decide⟩, by decide +kernel, by decide⟩
theorem m_X11_198 : gb_LV "GladBasketModel" 198 M_X11_isBarred 1 := ⟨(gb_t6 _ (List.mem_of_getElem? (i := 224) rfl)), wi_X11_isBarred, ws_X11_isBarred, wn_X11, wc_X11_isBarred, ⟨by decide, by decide⟩, by decide +kernel, by decide⟩
theorem m_X11_201 : gb_LV "GladBasketModel" 201 M_X11_isPerson 1 := ⟨(gb_t7 _ (List.mem_of_getElem? (i := 0) rfl)), wi_X11_isPerson, ws_X11_isPerson, wn_X11, wc_X11_isPerson, ⟨by decide, by decide⟩, by decide +kernel, by decide⟩
theorem m_X11_204 : gb_LV "GladBasketModel" 204 M_X11_change 2 := ⟨(gb_t7 _ (List.mem_of_getElem? (i := 4) rfl)), wi_X11_change, ws_X11_change, wn_X11, wc_X11_change, ⟨by decide, by decide⟩, by decide +kernel, by decide⟩
theorem m_X11_218 : gb_LV "GladBasketModel" 218 M_X11_four 1 := ⟨(gb_t7 _ (List.mem_of_getElem? (i := 26) rfl)), wi_X11_four, ws_X11_four, wn_X11, wc_X11_four, ⟨by decide, by decide⟩, by decide +kernel, by decide⟩
theorem m_X11_228 : gb_LV "GladBasketModel" 228 M_X11_next 0 := ⟨(gb_t7 _ (List.mem_of_getElem? (i := 50) rfl)), wi_X11_next, ws_X11_next, wn_X11, wc_X11_next, ⟨by decide, by decide⟩, by decide +kernel, by decide⟩
theorem m_X11_257 : gb_LV "GladBasketModel" 257 M_X11_must 1 := ⟨(gb_t7 _ (List.mem_of_getElem? (i := 72) rfl)), wi_X11_must, ws_X11_must, wn_X11, wc_X11_must, ⟨by decide, by decide⟩, by decide +kernel, by decide⟩
theorem m_X11_270 : gb_LV "GladBasketModel" 270 M_X11_emit 2 := ⟨(gb_t7 _ (List.mem_of_getElem? (i := 114) rfl)), wi_X11_emit, ws_X11_emit, wn_X11, wc_X11_emit, ⟨by decide, by decide⟩, by decide +kernel, by decide⟩
theorem m_X11_280 : gb_LV "GladBasketModel" 280 M_X11_isWord 1 := ⟨(gb_t7 _ (List.mem_of_getElem? (i := 68) rfl)), wi_X11_isWord, ws_X11_isWord, wn_X11, wc_X11_isWord, ⟨by decide, by decide⟩, by decide +kernel, by decide⟩
theorem m_X11_287 : gb_LV "GladBasketModel" 287 M_X11_push 2 := ⟨(gb_t7 _ (List.mem_of_getElem? (i := 85) rfl)), wi_X11_push, ws_X11_push, wn_X11, wc_X11_push, ⟨by decide, by decide⟩, by decide +kernel, by decide⟩
theorem m_X11_293 : gb_LV "GladBasketModel" 293 M_X11_isSign 1 := ⟨(gb_t7 _ (List.mem_of_getElem? (i := 89) rfl)), wi_X11_isSign, ws_X11_isSign, wn_X11, wc_X11_isSign, ⟨by decide, by decide⟩, by decide +kernel, by decide⟩
theorem m_X11_296 : gb_LV "GladBasketModel" 296 M_X11_openBracket 1 := ⟨(gb_t7 _ (List.mem_of_getElem? (i := 93) rfl)), wi_X11_openBracket, ws_X11_openBracket, wn_X11, wc_X11_openBracket, ⟨by decide, by decide⟩, by decide +kernel, by decide⟩
theorem m_X11_302 : gb_LV "GladBasketModel" 302 M_X11_orderPartAt 0 := ⟨(gb_t7 _ (List.mem_of_getElem? (i := 101) rfl)), wi_X11_orderPartAt, ws_X11_orderPartAt, wn_X11, wc_X11_orderPartAt, ⟨by decide, by decide⟩, by decide +kernel, by decide⟩
theorem m_X11_306 : gb_LV "GladBasketModel" 306 M_X11_partAt 0 := ⟨(gb_t7 _ (List.mem_of_getElem? (i := 105) rfl)), wi_X11_partAt, ws_X11_partAt, wn_X11, wc_X11_partAt, ⟨by decide, by decide⟩, by decide +kernel, by decide⟩
theorem m_X11_311 : gb_LV "GladBasketModel" 311 M_X11_leaf 3 := ⟨(gb_t7 _ (List.mem_of_getElem? (i := 110) rfl)), wi_X11_leaf, ws_X11_leaf, wn_X11, wc_X11_leaf, ⟨by decide, by decide⟩, by decide +kernel, by decide⟩
theorem m_X11_317 : gb_LV "GladBasketModel" 317 M_X11_number 2 := ⟨(gb_t7 _ (List.mem_of_getElem? (i := 119) rfl)), wi_X11_number, ws_X11_number, wn_X11, wc_X11_number, ⟨by decide, by decide⟩, by decide +kernel, by decide⟩
theorem m_X11_323 : gb_LV "GladBasketModel" 323 M_X11_readPart 0 := ⟨(gb_t7 _ (List.mem_of_getElem? (i := 97) rfl)), wi_X11_readPart, ws_X11_readPart, wn_X11, wc_X11_readPart, ⟨by decide, by decide⟩, by decide +kernel, by decide⟩
theorem m_X11_326 : gb_LV "GladBasketModel" 326 M_X11_settle 1 := ⟨(gb_t7 _ (List.mem_of_getElem? (i := 130) rfl)), wi_X11_settle, ws_X11_settle, wn_X11, wc_X11_settle, ⟨by decide, by decide⟩, by decide +kernel, by decide⟩
theorem m_X11_329 : gb_LV "GladBasketModel" 329 M_X11_inner 0 := ⟨(gb_t7 _ (List.mem_of_getElem? (i := 134) rfl)), wi_X11_inner, ws_X11_inner, wn_X11, wc_X11_inner, ⟨by decide, by decide⟩, by decide +kernel, by decide⟩
theorem m_X11_332 : gb_LV "GladBasketModel" 332 M_X11_isCompared 0 := ⟨(gb_t7 _ (List.mem_of_getElem? (i := 138) rfl)), wi_X11_isCompared, ws_X11_isCompared, wn_X11, wc_X11_isCompared, ⟨by decide, by decide⟩, by decide +kernel, by decide⟩
theorem m_X11_340 : gb_LV "GladBasketModel" 340 M_X11_readPlain 0 := ⟨(gb_t7 _ (List.mem_of_getElem? (i := 80) rfl)), wi_X11_readPlain, ws_X11_readPlain, wn_X11, wc_X11_readPlain, ⟨by decide, by decide⟩, by decide +kernel, by decide⟩
theorem m_X11_343 : gb_LV "GladBasketModel" 343 M_X11_behindSum 1 := ⟨(gb_t7 _ (List.mem_of_getElem? (i := 123) rfl)), wi_X11_behindSum, ws_X11_behindSum, wn_X11, wc_X11_behindSum, ⟨by decide, by decide⟩, by decide +kernel, by decide⟩
theorem m_X11_347 : gb_LV "GladBasketModel" 347 M_X11_behindTest 0 := ⟨(gb_t7 _ (List.mem_of_getElem? (i := 145) rfl)), wi_X11_behindTest, ws_X11_behindTest, wn_X11, wc_X11_behindTest, ⟨by decide, by decide⟩, by decide +kernel, by decide⟩
theorem m_X11_350 : gb_LV "GladBasketModel" 350 M_X11_begin 0 := ⟨(gb_t7 _ (List.mem_of_getElem? (i := 46) rfl)), wi_X11_begin, ws_X11_begin, wn_X11, wc_X11_begin, ⟨by decide, by decide⟩, by decide +kernel, by decide⟩
theorem m_X11_356 : gb_LV "GladBasketModel" 356 M_X11_readExpression 1 := ⟨(gb_t7 _ (List.mem_of_getElem? (i := 76) rfl)), wi_X11_readExpression, ws_X11_readExpression, wn_X11, wc_X11_readExpression, ⟨by decide, by decide⟩, by decide +kernel, by decide⟩
theorem m_X11_361 : gb_LV "GladBasketModel" 361 M_X11_beginText 1 := ⟨(gb_t7 _ (List.mem_of_getElem? (i := 42) rfl)), wi_X11_beginText, ws_X11_beginText, wn_X11, wc_X11_beginText, ⟨by decide, by decide⟩, by decide +kernel, by decide⟩
theorem m_X11_364 : gb_LV "GladBasketModel" 364 M_X11_readLaw 0 := ⟨(gb_t7 _ (List.mem_of_getElem? (i := 64) rfl)), wi_X11_readLaw, ws_X11_readLaw, wn_X11, wc_X11_readLaw, ⟨by decide, by decide⟩, by decide +kernel, by decide⟩
theorem m_X11_367 : gb_LV "GladBasketModel" 367 M_X11_endText 0 := ⟨(gb_t7 _ (List.mem_of_getElem? (i := 152) rfl)), wi_X11_endText, ws_X11_endText, wn_X11, wc_X11_endText, ⟨by decide, by decide⟩, by decide +kernel, by decide⟩
theorem m_X11_370 : gb_LV "GladBasketModel" 370 M_X11_isLaw 1 := ⟨(gb_t7 _ (List.mem_of_getElem? (i := 160) rfl)), wi_X11_isLaw, ws_X11_isLaw, wn_X11, wc_X11_isLaw, ⟨by decide, by decide⟩, by decide +kernel, by decide⟩
theorem m_X11_379 : gb_LV "GladBasketModel" 379 M_X11_reckon 3 := ⟨(gb_t6 _ (List.mem_of_getElem? (i := 207) rfl)), wi_X11_reckon, ws_X11_reckon, wn_X11, wc_X11_reckon, ⟨by decide, by decide⟩, by decide +kernel, by decide⟩
theorem m_X11_390 : gb_LV "GladBasketModel" 390 M_X11_reckonAll 2 := ⟨(gb_t6 _ (List.mem_of_getElem? (i := 202) rfl)), wi_X11_reckonAll, ws_X11_reckonAll, wn_X11, wc_X11_reckonAll, ⟨by decide, by decide⟩, by decide +kernel, by decide⟩
theorem m_X11_396 : gb_LV "GladBasketModel" 396 M_X11_isSo 1 := ⟨(gb_t6 _ (List.mem_of_getElem? (i := 198) rfl)), wi_X11_isSo, ws_X11_isSo, wn_X11, wc_X11_isSo, ⟨by decide, by decide⟩, by decide +kernel, by decide⟩
theorem m_X11_399 : gb_LV "GladBasketModel" 399 M_X11_tells 3 := ⟨(gb_t6 _ (List.mem_of_getElem? (i := 194) rfl)), wi_X11_tells, ws_X11_tells, wn_X11, wc_X11_tells, ⟨by decide, by decide⟩, by decide +kernel, by decide⟩
theorem m_X11_407 : gb_LV "GladBasketModel" 407 M_X11_remember 1 := ⟨(gb_t7 _ (List.mem_of_getElem? (i := 172) rfl)), wi_X11_remember, ws_X11_remember, wn_X11, wc_X11_remember, ⟨by decide, by decide⟩, by decide +kernel, by decide⟩
theorem m_X11_410 : gb_LV "GladBasketModel" 410 M_X11_lackingOnes 0 := ⟨(gb_t7 _ (List.mem_of_getElem? (i := 180) rfl)), wi_X11_lackingOnes, ws_X11_lackingOnes, wn_X11, wc_X11_lackingOnes, ⟨by decide, by decide⟩, by decide +kernel, by decide⟩
theorem m_X11_413 : gb_LV "GladBasketModel" 413 M_X11_lackNow 1 := ⟨(gb_t7 _ (List.mem_of_getElem? (i := 168) rfl)), wi_X11_lackNow, ws_X11_lackNow, wn_X11, wc_X11_lackNow, ⟨by decide, by decide⟩, by decide +kernel, by decide⟩
theorem m_X11_416 : gb_LV "GladBasketModel" 416 M_X11_findNow 1 := ⟨(gb_t7 _ (List.mem_of_getElem? (i := 188) rfl)), wi_X11_findNow, ws_X11_findNow, wn_X11, wc_X11_findNow, ⟨by decide, by decide⟩, by decide +kernel, by decide⟩
theorem m_X11_419 : gb_LV "GladBasketModel" 419 M_X11_weighNow 2 := ⟨(gb_t7 _ (List.mem_of_getElem? (i := 196) rfl)), wi_X11_weighNow, ws_X11_weighNow, wn_X11, wc_X11_weighNow, ⟨by decide, by decide⟩, by decide +kernel, by decide⟩
theorem m_X11_422 : gb_LV "GladBasketModel" 422 M_X11_passIt 0 := ⟨(gb_t7 _ (List.mem_of_getElem? (i := 208) rfl)), wi_X11_passIt, ws_X11_passIt, wn_X11, wc_X11_passIt, ⟨by decide, by decide⟩, by decide +kernel, by decide⟩
theorem m_X11_425 : gb_LV "GladBasketModel" 425 M_X11_passNow 0 := ⟨(gb_t7 _ (List.mem_of_getElem? (i := 204) rfl)), wi_X11_passNow, ws_X11_passNow, wn_X11, wc_X11_passNow, ⟨by decide, by decide⟩, by decide +kernel, by decide⟩
theorem m_X11_438 : gb_LV "GladBasketModel" 438 M_X11_pricedBy 1 := ⟨(gb_t7 _ (List.mem_of_getElem? (i := 221) rfl)), wi_X11_pricedBy, ws_X11_pricedBy, wn_X11, wc_X11_pricedBy, ⟨by decide, by decide⟩, by decide +kernel, by decide⟩
theorem m_X11_443 : gb_LV "GladBasketModel" 443 M_X11_lowest 2 := ⟨(gb_t7 _ (List.mem_of_getElem? (i := 226) rfl)), wi_X11_lowest, ws_X11_lowest, wn_X11, wc_X11_lowest, ⟨by decide, by decide⟩, by decide +kernel, by decide⟩
theorem m_X11_449 : gb_LV "GladBasketModel" 449 M_X11_figureBy 3 := ⟨(gb_t7 _ (List.mem_of_getElem? (i := 217) rfl)), wi_X11_figureBy, ws_X11_figureBy, wn_X11, wc_X11_figureBy, ⟨by decide, by decide⟩, by decide +kernel, by decide⟩
theorem m_X11_455 : gb_LV "GladBasketModel" 455 M_X11_pensionNow 0 := ⟨(gb_t8 _ (List.mem_of_getElem? (i := 1) rfl)), wi_X11_pensionNow, ws_X11_pensionNow, wn_X11, wc_X11_pensionNow, ⟨by decide, by decide⟩, by decide +kernel, by decide⟩
theorem m_X11_458 : gb_LV "GladBasketModel" 458 M_X11_thousandths 1 := ⟨(gb_t8 _ (List.mem_of_getElem? (i := 10) rfl)), wi_X11_thousandths, ws_X11_thousandths, wn_X11, wc_X11_thousandths, ⟨by decide, by decide⟩, by decide +kernel, by decide⟩
theorem m_X11_462 : gb_LV "GladBasketModel" 462 M_X11_mostOf 1 := ⟨(gb_t8 _ (List.mem_of_getElem? (i := 23) rfl)), wi_X11_mostOf, ws_X11_mostOf, wn_X11, wc_X11_mostOf, ⟨by decide, by decide⟩, by decide +kernel, by decide⟩
theorem m_X11_465 : gb_LV "GladBasketModel" 465 M_X11_leastBy 3 := ⟨(gb_t8 _ (List.mem_of_getElem? (i := 27) rfl)), wi_X11_leastBy, ws_X11_leastBy, wn_X11, wc_X11_leastBy, ⟨by decide, by decide⟩, by decide +kernel, by decide⟩
theorem m_X11_473 : gb_LV "GladBasketModel" 473 M_X11_placeOf 1 := ⟨(gb_t8 _ (List.mem_of_getElem? (i := 42) rfl)), wi_X11_placeOf, ws_X11_placeOf, wn_X11, wc_X11_placeOf, ⟨by decide, by decide⟩, by decide +kernel, by decide⟩
theorem m_X11_479 : gb_LV "GladBasketModel" 479 M_X11_layRounds 1 := ⟨(gb_t8 _ (List.mem_of_getElem? (i := 35) rfl)), wi_X11_layRounds, ws_X11_layRounds, wn_X11, wc_X11_layRounds, ⟨by decide, by decide⟩, by decide +kernel, by decide⟩
theorem m_X11_482 : gb_LV "GladBasketModel" 482 M_X11_fromPlace 3 := ⟨(gb_t8 _ (List.mem_of_getElem? (i := 49) rfl)), wi_X11_fromPlace, ws_X11_fromPlace, wn_X11, wc_X11_fromPlace, ⟨by decide, by decide⟩, by decide +kernel, by decide⟩
theorem m_X11_488 : gb_LV "GladBasketModel" 488 M_X11_isBought 3 := ⟨(gb_t8 _ (List.mem_of_getElem? (i := 60) rfl)), wi_X11_isBought, ws_X11_isBought, wn_X11, wc_X11_isBought, ⟨by decide, by decide⟩, by decide +kernel, by decide⟩
theorem m_X11_496 : gb_LV "GladBasketModel" 496 M_X11_readSum 1 := ⟨(gb_t8 _ (List.mem_of_getElem? (i := 98) rfl)), wi_X11_readSum, ws_X11_readSum, wn_X11, wc_X11_readSum, ⟨by decide, by decide⟩, by decide +kernel, by decide⟩
theorem m_X11_512 : gb_LV "GladBasketModel" 512 M_X11_sumOf 1 := ⟨(gb_t8 _ (List.mem_of_getElem? (i := 108) rfl)), wi_X11_sumOf, ws_X11_sumOf, wn_X11, wc_X11_sumOf, ⟨by decide, by decide⟩, by decide +kernel, by decide⟩
theorem m_X11_515 : gb_LV "GladBasketModel" 515 M_X11_act 3 := ⟨(gb_t8 _ (List.mem_of_getElem? (i := 112) rfl)), wi_X11_act, ws_X11_act, wn_X11, wc_X11_act, ⟨by decide, by decide⟩, by decide +kernel, by decide⟩
theorem m_X11_518 : gb_LV "GladBasketModel" 518 M_X11_readOrder 0 := ⟨(gb_t8 _ (List.mem_of_getElem? (i := 94) rfl)), wi_X11_readOrder, ws_X11_readOrder, wn_X11, wc_X11_readOrder, ⟨by decide, by decide⟩, by decide +kernel, by decide⟩
theorem m_X11_521 : gb_LV "GladBasketModel" 521 M_X11_run 1 := ⟨(gb_t8 _ (List.mem_of_getElem? (i := 104) rfl)), wi_X11_run, ws_X11_run, wn_X11, wc_X11_run, ⟨by decide, by decide⟩, by decide +kernel, by decide⟩
theorem m_X11_524 : gb_LV "GladBasketModel" 524 M_X11_giveBack 1 := ⟨(gb_t8 _ (List.mem_of_getElem? (i := 116) rfl)), wi_X11_giveBack, ws_X11_giveBack, wn_X11, wc_X11_giveBack, ⟨by decide, by decide⟩, by decide +kernel, by decide⟩
theorem m_X11_536 : gb_LV "GladBasketModel" 536 M_X11_draw 1 := ⟨(gb_t8 _ (List.mem_of_getElem? (i := 128) rfl)), wi_X11_draw, ws_X11_draw, wn_X11, wc_X11_draw, ⟨by decide, by decide⟩, by decide +kernel, by decide⟩
theorem k_X11_188 : Cond.constant "GladBasketModel" 188 (-100000) ∈ lw_tbl := (gb_t6 _ (List.mem_of_getElem? (i := 189) rfl))
theorem k_X11_57 : Cond.constantLong "GladBasketModel" 57 (245220) ∈ lw_tbl := (gb_t5 _ (List.mem_of_getElem? (i := 187) rfl))
theorem k_X11_59 : Cond.constantLong "GladBasketModel" 59 (67173) ∈ lw_tbl := (gb_t5 _ (List.mem_of_getElem? (i := 188) rfl))
theorem k_X11_61 : Cond.constantLong "GladBasketModel" 61 (14839) ∈ lw_tbl := (gb_t5 _ (List.mem_of_getElem? (i := 189) rfl))
theorem k_X11_63 : Cond.constantLong "GladBasketModel" 63 (777297172) ∈ lw_tbl := (gb_t5 _ (List.mem_of_getElem? (i := 190) rfl))
theorem k_X11_65 : Cond.constantLong "GladBasketModel" 65 (241700) ∈ lw_tbl := (gb_t5 _ (List.mem_of_getElem? (i := 191) rfl))
theorem k_X11_67 : Cond.constantLong "GladBasketModel" 67 (12619123) ∈ lw_tbl := (gb_t5 _ (List.mem_of_getElem? (i := 192) rfl))
theorem k_X11_69 : Cond.constantLong "GladBasketModel" 69 (17171557) ∈ lw_tbl := (gb_t5 _ (List.mem_of_getElem? (i := 193) rfl))
theorem k_X11_71 : Cond.constantLong "GladBasketModel" 71 (14137992) ∈ lw_tbl := (gb_t5 _ (List.mem_of_getElem? (i := 194) rfl))
theorem k_X11_73 : Cond.constantLong "GladBasketModel" 73 (441828) ∈ lw_tbl := (gb_t5 _ (List.mem_of_getElem? (i := 195) rfl))
theorem k_X11_79 : Cond.constantLong "GladBasketModel" 79 (146885) ∈ lw_tbl := (gb_t5 _ (List.mem_of_getElem? (i := 196) rfl))
theorem k_X11_81 : Cond.constantLong "GladBasketModel" 81 (404362868) ∈ lw_tbl := (gb_t5 _ (List.mem_of_getElem? (i := 197) rfl))
theorem k_X11_83 : Cond.constantLong "GladBasketModel" 83 (211015237) ∈ lw_tbl := (gb_t5 _ (List.mem_of_getElem? (i := 198) rfl))
theorem k_X11_85 : Cond.constantLong "GladBasketModel" 85 (12921972167) ∈ lw_tbl := (gb_t5 _ (List.mem_of_getElem? (i := 199) rfl))
theorem k_X11_90 : Cond.constantLong "GladBasketModel" 90 (14145715) ∈ lw_tbl := (gb_t5 _ (List.mem_of_getElem? (i := 200) rfl))
theorem k_X11_92 : Cond.constantLong "GladBasketModel" 92 (117095059) ∈ lw_tbl := (gb_t5 _ (List.mem_of_getElem? (i := 201) rfl))
theorem k_X11_94 : Cond.constantLong "GladBasketModel" 94 (7734419) ∈ lw_tbl := (gb_t5 _ (List.mem_of_getElem? (i := 202) rfl))
theorem k_X11_96 : Cond.constantLong "GladBasketModel" 96 (67155) ∈ lw_tbl := (gb_t5 _ (List.mem_of_getElem? (i := 203) rfl))
theorem k_X11_122 : Cond.constantLong "GladBasketModel" 122 (394347) ∈ lw_tbl := (gb_t5 _ (List.mem_of_getElem? (i := 204) rfl))
theorem k_X11_124 : Cond.constantLong "GladBasketModel" 124 (206276) ∈ lw_tbl := (gb_t5 _ (List.mem_of_getElem? (i := 205) rfl))
theorem k_X11_126 : Cond.constantLong "GladBasketModel" 126 (24290536) ∈ lw_tbl := (gb_t5 _ (List.mem_of_getElem? (i := 206) rfl))
theorem k_X11_128 : Cond.constantLong "GladBasketModel" 128 (525939) ∈ lw_tbl := (gb_t5 _ (List.mem_of_getElem? (i := 207) rfl))
theorem k_X11_172 : Cond.constantLong "GladBasketModel" 172 (12) ∈ lw_tbl := (gb_t6 _ (List.mem_of_getElem? (i := 173) rfl))
theorem k_X11_174 : Cond.constantLong "GladBasketModel" 174 (99) ∈ lw_tbl := (gb_t6 _ (List.mem_of_getElem? (i := 174) rfl))
theorem k_X11_176 : Cond.constantLong "GladBasketModel" 176 (9) ∈ lw_tbl := (gb_t6 _ (List.mem_of_getElem? (i := 175) rfl))
theorem k_X11_178 : Cond.constantLong "GladBasketModel" 178 (24) ∈ lw_tbl := (gb_t6 _ (List.mem_of_getElem? (i := 176) rfl))
theorem k_X11_208 : Cond.constantLong "GladBasketModel" 208 (999) ∈ lw_tbl := (gb_t7 _ (List.mem_of_getElem? (i := 12) rfl))
theorem k_X11_210 : Cond.constantLong "GladBasketModel" 210 (10) ∈ lw_tbl := (gb_t7 _ (List.mem_of_getElem? (i := 13) rfl))
theorem k_X11_247 : Cond.constantLong "GladBasketModel" 247 (32) ∈ lw_tbl := (gb_t7 _ (List.mem_of_getElem? (i := 60) rfl))
theorem k_X11_249 : Cond.constantLong "GladBasketModel" 249 (96) ∈ lw_tbl := (gb_t7 _ (List.mem_of_getElem? (i := 61) rfl))
theorem k_X11_251 : Cond.constantLong "GladBasketModel" 251 (-1) ∈ lw_tbl := (gb_t6 _ (List.mem_of_getElem? (i := 206) rfl))
theorem k_X11_253 : Cond.constantLong "GladBasketModel" 253 (1000000) ∈ lw_tbl := (gb_t7 _ (List.mem_of_getElem? (i := 62) rfl))
theorem k_X11_255 : Cond.constantLong "GladBasketModel" 255 (48) ∈ lw_tbl := (gb_t7 _ (List.mem_of_getElem? (i := 63) rfl))
theorem k_X11_274 : Cond.constantLong "GladBasketModel" 274 (20) ∈ lw_tbl := (gb_t7 _ (List.mem_of_getElem? (i := 142) rfl))
theorem k_X11_276 : Cond.constantLong "GladBasketModel" 276 (25) ∈ lw_tbl := (gb_t7 _ (List.mem_of_getElem? (i := 143) rfl))
theorem k_X11_278 : Cond.constantLong "GladBasketModel" 278 (27) ∈ lw_tbl := (gb_t7 _ (List.mem_of_getElem? (i := 144) rfl))
theorem k_X11_309 : Cond.constantLong "GladBasketModel" 309 (1000) ∈ lw_tbl := (gb_t7 _ (List.mem_of_getElem? (i := 109) rfl))
theorem k_X11_315 : Cond.constantLong "GladBasketModel" 315 (7) ∈ lw_tbl := (gb_t7 _ (List.mem_of_getElem? (i := 118) rfl))
theorem k_X11_321 : Cond.constantLong "GladBasketModel" 321 (14836) ∈ lw_tbl := (gb_t7 _ (List.mem_of_getElem? (i := 84) rfl))
theorem k_X11_336 : Cond.constantLong "GladBasketModel" 336 (1476) ∈ lw_tbl := (gb_t7 _ (List.mem_of_getElem? (i := 149) rfl))
theorem k_X11_338 : Cond.constantLong "GladBasketModel" 338 (498) ∈ lw_tbl := (gb_t7 _ (List.mem_of_getElem? (i := 150) rfl))
theorem k_X11_359 : Cond.constantLong "GladBasketModel" 359 (294) ∈ lw_tbl := (gb_t7 _ (List.mem_of_getElem? (i := 151) rfl))
theorem k_X11_383 : Cond.constantLong "GladBasketModel" 383 (-1000000000) ∈ lw_tbl := (gb_t6 _ (List.mem_of_getElem? (i := 211) rfl))
theorem k_X11_385 : Cond.constantLong "GladBasketModel" 385 (1000000000) ∈ lw_tbl := (gb_t6 _ (List.mem_of_getElem? (i := 212) rfl))
theorem k_X11_441 : Cond.constantLong "GladBasketModel" 441 (27720) ∈ lw_tbl := (gb_t7 _ (List.mem_of_getElem? (i := 225) rfl))
theorem k_X11_447 : Cond.constantLong "GladBasketModel" 447 (3) ∈ lw_tbl := (gb_t7 _ (List.mem_of_getElem? (i := 216) rfl))
theorem k_X11_453 : Cond.constantLong "GladBasketModel" 453 (100) ∈ lw_tbl := (gb_t8 _ (List.mem_of_getElem? (i := 5) rfl))
theorem k_X11_492 : Cond.constantLong "GladBasketModel" 492 (60) ∈ lw_tbl := (gb_t8 _ (List.mem_of_getElem? (i := 88) rfl))
theorem k_X11_494 : Cond.constantLong "GladBasketModel" 494 (1000000000000) ∈ lw_tbl := (gb_t8 _ (List.mem_of_getElem? (i := 89) rfl))
theorem k_X11_499 : Cond.constantLong "GladBasketModel" 499 (89) ∈ lw_tbl := (gb_t8 _ (List.mem_of_getElem? (i := 102) rfl))
theorem k_X11_501 : Cond.constantLong "GladBasketModel" 501 (21279923) ∈ lw_tbl := (gb_t8 _ (List.mem_of_getElem? (i := 103) rfl))
theorem k_X11_530 : Cond.constantLong "GladBasketModel" 530 (1103) ∈ lw_tbl := (gb_t8 _ (List.mem_of_getElem? (i := 132) rfl))
theorem k_X11_532 : Cond.constantLong "GladBasketModel" 532 (12345) ∈ lw_tbl := (gb_t8 _ (List.mem_of_getElem? (i := 133) rfl))
theorem k_X11_534 : Cond.constantLong "GladBasketModel" 534 (1000003) ∈ lw_tbl := (gb_t8 _ (List.mem_of_getElem? (i := 134) rfl))
theorem k_X11_539 : Cond.constantLong "GladBasketModel" 539 (13) ∈ lw_tbl := (gb_t8 _ (List.mem_of_getElem? (i := 143) rfl))
theorem k_X11_541 : Cond.constantLong "GladBasketModel" 541 (15) ∈ lw_tbl := (gb_t8 _ (List.mem_of_getElem? (i := 144) rfl))
theorem k_X11_461 : Cond.constant "GladBasketModel" 461 (100000000) ∈ lw_tbl := (gb_t8 _ (List.mem_of_getElem? (i := 22) rfl))
theorem f_X11_145 : gb_FL "GladBasketModel" 145 11 0 false (.int) := ⟨RX11, TX11, 56, tyX11, gb_cl11, by decide, (gb_t5 _ (List.mem_of_getElem? (i := 208) rfl)), rfl, rfl, rfl⟩
theorem k_J11_76 : Cond.constant "java/lang/Character" 76 (56320) ∈ lw_tbl := (gb_t3 _ (List.mem_of_getElem? (i := 238) rfl))
theorem k_J11_110 : Cond.constant "java/lang/Character" 110 (55232) ∈ lw_tbl := (gb_t3 _ (List.mem_of_getElem? (i := 234) rfl))
theorem rf_J0_9 : Cond.fieldLink "java/lang/String" 9 "java/lang/String" "value" "[B" ∈ lw_tbl := (gb_t8 _ (List.mem_of_getElem? (i := 149) rfl))
theorem rf_J0_15 : Cond.fieldLink "java/lang/String" 15 "java/lang/String" "coder" "B" ∈ lw_tbl := (gb_t8 _ (List.mem_of_getElem? (i := 150) rfl))
theorem rf_J0_38 : Cond.fieldLink "java/lang/String" 38 "java/lang/String" "COMPACT_STRINGS" "Z" ∈ lw_tbl := (gb_t3 _ (List.mem_of_getElem? (i := 87) rfl))
theorem rf_J0_1053 : Cond.fieldLink "java/lang/String" 1053 "jdk/internal/util/Preconditions" "SIOOBE_FORMATTER" "Ljava/util/function/BiFunction;" ∈ lw_tbl := (gb_t3 _ (List.mem_of_getElem? (i := 103) rfl))
theorem m_J0_495 : gb_LS "java/lang/String" 495 M_J1_charAt_3b067 2 := ⟨(gb_t3 _ (List.mem_of_getElem? (i := 97) rfl)), wt_J1_charAt_3b067, wn_J1, wc_J1_charAt_3b067, ⟨by decide, by decide⟩, by decide +kernel, by decide⟩
theorem m_J0_498 : gb_LS "java/lang/String" 498 M_J2_charAt_3b067 2 := ⟨(gb_t3 _ (List.mem_of_getElem? (i := 108) rfl)), wt_J2_charAt_3b067, wn_J2, wc_J2_charAt_3b067, ⟨by decide, by decide⟩, by decide +kernel, by decide⟩
theorem m_J0_637 : gb_LS "java/lang/String" 637 M_J1_indexOf_4cfef 4 := ⟨(gb_t3 _ (List.mem_of_getElem? (i := 193) rfl)), wt_J1_indexOf_4cfef, wn_J1, wc_J1_indexOf_4cfef, ⟨by decide, by decide⟩, by decide +kernel, by decide⟩
theorem m_J0_640 : gb_LS "java/lang/String" 640 M_J2_indexOf_4cfef 4 := ⟨(gb_t3 _ (List.mem_of_getElem? (i := 204) rfl)), wt_J2_indexOf_4cfef, wn_J2, wc_J2_indexOf_4cfef, ⟨by decide, by decide⟩, by decide +kernel, by decide⟩
theorem m_J0_1059 : gb_LS "java/lang/String" 1059 M_J3_checkIndex_8e157 3 := ⟨(gb_t3 _ (List.mem_of_getElem? (i := 105) rfl)), wt_J3_checkIndex_8e157, wn_J3, wc_J3_checkIndex_8e157, ⟨by decide, by decide⟩, by decide +kernel, by decide⟩
theorem m_J0_1062 : gb_LS "java/lang/String" 1062 M_J3_checkFromToIndex_8c36e 4 := ⟨(gb_t3 _ (List.mem_of_getElem? (i := 219) rfl)), wt_J3_checkFromToIndex_8c36e, wn_J3, wc_J3_checkFromToIndex_8c36e, ⟨by decide, by decide⟩, by decide +kernel, by decide⟩
theorem m_J0_335 : gb_LV "java/lang/String" 335 M_J0_coder_7d493 0 := ⟨(gb_t3 _ (List.mem_of_getElem? (i := 83) rfl)), wi_J0_coder_7d493, ws_J0_coder_7d493, wn_J0, wc_J0_coder_7d493, ⟨by decide, by decide⟩, by decide +kernel, by decide⟩
theorem m_J0_492 : gb_LV "java/lang/String" 492 M_J0_isLatin1_aae02 0 := ⟨(gb_t3 _ (List.mem_of_getElem? (i := 93) rfl)), wi_J0_isLatin1_aae02, ws_J0_isLatin1_aae02, wn_J0, wc_J0_isLatin1_aae02, ⟨by decide, by decide⟩, by decide +kernel, by decide⟩
theorem m_J0_505 : gb_LV "java/lang/String" 505 M_J0_length_8abf5 0 := ⟨(gb_t3 _ (List.mem_of_getElem? (i := 192) rfl)), wi_J0_length_8abf5, ws_J0_length_8abf5, wn_J0, wc_J0_length_8abf5, ⟨by decide, by decide⟩, by decide +kernel, by decide⟩
theorem m_J0_633 : gb_LV "java/lang/String" 633 M_J0_indexOf_7cf53 2 := ⟨(gb_t3 _ (List.mem_of_getElem? (i := 188) rfl)), wi_J0_indexOf_7cf53, ws_J0_indexOf_7cf53, wn_J0, wc_J0_indexOf_7cf53, ⟨by decide, by decide⟩, by decide +kernel, by decide⟩
theorem m_J1_9 : gb_LS "java/lang/StringLatin1" 9 M_J0_checkIndex_df160 2 := ⟨(gb_t3 _ (List.mem_of_getElem? (i := 100) rfl)), wt_J0_checkIndex_df160, wn_J0, wc_J0_checkIndex_df160, ⟨by decide, by decide⟩, by decide +kernel, by decide⟩
theorem m_J1_38 : gb_LS "java/lang/StringLatin1" 38 M_J9_min_7cf53 2 := ⟨(gb_t3 _ (List.mem_of_getElem? (i := 200) rfl)), wt_J9_min_7cf53, wn_J9, wc_J9_min_7cf53, ⟨by decide, by decide⟩, by decide +kernel, by decide⟩
theorem m_J1_88 : gb_LS "java/lang/StringLatin1" 88 M_J1_canEncode_9a6ad 1 := ⟨(gb_t3 _ (List.mem_of_getElem? (i := 196) rfl)), wt_J1_canEncode_9a6ad, wn_J1, wc_J1_canEncode_9a6ad, ⟨by decide, by decide⟩, by decide +kernel, by decide⟩
theorem m_J1_92 : gb_LS "java/lang/StringLatin1" 92 M_J9_max_7cf53 2 := ⟨(gb_t3 _ (List.mem_of_getElem? (i := 199) rfl)), wt_J9_max_7cf53, wn_J9, wc_J9_max_7cf53, ⟨by decide, by decide⟩, by decide +kernel, by decide⟩
theorem m_J1_95 : gb_LS "java/lang/StringLatin1" 95 M_J1_indexOfChar_4cfef 4 := ⟨(gb_t3 _ (List.mem_of_getElem? (i := 201) rfl)), wt_J1_indexOfChar_4cfef, wn_J1, wc_J1_indexOfChar_4cfef, ⟨by decide, by decide⟩, by decide +kernel, by decide⟩
theorem rf_J2_44 : Cond.fieldLink "java/lang/StringUTF16" 44 "java/lang/StringUTF16" "$assertionsDisabled" "Z" ∈ lw_tbl := (gb_t3 _ (List.mem_of_getElem? (i := 121) rfl))
theorem rf_J2_59 : Cond.fieldLink "java/lang/StringUTF16" 59 "java/lang/StringUTF16" "HI_BYTE_SHIFT" "I" ∈ lw_tbl := (gb_t3 _ (List.mem_of_getElem? (i := 123) rfl))
theorem rf_J2_63 : Cond.fieldLink "java/lang/StringUTF16" 63 "java/lang/StringUTF16" "LO_BYTE_SHIFT" "I" ∈ lw_tbl := (gb_t3 _ (List.mem_of_getElem? (i := 125) rfl))
theorem m_J2_48 : gb_LS "java/lang/StringUTF16" 48 M_J2_length_9d52b 1 := ⟨(gb_t3 _ (List.mem_of_getElem? (i := 114) rfl)), wt_J2_length_9d52b, wn_J2, wc_J2_length_9d52b, ⟨by decide, by decide⟩, by decide +kernel, by decide⟩
theorem m_J2_67 : gb_LS "java/lang/StringUTF16" 67 M_J2_checkIndex_2214a 2 := ⟨(gb_t3 _ (List.mem_of_getElem? (i := 111) rfl)), wt_J2_checkIndex_2214a, wn_J2, wc_J2_checkIndex_2214a, ⟨by decide, by decide⟩, by decide +kernel, by decide⟩
theorem m_J2_71 : gb_LS "java/lang/StringUTF16" 71 M_J2_getChar_3b067 2 := ⟨(gb_t3 _ (List.mem_of_getElem? (i := 118) rfl)), wt_J2_getChar_3b067, wn_J2, wc_J2_getChar_3b067, ⟨by decide, by decide⟩, by decide +kernel, by decide⟩
theorem m_J2_96 : gb_LS "java/lang/StringUTF16" 96 M_J2_checkBoundsBeginEnd_d044e 3 := ⟨(gb_t3 _ (List.mem_of_getElem? (i := 213) rfl)), wt_J2_checkBoundsBeginEnd_d044e, wn_J2, wc_J2_checkBoundsBeginEnd_d044e, ⟨by decide, by decide⟩, by decide +kernel, by decide⟩
theorem m_J2_157 : gb_LS "java/lang/StringUTF16" 157 M_J11_highSurrogate_5068e 1 := ⟨(gb_t3 _ (List.mem_of_getElem? (i := 231) rfl)), wt_J11_highSurrogate_5068e, wn_J11, wc_J11_highSurrogate_5068e, ⟨by decide, by decide⟩, by decide +kernel, by decide⟩
theorem m_J2_161 : gb_LS "java/lang/StringUTF16" 161 M_J11_lowSurrogate_5068e 1 := ⟨(gb_t3 _ (List.mem_of_getElem? (i := 235) rfl)), wt_J11_lowSurrogate_5068e, wn_J11, wc_J11_lowSurrogate_5068e, ⟨by decide, by decide⟩, by decide +kernel, by decide⟩
theorem m_J2_164 : gb_LS "java/lang/StringUTF16" 164 M_J11_isValidCodePoint_9a6ad 1 := ⟨(gb_t3 _ (List.mem_of_getElem? (i := 228) rfl)), wt_J11_isValidCodePoint_9a6ad, wn_J11, wc_J11_isValidCodePoint_9a6ad, ⟨by decide, by decide⟩, by decide +kernel, by decide⟩
theorem m_J2_183 : gb_LS "java/lang/StringUTF16" 183 M_J9_min_7cf53 2 := ⟨(gb_t3 _ (List.mem_of_getElem? (i := 208) rfl)), wt_J9_min_7cf53, wn_J9, wc_J9_min_7cf53, ⟨by decide, by decide⟩, by decide +kernel, by decide⟩
theorem m_J2_224 : gb_LS "java/lang/StringUTF16" 224 M_J9_max_7cf53 2 := ⟨(gb_t3 _ (List.mem_of_getElem? (i := 207) rfl)), wt_J9_max_7cf53, wn_J9, wc_J9_max_7cf53, ⟨by decide, by decide⟩, by decide +kernel, by decide⟩
theorem m_J2_228 : gb_LS "java/lang/StringUTF16" 228 M_J2_indexOfChar_4cfef 4 := ⟨(gb_t3 _ (List.mem_of_getElem? (i := 210) rfl)), wt_J2_indexOfChar_4cfef, wn_J2, wc_J2_indexOfChar_4cfef, ⟨by decide, by decide⟩, by decide +kernel, by decide⟩
theorem m_J2_232 : gb_LS "java/lang/StringUTF16" 232 M_J2_indexOfSupplementary_4cfef 4 := ⟨(gb_t3 _ (List.mem_of_getElem? (i := 225) rfl)), wt_J2_indexOfSupplementary_4cfef, wn_J2, wc_J2_indexOfSupplementary_4cfef, ⟨by decide, by decide⟩, by decide +kernel, by decide⟩
theorem m_J2_241 : gb_LS "java/lang/StringUTF16" 241 M_J0_checkBoundsBeginEnd_23922 3 := ⟨(gb_t3 _ (List.mem_of_getElem? (i := 216) rfl)), wt_J0_checkBoundsBeginEnd_23922, wn_J0, wc_J0_checkBoundsBeginEnd_23922, ⟨by decide, by decide⟩, by decide +kernel, by decide⟩
theorem m_J2_244 : gb_LS "java/lang/StringUTF16" 244 M_J2_indexOfCharUnsafe_4cfef 4 := ⟨(gb_t3 _ (List.mem_of_getElem? (i := 222) rfl)), wt_J2_indexOfCharUnsafe_4cfef, wn_J2, wc_J2_indexOfCharUnsafe_4cfef, ⟨by decide, by decide⟩, by decide +kernel, by decide⟩
theorem m_J2_414 : gb_LS "java/lang/StringUTF16" 414 M_J0_checkIndex_df160 2 := ⟨(gb_t3 _ (List.mem_of_getElem? (i := 117) rfl)), wt_J0_checkIndex_df160, wn_J0, wc_J0_checkIndex_df160, ⟨by decide, by decide⟩, by decide +kernel, by decide⟩
theorem k_J2_227 : Cond.constant "java/lang/StringUTF16" 227 (65536) ∈ lw_tbl := (gb_t3 _ (List.mem_of_getElem? (i := 209) rfl))
theorem m_J7_304 : gb_LS "java/util/Arrays" 304 M_J9_min_7cf53 2 := ⟨(gb_t4 _ (List.mem_of_getElem? (i := 52) rfl)), wt_J9_min_7cf53, wn_J9, wc_J9_min_7cf53, ⟨by decide, by decide⟩, by decide +kernel, by decide⟩
theorem m_L_9 : gb_LI "GladBasketLaw" 9 M_X10_init 0 := ⟨(gb_t1 _ (List.mem_of_getElem? (i := 23) rfl)), wi_X10_init, rfl, rfl, wn_X10, wc_X10_init, ⟨by decide, by decide⟩, by decide +kernel, by decide⟩
theorem m_L_12 : gb_LI "GladBasketLaw" 12 M_X11_init 0 := ⟨(gb_t5 _ (List.mem_of_getElem? (i := 183) rfl)), wi_X11_init, rfl, rfl, wn_X11, wc_X11_init, ⟨by decide, by decide⟩, by decide +kernel, by decide⟩
theorem m_L_13 : gb_LV "GladBasketLaw" 13 M_X10_good 5 := ⟨(gb_t2 _ (List.mem_of_getElem? (i := 139) rfl)), wi_X10_good, ws_X10_good, wn_X10, wc_X10_good, ⟨by decide, by decide⟩, by decide +kernel, by decide⟩
theorem m_L_17 : gb_LV "GladBasketLaw" 17 M_X11_good 5 := ⟨(gb_t6 _ (List.mem_of_getElem? (i := 165) rfl)), wi_X11_good, ws_X11_good, wn_X11, wc_X11_good, ⟨by decide, by decide⟩, by decide +kernel, by decide⟩
theorem m_L_18 : gb_LV "GladBasketLaw" 18 M_X10_of 2 := ⟨(gb_t2 _ (List.mem_of_getElem? (i := 177) rfl)), wi_X10_of, ws_X10_of, wn_X10, wc_X10_of, ⟨by decide, by decide⟩, by decide +kernel, by decide⟩
theorem m_L_22 : gb_LV "GladBasketLaw" 22 M_X11_of 2 := ⟨(gb_t6 _ (List.mem_of_getElem? (i := 177) rfl)), wi_X11_of, ws_X11_of, wn_X11, wc_X11_of, ⟨by decide, by decide⟩, by decide +kernel, by decide⟩
theorem m_L_23 : gb_LV "GladBasketLaw" 23 M_X10_asks 2 := ⟨(gb_t2 _ (List.mem_of_getElem? (i := 185) rfl)), wi_X10_asks, ws_X10_asks, wn_X10, wc_X10_asks, ⟨by decide, by decide⟩, by decide +kernel, by decide⟩
theorem m_L_26 : gb_LV "GladBasketLaw" 26 M_X11_asks 2 := ⟨(gb_t6 _ (List.mem_of_getElem? (i := 185) rfl)), wi_X11_asks, ws_X11_asks, wn_X11, wc_X11_asks, ⟨by decide, by decide⟩, by decide +kernel, by decide⟩
theorem m_L_27 : gb_LV "GladBasketLaw" 27 M_X10_stand 2 := ⟨(gb_t2 _ (List.mem_of_getElem? (i := 233) rfl)), wi_X10_stand, ws_X10_stand, wn_X10, wc_X10_stand, ⟨by decide, by decide⟩, by decide +kernel, by decide⟩
theorem m_L_30 : gb_LV "GladBasketLaw" 30 M_X11_stand 2 := ⟨(gb_t6 _ (List.mem_of_getElem? (i := 228) rfl)), wi_X11_stand, ws_X11_stand, wn_X11, wc_X11_stand, ⟨by decide, by decide⟩, by decide +kernel, by decide⟩
theorem m_L_31 : gb_LV "GladBasketLaw" 31 M_X10_person 0 := ⟨(gb_t2 _ (List.mem_of_getElem? (i := 238) rfl)), wi_X10_person, ws_X10_person, wn_X10, wc_X10_person, ⟨by decide, by decide⟩, by decide +kernel, by decide⟩
theorem m_L_35 : gb_LV "GladBasketLaw" 35 M_X11_person 0 := ⟨(gb_t6 _ (List.mem_of_getElem? (i := 232) rfl)), wi_X11_person, ws_X11_person, wn_X11, wc_X11_person, ⟨by decide, by decide⟩, by decide +kernel, by decide⟩
theorem m_L_36 : gb_LV "GladBasketLaw" 36 M_X10_own 3 := ⟨(gb_t3 _ (List.mem_of_getElem? (i := 2) rfl)), wi_X10_own, ws_X10_own, wn_X10, wc_X10_own, ⟨by decide, by decide⟩, by decide +kernel, by decide⟩
theorem m_L_40 : gb_LV "GladBasketLaw" 40 M_X11_own 3 := ⟨(gb_t6 _ (List.mem_of_getElem? (i := 236) rfl)), wi_X11_own, ws_X11_own, wn_X11, wc_X11_own, ⟨by decide, by decide⟩, by decide +kernel, by decide⟩
theorem m_L_41 : gb_LV "GladBasketLaw" 41 M_X10_terms 2 := ⟨(gb_t3 _ (List.mem_of_getElem? (i := 10) rfl)), wi_X10_terms, ws_X10_terms, wn_X10, wc_X10_terms, ⟨by decide, by decide⟩, by decide +kernel, by decide⟩
theorem m_L_44 : gb_LV "GladBasketLaw" 44 M_X11_terms 2 := ⟨(gb_t7 _ (List.mem_of_getElem? (i := 8) rfl)), wi_X11_terms, ws_X11_terms, wn_X11, wc_X11_terms, ⟨by decide, by decide⟩, by decide +kernel, by decide⟩
theorem m_L_45 : gb_LV "GladBasketLaw" 45 M_X10_feed 5 := ⟨(gb_t3 _ (List.mem_of_getElem? (i := 16) rfl)), wi_X10_feed, ws_X10_feed, wn_X10, wc_X10_feed, ⟨by decide, by decide⟩, by decide +kernel, by decide⟩
theorem m_L_48 : gb_LV "GladBasketLaw" 48 M_X11_feed 5 := ⟨(gb_t7 _ (List.mem_of_getElem? (i := 22) rfl)), wi_X11_feed, ws_X11_feed, wn_X11, wc_X11_feed, ⟨by decide, by decide⟩, by decide +kernel, by decide⟩
theorem m_L_49 : gb_LV "GladBasketLaw" 49 M_X10_end 1 := ⟨(gb_t3 _ (List.mem_of_getElem? (i := 24) rfl)), wi_X10_end, ws_X10_end, wn_X10, wc_X10_end, ⟨by decide, by decide⟩, by decide +kernel, by decide⟩
theorem m_L_53 : gb_LV "GladBasketLaw" 53 M_X11_end 1 := ⟨(gb_t7 _ (List.mem_of_getElem? (i := 30) rfl)), wi_X11_end, ws_X11_end, wn_X11, wc_X11_end, ⟨by decide, by decide⟩, by decide +kernel, by decide⟩
theorem m_L_54 : gb_LV "GladBasketLaw" 54 M_X10_row 0 := ⟨(gb_t3 _ (List.mem_of_getElem? (i := 28) rfl)), wi_X10_row, ws_X10_row, wn_X10, wc_X10_row, ⟨by decide, by decide⟩, by decide +kernel, by decide⟩
theorem m_L_57 : gb_LV "GladBasketLaw" 57 M_X11_row 0 := ⟨(gb_t7 _ (List.mem_of_getElem? (i := 14) rfl)), wi_X11_row, ws_X11_row, wn_X11, wc_X11_row, ⟨by decide, by decide⟩, by decide +kernel, by decide⟩
theorem m_L_58 : gb_LV "GladBasketLaw" 58 M_X10_commas 0 := ⟨(gb_t3 _ (List.mem_of_getElem? (i := 40) rfl)), wi_X10_commas, ws_X10_commas, wn_X10, wc_X10_commas, ⟨by decide, by decide⟩, by decide +kernel, by decide⟩
theorem m_L_61 : gb_LV "GladBasketLaw" 61 M_X11_commas 0 := ⟨(gb_t7 _ (List.mem_of_getElem? (i := 18) rfl)), wi_X11_commas, ws_X11_commas, wn_X11, wc_X11_commas, ⟨by decide, by decide⟩, by decide +kernel, by decide⟩
theorem m_L_62 : gb_LV "GladBasketLaw" 62 M_X10_law 0 := ⟨(gb_t3 _ (List.mem_of_getElem? (i := 44) rfl)), wi_X10_law, ws_X10_law, wn_X10, wc_X10_law, ⟨by decide, by decide⟩, by decide +kernel, by decide⟩
theorem m_L_65 : gb_LV "GladBasketLaw" 65 M_X11_law 0 := ⟨(gb_t7 _ (List.mem_of_getElem? (i := 38) rfl)), wi_X11_law, ws_X11_law, wn_X11, wc_X11_law, ⟨by decide, by decide⟩, by decide +kernel, by decide⟩
theorem m_L_66 : gb_LV "GladBasketLaw" 66 M_X10_orders 0 := ⟨(gb_t4 _ (List.mem_of_getElem? (i := 61) rfl)), wi_X10_orders, ws_X10_orders, wn_X10, wc_X10_orders, ⟨by decide, by decide⟩, by decide +kernel, by decide⟩
theorem m_L_69 : gb_LV "GladBasketLaw" 69 M_X11_orders 0 := ⟨(gb_t8 _ (List.mem_of_getElem? (i := 90) rfl)), wi_X11_orders, ws_X11_orders, wn_X11, wc_X11_orders, ⟨by decide, by decide⟩, by decide +kernel, by decide⟩
theorem m_L_70 : gb_LV "GladBasketLaw" 70 M_X10_fault 0 := ⟨(gb_t4 _ (List.mem_of_getElem? (i := 142) rfl)), wi_X10_fault, ws_X10_fault, wn_X10, wc_X10_fault, ⟨by decide, by decide⟩, by decide +kernel, by decide⟩
theorem m_L_73 : gb_LV "GladBasketLaw" 73 M_X11_fault 0 := ⟨(gb_t7 _ (List.mem_of_getElem? (i := 34) rfl)), wi_X11_fault, ws_X11_fault, wn_X11, wc_X11_fault, ⟨by decide, by decide⟩, by decide +kernel, by decide⟩
theorem m_L_74 : gb_LV "GladBasketLaw" 74 M_X10_stopped 0 := ⟨(gb_t4 _ (List.mem_of_getElem? (i := 146) rfl)), wi_X10_stopped, ws_X10_stopped, wn_X10, wc_X10_stopped, ⟨by decide, by decide⟩, by decide +kernel, by decide⟩
theorem m_L_77 : gb_LV "GladBasketLaw" 77 M_X11_stopped 0 := ⟨(gb_t8 _ (List.mem_of_getElem? (i := 120) rfl)), wi_X11_stopped, ws_X11_stopped, wn_X11, wc_X11_stopped, ⟨by decide, by decide⟩, by decide +kernel, by decide⟩
theorem m_L_78 : gb_LV "GladBasketLaw" 78 M_X10_force 1 := ⟨(gb_t4 _ (List.mem_of_getElem? (i := 150) rfl)), wi_X10_force, ws_X10_force, wn_X10, wc_X10_force, ⟨by decide, by decide⟩, by decide +kernel, by decide⟩
theorem m_L_81 : gb_LV "GladBasketLaw" 81 M_X11_force 1 := ⟨(gb_t7 _ (List.mem_of_getElem? (i := 156) rfl)), wi_X11_force, ws_X11_force, wn_X11, wc_X11_force, ⟨by decide, by decide⟩, by decide +kernel, by decide⟩
theorem m_L_82 : gb_LV "GladBasketLaw" 82 M_X10_lack 1 := ⟨(gb_t4 _ (List.mem_of_getElem? (i := 154) rfl)), wi_X10_lack, ws_X10_lack, wn_X10, wc_X10_lack, ⟨by decide, by decide⟩, by decide +kernel, by decide⟩
theorem m_L_85 : gb_LV "GladBasketLaw" 85 M_X11_lack 1 := ⟨(gb_t7 _ (List.mem_of_getElem? (i := 164) rfl)), wi_X11_lack, ws_X11_lack, wn_X11, wc_X11_lack, ⟨by decide, by decide⟩, by decide +kernel, by decide⟩
theorem m_L_86 : gb_LV "GladBasketLaw" 86 M_X10_find 1 := ⟨(gb_t4 _ (List.mem_of_getElem? (i := 162) rfl)), wi_X10_find, ws_X10_find, wn_X10, wc_X10_find, ⟨by decide, by decide⟩, by decide +kernel, by decide⟩
theorem m_L_89 : gb_LV "GladBasketLaw" 89 M_X11_find 1 := ⟨(gb_t7 _ (List.mem_of_getElem? (i := 184) rfl)), wi_X11_find, ws_X11_find, wn_X11, wc_X11_find, ⟨by decide, by decide⟩, by decide +kernel, by decide⟩
theorem m_L_90 : gb_LV "GladBasketLaw" 90 M_X10_weigh 2 := ⟨(gb_t4 _ (List.mem_of_getElem? (i := 166) rfl)), wi_X10_weigh, ws_X10_weigh, wn_X10, wc_X10_weigh, ⟨by decide, by decide⟩, by decide +kernel, by decide⟩
theorem m_L_93 : gb_LV "GladBasketLaw" 93 M_X11_weigh 2 := ⟨(gb_t7 _ (List.mem_of_getElem? (i := 192) rfl)), wi_X11_weigh, ws_X11_weigh, wn_X11, wc_X11_weigh, ⟨by decide, by decide⟩, by decide +kernel, by decide⟩
theorem m_L_94 : gb_LV "GladBasketLaw" 94 M_X10_pass 0 := ⟨(gb_t4 _ (List.mem_of_getElem? (i := 170) rfl)), wi_X10_pass, ws_X10_pass, wn_X10, wc_X10_pass, ⟨by decide, by decide⟩, by decide +kernel, by decide⟩
theorem m_L_97 : gb_LV "GladBasketLaw" 97 M_X11_pass 0 := ⟨(gb_t7 _ (List.mem_of_getElem? (i := 200) rfl)), wi_X11_pass, ws_X11_pass, wn_X11, wc_X11_pass, ⟨by decide, by decide⟩, by decide +kernel, by decide⟩
theorem m_L_98 : gb_LV "GladBasketLaw" 98 M_X10_undo 0 := ⟨(gb_t4 _ (List.mem_of_getElem? (i := 174) rfl)), wi_X10_undo, ws_X10_undo, wn_X10, wc_X10_undo, ⟨by decide, by decide⟩, by decide +kernel, by decide⟩
theorem m_L_101 : gb_LV "GladBasketLaw" 101 M_X11_undo 0 := ⟨(gb_t6 _ (List.mem_of_getElem? (i := 138) rfl)), wi_X11_undo, ws_X11_undo, wn_X11, wc_X11_undo, ⟨by decide, by decide⟩, by decide +kernel, by decide⟩
theorem m_L_102 : gb_LV "GladBasketLaw" 102 M_X10_figure 2 := ⟨(gb_t4 _ (List.mem_of_getElem? (i := 184) rfl)), wi_X10_figure, ws_X10_figure, wn_X10, wc_X10_figure, ⟨by decide, by decide⟩, by decide +kernel, by decide⟩
theorem m_L_106 : gb_LV "GladBasketLaw" 106 M_X11_figure 2 := ⟨(gb_t7 _ (List.mem_of_getElem? (i := 212) rfl)), wi_X11_figure, ws_X11_figure, wn_X11, wc_X11_figure, ⟨by decide, by decide⟩, by decide +kernel, by decide⟩
theorem m_L_107 : gb_LV "GladBasketLaw" 107 M_X10_turned 2 := ⟨(gb_t4 _ (List.mem_of_getElem? (i := 226) rfl)), wi_X10_turned, ws_X10_turned, wn_X10, wc_X10_turned, ⟨by decide, by decide⟩, by decide +kernel, by decide⟩
theorem m_L_110 : gb_LV "GladBasketLaw" 110 M_X11_turned 2 := ⟨(gb_t7 _ (List.mem_of_getElem? (i := 233) rfl)), wi_X11_turned, ws_X11_turned, wn_X11, wc_X11_turned, ⟨by decide, by decide⟩, by decide +kernel, by decide⟩
theorem m_L_111 : gb_LV "GladBasketLaw" 111 M_X10_pension 0 := ⟨(gb_t4 _ (List.mem_of_getElem? (i := 238) rfl)), wi_X10_pension, ws_X10_pension, wn_X10, wc_X10_pension, ⟨by decide, by decide⟩, by decide +kernel, by decide⟩
theorem m_L_114 : gb_LV "GladBasketLaw" 114 M_X11_pension 0 := ⟨(gb_t7 _ (List.mem_of_getElem? (i := 237) rfl)), wi_X11_pension, ws_X11_pension, wn_X11, wc_X11_pension, ⟨by decide, by decide⟩, by decide +kernel, by decide⟩
theorem m_L_115 : gb_LV "GladBasketLaw" 115 M_X10_glad 2 := ⟨(gb_t5 _ (List.mem_of_getElem? (i := 2) rfl)), wi_X10_glad, ws_X10_glad, wn_X10, wc_X10_glad, ⟨by decide, by decide⟩, by decide +kernel, by decide⟩
theorem m_L_118 : gb_LV "GladBasketLaw" 118 M_X11_glad 2 := ⟨(gb_t8 _ (List.mem_of_getElem? (i := 18) rfl)), wi_X11_glad, ws_X11_glad, wn_X11, wc_X11_glad, ⟨by decide, by decide⟩, by decide +kernel, by decide⟩
theorem m_L_119 : gb_LV "GladBasketLaw" 119 M_X10_round 2 := ⟨(gb_t5 _ (List.mem_of_getElem? (i := 38) rfl)), wi_X10_round, ws_X10_round, wn_X10, wc_X10_round, ⟨by decide, by decide⟩, by decide +kernel, by decide⟩
theorem m_L_122 : gb_LV "GladBasketLaw" 122 M_X11_round 2 := ⟨(gb_t8 _ (List.mem_of_getElem? (i := 31) rfl)), wi_X11_round, ws_X11_round, wn_X11, wc_X11_round, ⟨by decide, by decide⟩, by decide +kernel, by decide⟩
theorem m_L_123 : gb_LV "GladBasketLaw" 123 M_X10_spent 3 := ⟨(gb_t5 _ (List.mem_of_getElem? (i := 67) rfl)), wi_X10_spent, ws_X10_spent, wn_X10, wc_X10_spent, ⟨by decide, by decide⟩, by decide +kernel, by decide⟩
theorem m_L_126 : gb_LV "GladBasketLaw" 126 M_X11_spent 3 := ⟨(gb_t8 _ (List.mem_of_getElem? (i := 53) rfl)), wi_X11_spent, ws_X11_spent, wn_X11, wc_X11_spent, ⟨by decide, by decide⟩, by decide +kernel, by decide⟩
theorem m_L_127 : gb_LV "GladBasketLaw" 127 M_X10_ask 3 := ⟨(gb_t5 _ (List.mem_of_getElem? (i := 79) rfl)), wi_X10_ask, ws_X10_ask, wn_X10, wc_X10_ask, ⟨by decide, by decide⟩, by decide +kernel, by decide⟩
theorem m_L_130 : gb_LV "GladBasketLaw" 130 M_X11_ask 3 := ⟨(gb_t8 _ (List.mem_of_getElem? (i := 64) rfl)), wi_X11_ask, ws_X11_ask, wn_X11, wc_X11_ask, ⟨by decide, by decide⟩, by decide +kernel, by decide⟩
theorem m_L_131 : gb_LV "GladBasketLaw" 131 M_X10_fair 2 := ⟨(gb_t5 _ (List.mem_of_getElem? (i := 87) rfl)), wi_X10_fair, ws_X10_fair, wn_X10, wc_X10_fair, ⟨by decide, by decide⟩, by decide +kernel, by decide⟩
theorem m_L_134 : gb_LV "GladBasketLaw" 134 M_X11_fair 2 := ⟨(gb_t8 _ (List.mem_of_getElem? (i := 68) rfl)), wi_X11_fair, ws_X11_fair, wn_X11, wc_X11_fair, ⟨by decide, by decide⟩, by decide +kernel, by decide⟩
theorem m_L_135 : gb_LV "GladBasketLaw" 135 M_X10_hear 1 := ⟨(gb_t5 _ (List.mem_of_getElem? (i := 92) rfl)), wi_X10_hear, ws_X10_hear, wn_X10, wc_X10_hear, ⟨by decide, by decide⟩, by decide +kernel, by decide⟩
theorem m_L_138 : gb_LV "GladBasketLaw" 138 M_X11_hear 1 := ⟨(gb_t8 _ (List.mem_of_getElem? (i := 72) rfl)), wi_X11_hear, ws_X11_hear, wn_X11, wc_X11_hear, ⟨by decide, by decide⟩, by decide +kernel, by decide⟩
theorem m_L_139 : gb_LV "GladBasketLaw" 139 M_X10_forget 0 := ⟨(gb_t5 _ (List.mem_of_getElem? (i := 96) rfl)), wi_X10_forget, ws_X10_forget, wn_X10, wc_X10_forget, ⟨by decide, by decide⟩, by decide +kernel, by decide⟩
theorem m_L_142 : gb_LV "GladBasketLaw" 142 M_X11_forget 0 := ⟨(gb_t8 _ (List.mem_of_getElem? (i := 76) rfl)), wi_X11_forget, ws_X11_forget, wn_X11, wc_X11_forget, ⟨by decide, by decide⟩, by decide +kernel, by decide⟩
theorem m_L_143 : gb_LV "GladBasketLaw" 143 M_X10_trend 1 := ⟨(gb_t5 _ (List.mem_of_getElem? (i := 100) rfl)), wi_X10_trend, ws_X10_trend, wn_X10, wc_X10_trend, ⟨by decide, by decide⟩, by decide +kernel, by decide⟩
theorem m_L_146 : gb_LV "GladBasketLaw" 146 M_X11_trend 1 := ⟨(gb_t8 _ (List.mem_of_getElem? (i := 80) rfl)), wi_X11_trend, ws_X11_trend, wn_X11, wc_X11_trend, ⟨by decide, by decide⟩, by decide +kernel, by decide⟩
theorem m_L_147 : gb_LV "GladBasketLaw" 147 M_X10_does 1 := ⟨(gb_t5 _ (List.mem_of_getElem? (i := 116) rfl)), wi_X10_does, ws_X10_does, wn_X10, wc_X10_does, ⟨by decide, by decide⟩, by decide +kernel, by decide⟩
theorem m_L_150 : gb_LV "GladBasketLaw" 150 M_X11_does 1 := ⟨(gb_t8 _ (List.mem_of_getElem? (i := 6) rfl)), wi_X11_does, ws_X11_does, wn_X11, wc_X11_does, ⟨by decide, by decide⟩, by decide +kernel, by decide⟩
theorem m_L_151 : gb_LV "GladBasketLaw" 151 M_X10_compare 1 := ⟨(gb_t5 _ (List.mem_of_getElem? (i := 124) rfl)), wi_X10_compare, ws_X10_compare, wn_X10, wc_X10_compare, ⟨by decide, by decide⟩, by decide +kernel, by decide⟩
theorem m_L_154 : gb_LV "GladBasketLaw" 154 M_X11_compare 1 := ⟨(gb_t8 _ (List.mem_of_getElem? (i := 14) rfl)), wi_X11_compare, ws_X11_compare, wn_X11, wc_X11_compare, ⟨by decide, by decide⟩, by decide +kernel, by decide⟩
theorem m_L_155 : gb_LV "GladBasketLaw" 155 M_X10_gets 2 := ⟨(gb_t5 _ (List.mem_of_getElem? (i := 129) rfl)), wi_X10_gets, ws_X10_gets, wn_X10, wc_X10_gets, ⟨by decide, by decide⟩, by decide +kernel, by decide⟩
theorem m_L_158 : gb_LV "GladBasketLaw" 158 M_X11_gets 2 := ⟨(gb_t8 _ (List.mem_of_getElem? (i := 84) rfl)), wi_X11_gets, ws_X11_gets, wn_X11, wc_X11_gets, ⟨by decide, by decide⟩, by decide +kernel, by decide⟩
theorem m_L_159 : gb_LV "GladBasketLaw" 159 M_X10_years 2 := ⟨(gb_t5 _ (List.mem_of_getElem? (i := 142) rfl)), wi_X10_years, ws_X10_years, wn_X10, wc_X10_years, ⟨by decide, by decide⟩, by decide +kernel, by decide⟩
theorem m_L_162 : gb_LV "GladBasketLaw" 162 M_X11_years 2 := ⟨(gb_t8 _ (List.mem_of_getElem? (i := 124) rfl)), wi_X11_years, ws_X11_years, wn_X11, wc_X11_years, ⟨by decide, by decide⟩, by decide +kernel, by decide⟩
theorem m_L_163 : gb_LV "GladBasketLaw" 163 M_X10_drawn 2 := ⟨(gb_t5 _ (List.mem_of_getElem? (i := 161) rfl)), wi_X10_drawn, ws_X10_drawn, wn_X10, wc_X10_drawn, ⟨by decide, by decide⟩, by decide +kernel, by decide⟩
theorem m_L_166 : gb_LV "GladBasketLaw" 166 M_X11_drawn 2 := ⟨(gb_t8 _ (List.mem_of_getElem? (i := 135) rfl)), wi_X11_drawn, ws_X11_drawn, wn_X11, wc_X11_drawn, ⟨by decide, by decide⟩, by decide +kernel, by decide⟩
theorem m_L_167 : gb_LV "GladBasketLaw" 167 M_X10_image 1 := ⟨(gb_t5 _ (List.mem_of_getElem? (i := 165) rfl)), wi_X10_image, ws_X10_image, wn_X10, wc_X10_image, ⟨by decide, by decide⟩, by decide +kernel, by decide⟩
theorem m_L_170 : gb_LV "GladBasketLaw" 170 M_X11_image 1 := ⟨(gb_t6 _ (List.mem_of_getElem? (i := 150) rfl)), wi_X11_image, ws_X11_image, wn_X11, wc_X11_image, ⟨by decide, by decide⟩, by decide +kernel, by decide⟩
theorem m_L_171 : gb_LV "GladBasketLaw" 171 M_X10_back 1 := ⟨(gb_t5 _ (List.mem_of_getElem? (i := 169) rfl)), wi_X10_back, ws_X10_back, wn_X10, wc_X10_back, ⟨by decide, by decide⟩, by decide +kernel, by decide⟩
theorem m_L_174 : gb_LV "GladBasketLaw" 174 M_X11_back 1 := ⟨(gb_t6 _ (List.mem_of_getElem? (i := 157) rfl)), wi_X11_back, ws_X11_back, wn_X11, wc_X11_back, ⟨by decide, by decide⟩, by decide +kernel, by decide⟩
theorem m_L_175 : gb_LV "GladBasketLaw" 175 M_X10_count 1 := ⟨(gb_t5 _ (List.mem_of_getElem? (i := 173) rfl)), wi_X10_count, ws_X10_count, wn_X10, wc_X10_count, ⟨by decide, by decide⟩, by decide +kernel, by decide⟩
theorem m_L_178 : gb_LV "GladBasketLaw" 178 M_X11_count 1 := ⟨(gb_t8 _ (List.mem_of_getElem? (i := 139) rfl)), wi_X11_count, ws_X11_count, wn_X11, wc_X11_count, ⟨by decide, by decide⟩, by decide +kernel, by decide⟩
theorem m_L_179 : gb_LV "GladBasketLaw" 179 M_X10_status 0 := ⟨(gb_t5 _ (List.mem_of_getElem? (i := 177) rfl)), wi_X10_status, ws_X10_status, wn_X10, wc_X10_status, ⟨by decide, by decide⟩, by decide +kernel, by decide⟩
theorem m_L_182 : gb_LV "GladBasketLaw" 182 M_X11_status 0 := ⟨(gb_t8 _ (List.mem_of_getElem? (i := 145) rfl)), wi_X11_status, ws_X11_status, wn_X11, wc_X11_status, ⟨by decide, by decide⟩, by decide +kernel, by decide⟩
theorem n_L_7 : gb_NW "GladBasketLaw" 7 10 19 [2, 2, 2, 2, 2, 2, 2, 2, 2, 2, 2, 2, 2, 2, 2, 0, 0, 0, 0] := ⟨RX10, TX10, tyX10, gb_cl10, (gb_t1 _ (List.mem_of_getElem? (i := 21) rfl)), (gb_t1 _ (List.mem_of_getElem? (i := 22) rfl)), wn_X10, by decide +kernel, by decide⟩
theorem n_L_10 : gb_NW "GladBasketLaw" 10 11 56 [0, 0, 2, 2, 2, 2, 2, 2, 0, 2, 2, 0, 2, 0, 0, 0, 0, 1, 0, 0, 0, 0, 2, 0, 2, 2, 0, 2, 2, 0, 0, 2, 2, 2, 0, 2, 2, 2, 0, 1, 1, 1, 1, 2, 2, 2, 2, 2, 2, 0, 0, 0, 0, 1, 2, 0] := ⟨RX11, TX11, tyX11, gb_cl11, (gb_t5 _ (List.mem_of_getElem? (i := 181) rfl)), (gb_t5 _ (List.mem_of_getElem? (i := 182) rfl)), wn_X11, by decide +kernel, by decide⟩
theorem wa_0 : Cond.arrayClass (gb_ty 0) ∈ lw_tbl := (gb_t1 _ (List.mem_of_getElem? (i := 83) rfl))
theorem wa_1 : Cond.arrayClass (gb_ty 1) ∈ lw_tbl := (gb_t2 _ (List.mem_of_getElem? (i := 80) rfl))
theorem wa_2 : Cond.arrayClass (gb_ty 2) ∈ lw_tbl := (gb_t6 _ (List.mem_of_getElem? (i := 137) rfl))
theorem wa_3 : Cond.arrayOver (.object "GladBasket$Program") ∈ lw_tbl := (gb_t1 _ (List.mem_of_getElem? (i := 36) rfl))
theorem wa_4 : Cond.arrayOver (.object "GladBasket$Basket") ∈ lw_tbl := (gb_t1 _ (List.mem_of_getElem? (i := 84) rfl))
theorem o_X10_5 : Cond.methodLink "GladBasket" 5 objectInit ∈ lw_tbl := (gb_t1 _ (List.mem_of_getElem? (i := 26) rfl))
theorem o_X0_3 : Cond.methodLink "GladBasket$Basket" 3 objectInit ∈ lw_tbl := (gb_t1 _ (List.mem_of_getElem? (i := 34) rfl))
theorem o_X3_3 : Cond.methodLink "GladBasket$History" 3 objectInit ∈ lw_tbl := (gb_t1 _ (List.mem_of_getElem? (i := 90) rfl))
theorem o_X9_3 : Cond.methodLink "GladBasket$Tape" 3 objectInit ∈ lw_tbl := (gb_t1 _ (List.mem_of_getElem? (i := 113) rfl))
theorem o_X8_3 : Cond.methodLink "GladBasket$Reader" 3 objectInit ∈ lw_tbl := (gb_t1 _ (List.mem_of_getElem? (i := 138) rfl))
theorem o_X7_3 : Cond.methodLink "GladBasket$Program" 3 objectInit ∈ lw_tbl := (gb_t1 _ (List.mem_of_getElem? (i := 144) rfl))
theorem o_X5_3 : Cond.methodLink "GladBasket$Machine" 3 objectInit ∈ lw_tbl := (gb_t1 _ (List.mem_of_getElem? (i := 202) rfl))
theorem o_X4_3 : Cond.methodLink "GladBasket$Judge" 3 objectInit ∈ lw_tbl := (gb_t1 _ (List.mem_of_getElem? (i := 212) rfl))
theorem o_X1_3 : Cond.methodLink "GladBasket$Figures" 3 objectInit ∈ lw_tbl := (gb_t1 _ (List.mem_of_getElem? (i := 228) rfl))
theorem o_X2_1 : Cond.methodLink "GladBasket$Fraction" 1 objectInit ∈ lw_tbl := (gb_t1 _ (List.mem_of_getElem? (i := 234) rfl))
theorem o_X6_3 : Cond.methodLink "GladBasket$Paper" 3 objectInit ∈ lw_tbl := (gb_t2 _ (List.mem_of_getElem? (i := 31) rfl))
theorem o_X11_1 : Cond.methodLink "GladBasketModel" 1 objectInit ∈ lw_tbl := (gb_t5 _ (List.mem_of_getElem? (i := 186) rfl))
theorem wo_i : Cond.instanceMethod objectInit ∈ lw_tbl := (gb_t1 _ (List.mem_of_getElem? (i := 27) rfl))
theorem wo_c : Cond.code objectInit ⟨#[0xb1]⟩ 1 none ∈ lw_tbl := (gb_t1 _ (List.mem_of_getElem? (i := 28) rfl))
theorem a_J7_150 : Cond.methodLink "java/util/Arrays" 150 arraycopyName ∈ lw_tbl := (gb_t4 _ (List.mem_of_getElem? (i := 53) rfl))
theorem a_X0_46 : Cond.methodLink "GladBasket$Basket" 46 arraycopyName ∈ lw_tbl := (gb_t4 _ (List.mem_of_getElem? (i := 69) rfl))
theorem a_X3_28 : Cond.methodLink "GladBasket$History" 28 arraycopyName ∈ lw_tbl := (gb_t4 _ (List.mem_of_getElem? (i := 74) rfl))
theorem wa_n : Cond.native arraycopyName ∈ lw_tbl := (gb_t4 _ (List.mem_of_getElem? (i := 55) rfl))
theorem wa_s : Cond.static arraycopyName ∈ lw_tbl := (gb_t4 _ (List.mem_of_getElem? (i := 54) rfl))
