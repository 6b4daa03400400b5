/-! every method's code word, by rfl -/
theorem cw_0 : tw 2232 = some (.code ⟨"java/lang/Math", "max", "(II)I"⟩ prog_13_method_65_code 2 (some .int)) := rfl
theorem cw_1 : tw 2148 = some (.code ⟨"java/lang/Math", "min", "(II)I"⟩ prog_13_method_69_code 2 (some .int)) := rfl
theorem cw_2 : tw 3190 = some (.code ⟨"java/lang/Math", "abs", "(I)I"⟩ prog_13_method_59_code 1 (some .int)) := rfl
theorem cw_3 : tw 3135 = some (.code ⟨"java/lang/Math", "floorMod", "(II)I"⟩ prog_13_method_50_code 3 (some .int)) := rfl
theorem cw_4 : tw 3187 = some (.code ⟨"java/lang/Math", "max", "(JJ)J"⟩ prog_13_method_66_code 4 (some .long)) := rfl
theorem cw_5 : tw 3184 = some (.code ⟨"java/lang/Math", "min", "(JJ)J"⟩ prog_13_method_70_code 4 (some .long)) := rfl
theorem cw_6 : tw 5010 = some (.code ⟨"java/lang/Integer", "bitCount", "(I)I"⟩ prog_12_method_49_code 1 (some .int)) := rfl
theorem cw_7 : tw 1098 = some (.code ⟨"java/util/Arrays", "fill", "([II)V"⟩ prog_18_method_103_code 4 none) := rfl
theorem cw_8 : tw 4067 = some (.code ⟨"java/util/Arrays", "fill", "([JJ)V"⟩ prog_18_method_101_code 5 none) := rfl
theorem cw_9 : tw 2170 = some (.code ⟨"java/lang/String", "length", "()I"⟩ prog_14_method_54_code 1 (some .int)) := rfl
theorem cw_10 : tw 2180 = some (.code ⟨"java/lang/String", "charAt", "(I)C"⟩ prog_14_method_56_code 2 (some .char)) := rfl
theorem cw_11 : tw 2062 = some (.code ⟨"StairRods$Codes", "<init>", "()V"⟩ prog_2_method_1_code 1 none) := rfl
theorem cw_12 : tw 4175 = some (.code ⟨"StairRods$Codes", "keyOf", "(I)I"⟩ prog_2_method_2_code 6 (some .int)) := rfl
theorem cw_13 : tw 4231 = some (.code ⟨"StairRods$Codes", "messageOf", "(I)I"⟩ prog_2_method_3_code 3 (some .int)) := rfl
theorem cw_14 : tw 4195 = some (.code ⟨"StairRods$Codes", "lengthOf", "(I)I"⟩ prog_2_method_4_code 3 (some .int)) := rfl
theorem cw_15 : tw 4179 = some (.code ⟨"StairRods$Codes", "isWord", "(LStairRods$State;I)Z"⟩ prog_2_method_5_code 3 (some .boolean)) := rfl
theorem cw_16 : tw 4192 = some (.code ⟨"StairRods$Codes", "behind", "(II)I"⟩ prog_2_method_6_code 3 (some .int)) := rfl
theorem cw_17 : tw 4215 = some (.code ⟨"StairRods$Codes", "isFree", "(LStairRods$State;)Z"⟩ prog_2_method_7_code 3 (some .boolean)) := rfl
theorem cw_18 : tw 4187 = some (.code ⟨"StairRods$Codes", "shortestDoubt", "(LStairRods$State;)I"⟩ prog_2_method_8_code 5 (some .int)) := rfl
theorem cw_19 : tw 4203 = some (.code ⟨"StairRods$Codes", "goOn", "(LStairRods$State;I)Z"⟩ prog_2_method_9_code 9 (some .boolean)) := rfl
theorem cw_20 : tw 4199 = some (.code ⟨"StairRods$Codes", "lower", "(II)Z"⟩ prog_2_method_10_code 3 (some .boolean)) := rfl
theorem cw_21 : tw 4224 = some (.code ⟨"StairRods$Codes", "waysToRead", "(LStairRods$State;I)I"⟩ prog_2_method_11_code 10 (some .int)) := rfl
theorem cw_22 : tw 1037 = some (.code ⟨"StairRods$House", "<init>", "()V"⟩ prog_3_method_1_code 1 none) := rfl
theorem cw_23 : tw 3139 = some (.code ⟨"StairRods$House", "copyHouse", "(LStairRods$House;)V"⟩ prog_3_method_2_code 2 none) := rfl
theorem cw_24 : tw 3203 = some (.code ⟨"StairRods$House", "write", "(II)V"⟩ prog_3_method_3_code 4 none) := rfl
theorem cw_25 : tw 2032 = some (.code ⟨"StairRods$Law", "<init>", "()V"⟩ prog_4_method_1_code 1 none) := rfl
theorem cw_26 : tw 3161 = some (.code ⟨"StairRods$Law", "tell", "(LStairRods$House;I)V"⟩ prog_4_method_2_code 3 none) := rfl
theorem cw_27 : tw 3165 = some (.code ⟨"StairRods$Law", "tellLodger", "(IIIII)V"⟩ prog_4_method_3_code 6 none) := rfl
theorem cw_28 : tw 3169 = some (.code ⟨"StairRods$Law", "says", "(LStairRods$Text;I)I"⟩ prog_4_method_4_code 11 (some .int)) := rfl
theorem cw_29 : tw 3173 = some (.code ⟨"StairRods$Law", "takenBy", "(I)I"⟩ prog_4_method_5_code 1 (some .int)) := rfl
theorem cw_30 : tw 3194 = some (.code ⟨"StairRods$Law", "turn", "(II)I"⟩ prog_4_method_6_code 3 (some .int)) := rfl
theorem cw_31 : tw 3176 = some (.code ⟨"StairRods$Law", "join", "(III)I"⟩ prog_4_method_7_code 4 (some .int)) := rfl
theorem cw_32 : tw 2048 = some (.code ⟨"StairRods$Moods", "<init>", "()V"⟩ prog_5_method_1_code 1 none) := rfl
theorem cw_33 : tw 4114 = some (.code ⟨"StairRods$Moods", "weighFromFront", "(LStairRods$State;)V"⟩ prog_5_method_2_code 6 none) := rfl
theorem cw_34 : tw 4135 = some (.code ⟨"StairRods$Moods", "weighFromBack", "(LStairRods$State;Z)V"⟩ prog_5_method_3_code 11 none) := rfl
theorem cw_35 : tw 4160 = some (.code ⟨"StairRods$Moods", "heaviestBehind", "(LStairRods$State;II)I"⟩ prog_5_method_4_code 10 (some .int)) := rfl
theorem cw_36 : tw 4127 = some (.code ⟨"StairRods$Moods", "all", "(I)J"⟩ prog_5_method_5_code 5 (some .long)) := rfl
theorem cw_37 : tw 4145 = some (.code ⟨"StairRods$Moods", "through", "(II)J"⟩ prog_5_method_6_code 4 (some .long)) := rfl
theorem cw_38 : tw 4168 = some (.code ⟨"StairRods$Moods", "soundsNext", "(LStairRods$State;I)J"⟩ prog_5_method_7_code 8 (some .long)) := rfl
theorem cw_39 : tw 4118 = some (.code ⟨"StairRods$Moods", "comesTo", "(LStairRods$State;II)J"⟩ prog_5_method_8_code 7 (some .long)) := rfl
theorem cwc_0 : ∀ M ∈ mtab_0, M.1.cls ≠ "StairRodsLaw" → Cond.code M.1 M.2.1 M.2.2.1 M.2.2.2.1 ∈ gd_tbl := by
  unfold mtab_0
  exact List.forall_mem_cons.mpr ⟨(fun _ => gd_in cw_0 rfl), List.forall_mem_cons.mpr ⟨(fun _ => gd_in cw_1 rfl), List.forall_mem_cons.mpr ⟨(fun _ => gd_in cw_2 rfl), List.forall_mem_cons.mpr ⟨(fun _ => gd_in cw_3 rfl), List.forall_mem_cons.mpr ⟨(fun _ => gd_in cw_4 rfl), List.forall_mem_cons.mpr ⟨(fun _ => gd_in cw_5 rfl), List.forall_mem_cons.mpr ⟨(fun _ => gd_in cw_6 rfl), List.forall_mem_cons.mpr ⟨(fun _ => gd_in cw_7 rfl), List.forall_mem_cons.mpr ⟨(fun _ => gd_in cw_8 rfl), List.forall_mem_cons.mpr ⟨(fun _ => gd_in cw_9 rfl), List.forall_mem_cons.mpr ⟨(fun _ => gd_in cw_10 rfl), List.forall_mem_cons.mpr ⟨(fun _ => gd_in cw_11 rfl), List.forall_mem_cons.mpr ⟨(fun _ => gd_in cw_12 rfl), List.forall_mem_cons.mpr ⟨(fun _ => gd_in cw_13 rfl), List.forall_mem_cons.mpr ⟨(fun _ => gd_in cw_14 rfl), List.forall_mem_cons.mpr ⟨(fun _ => gd_in cw_15 rfl), List.forall_mem_cons.mpr ⟨(fun _ => gd_in cw_16 rfl), List.forall_mem_cons.mpr ⟨(fun _ => gd_in cw_17 rfl), List.forall_mem_cons.mpr ⟨(fun _ => gd_in cw_18 rfl), List.forall_mem_cons.mpr ⟨(fun _ => gd_in cw_19 rfl), List.forall_mem_cons.mpr ⟨(fun _ => gd_in cw_20 rfl), List.forall_mem_cons.mpr ⟨(fun _ => gd_in cw_21 rfl), List.forall_mem_cons.mpr ⟨(fun _ => gd_in cw_22 rfl), List.forall_mem_cons.mpr ⟨(fun _ => gd_in cw_23 rfl), List.forall_mem_cons.mpr ⟨(fun _ => gd_in cw_24 rfl), List.forall_mem_cons.mpr ⟨(fun _ => gd_in cw_25 rfl), List.forall_mem_cons.mpr ⟨(fun _ => gd_in cw_26 rfl), List.forall_mem_cons.mpr ⟨(fun _ => gd_in cw_27 rfl), List.forall_mem_cons.mpr ⟨(fun _ => gd_in cw_28 rfl), List.forall_mem_cons.mpr ⟨(fun _ => gd_in cw_29 rfl), List.forall_mem_cons.mpr ⟨(fun _ => gd_in cw_30 rfl), List.forall_mem_cons.mpr ⟨(fun _ => gd_in cw_31 rfl), List.forall_mem_cons.mpr ⟨(fun _ => gd_in cw_32 rfl), List.forall_mem_cons.mpr ⟨(fun _ => gd_in cw_33 rfl), List.forall_mem_cons.mpr ⟨(fun _ => gd_in cw_34 rfl), List.forall_mem_cons.mpr ⟨(fun _ => gd_in cw_35 rfl), List.forall_mem_cons.mpr ⟨(fun _ => gd_in cw_36 rfl), List.forall_mem_cons.mpr ⟨(fun _ => gd_in cw_37 rfl), List.forall_mem_cons.mpr ⟨(fun _ => gd_in cw_38 rfl), List.forall_mem_cons.mpr ⟨(fun _ => gd_in cw_39 rfl), fun _ h => absurd h List.not_mem_nil⟩⟩⟩⟩⟩⟩⟩⟩⟩⟩⟩⟩⟩⟩⟩⟩⟩⟩⟩⟩⟩⟩⟩⟩⟩⟩⟩⟩⟩⟩⟩⟩⟩⟩⟩⟩⟩⟩⟩⟩
theorem cw_40 : tw 4140 = some (.code ⟨"StairRods$Moods", "goesOn", "(LStairRods$State;III)J"⟩ prog_5_method_9_code 6 (some .long)) := rfl
theorem cw_41 : tw 4121 = some (.code ⟨"StairRods$Moods", "soundWeight", "(LStairRods$State;II)I"⟩ prog_5_method_10_code 4 (some .int)) := rfl
theorem cw_42 : tw 1223 = some (.code ⟨"StairRods$Reader", "<init>", "()V"⟩ prog_6_method_1_code 1 none) := rfl
theorem cw_43 : tw 2141 = some (.code ⟨"StairRods$Reader", "read", "([II)Z"⟩ prog_6_method_2_code 5 (some .boolean)) := rfl
theorem cw_44 : tw 2152 = some (.code ⟨"StairRods$Reader", "cutTokens", "([II)V"⟩ prog_6_method_3_code 8 none) := rfl
theorem cw_45 : tw 2218 = some (.code ⟨"StairRods$Reader", "addToken", "(III)V"⟩ prog_6_method_4_code 4 none) := rfl
theorem cw_46 : tw 2155 = some (.code ⟨"StairRods$Reader", "isLetter", "(I)Z"⟩ prog_6_method_5_code 1 (some .boolean)) := rfl
theorem cw_47 : tw 2162 = some (.code ⟨"StairRods$Reader", "isDigit", "(I)Z"⟩ prog_6_method_6_code 1 (some .boolean)) := rfl
theorem cw_48 : tw 2159 = some (.code ⟨"StairRods$Reader", "behindRun", "([IIIZ)I"⟩ prog_6_method_7_code 5 (some .int)) := rfl
theorem cw_49 : tw 2221 = some (.code ⟨"StairRods$Reader", "numberOf", "([III)I"⟩ prog_6_method_8_code 5 (some .int)) := rfl
theorem cw_50 : tw 2165 = some (.code ⟨"StairRods$Reader", "wordOf", "([III)I"⟩ prog_6_method_9_code 8 (some .int)) := rfl
theorem cw_51 : tw 2224 = some (.code ⟨"StairRods$Reader", "signOf", "(II)I"⟩ prog_6_method_10_code 3 (some .int)) := rfl
theorem cw_52 : tw 2229 = some (.code ⟨"StairRods$Reader", "comeTo", "(I)V"⟩ prog_6_method_11_code 2 none) := rfl
theorem cw_53 : tw 3000 = some (.code ⟨"StairRods$Reader", "fail", "(I)Z"⟩ prog_6_method_12_code 2 (some .boolean)) := rfl
theorem cw_54 : tw 3045 = some (.code ⟨"StairRods$Reader", "pass", "(I)Z"⟩ prog_6_method_13_code 2 (some .boolean)) := rfl
theorem cw_55 : tw 3037 = some (.code ⟨"StairRods$Reader", "passNumber", "(II)Z"⟩ prog_6_method_14_code 3 (some .boolean)) := rfl
theorem cw_56 : tw 2236 = some (.code ⟨"StairRods$Reader", "readClause", "()Z"⟩ prog_6_method_15_code 3 (some .boolean)) := rfl
theorem cw_57 : tw 3008 = some (.code ⟨"StairRods$Reader", "readLaw", "(I)Z"⟩ prog_6_method_16_code 3 (some .boolean)) := rfl
theorem cw_58 : tw 3073 = some (.code ⟨"StairRods$Reader", "readDeed", "(I)Z"⟩ prog_6_method_17_code 2 (some .boolean)) := rfl
theorem cw_59 : tw 3077 = some (.code ⟨"StairRods$Reader", "readPair", "(IIIII)Z"⟩ prog_6_method_18_code 7 (some .boolean)) := rfl
theorem cw_60 : tw 3081 = some (.code ⟨"StairRods$Reader", "readSingle", "(II)Z"⟩ prog_6_method_19_code 3 (some .boolean)) := rfl
theorem cw_61 : tw 3021 = some (.code ⟨"StairRods$Reader", "sum", "(I)Z"⟩ prog_6_method_20_code 5 (some .boolean)) := rfl
theorem cw_62 : tw 3025 = some (.code ⟨"StairRods$Reader", "product", "(I)Z"⟩ prog_6_method_21_code 5 (some .boolean)) := rfl
theorem cw_63 : tw 3029 = some (.code ⟨"StairRods$Reader", "one", "(I)Z"⟩ prog_6_method_22_code 3 (some .boolean)) := rfl
theorem cw_64 : tw 3041 = some (.code ⟨"StairRods$Reader", "opened", "(II)Z"⟩ prog_6_method_23_code 3 (some .boolean)) := rfl
theorem cw_65 : tw 3049 = some (.code ⟨"StairRods$Reader", "choice", "(I)Z"⟩ prog_6_method_24_code 4 (some .boolean)) := rfl
theorem cw_66 : tw 3053 = some (.code ⟨"StairRods$Reader", "either", "(I)Z"⟩ prog_6_method_25_code 4 (some .boolean)) := rfl
theorem cw_67 : tw 3057 = some (.code ⟨"StairRods$Reader", "both", "(I)Z"⟩ prog_6_method_26_code 4 (some .boolean)) := rfl
theorem cw_68 : tw 3061 = some (.code ⟨"StairRods$Reader", "ask", "(I)Z"⟩ prog_6_method_27_code 4 (some .boolean)) := rfl
theorem cw_69 : tw 1031 = some (.code ⟨"StairRods$State", "<init>", "()V"⟩ prog_7_method_1_code 1 none) := rfl
theorem cw_70 : tw 5093 = some (.code ⟨"StairRods$State", "copyState", "(LStairRods$State;)V"⟩ prog_7_method_2_code 2 none) := rfl
theorem cw_71 : tw 1080 = some (.code ⟨"StairRods$Steps", "<init>", "()V"⟩ prog_8_method_1_code 2 none) := rfl
theorem cw_72 : tw 5098 = some (.code ⟨"StairRods$Steps", "copySteps", "(LStairRods$Steps;)V"⟩ prog_8_method_2_code 5 none) := rfl
theorem cw_73 : tw 3132 = some (.code ⟨"StairRods$Steps", "keep", "(LStairRods$House;)V"⟩ prog_8_method_3_code 3 none) := rfl
theorem cw_74 : tw 4003 = some (.code ⟨"StairRods$Steps", "takeBack", "(LStairRods$House;)Z"⟩ prog_8_method_4_code 3 (some .boolean)) := rfl
theorem cw_75 : tw 1179 = some (.code ⟨"StairRods$Text", "<init>", "()V"⟩ prog_9_method_1_code 1 none) := rfl
theorem cw_76 : tw 2145 = some (.code ⟨"StairRods$Text", "empty", "()V"⟩ prog_9_method_2_code 1 none) := rfl
theorem cw_77 : tw 3085 = some (.code ⟨"StairRods$Text", "copyText", "(LStairRods$Text;)V"⟩ prog_9_method_3_code 2 none) := rfl
theorem cw_78 : tw 3004 = some (.code ⟨"StairRods$Text", "rules", "(I)Z"⟩ prog_9_method_4_code 2 (some .boolean)) := rfl
theorem cw_79 : tw 3017 = some (.code ⟨"StairRods$Text", "beginLaw", "(I)V"⟩ prog_9_method_5_code 2 none) := rfl
theorem cwc_1 : ∀ M ∈ mtab_1, M.1.cls ≠ "StairRodsLaw" → Cond.code M.1 M.2.1 M.2.2.1 M.2.2.2.1 ∈ gd_tbl := by
  unfold mtab_1
  exact List.forall_mem_cons.mpr ⟨(fun _ => gd_in cw_40 rfl), List.forall_mem_cons.mpr ⟨(fun _ => gd_in cw_41 rfl), List.forall_mem_cons.mpr ⟨(fun _ => gd_in cw_42 rfl), List.forall_mem_cons.mpr ⟨(fun _ => gd_in cw_43 rfl), List.forall_mem_cons.mpr ⟨(fun _ => gd_in cw_44 rfl), List.forall_mem_cons.mpr ⟨(fun _ => gd_in cw_45 rfl), List.forall_mem_cons.mpr ⟨(fun _ => gd_in cw_46 rfl), List.forall_mem_cons.mpr ⟨(fun _ => gd_in cw_47 rfl), List.forall_mem_cons.mpr ⟨(fun _ => gd_in cw_48 rfl), List.forall_mem_cons.mpr ⟨(fun _ => gd_in cw_49 rfl), List.forall_mem_cons.mpr ⟨(fun _ => gd_in cw_50 rfl), List.forall_mem_cons.mpr ⟨(fun _ => gd_in cw_51 rfl), List.forall_mem_cons.mpr ⟨(fun _ => gd_in cw_52 rfl), List.forall_mem_cons.mpr ⟨(fun _ => gd_in cw_53 rfl), List.forall_mem_cons.mpr ⟨(fun _ => gd_in cw_54 rfl), List.forall_mem_cons.mpr ⟨(fun _ => gd_in cw_55 rfl), List.forall_mem_cons.mpr ⟨(fun _ => gd_in cw_56 rfl), List.forall_mem_cons.mpr ⟨(fun _ => gd_in cw_57 rfl), List.forall_mem_cons.mpr ⟨(fun _ => gd_in cw_58 rfl), List.forall_mem_cons.mpr ⟨(fun _ => gd_in cw_59 rfl), List.forall_mem_cons.mpr ⟨(fun _ => gd_in cw_60 rfl), List.forall_mem_cons.mpr ⟨(fun _ => gd_in cw_61 rfl), List.forall_mem_cons.mpr ⟨(fun _ => gd_in cw_62 rfl), List.forall_mem_cons.mpr ⟨(fun _ => gd_in cw_63 rfl), List.forall_mem_cons.mpr ⟨(fun _ => gd_in cw_64 rfl), List.forall_mem_cons.mpr ⟨(fun _ => gd_in cw_65 rfl), List.forall_mem_cons.mpr ⟨(fun _ => gd_in cw_66 rfl), List.forall_mem_cons.mpr ⟨(fun _ => gd_in cw_67 rfl), List.forall_mem_cons.mpr ⟨(fun _ => gd_in cw_68 rfl), List.forall_mem_cons.mpr ⟨(fun _ => gd_in cw_69 rfl), List.forall_mem_cons.mpr ⟨(fun _ => gd_in cw_70 rfl), List.forall_mem_cons.mpr ⟨(fun _ => gd_in cw_71 rfl), List.forall_mem_cons.mpr ⟨(fun _ => gd_in cw_72 rfl), List.forall_mem_cons.mpr ⟨(fun _ => gd_in cw_73 rfl), List.forall_mem_cons.mpr ⟨(fun _ => gd_in cw_74 rfl), List.forall_mem_cons.mpr ⟨(fun _ => gd_in cw_75 rfl), List.forall_mem_cons.mpr ⟨(fun _ => gd_in cw_76 rfl), List.forall_mem_cons.mpr ⟨(fun _ => gd_in cw_77 rfl), List.forall_mem_cons.mpr ⟨(fun _ => gd_in cw_78 rfl), List.forall_mem_cons.mpr ⟨(fun _ => gd_in cw_79 rfl), fun _ h => absurd h List.not_mem_nil⟩⟩⟩⟩⟩⟩⟩⟩⟩⟩⟩⟩⟩⟩⟩⟩⟩⟩⟩⟩⟩⟩⟩⟩⟩⟩⟩⟩⟩⟩⟩⟩⟩⟩⟩⟩⟩⟩⟩⟩
theorem cw_80 : tw 3069 = some (.code ⟨"StairRods$Text", "endLaw", "(I)V"⟩ prog_9_method_6_code 2 none) := rfl
theorem cw_81 : tw 3012 = some (.code ⟨"StairRods$Text", "addClause", "(III)V"⟩ prog_9_method_7_code 4 none) := rfl
theorem cw_82 : tw 3033 = some (.code ⟨"StairRods$Text", "addCode", "(II)I"⟩ prog_9_method_8_code 3 (some .int)) := rfl
theorem cw_83 : tw 3065 = some (.code ⟨"StairRods$Text", "jumpToHere", "(I)V"⟩ prog_9_method_9_code 2 none) := rfl
theorem cw_84 : tw 1023 = some (.code ⟨"StairRods", "<init>", "()V"⟩ prog_1_method_1_code 2 none) := rfl
theorem cw_85 : tw 2111 = some (.code ⟨"StairRods", "lodger", "(II)I"⟩ prog_1_method_2_code 3 (some .int)) := rfl
theorem cw_86 : tw 2125 = some (.code ⟨"StairRods", "feed", "(IIIII)I"⟩ prog_1_method_3_code 6 (some .int)) := rfl
theorem cw_87 : tw 2133 = some (.code ⟨"StairRods", "end", "(I)I"⟩ prog_1_method_4_code 2 (some .int)) := rfl
theorem cw_88 : tw 2137 = some (.code ⟨"StairRods", "text", "()I"⟩ prog_1_method_5_code 3 (some .int)) := rfl
theorem cw_89 : tw 3097 = some (.code ⟨"StairRods", "fault", "(I)I"⟩ prog_1_method_6_code 2 (some .int)) := rfl
theorem cw_90 : tw 3101 = some (.code ⟨"StairRods", "by", "(I)Z"⟩ prog_1_method_7_code 2 (some .boolean)) := rfl
theorem cw_91 : tw 3109 = some (.code ⟨"StairRods", "tread", "(IZI)I"⟩ prog_1_method_8_code 4 (some .int)) := rfl
theorem cw_92 : tw 3209 = some (.code ⟨"StairRods", "hang", "(IZ)Z"⟩ prog_1_method_9_code 3 (some .boolean)) := rfl
theorem cw_93 : tw 3217 = some (.code ⟨"StairRods", "hour", "(I)I"⟩ prog_1_method_10_code 4 (some .int)) := rfl
theorem cw_94 : tw 3231 = some (.code ⟨"StairRods", "played", "(I)I"⟩ prog_1_method_11_code 8 (some .int)) := rfl
theorem cw_95 : tw 3235 = some (.code ⟨"StairRods", "nights", "(II)I"⟩ prog_1_method_12_code 10 (some .int)) := rfl
theorem cw_96 : tw 3239 = some (.code ⟨"StairRods", "undo", "()I"⟩ prog_1_method_13_code 1 (some .int)) := rfl
theorem cw_97 : tw 4007 = some (.code ⟨"StairRods", "of", "(II)I"⟩ prog_1_method_14_code 3 (some .int)) := rfl
theorem cw_98 : tw 4011 = some (.code ⟨"StairRods", "ticks", "(IIZ)I"⟩ prog_1_method_15_code 4 (some .int)) := rfl
theorem cw_99 : tw 4015 = some (.code ⟨"StairRods", "hears", "(I)I"⟩ prog_1_method_16_code 2 (some .int)) := rfl
theorem cw_100 : tw 4019 = some (.code ⟨"StairRods", "is", "(I)I"⟩ prog_1_method_17_code 2 (some .int)) := rfl
theorem cw_101 : tw 4023 = some (.code ⟨"StairRods", "book", "(II)I"⟩ prog_1_method_18_code 4 (some .int)) := rfl
theorem cw_102 : tw 4027 = some (.code ⟨"StairRods", "foretold", "(III)I"⟩ prog_1_method_19_code 11 (some .int)) := rfl
theorem cw_103 : tw 4031 = some (.code ⟨"StairRods", "quiet", "(IIII)I"⟩ prog_1_method_20_code 10 (some .int)) := rfl
theorem cw_104 : tw 4056 = some (.code ⟨"StairRods", "ways", "(II)J"⟩ prog_1_method_21_code 3 (some .long)) := rfl
theorem cw_105 : tw 4075 = some (.code ⟨"StairRods", "unheard", "(III)J"⟩ prog_1_method_22_code 4 (some .long)) := rfl
theorem cw_106 : tw 4079 = some (.code ⟨"StairRods", "waysBy", "(III)J"⟩ prog_1_method_23_code 6 (some .long)) := rfl
theorem cw_107 : tw 4083 = some (.code ⟨"StairRods", "loudest", "(I)I"⟩ prog_1_method_24_code 6 (some .int)) := rfl
theorem cw_108 : tw 4087 = some (.code ⟨"StairRods", "heardOn", "(IZ)I"⟩ prog_1_method_25_code 3 (some .int)) := rfl
theorem cw_109 : tw 4091 = some (.code ⟨"StairRods", "cupRow", "()I"⟩ prog_1_method_26_code 4 (some .int)) := rfl
theorem cw_110 : tw 4095 = some (.code ⟨"StairRods", "change", "(III)Z"⟩ prog_1_method_27_code 4 (some .boolean)) := rfl
theorem cw_111 : tw 4102 = some (.code ⟨"StairRods", "sound", "(III)Z"⟩ prog_1_method_28_code 4 (some .boolean)) := rfl
theorem cw_112 : tw 4106 = some (.code ⟨"StairRods", "listen", "(I)I"⟩ prog_1_method_29_code 2 (some .int)) := rfl
theorem cw_113 : tw 4110 = some (.code ⟨"StairRods", "weighed", "()J"⟩ prog_1_method_30_code 1 (some .long)) := rfl
theorem cw_114 : tw 4131 = some (.code ⟨"StairRods", "mood", "(IIZ)J"⟩ prog_1_method_31_code 4 (some .long)) := rfl
theorem cw_115 : tw 4152 = some (.code ⟨"StairRods", "moods", "(I)I"⟩ prog_1_method_32_code 4 (some .int)) := rfl
theorem cw_116 : tw 4156 = some (.code ⟨"StairRods", "likeliest", "(I)I"⟩ prog_1_method_33_code 4 (some .int)) := rfl
theorem cw_117 : tw 4164 = some (.code ⟨"StairRods", "next", "(IZ)J"⟩ prog_1_method_34_code 6 (some .long)) := rfl
theorem cw_118 : tw 4172 = some (.code ⟨"StairRods", "code", "(I)I"⟩ prog_1_method_35_code 3 (some .int)) := rfl
theorem cw_119 : tw 4183 = some (.code ⟨"StairRods", "clear", "()I"⟩ prog_1_method_36_code 1 (some .int)) := rfl
theorem cwc_2 : ∀ M ∈ mtab_2, M.1.cls ≠ "StairRodsLaw" → Cond.code M.1 M.2.1 M.2.2.1 M.2.2.2.1 ∈ gd_tbl := by
  unfold mtab_2
  exact List.forall_mem_cons.mpr ⟨(fun _ => gd_in cw_80 rfl), List.forall_mem_cons.mpr ⟨(fun _ => gd_in cw_81 rfl), List.forall_mem_cons.mpr ⟨(fun _ => gd_in cw_82 rfl), List.forall_mem_cons.mpr ⟨(fun _ => gd_in cw_83 rfl), List.forall_mem_cons.mpr ⟨(fun _ => gd_in cw_84 rfl), List.forall_mem_cons.mpr ⟨(fun _ => gd_in cw_85 rfl), List.forall_mem_cons.mpr ⟨(fun _ => gd_in cw_86 rfl), List.forall_mem_cons.mpr ⟨(fun _ => gd_in cw_87 rfl), List.forall_mem_cons.mpr ⟨(fun _ => gd_in cw_88 rfl), List.forall_mem_cons.mpr ⟨(fun _ => gd_in cw_89 rfl), List.forall_mem_cons.mpr ⟨(fun _ => gd_in cw_90 rfl), List.forall_mem_cons.mpr ⟨(fun _ => gd_in cw_91 rfl), List.forall_mem_cons.mpr ⟨(fun _ => gd_in cw_92 rfl), List.forall_mem_cons.mpr ⟨(fun _ => gd_in cw_93 rfl), List.forall_mem_cons.mpr ⟨(fun _ => gd_in cw_94 rfl), List.forall_mem_cons.mpr ⟨(fun _ => gd_in cw_95 rfl), List.forall_mem_cons.mpr ⟨(fun _ => gd_in cw_96 rfl), List.forall_mem_cons.mpr ⟨(fun _ => gd_in cw_97 rfl), List.forall_mem_cons.mpr ⟨(fun _ => gd_in cw_98 rfl), List.forall_mem_cons.mpr ⟨(fun _ => gd_in cw_99 rfl), List.forall_mem_cons.mpr ⟨(fun _ => gd_in cw_100 rfl), List.forall_mem_cons.mpr ⟨(fun _ => gd_in cw_101 rfl), List.forall_mem_cons.mpr ⟨(fun _ => gd_in cw_102 rfl), List.forall_mem_cons.mpr ⟨(fun _ => gd_in cw_103 rfl), List.forall_mem_cons.mpr ⟨(fun _ => gd_in cw_104 rfl), List.forall_mem_cons.mpr ⟨(fun _ => gd_in cw_105 rfl), List.forall_mem_cons.mpr ⟨(fun _ => gd_in cw_106 rfl), List.forall_mem_cons.mpr ⟨(fun _ => gd_in cw_107 rfl), List.forall_mem_cons.mpr ⟨(fun _ => gd_in cw_108 rfl), List.forall_mem_cons.mpr ⟨(fun _ => gd_in cw_109 rfl), List.forall_mem_cons.mpr ⟨(fun _ => gd_in cw_110 rfl), List.forall_mem_cons.mpr ⟨(fun _ => gd_in cw_111 rfl), List.forall_mem_cons.mpr ⟨(fun _ => gd_in cw_112 rfl), List.forall_mem_cons.mpr ⟨(fun _ => gd_in cw_113 rfl), List.forall_mem_cons.mpr ⟨(fun _ => gd_in cw_114 rfl), List.forall_mem_cons.mpr ⟨(fun _ => gd_in cw_115 rfl), List.forall_mem_cons.mpr ⟨(fun _ => gd_in cw_116 rfl), List.forall_mem_cons.mpr ⟨(fun _ => gd_in cw_117 rfl), List.forall_mem_cons.mpr ⟨(fun _ => gd_in cw_118 rfl), List.forall_mem_cons.mpr ⟨(fun _ => gd_in cw_119 rfl), fun _ h => absurd h List.not_mem_nil⟩⟩⟩⟩⟩⟩⟩⟩⟩⟩⟩⟩⟩⟩⟩⟩⟩⟩⟩⟩⟩⟩⟩⟩⟩⟩⟩⟩⟩⟩⟩⟩⟩⟩⟩⟩⟩⟩⟩⟩
theorem cw_120 : tw 4208 = some (.code ⟨"StairRods", "doubt", "()I"⟩ prog_1_method_37_code 1 (some .int)) := rfl
theorem cw_121 : tw 4212 = some (.code ⟨"StairRods", "free", "()I"⟩ prog_1_method_38_code 1 (some .int)) := rfl
theorem cw_122 : tw 4219 = some (.code ⟨"StairRods", "reads", "(I)I"⟩ prog_1_method_39_code 3 (some .int)) := rfl
theorem cw_123 : tw 4228 = some (.code ⟨"StairRods", "unread", "()I"⟩ prog_1_method_40_code 2 (some .int)) := rfl
theorem cw_124 : tw 4235 = some (.code ⟨"StairRods", "room", "(Z)I"⟩ prog_1_method_41_code 5 (some .int)) := rfl
theorem cw_125 : tw 5000 = some (.code ⟨"StairRods", "print", "(II)Z"⟩ prog_1_method_42_code 3 (some .boolean)) := rfl
theorem cw_126 : tw 5007 = some (.code ⟨"StairRods", "enough", "(Z)I"⟩ prog_1_method_43_code 6 (some .int)) := rfl
theorem cw_127 : tw 5021 = some (.code ⟨"StairRods", "fits", "(II)I"⟩ prog_1_method_44_code 5 (some .int)) := rfl
theorem cw_128 : tw 5025 = some (.code ⟨"StairRods", "alone", "(I)I"⟩ prog_1_method_45_code 4 (some .int)) := rfl
theorem cw_129 : tw 5029 = some (.code ⟨"StairRods", "shared", "()I"⟩ prog_1_method_46_code 3 (some .int)) := rfl
theorem cw_130 : tw 5033 = some (.code ⟨"StairRods", "which", "()I"⟩ prog_1_method_47_code 6 (some .int)) := rfl
theorem cw_131 : tw 5037 = some (.code ⟨"StairRods", "heavy", "(II)Z"⟩ prog_1_method_48_code 3 (some .boolean)) := rfl
theorem cw_132 : tw 5041 = some (.code ⟨"StairRods", "cheapest", "(I)I"⟩ prog_1_method_49_code 6 (some .int)) := rfl
theorem cw_133 : tw 5049 = some (.code ⟨"StairRods", "said", "(III)I"⟩ prog_1_method_50_code 5 (some .int)) := rfl
theorem cw_134 : tw 5053 = some (.code ⟨"StairRods", "whose", "()I"⟩ prog_1_method_51_code 3 (some .int)) := rfl
theorem cw_135 : tw 5061 = some (.code ⟨"StairRods", "highest", "()I"⟩ prog_1_method_52_code 1 (some .int)) := rfl
theorem cw_136 : tw 5069 = some (.code ⟨"StairRods", "restless", "()I"⟩ prog_1_method_53_code 1 (some .int)) := rfl
theorem cw_137 : tw 5073 = some (.code ⟨"StairRods", "home", "()I"⟩ prog_1_method_54_code 3 (some .int)) := rfl
theorem cw_138 : tw 5077 = some (.code ⟨"StairRods", "doubles", "()I"⟩ prog_1_method_55_code 4 (some .int)) := rfl
theorem cw_139 : tw 5081 = some (.code ⟨"StairRods", "pause", "()I"⟩ prog_1_method_56_code 4 (some .int)) := rfl
theorem cw_140 : tw 5085 = some (.code ⟨"StairRods", "ledger", "(I)I"⟩ prog_1_method_57_code 5 (some .int)) := rfl
theorem cw_141 : tw 5089 = some (.code ⟨"StairRods", "image", "()I"⟩ prog_1_method_58_code 1 (some .int)) := rfl
theorem cw_142 : tw 5103 = some (.code ⟨"StairRods", "back", "()I"⟩ prog_1_method_59_code 1 (some .int)) := rfl
theorem cw_143 : tw 5107 = some (.code ⟨"StairRods", "about", "(I)I"⟩ prog_1_method_60_code 2 (some .int)) := rfl
theorem cw_144 : tw 2114 = some (.code ⟨"StairRods", "within", "(III)Z"⟩ prog_1_method_61_code 3 (some .boolean)) := rfl
theorem cw_145 : tw 3128 = some (.code ⟨"StairRods", "isPlace", "(I)Z"⟩ prog_1_method_62_code 1 (some .boolean)) := rfl
theorem cw_146 : tw 2117 = some (.code ⟨"StairRods", "isStair", "(I)Z"⟩ prog_1_method_63_code 1 (some .boolean)) := rfl
theorem cw_147 : tw 5003 = some (.code ⟨"StairRods", "isStairSet", "(I)Z"⟩ prog_1_method_64_code 1 (some .boolean)) := rfl
theorem cw_148 : tw 4098 = some (.code ⟨"StairRods", "isMood", "(I)Z"⟩ prog_1_method_65_code 1 (some .boolean)) := rfl
theorem cw_149 : tw 4059 = some (.code ⟨"StairRods", "isWayUp", "(II)Z"⟩ prog_1_method_66_code 2 (some .boolean)) := rfl
theorem cw_150 : tw 3121 = some (.code ⟨"StairRods", "isLodger", "(I)Z"⟩ prog_1_method_67_code 2 (some .boolean)) := rfl
theorem cw_151 : tw 3125 = some (.code ⟨"StairRods", "tenants", "()I"⟩ prog_1_method_68_code 1 (some .int)) := rfl
theorem cw_152 : tw 3152 = some (.code ⟨"StairRods", "hasCup", "(I)Z"⟩ prog_1_method_69_code 2 (some .boolean)) := rfl
theorem cw_153 : tw 3105 = some (.code ⟨"StairRods", "textOf", "(I)LStairRods$Text;"⟩ prog_1_method_70_code 2 (some (.object "StairRods$Text"))) := rfl
theorem cw_154 : tw 2129 = some (.code ⟨"StairRods", "putFour", "(I)V"⟩ prog_1_method_71_code 3 none) := rfl
theorem cw_155 : tw 2121 = some (.code ⟨"StairRods", "moveIn", "(II)I"⟩ prog_1_method_72_code 4 (some .int)) := rfl
theorem cw_156 : tw 3113 = some (.code ⟨"StairRods", "treadAsStep", "(IZI)I"⟩ prog_1_method_73_code 4 (some .int)) := rfl
theorem cw_157 : tw 3213 = some (.code ⟨"StairRods", "hangAsStep", "(IZ)Z"⟩ prog_1_method_74_code 3 (some .boolean)) := rfl
theorem cw_158 : tw 3117 = some (.code ⟨"StairRods", "canGo", "(II)Z"⟩ prog_1_method_75_code 3 (some .boolean)) := rfl
theorem cw_159 : tw 3144 = some (.code ⟨"StairRods", "go", "(II)I"⟩ prog_1_method_76_code 6 (some .int)) := rfl
theorem cwc_3 : ∀ M ∈ mtab_3, M.1.cls ≠ "StairRodsLaw" → Cond.code M.1 M.2.1 M.2.2.1 M.2.2.2.1 ∈ gd_tbl := by
  unfold mtab_3
  exact List.forall_mem_cons.mpr ⟨(fun _ => gd_in cw_120 rfl), List.forall_mem_cons.mpr ⟨(fun _ => gd_in cw_121 rfl), List.forall_mem_cons.mpr ⟨(fun _ => gd_in cw_122 rfl), List.forall_mem_cons.mpr ⟨(fun _ => gd_in cw_123 rfl), List.forall_mem_cons.mpr ⟨(fun _ => gd_in cw_124 rfl), List.forall_mem_cons.mpr ⟨(fun _ => gd_in cw_125 rfl), List.forall_mem_cons.mpr ⟨(fun _ => gd_in cw_126 rfl), List.forall_mem_cons.mpr ⟨(fun _ => gd_in cw_127 rfl), List.forall_mem_cons.mpr ⟨(fun _ => gd_in cw_128 rfl), List.forall_mem_cons.mpr ⟨(fun _ => gd_in cw_129 rfl), List.forall_mem_cons.mpr ⟨(fun _ => gd_in cw_130 rfl), List.forall_mem_cons.mpr ⟨(fun _ => gd_in cw_131 rfl), List.forall_mem_cons.mpr ⟨(fun _ => gd_in cw_132 rfl), List.forall_mem_cons.mpr ⟨(fun _ => gd_in cw_133 rfl), List.forall_mem_cons.mpr ⟨(fun _ => gd_in cw_134 rfl), List.forall_mem_cons.mpr ⟨(fun _ => gd_in cw_135 rfl), List.forall_mem_cons.mpr ⟨(fun _ => gd_in cw_136 rfl), List.forall_mem_cons.mpr ⟨(fun _ => gd_in cw_137 rfl), List.forall_mem_cons.mpr ⟨(fun _ => gd_in cw_138 rfl), List.forall_mem_cons.mpr ⟨(fun _ => gd_in cw_139 rfl), List.forall_mem_cons.mpr ⟨(fun _ => gd_in cw_140 rfl), List.forall_mem_cons.mpr ⟨(fun _ => gd_in cw_141 rfl), List.forall_mem_cons.mpr ⟨(fun _ => gd_in cw_142 rfl), List.forall_mem_cons.mpr ⟨(fun _ => gd_in cw_143 rfl), List.forall_mem_cons.mpr ⟨(fun _ => gd_in cw_144 rfl), List.forall_mem_cons.mpr ⟨(fun _ => gd_in cw_145 rfl), List.forall_mem_cons.mpr ⟨(fun _ => gd_in cw_146 rfl), List.forall_mem_cons.mpr ⟨(fun _ => gd_in cw_147 rfl), List.forall_mem_cons.mpr ⟨(fun _ => gd_in cw_148 rfl), List.forall_mem_cons.mpr ⟨(fun _ => gd_in cw_149 rfl), List.forall_mem_cons.mpr ⟨(fun _ => gd_in cw_150 rfl), List.forall_mem_cons.mpr ⟨(fun _ => gd_in cw_151 rfl), List.forall_mem_cons.mpr ⟨(fun _ => gd_in cw_152 rfl), List.forall_mem_cons.mpr ⟨(fun _ => gd_in cw_153 rfl), List.forall_mem_cons.mpr ⟨(fun _ => gd_in cw_154 rfl), List.forall_mem_cons.mpr ⟨(fun _ => gd_in cw_155 rfl), List.forall_mem_cons.mpr ⟨(fun _ => gd_in cw_156 rfl), List.forall_mem_cons.mpr ⟨(fun _ => gd_in cw_157 rfl), List.forall_mem_cons.mpr ⟨(fun _ => gd_in cw_158 rfl), List.forall_mem_cons.mpr ⟨(fun _ => gd_in cw_159 rfl), fun _ h => absurd h List.not_mem_nil⟩⟩⟩⟩⟩⟩⟩⟩⟩⟩⟩⟩⟩⟩⟩⟩⟩⟩⟩⟩⟩⟩⟩⟩⟩⟩⟩⟩⟩⟩⟩⟩⟩⟩⟩⟩⟩⟩⟩⟩
theorem cw_160 : tw 3221 = some (.code ⟨"StairRods", "passHour", "()I"⟩ prog_1_method_77_code 5 (some .int)) := rfl
theorem cw_161 : tw 3224 = some (.code ⟨"StairRods", "afterX", "(I)I"⟩ prog_1_method_78_code 1 (some .int)) := rfl
theorem cw_162 : tw 3227 = some (.code ⟨"StairRods", "goesBy", "(I)I"⟩ prog_1_method_79_code 1 (some .int)) := rfl
theorem cw_163 : tw 3156 = some (.code ⟨"StairRods", "ticksBy", "(LStairRods$Text;IIZ)I"⟩ prog_1_method_80_code 6 (some .int)) := rfl
theorem cw_164 : tw 3199 = some (.code ⟨"StairRods", "leastHeard", "(I)I"⟩ prog_1_method_81_code 3 (some .int)) := rfl
theorem cw_165 : tw 3148 = some (.code ⟨"StairRods", "loudness", "(IIZ)I"⟩ prog_1_method_82_code 5 (some .int)) := rfl
theorem cw_166 : tw 4035 = some (.code ⟨"StairRods", "heardStairs", "(IZ)I"⟩ prog_1_method_83_code 5 (some .int)) := rfl
theorem cw_167 : tw 5057 = some (.code ⟨"StairRods", "agreesWithSaid", "(LStairRods$Text;)Z"⟩ prog_1_method_84_code 5 (some .boolean)) := rfl
theorem cw_168 : tw 4048 = some (.code ⟨"StairRods", "isQuiet", "(IIII)Z"⟩ prog_1_method_85_code 4 (some .boolean)) := rfl
theorem cw_169 : tw 4039 = some (.code ⟨"StairRods", "countTreadsTo", "(III)V"⟩ prog_1_method_86_code 6 none) := rfl
theorem cw_170 : tw 4044 = some (.code ⟨"StairRods", "reaches", "(IIII)I"⟩ prog_1_method_87_code 7 (some .int)) := rfl
theorem cw_171 : tw 4052 = some (.code ⟨"StairRods", "nextQuiet", "(III)I"⟩ prog_1_method_88_code 4 (some .int)) := rfl
theorem cw_172 : tw 4064 = some (.code ⟨"StairRods", "countWays", "(III)J"⟩ prog_1_method_89_code 5 (some .long)) := rfl
theorem cw_173 : tw 4071 = some (.code ⟨"StairRods", "countFromBelow", "(I)J"⟩ prog_1_method_90_code 5 (some .long)) := rfl
theorem cw_174 : tw 4148 = some (.code ⟨"StairRods", "part", "(JJZ)J"⟩ prog_1_method_91_code 12 (some .long)) := rfl
theorem cw_175 : tw 5017 = some (.code ⟨"StairRods", "tellsAllApart", "(I)Z"⟩ prog_1_method_92_code 4 (some .boolean)) := rfl
theorem cw_176 : tw 5045 = some (.code ⟨"StairRods", "takeLightest", "(I)I"⟩ prog_1_method_93_code 4 (some .int)) := rfl
theorem cw_177 : tw 5065 = some (.code ⟨"StairRods", "mostOf", "([I)I"⟩ prog_1_method_94_code 5 (some .int)) := rfl
theorem cw_178 : tw 3088 = some (.code ⟨"StairRods", "copyRow", "([I[I)V"⟩ prog_1_method_95_code 2 none) := rfl
theorem cw_179 : tw 5112 = some (.code ⟨"StairRodsModel", "<init>", "()V"⟩ prog_11_method_1_code 2 none) := rfl
theorem cw_180 : tw 5116 = some (.code ⟨"StairRodsModel", "copy", "([I[I)V"⟩ prog_11_method_2_code 3 none) := rfl
theorem cw_181 : tw 5227 = some (.code ⟨"StairRodsModel", "isIn", "(III)Z"⟩ prog_11_method_3_code 3 (some .boolean)) := rfl
theorem cw_182 : tw 6233 = some (.code ⟨"StairRodsModel", "cut", "(JII)I"⟩ prog_11_method_4_code 4 (some .int)) := rfl
theorem cw_183 : tw 6059 = some (.code ⟨"StairRodsModel", "has", "(II)Z"⟩ prog_11_method_5_code 2 (some .boolean)) := rfl
theorem cw_184 : tw 8037 = some (.code ⟨"StairRodsModel", "bits", "(I)I"⟩ prog_11_method_6_code 3 (some .int)) := rfl
theorem cw_185 : tw 6169 = some (.code ⟨"StairRodsModel", "isPlace", "(I)Z"⟩ prog_11_method_7_code 1 (some .boolean)) := rfl
theorem cw_186 : tw 5230 = some (.code ⟨"StairRodsModel", "isStair", "(I)Z"⟩ prog_11_method_8_code 1 (some .boolean)) := rfl
theorem cw_187 : tw 6162 = some (.code ⟨"StairRodsModel", "isLodger", "(I)Z"⟩ prog_11_method_9_code 2 (some .boolean)) := rfl
theorem cw_188 : tw 8030 = some (.code ⟨"StairRodsModel", "areStairs", "(I)Z"⟩ prog_11_method_10_code 1 (some .boolean)) := rfl
theorem cw_189 : tw 6166 = some (.code ⟨"StairRodsModel", "placeOf", "(I)I"⟩ prog_11_method_11_code 2 (some .int)) := rfl
theorem cw_190 : tw 6197 = some (.code ⟨"StairRodsModel", "trod", "(I)I"⟩ prog_11_method_12_code 2 (some .int)) := rfl
theorem cw_191 : tw 5224 = some (.code ⟨"StairRodsModel", "lodger", "(II)I"⟩ prog_11_method_13_code 3 (some .int)) := rfl
theorem cw_192 : tw 5238 = some (.code ⟨"StairRodsModel", "four", "(I)V"⟩ prog_11_method_14_code 3 none) := rfl
theorem cw_193 : tw 5234 = some (.code ⟨"StairRodsModel", "feed", "(IIIII)I"⟩ prog_11_method_15_code 6 (some .int)) := rfl
theorem cw_194 : tw 6002 = some (.code ⟨"StairRodsModel", "end", "(I)I"⟩ prog_11_method_16_code 2 (some .int)) := rfl
theorem cw_195 : tw 6018 = some (.code ⟨"StairRodsModel", "byteAt", "(I)I"⟩ prog_11_method_17_code 2 (some .int)) := rfl
theorem cw_196 : tw 6025 = some (.code ⟨"StairRodsModel", "isLetterByte", "(I)Z"⟩ prog_11_method_18_code 1 (some .boolean)) := rfl
theorem cw_197 : tw 6021 = some (.code ⟨"StairRodsModel", "isFigure", "(I)Z"⟩ prog_11_method_19_code 1 (some .boolean)) := rfl
theorem cw_198 : tw 6029 = some (.code ⟨"StairRodsModel", "isSign", "(I)Z"⟩ prog_11_method_20_code 1 (some .boolean)) := rfl
theorem cw_199 : tw 6014 = some (.code ⟨"StairRodsModel", "nextToken", "()V"⟩ prog_11_method_21_code 2 none) := rfl
theorem cwc_4 : ∀ M ∈ mtab_4, M.1.cls ≠ "StairRodsLaw" → Cond.code M.1 M.2.1 M.2.2.1 M.2.2.2.1 ∈ gd_tbl := by
  unfold mtab_4
  exact List.forall_mem_cons.mpr ⟨(fun _ => gd_in cw_160 rfl), List.forall_mem_cons.mpr ⟨(fun _ => gd_in cw_161 rfl), List.forall_mem_cons.mpr ⟨(fun _ => gd_in cw_162 rfl), List.forall_mem_cons.mpr ⟨(fun _ => gd_in cw_163 rfl), List.forall_mem_cons.mpr ⟨(fun _ => gd_in cw_164 rfl), List.forall_mem_cons.mpr ⟨(fun _ => gd_in cw_165 rfl), List.forall_mem_cons.mpr ⟨(fun _ => gd_in cw_166 rfl), List.forall_mem_cons.mpr ⟨(fun _ => gd_in cw_167 rfl), List.forall_mem_cons.mpr ⟨(fun _ => gd_in cw_168 rfl), List.forall_mem_cons.mpr ⟨(fun _ => gd_in cw_169 rfl), List.forall_mem_cons.mpr ⟨(fun _ => gd_in cw_170 rfl), List.forall_mem_cons.mpr ⟨(fun _ => gd_in cw_171 rfl), List.forall_mem_cons.mpr ⟨(fun _ => gd_in cw_172 rfl), List.forall_mem_cons.mpr ⟨(fun _ => gd_in cw_173 rfl), List.forall_mem_cons.mpr ⟨(fun _ => gd_in cw_174 rfl), List.forall_mem_cons.mpr ⟨(fun _ => gd_in cw_175 rfl), List.forall_mem_cons.mpr ⟨(fun _ => gd_in cw_176 rfl), List.forall_mem_cons.mpr ⟨(fun _ => gd_in cw_177 rfl), List.forall_mem_cons.mpr ⟨(fun _ => gd_in cw_178 rfl), List.forall_mem_cons.mpr ⟨(fun _ => gd_in cw_179 rfl), List.forall_mem_cons.mpr ⟨(fun _ => gd_in cw_180 rfl), List.forall_mem_cons.mpr ⟨(fun _ => gd_in cw_181 rfl), List.forall_mem_cons.mpr ⟨(fun _ => gd_in cw_182 rfl), List.forall_mem_cons.mpr ⟨(fun _ => gd_in cw_183 rfl), List.forall_mem_cons.mpr ⟨(fun _ => gd_in cw_184 rfl), List.forall_mem_cons.mpr ⟨(fun _ => gd_in cw_185 rfl), List.forall_mem_cons.mpr ⟨(fun _ => gd_in cw_186 rfl), List.forall_mem_cons.mpr ⟨(fun _ => gd_in cw_187 rfl), List.forall_mem_cons.mpr ⟨(fun _ => gd_in cw_188 rfl), List.forall_mem_cons.mpr ⟨(fun _ => gd_in cw_189 rfl), List.forall_mem_cons.mpr ⟨(fun _ => gd_in cw_190 rfl), List.forall_mem_cons.mpr ⟨(fun _ => gd_in cw_191 rfl), List.forall_mem_cons.mpr ⟨(fun _ => gd_in cw_192 rfl), List.forall_mem_cons.mpr ⟨(fun _ => gd_in cw_193 rfl), List.forall_mem_cons.mpr ⟨(fun _ => gd_in cw_194 rfl), List.forall_mem_cons.mpr ⟨(fun _ => gd_in cw_195 rfl), List.forall_mem_cons.mpr ⟨(fun _ => gd_in cw_196 rfl), List.forall_mem_cons.mpr ⟨(fun _ => gd_in cw_197 rfl), List.forall_mem_cons.mpr ⟨(fun _ => gd_in cw_198 rfl), List.forall_mem_cons.mpr ⟨(fun _ => gd_in cw_199 rfl), fun _ h => absurd h List.not_mem_nil⟩⟩⟩⟩⟩⟩⟩⟩⟩⟩⟩⟩⟩⟩⟩⟩⟩⟩⟩⟩⟩⟩⟩⟩⟩⟩⟩⟩⟩⟩⟩⟩⟩⟩⟩⟩⟩⟩⟩⟩
theorem cw_200 : tw 6049 = some (.code ⟨"StairRodsModel", "w2", "(II)J"⟩ prog_11_method_22_code 2 (some .long)) := rfl
theorem cw_201 : tw 6046 = some (.code ⟨"StairRodsModel", "w3", "(III)J"⟩ prog_11_method_23_code 3 (some .long)) := rfl
theorem cw_202 : tw 6043 = some (.code ⟨"StairRodsModel", "w4", "(IIII)J"⟩ prog_11_method_24_code 4 (some .long)) := rfl
theorem cw_203 : tw 6040 = some (.code ⟨"StairRodsModel", "w5", "(IIIII)J"⟩ prog_11_method_25_code 5 (some .long)) := rfl
theorem cw_204 : tw 6056 = some (.code ⟨"StairRodsModel", "w6", "(IIIIII)J"⟩ prog_11_method_26_code 6 (some .long)) := rfl
theorem cw_205 : tw 6053 = some (.code ⟨"StairRodsModel", "isWord", "(J)Z"⟩ prog_11_method_27_code 3 (some .boolean)) := rfl
theorem cw_206 : tw 6114 = some (.code ⟨"StairRodsModel", "emit", "(II)V"⟩ prog_11_method_28_code 3 none) := rfl
theorem cw_207 : tw 6130 = some (.code ⟨"StairRodsModel", "nameOf", "()I"⟩ prog_11_method_29_code 1 (some .int)) := rfl
theorem cw_208 : tw 6102 = some (.code ⟨"StairRodsModel", "rank", "(I)I"⟩ prog_11_method_30_code 1 (some .int)) := rfl
theorem cw_209 : tw 6110 = some (.code ⟨"StairRodsModel", "settle", "(I)V"⟩ prog_11_method_31_code 2 none) := rfl
theorem cw_210 : tw 6095 = some (.code ⟨"StairRodsModel", "openAt", "()I"⟩ prog_11_method_32_code 2 (some .int)) := rfl
theorem cw_211 : tw 6091 = some (.code ⟨"StairRodsModel", "openNow", "()I"⟩ prog_11_method_33_code 1 (some .int)) := rfl
theorem cw_212 : tw 6099 = some (.code ⟨"StairRodsModel", "isCompared", "()Z"⟩ prog_11_method_34_code 2 (some .boolean)) := rfl
theorem cw_213 : tw 6138 = some (.code ⟨"StairRodsModel", "isAskAhead", "()Z"⟩ prog_11_method_35_code 1 (some .boolean)) := rfl
theorem cw_214 : tw 6134 = some (.code ⟨"StairRodsModel", "opened", "(I)I"⟩ prog_11_method_36_code 2 (some .int)) := rfl
theorem cw_215 : tw 6126 = some (.code ⟨"StairRodsModel", "beginOne", "()I"⟩ prog_11_method_37_code 2 (some .int)) := rfl
theorem cw_216 : tw 6122 = some (.code ⟨"StairRodsModel", "endOne", "()I"⟩ prog_11_method_38_code 1 (some .int)) := rfl
theorem cw_217 : tw 6106 = some (.code ⟨"StairRodsModel", "compareOf", "()I"⟩ prog_11_method_39_code 1 (some .int)) := rfl
theorem cw_218 : tw 6087 = some (.code ⟨"StairRodsModel", "betweenOf", "()I"⟩ prog_11_method_40_code 1 (some .int)) := rfl
theorem cw_219 : tw 6118 = some (.code ⟨"StairRodsModel", "partOf", "(I)I"⟩ prog_11_method_41_code 2 (some .int)) := rfl
theorem cw_220 : tw 6083 = some (.code ⟨"StairRodsModel", "behindOne", "()I"⟩ prog_11_method_42_code 4 (some .int)) := rfl
theorem cw_221 : tw 6079 = some (.code ⟨"StairRodsModel", "summed", "()I"⟩ prog_11_method_43_code 2 (some .int)) := rfl
theorem cw_222 : tw 6071 = some (.code ⟨"StairRodsModel", "figure", "(III)I"⟩ prog_11_method_44_code 4 (some .int)) := rfl
theorem cw_223 : tw 6075 = some (.code ⟨"StairRodsModel", "lawClause", "(I)I"⟩ prog_11_method_45_code 3 (some .int)) := rfl
theorem cw_224 : tw 6067 = some (.code ⟨"StairRodsModel", "pair", "(IIIJII)I"⟩ prog_11_method_46_code 9 (some .int)) := rfl
theorem cw_225 : tw 6063 = some (.code ⟨"StairRodsModel", "body", "(II)I"⟩ prog_11_method_47_code 3 (some .int)) := rfl
theorem cw_226 : tw 6037 = some (.code ⟨"StairRodsModel", "sortOf", "()I"⟩ prog_11_method_48_code 1 (some .int)) := rfl
theorem cw_227 : tw 6033 = some (.code ⟨"StairRodsModel", "clause", "()I"⟩ prog_11_method_49_code 5 (some .int)) := rfl
theorem cw_228 : tw 6010 = some (.code ⟨"StairRodsModel", "readText", "()I"⟩ prog_11_method_50_code 2 (some .int)) := rfl
theorem cw_229 : tw 6006 = some (.code ⟨"StairRodsModel", "text", "()I"⟩ prog_11_method_51_code 1 (some .int)) := rfl
theorem cw_230 : tw 6142 = some (.code ⟨"StairRodsModel", "fault", "(I)I"⟩ prog_11_method_52_code 2 (some .int)) := rfl
theorem cw_231 : tw 6146 = some (.code ⟨"StairRodsModel", "by", "(I)Z"⟩ prog_11_method_53_code 2 (some .boolean)) := rfl
theorem cw_232 : tw 6222 = some (.code ⟨"StairRodsModel", "clip", "(J)J"⟩ prog_11_method_54_code 2 (some .long)) := rfl
theorem cw_233 : tw 6219 = some (.code ⟨"StairRodsModel", "two", "(IJJ)J"⟩ prog_11_method_55_code 5 (some .long)) := rfl
theorem cw_234 : tw 6227 = some (.code ⟨"StairRodsModel", "isAsked", "(IJJ)Z"⟩ prog_11_method_56_code 5 (some .boolean)) := rfl
theorem cw_235 : tw 6185 = some (.code ⟨"StairRodsModel", "hasCup", "(I)Z"⟩ prog_11_method_57_code 2 (some .boolean)) := rfl
theorem cw_236 : tw 6209 = some (.code ⟨"StairRodsModel", "cupOf", "(J)J"⟩ prog_11_method_58_code 3 (some .long)) := rfl
theorem cw_237 : tw 6216 = some (.code ⟨"StairRodsModel", "size", "(J)J"⟩ prog_11_method_59_code 2 (some .long)) := rfl
theorem cw_238 : tw 6213 = some (.code ⟨"StairRodsModel", "nearOf", "(JJ)J"⟩ prog_11_method_60_code 8 (some .long)) := rfl
theorem cw_239 : tw 6230 = some (.code ⟨"StairRodsModel", "joined", "(IZZ)Z"⟩ prog_11_method_61_code 3 (some .boolean)) := rfl
theorem cwc_5 : ∀ M ∈ mtab_5, M.1.cls ≠ "StairRodsLaw" → Cond.code M.1 M.2.1 M.2.2.1 M.2.2.2.1 ∈ gd_tbl := by
  unfold mtab_5
  exact List.forall_mem_cons.mpr ⟨(fun _ => gd_in cw_200 rfl), List.forall_mem_cons.mpr ⟨(fun _ => gd_in cw_201 rfl), List.forall_mem_cons.mpr ⟨(fun _ => gd_in cw_202 rfl), List.forall_mem_cons.mpr ⟨(fun _ => gd_in cw_203 rfl), List.forall_mem_cons.mpr ⟨(fun _ => gd_in cw_204 rfl), List.forall_mem_cons.mpr ⟨(fun _ => gd_in cw_205 rfl), List.forall_mem_cons.mpr ⟨(fun _ => gd_in cw_206 rfl), List.forall_mem_cons.mpr ⟨(fun _ => gd_in cw_207 rfl), List.forall_mem_cons.mpr ⟨(fun _ => gd_in cw_208 rfl), List.forall_mem_cons.mpr ⟨(fun _ => gd_in cw_209 rfl), List.forall_mem_cons.mpr ⟨(fun _ => gd_in cw_210 rfl), List.forall_mem_cons.mpr ⟨(fun _ => gd_in cw_211 rfl), List.forall_mem_cons.mpr ⟨(fun _ => gd_in cw_212 rfl), List.forall_mem_cons.mpr ⟨(fun _ => gd_in cw_213 rfl), List.forall_mem_cons.mpr ⟨(fun _ => gd_in cw_214 rfl), List.forall_mem_cons.mpr ⟨(fun _ => gd_in cw_215 rfl), List.forall_mem_cons.mpr ⟨(fun _ => gd_in cw_216 rfl), List.forall_mem_cons.mpr ⟨(fun _ => gd_in cw_217 rfl), List.forall_mem_cons.mpr ⟨(fun _ => gd_in cw_218 rfl), List.forall_mem_cons.mpr ⟨(fun _ => gd_in cw_219 rfl), List.forall_mem_cons.mpr ⟨(fun _ => gd_in cw_220 rfl), List.forall_mem_cons.mpr ⟨(fun _ => gd_in cw_221 rfl), List.forall_mem_cons.mpr ⟨(fun _ => gd_in cw_222 rfl), List.forall_mem_cons.mpr ⟨(fun _ => gd_in cw_223 rfl), List.forall_mem_cons.mpr ⟨(fun _ => gd_in cw_224 rfl), List.forall_mem_cons.mpr ⟨(fun _ => gd_in cw_225 rfl), List.forall_mem_cons.mpr ⟨(fun _ => gd_in cw_226 rfl), List.forall_mem_cons.mpr ⟨(fun _ => gd_in cw_227 rfl), List.forall_mem_cons.mpr ⟨(fun _ => gd_in cw_228 rfl), List.forall_mem_cons.mpr ⟨(fun _ => gd_in cw_229 rfl), List.forall_mem_cons.mpr ⟨(fun _ => gd_in cw_230 rfl), List.forall_mem_cons.mpr ⟨(fun _ => gd_in cw_231 rfl), List.forall_mem_cons.mpr ⟨(fun _ => gd_in cw_232 rfl), List.forall_mem_cons.mpr ⟨(fun _ => gd_in cw_233 rfl), List.forall_mem_cons.mpr ⟨(fun _ => gd_in cw_234 rfl), List.forall_mem_cons.mpr ⟨(fun _ => gd_in cw_235 rfl), List.forall_mem_cons.mpr ⟨(fun _ => gd_in cw_236 rfl), List.forall_mem_cons.mpr ⟨(fun _ => gd_in cw_237 rfl), List.forall_mem_cons.mpr ⟨(fun _ => gd_in cw_238 rfl), List.forall_mem_cons.mpr ⟨(fun _ => gd_in cw_239 rfl), fun _ h => absurd h List.not_mem_nil⟩⟩⟩⟩⟩⟩⟩⟩⟩⟩⟩⟩⟩⟩⟩⟩⟩⟩⟩⟩⟩⟩⟩⟩⟩⟩⟩⟩⟩⟩⟩⟩⟩⟩⟩⟩⟩⟩⟩⟩
theorem cw_240 : tw 6205 = some (.code ⟨"StairRodsModel", "summedUp", "(II)J"⟩ prog_11_method_62_code 10 (some .long)) := rfl
theorem cw_241 : tw 6201 = some (.code ⟨"StairRodsModel", "says", "(III)I"⟩ prog_11_method_63_code 5 (some .int)) := rfl
theorem cw_242 : tw 6193 = some (.code ⟨"StairRodsModel", "name", "(I)V"⟩ prog_11_method_64_code 2 none) := rfl
theorem cw_243 : tw 6189 = some (.code ⟨"StairRodsModel", "ticksOf", "(IIIZ)I"⟩ prog_11_method_65_code 5 (some .int)) := rfl
theorem cw_244 : tw 6237 = some (.code ⟨"StairRodsModel", "hearsOf", "(I)I"⟩ prog_11_method_66_code 2 (some .int)) := rfl
theorem cw_245 : tw 6181 = some (.code ⟨"StairRodsModel", "heardAt", "(IIZ)I"⟩ prog_11_method_67_code 5 (some .int)) := rfl
theorem cw_246 : tw 7001 = some (.code ⟨"StairRodsModel", "write", "(II)V"⟩ prog_11_method_68_code 4 none) := rfl
theorem cw_247 : tw 7021 = some (.code ⟨"StairRodsModel", "drawnBy", "(I)I"⟩ prog_11_method_69_code 3 (some .int)) := rfl
theorem cw_248 : tw 7025 = some (.code ⟨"StairRodsModel", "anew", "()V"⟩ prog_11_method_70_code 1 none) := rfl
theorem cw_249 : tw 6158 = some (.code ⟨"StairRodsModel", "canTread", "(IZI)Z"⟩ prog_11_method_71_code 4 (some .boolean)) := rfl
theorem cw_250 : tw 6177 = some (.code ⟨"StairRodsModel", "treadNow", "(IZI)I"⟩ prog_11_method_72_code 6 (some .int)) := rfl
theorem cw_251 : tw 7032 = some (.code ⟨"StairRodsModel", "treadBy", "(II)V"⟩ prog_11_method_73_code 3 none) := rfl
theorem cw_252 : tw 7017 = some (.code ⟨"StairRodsModel", "pass", "()V"⟩ prog_11_method_74_code 2 none) := rfl
theorem cw_253 : tw 6173 = some (.code ⟨"StairRodsModel", "keep", "()V"⟩ prog_11_method_75_code 3 none) := rfl
theorem cw_254 : tw 6150 = some (.code ⟨"StairRodsModel", "undo", "()I"⟩ prog_11_method_76_code 3 (some .int)) := rfl
theorem cw_255 : tw 6154 = some (.code ⟨"StairRodsModel", "tread", "(IZI)I"⟩ prog_11_method_77_code 4 (some .int)) := rfl
theorem cw_256 : tw 7005 = some (.code ⟨"StairRodsModel", "hang", "(IZ)Z"⟩ prog_11_method_78_code 3 (some .boolean)) := rfl
theorem cw_257 : tw 7013 = some (.code ⟨"StairRodsModel", "arePassed", "(I)Z"⟩ prog_11_method_79_code 3 (some .boolean)) := rfl
theorem cw_258 : tw 7009 = some (.code ⟨"StairRodsModel", "hour", "(I)I"⟩ prog_11_method_80_code 2 (some .int)) := rfl
theorem cw_259 : tw 7040 = some (.code ⟨"StairRodsModel", "isPlayed", "(I)Z"⟩ prog_11_method_81_code 4 (some .boolean)) := rfl
theorem cw_260 : tw 7036 = some (.code ⟨"StairRodsModel", "played", "(I)I"⟩ prog_11_method_82_code 3 (some .int)) := rfl
theorem cw_261 : tw 7051 = some (.code ⟨"StairRodsModel", "happens", "(I)V"⟩ prog_11_method_83_code 3 none) := rfl
theorem cw_262 : tw 7047 = some (.code ⟨"StairRodsModel", "nights", "(II)I"⟩ prog_11_method_84_code 5 (some .int)) := rfl
theorem cw_263 : tw 7055 = some (.code ⟨"StairRodsModel", "of", "(II)I"⟩ prog_11_method_85_code 3 (some .int)) := rfl
theorem cw_264 : tw 7059 = some (.code ⟨"StairRodsModel", "ticks", "(IIZ)I"⟩ prog_11_method_86_code 4 (some .int)) := rfl
theorem cw_265 : tw 7063 = some (.code ⟨"StairRodsModel", "hears", "(I)I"⟩ prog_11_method_87_code 2 (some .int)) := rfl
theorem cw_266 : tw 7067 = some (.code ⟨"StairRodsModel", "is", "(I)I"⟩ prog_11_method_88_code 2 (some .int)) := rfl
theorem cw_267 : tw 7075 = some (.code ⟨"StairRodsModel", "entry", "(II)I"⟩ prog_11_method_89_code 4 (some .int)) := rfl
theorem cw_268 : tw 7071 = some (.code ⟨"StairRodsModel", "book", "(II)I"⟩ prog_11_method_90_code 3 (some .int)) := rfl
theorem cw_269 : tw 7079 = some (.code ⟨"StairRodsModel", "ledger", "(I)I"⟩ prog_11_method_91_code 4 (some .int)) := rfl
theorem cw_270 : tw 7083 = some (.code ⟨"StairRodsModel", "pause", "()I"⟩ prog_11_method_92_code 3 (some .int)) := rfl
theorem cw_271 : tw 7087 = some (.code ⟨"StairRodsModel", "highest", "()I"⟩ prog_11_method_93_code 3 (some .int)) := rfl
theorem cw_272 : tw 7091 = some (.code ⟨"StairRodsModel", "restless", "()I"⟩ prog_11_method_94_code 3 (some .int)) := rfl
theorem cw_273 : tw 7095 = some (.code ⟨"StairRodsModel", "home", "()I"⟩ prog_11_method_95_code 3 (some .int)) := rfl
theorem cw_274 : tw 7099 = some (.code ⟨"StairRodsModel", "doubles", "()I"⟩ prog_11_method_96_code 4 (some .int)) := rfl
theorem cw_275 : tw 7103 = some (.code ⟨"StairRodsModel", "foretold", "(III)I"⟩ prog_11_method_97_code 6 (some .int)) := rfl
theorem cw_276 : tw 7116 = some (.code ⟨"StairRodsModel", "isStep", "(III)Z"⟩ prog_11_method_98_code 4 (some .boolean)) := rfl
theorem cw_277 : tw 7111 = some (.code ⟨"StairRodsModel", "layFar", "(II)V"⟩ prog_11_method_99_code 6 none) := rfl
theorem cw_278 : tw 7107 = some (.code ⟨"StairRodsModel", "quiet", "(IIII)I"⟩ prog_11_method_100_code 8 (some .int)) := rfl
theorem cw_279 : tw 7127 = some (.code ⟨"StairRodsModel", "waysOf", "(III)J"⟩ prog_11_method_101_code 6 (some .long)) := rfl
theorem cwc_6 : ∀ M ∈ mtab_6, M.1.cls ≠ "StairRodsLaw" → Cond.code M.1 M.2.1 M.2.2.1 M.2.2.2.1 ∈ gd_tbl := by
  unfold mtab_6
  exact List.forall_mem_cons.mpr ⟨(fun _ => gd_in cw_240 rfl), List.forall_mem_cons.mpr ⟨(fun _ => gd_in cw_241 rfl), List.forall_mem_cons.mpr ⟨(fun _ => gd_in cw_242 rfl), List.forall_mem_cons.mpr ⟨(fun _ => gd_in cw_243 rfl), List.forall_mem_cons.mpr ⟨(fun _ => gd_in cw_244 rfl), List.forall_mem_cons.mpr ⟨(fun _ => gd_in cw_245 rfl), List.forall_mem_cons.mpr ⟨(fun _ => gd_in cw_246 rfl), List.forall_mem_cons.mpr ⟨(fun _ => gd_in cw_247 rfl), List.forall_mem_cons.mpr ⟨(fun _ => gd_in cw_248 rfl), List.forall_mem_cons.mpr ⟨(fun _ => gd_in cw_249 rfl), List.forall_mem_cons.mpr ⟨(fun _ => gd_in cw_250 rfl), List.forall_mem_cons.mpr ⟨(fun _ => gd_in cw_251 rfl), List.forall_mem_cons.mpr ⟨(fun _ => gd_in cw_252 rfl), List.forall_mem_cons.mpr ⟨(fun _ => gd_in cw_253 rfl), List.forall_mem_cons.mpr ⟨(fun _ => gd_in cw_254 rfl), List.forall_mem_cons.mpr ⟨(fun _ => gd_in cw_255 rfl), List.forall_mem_cons.mpr ⟨(fun _ => gd_in cw_256 rfl), List.forall_mem_cons.mpr ⟨(fun _ => gd_in cw_257 rfl), List.forall_mem_cons.mpr ⟨(fun _ => gd_in cw_258 rfl), List.forall_mem_cons.mpr ⟨(fun _ => gd_in cw_259 rfl), List.forall_mem_cons.mpr ⟨(fun _ => gd_in cw_260 rfl), List.forall_mem_cons.mpr ⟨(fun _ => gd_in cw_261 rfl), List.forall_mem_cons.mpr ⟨(fun _ => gd_in cw_262 rfl), List.forall_mem_cons.mpr ⟨(fun _ => gd_in cw_263 rfl), List.forall_mem_cons.mpr ⟨(fun _ => gd_in cw_264 rfl), List.forall_mem_cons.mpr ⟨(fun _ => gd_in cw_265 rfl), List.forall_mem_cons.mpr ⟨(fun _ => gd_in cw_266 rfl), List.forall_mem_cons.mpr ⟨(fun _ => gd_in cw_267 rfl), List.forall_mem_cons.mpr ⟨(fun _ => gd_in cw_268 rfl), List.forall_mem_cons.mpr ⟨(fun _ => gd_in cw_269 rfl), List.forall_mem_cons.mpr ⟨(fun _ => gd_in cw_270 rfl), List.forall_mem_cons.mpr ⟨(fun _ => gd_in cw_271 rfl), List.forall_mem_cons.mpr ⟨(fun _ => gd_in cw_272 rfl), List.forall_mem_cons.mpr ⟨(fun _ => gd_in cw_273 rfl), List.forall_mem_cons.mpr ⟨(fun _ => gd_in cw_274 rfl), List.forall_mem_cons.mpr ⟨(fun _ => gd_in cw_275 rfl), List.forall_mem_cons.mpr ⟨(fun _ => gd_in cw_276 rfl), List.forall_mem_cons.mpr ⟨(fun _ => gd_in cw_277 rfl), List.forall_mem_cons.mpr ⟨(fun _ => gd_in cw_278 rfl), List.forall_mem_cons.mpr ⟨(fun _ => gd_in cw_279 rfl), fun _ h => absurd h List.not_mem_nil⟩⟩⟩⟩⟩⟩⟩⟩⟩⟩⟩⟩⟩⟩⟩⟩⟩⟩⟩⟩⟩⟩⟩⟩⟩⟩⟩⟩⟩⟩⟩⟩⟩⟩⟩⟩⟩⟩⟩⟩
theorem cw_280 : tw 7123 = some (.code ⟨"StairRodsModel", "isUp", "(II)Z"⟩ prog_11_method_102_code 2 (some .boolean)) := rfl
theorem cw_281 : tw 7120 = some (.code ⟨"StairRodsModel", "ways", "(II)J"⟩ prog_11_method_103_code 3 (some .long)) := rfl
theorem cw_282 : tw 7132 = some (.code ⟨"StairRodsModel", "unheard", "(III)J"⟩ prog_11_method_104_code 4 (some .long)) := rfl
theorem cw_283 : tw 7136 = some (.code ⟨"StairRodsModel", "waysBy", "(III)J"⟩ prog_11_method_105_code 6 (some .long)) := rfl
theorem cw_284 : tw 7140 = some (.code ⟨"StairRodsModel", "loudest", "(I)I"⟩ prog_11_method_106_code 7 (some .int)) := rfl
theorem cw_285 : tw 7144 = some (.code ⟨"StairRodsModel", "heardOn", "(IZ)I"⟩ prog_11_method_107_code 5 (some .int)) := rfl
theorem cw_286 : tw 7148 = some (.code ⟨"StairRodsModel", "cupRow", "()I"⟩ prog_11_method_108_code 4 (some .int)) := rfl
theorem cw_287 : tw 7155 = some (.code ⟨"StairRodsModel", "isThree", "(I)Z"⟩ prog_11_method_109_code 1 (some .boolean)) := rfl
theorem cw_288 : tw 7152 = some (.code ⟨"StairRodsModel", "change", "(III)Z"⟩ prog_11_method_110_code 4 (some .boolean)) := rfl
theorem cw_289 : tw 7159 = some (.code ⟨"StairRodsModel", "sound", "(III)Z"⟩ prog_11_method_111_code 4 (some .boolean)) := rfl
theorem cw_290 : tw 7163 = some (.code ⟨"StairRodsModel", "listen", "(I)I"⟩ prog_11_method_112_code 2 (some .int)) := rfl
theorem cw_291 : tw 7183 = some (.code ⟨"StairRodsModel", "soundOf", "(II)I"⟩ prog_11_method_113_code 3 (some .int)) := rfl
theorem cw_292 : tw 7179 = some (.code ⟨"StairRodsModel", "changeOf", "(II)I"⟩ prog_11_method_114_code 3 (some .int)) := rfl
theorem cw_293 : tw 7175 = some (.code ⟨"StairRodsModel", "layMoods", "()V"⟩ prog_11_method_115_code 7 none) := rfl
theorem cw_294 : tw 7171 = some (.code ⟨"StairRodsModel", "allRows", "()J"⟩ prog_11_method_116_code 4 (some .long)) := rfl
theorem cw_295 : tw 7167 = some (.code ⟨"StairRodsModel", "weighed", "()J"⟩ prog_11_method_117_code 1 (some .long)) := rfl
theorem cw_296 : tw 7194 = some (.code ⟨"StairRodsModel", "divisor", "(JJ)J"⟩ prog_11_method_118_code 10 (some .long)) := rfl
theorem cw_297 : tw 7191 = some (.code ⟨"StairRodsModel", "isSound", "(I)Z"⟩ prog_11_method_119_code 2 (some .boolean)) := rfl
theorem cw_298 : tw 7187 = some (.code ⟨"StairRodsModel", "mood", "(IIZ)J"⟩ prog_11_method_120_code 8 (some .long)) := rfl
theorem cw_299 : tw 7198 = some (.code ⟨"StairRodsModel", "moods", "(I)I"⟩ prog_11_method_121_code 4 (some .int)) := rfl
theorem cw_300 : tw 7202 = some (.code ⟨"StairRodsModel", "likeliest", "(I)I"⟩ prog_11_method_122_code 10 (some .int)) := rfl
theorem cw_301 : tw 7210 = some (.code ⟨"StairRodsModel", "nextBy", "(I)J"⟩ prog_11_method_123_code 9 (some .long)) := rfl
theorem cw_302 : tw 7206 = some (.code ⟨"StairRodsModel", "next", "(IZ)J"⟩ prog_11_method_124_code 5 (some .long)) := rfl
theorem cw_303 : tw 7217 = some (.code ⟨"StairRodsModel", "twosOf", "(I)I"⟩ prog_11_method_125_code 4 (some .int)) := rfl
theorem cw_304 : tw 7232 = some (.code ⟨"StairRodsModel", "lengthOf", "(I)I"⟩ prog_11_method_126_code 3 (some .int)) := rfl
theorem cw_305 : tw 7229 = some (.code ⟨"StairRodsModel", "restOf", "(II)I"⟩ prog_11_method_127_code 3 (some .int)) := rfl
theorem cw_306 : tw 7226 = some (.code ⟨"StairRodsModel", "wordAt", "(I)I"⟩ prog_11_method_128_code 2 (some .int)) := rfl
theorem cw_307 : tw 7214 = some (.code ⟨"StairRodsModel", "code", "(I)I"⟩ prog_11_method_129_code 3 (some .int)) := rfl
theorem cw_308 : tw 7236 = some (.code ⟨"StairRodsModel", "isFewer", "(II)Z"⟩ prog_11_method_130_code 3 (some .boolean)) := rfl
theorem cw_309 : tw 7222 = some (.code ⟨"StairRodsModel", "doubt", "()I"⟩ prog_11_method_131_code 6 (some .int)) := rfl
theorem cw_310 : tw 8000 = some (.code ⟨"StairRodsModel", "clear", "()I"⟩ prog_11_method_132_code 1 (some .int)) := rfl
theorem cw_311 : tw 8005 = some (.code ⟨"StairRodsModel", "free", "()I"⟩ prog_11_method_133_code 3 (some .int)) := rfl
theorem cw_312 : tw 8014 = some (.code ⟨"StairRodsModel", "readsOf", "(I)I"⟩ prog_11_method_134_code 7 (some .int)) := rfl
theorem cw_313 : tw 8009 = some (.code ⟨"StairRodsModel", "reads", "(I)I"⟩ prog_11_method_135_code 2 (some .int)) := rfl
theorem cw_314 : tw 8018 = some (.code ⟨"StairRodsModel", "unread", "()I"⟩ prog_11_method_136_code 4 (some .int)) := rfl
theorem cw_315 : tw 8022 = some (.code ⟨"StairRodsModel", "room", "(Z)I"⟩ prog_11_method_137_code 4 (some .int)) := rfl
theorem cw_316 : tw 8027 = some (.code ⟨"StairRodsModel", "print", "(II)Z"⟩ prog_11_method_138_code 3 (some .boolean)) := rfl
theorem cw_317 : tw 8041 = some (.code ⟨"StairRodsModel", "areUnlike", "(I)Z"⟩ prog_11_method_139_code 4 (some .boolean)) := rfl
theorem cw_318 : tw 8034 = some (.code ⟨"StairRodsModel", "enough", "(Z)I"⟩ prog_11_method_140_code 4 (some .int)) := rfl
theorem cw_319 : tw 8045 = some (.code ⟨"StairRodsModel", "fits", "(II)I"⟩ prog_11_method_141_code 5 (some .int)) := rfl
theorem cwc_7 : ∀ M ∈ mtab_7, M.1.cls ≠ "StairRodsLaw" → Cond.code M.1 M.2.1 M.2.2.1 M.2.2.2.1 ∈ gd_tbl := by
  unfold mtab_7
  exact List.forall_mem_cons.mpr ⟨(fun _ => gd_in cw_280 rfl), List.forall_mem_cons.mpr ⟨(fun _ => gd_in cw_281 rfl), List.forall_mem_cons.mpr ⟨(fun _ => gd_in cw_282 rfl), List.forall_mem_cons.mpr ⟨(fun _ => gd_in cw_283 rfl), List.forall_mem_cons.mpr ⟨(fun _ => gd_in cw_284 rfl), List.forall_mem_cons.mpr ⟨(fun _ => gd_in cw_285 rfl), List.forall_mem_cons.mpr ⟨(fun _ => gd_in cw_286 rfl), List.forall_mem_cons.mpr ⟨(fun _ => gd_in cw_287 rfl), List.forall_mem_cons.mpr ⟨(fun _ => gd_in cw_288 rfl), List.forall_mem_cons.mpr ⟨(fun _ => gd_in cw_289 rfl), List.forall_mem_cons.mpr ⟨(fun _ => gd_in cw_290 rfl), List.forall_mem_cons.mpr ⟨(fun _ => gd_in cw_291 rfl), List.forall_mem_cons.mpr ⟨(fun _ => gd_in cw_292 rfl), List.forall_mem_cons.mpr ⟨(fun _ => gd_in cw_293 rfl), List.forall_mem_cons.mpr ⟨(fun _ => gd_in cw_294 rfl), List.forall_mem_cons.mpr ⟨(fun _ => gd_in cw_295 rfl), List.forall_mem_cons.mpr ⟨(fun _ => gd_in cw_296 rfl), List.forall_mem_cons.mpr ⟨(fun _ => gd_in cw_297 rfl), List.forall_mem_cons.mpr ⟨(fun _ => gd_in cw_298 rfl), List.forall_mem_cons.mpr ⟨(fun _ => gd_in cw_299 rfl), List.forall_mem_cons.mpr ⟨(fun _ => gd_in cw_300 rfl), List.forall_mem_cons.mpr ⟨(fun _ => gd_in cw_301 rfl), List.forall_mem_cons.mpr ⟨(fun _ => gd_in cw_302 rfl), List.forall_mem_cons.mpr ⟨(fun _ => gd_in cw_303 rfl), List.forall_mem_cons.mpr ⟨(fun _ => gd_in cw_304 rfl), List.forall_mem_cons.mpr ⟨(fun _ => gd_in cw_305 rfl), List.forall_mem_cons.mpr ⟨(fun _ => gd_in cw_306 rfl), List.forall_mem_cons.mpr ⟨(fun _ => gd_in cw_307 rfl), List.forall_mem_cons.mpr ⟨(fun _ => gd_in cw_308 rfl), List.forall_mem_cons.mpr ⟨(fun _ => gd_in cw_309 rfl), List.forall_mem_cons.mpr ⟨(fun _ => gd_in cw_310 rfl), List.forall_mem_cons.mpr ⟨(fun _ => gd_in cw_311 rfl), List.forall_mem_cons.mpr ⟨(fun _ => gd_in cw_312 rfl), List.forall_mem_cons.mpr ⟨(fun _ => gd_in cw_313 rfl), List.forall_mem_cons.mpr ⟨(fun _ => gd_in cw_314 rfl), List.forall_mem_cons.mpr ⟨(fun _ => gd_in cw_315 rfl), List.forall_mem_cons.mpr ⟨(fun _ => gd_in cw_316 rfl), List.forall_mem_cons.mpr ⟨(fun _ => gd_in cw_317 rfl), List.forall_mem_cons.mpr ⟨(fun _ => gd_in cw_318 rfl), List.forall_mem_cons.mpr ⟨(fun _ => gd_in cw_319 rfl), fun _ h => absurd h List.not_mem_nil⟩⟩⟩⟩⟩⟩⟩⟩⟩⟩⟩⟩⟩⟩⟩⟩⟩⟩⟩⟩⟩⟩⟩⟩⟩⟩⟩⟩⟩⟩⟩⟩⟩⟩⟩⟩⟩⟩⟩⟩
theorem cw_320 : tw 8049 = some (.code ⟨"StairRodsModel", "alone", "(I)I"⟩ prog_11_method_142_code 4 (some .int)) := rfl
theorem cw_321 : tw 8053 = some (.code ⟨"StairRodsModel", "shared", "()I"⟩ prog_11_method_143_code 3 (some .int)) := rfl
theorem cw_322 : tw 8057 = some (.code ⟨"StairRodsModel", "which", "()I"⟩ prog_11_method_144_code 7 (some .int)) := rfl
theorem cw_323 : tw 8061 = some (.code ⟨"StairRodsModel", "heavy", "(II)Z"⟩ prog_11_method_145_code 3 (some .boolean)) := rfl
theorem cw_324 : tw 8069 = some (.code ⟨"StairRodsModel", "lightest", "(I)I"⟩ prog_11_method_146_code 4 (some .int)) := rfl
theorem cw_325 : tw 8065 = some (.code ⟨"StairRodsModel", "cheapest", "(I)I"⟩ prog_11_method_147_code 5 (some .int)) := rfl
theorem cw_326 : tw 8073 = some (.code ⟨"StairRodsModel", "said", "(III)I"⟩ prog_11_method_148_code 5 (some .int)) := rfl
theorem cw_327 : tw 8077 = some (.code ⟨"StairRodsModel", "whose", "()I"⟩ prog_11_method_149_code 5 (some .int)) := rfl
theorem cw_328 : tw 8081 = some (.code ⟨"StairRodsModel", "image", "()I"⟩ prog_11_method_150_code 1 (some .int)) := rfl
theorem cw_329 : tw 8085 = some (.code ⟨"StairRodsModel", "back", "()I"⟩ prog_11_method_151_code 1 (some .int)) := rfl
theorem cw_330 : tw 8089 = some (.code ⟨"StairRodsModel", "about", "(I)I"⟩ prog_11_method_152_code 2 (some .int)) := rfl
theorem cwc_8 : ∀ M ∈ mtab_8, M.1.cls ≠ "StairRodsLaw" → Cond.code M.1 M.2.1 M.2.2.1 M.2.2.2.1 ∈ gd_tbl := by
  unfold mtab_8
  exact List.forall_mem_cons.mpr ⟨(fun _ => gd_in cw_320 rfl), List.forall_mem_cons.mpr ⟨(fun _ => gd_in cw_321 rfl), List.forall_mem_cons.mpr ⟨(fun _ => gd_in cw_322 rfl), List.forall_mem_cons.mpr ⟨(fun _ => gd_in cw_323 rfl), List.forall_mem_cons.mpr ⟨(fun _ => gd_in cw_324 rfl), List.forall_mem_cons.mpr ⟨(fun _ => gd_in cw_325 rfl), List.forall_mem_cons.mpr ⟨(fun _ => gd_in cw_326 rfl), List.forall_mem_cons.mpr ⟨(fun _ => gd_in cw_327 rfl), List.forall_mem_cons.mpr ⟨(fun _ => gd_in cw_328 rfl), List.forall_mem_cons.mpr ⟨(fun _ => gd_in cw_329 rfl), List.forall_mem_cons.mpr ⟨(fun _ => gd_in cw_330 rfl), List.forall_mem_cons.mpr ⟨(fun h => absurd rfl h), fun _ h => absurd h List.not_mem_nil⟩⟩⟩⟩⟩⟩⟩⟩⟩⟩⟩⟩
