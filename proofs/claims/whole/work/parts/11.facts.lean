theorem lt_t {w : Cond} (h : w ∈ tables_1) : w ∈ lw_tbl := List.mem_append.mpr (Or.inr h)
theorem lt_1 {w : Cond} (i : Nat) (h : tables_1_1[i]? = some w) : w ∈ lw_tbl := lt_t (by unfold tables_1; simp only [List.mem_append]; have := List.mem_of_getElem? h; simp only [this, true_or, or_true])
theorem lt_2 {w : Cond} (i : Nat) (h : tables_1_2[i]? = some w) : w ∈ lw_tbl := lt_t (by unfold tables_1; simp only [List.mem_append]; have := List.mem_of_getElem? h; simp only [this, true_or, or_true])
theorem lt_3 {w : Cond} (i : Nat) (h : tables_1_3[i]? = some w) : w ∈ lw_tbl := lt_t (by unfold tables_1; simp only [List.mem_append]; have := List.mem_of_getElem? h; simp only [this, true_or, or_true])
theorem lt_4 {w : Cond} (i : Nat) (h : tables_1_4[i]? = some w) : w ∈ lw_tbl := lt_t (by unfold tables_1; simp only [List.mem_append]; have := List.mem_of_getElem? h; simp only [this, true_or, or_true])
theorem lt_5 {w : Cond} (i : Nat) (h : tables_1_5[i]? = some w) : w ∈ lw_tbl := lt_t (by unfold tables_1; simp only [List.mem_append]; have := List.mem_of_getElem? h; simp only [this, true_or, or_true])
theorem lt_p {w : Cond} (i : Nat) (h : (k2_sels lw_privs)[i]? = some w) : w ∈ lw_tbl := List.mem_append.mpr (Or.inl (List.mem_of_getElem? h))
theorem lj_1 : Cond.instanceMethod Lib.objectInit ∈ lw_tbl := lt_1 24 rfl
theorem lj_2 : Cond.code Lib.objectInit ⟨#[0xb1]⟩ 1 none ∈ lw_tbl := lt_1 25 rfl
theorem la_boolean : Cond.arrayClass .boolean ∈ lw_tbl := lt_4 86 rfl
theorem la_int : Cond.arrayClass .int ∈ lw_tbl := lt_1 67 rfl
theorem la_long : Cond.arrayClass .long ∈ lw_tbl := lt_5 9 rfl
theorem lc_E_128 : Cond.classLink "ShakenTree$Machine" 128 "java/lang/ArithmeticException" ∈ lw_tbl := lt_3 188 rfl
theorem lc_E_142 : Cond.classLink "ShakenTree$Machine" 142 "java/lang/UnsupportedOperationException" ∈ lw_tbl := lt_3 212 rfl
theorem lc_E_15 : Cond.classLink "ShakenTree$Machine" 15 "ShakenTree$Frame" ∈ lw_tbl := lt_1 183 rfl
theorem lc_E_49 : Cond.classLink "ShakenTree$Machine" 49 "java/lang/IllegalStateException" ∈ lw_tbl := lt_3 151 rfl
theorem lc_F_32 : Cond.classLink "ShakenTree$Frame" 32 "java/lang/IllegalStateException" ∈ lw_tbl := lt_3 172 rfl
theorem lc_K_18 : Cond.classLink "ShakenTree$Shaker" 18 "[[I" ∈ lw_tbl := lt_1 150 rfl
theorem lc_P_17 : Cond.classLink "ShakenTree$Program" 17 "ShakenTree$Member" ∈ lw_tbl := lt_1 34 rfl
theorem lc_P_9 : Cond.classLink "ShakenTree$Program" 9 "ShakenTree$Pool" ∈ lw_tbl := lt_1 32 rfl
theorem lc_S_19 : Cond.classLink "ShakenTree" 19 "ShakenTree$Shaker" ∈ lw_tbl := lt_1 144 rfl
theorem lc_S_26 : Cond.classLink "ShakenTree" 26 "ShakenTree$Machine" ∈ lw_tbl := lt_1 177 rfl
theorem lc_S_37 : Cond.classLink "ShakenTree" 37 "java/lang/IllegalStateException" ∈ lw_tbl := lt_2 63 rfl
theorem lc_S_52 : Cond.classLink "ShakenTree" 52 "java/lang/IndexOutOfBoundsException" ∈ lw_tbl := lt_2 150 rfl
theorem lc_S_61 : Cond.classLink "ShakenTree" 61 "java/lang/IllegalArgumentException" ∈ lw_tbl := lt_2 171 rfl
theorem lc_S_7 : Cond.classLink "ShakenTree" 7 "ShakenTree$Program" ∈ lw_tbl := lt_1 26 rfl
theorem lc_W_13 : Cond.classLink "ShakenTreeLaw" 13 "java/lang/IllegalStateException" ∈ lw_tbl := lt_2 58 rfl
theorem lc_W_19 : Cond.classLink "ShakenTreeLaw" 19 "java/lang/IndexOutOfBoundsException" ∈ lw_tbl := lt_2 140 rfl
theorem lc_W_21 : Cond.classLink "ShakenTreeLaw" 21 "java/lang/IllegalArgumentException" ∈ lw_tbl := lt_2 141 rfl
theorem lc_W_58 : Cond.classLink "ShakenTreeLaw" 58 "java/lang/ArithmeticException" ∈ lw_tbl := lt_3 136 rfl
theorem lc_W_60 : Cond.classLink "ShakenTreeLaw" 60 "java/lang/UnsupportedOperationException" ∈ lw_tbl := lt_3 137 rfl
theorem lc_W_63 : Cond.classLink "ShakenTreeLaw" 63 "ShakenTreeModel" ∈ lw_tbl := lt_3 229 rfl
theorem lc_W_8 : Cond.classLink "ShakenTreeLaw" 8 "ShakenTree" ∈ lw_tbl := lt_1 18 rfl
theorem lf_B_15 : Cond.fieldLink "ShakenTree$Member" 15 "ShakenTree$Member" "numbers" "[I" ∈ lw_tbl := lt_1 101 rfl
theorem lf_B_18 : Cond.fieldLink "ShakenTree$Member" 18 "ShakenTree$Member" "owner" "I" ∈ lw_tbl := lt_1 73 rfl
theorem lf_B_22 : Cond.fieldLink "ShakenTree$Member" 22 "ShakenTree$Member" "namePlace" "I" ∈ lw_tbl := lt_1 78 rfl
theorem lf_B_25 : Cond.fieldLink "ShakenTree$Member" 25 "ShakenTree$Member" "arguments" "I" ∈ lw_tbl := lt_1 82 rfl
theorem lf_B_28 : Cond.fieldLink "ShakenTree$Member" 28 "ShakenTree$Member" "isEntry" "Z" ∈ lw_tbl := lt_1 87 rfl
theorem lf_B_32 : Cond.fieldLink "ShakenTree$Member" 32 "ShakenTree$Member" "length" "I" ∈ lw_tbl := lt_1 91 rfl
theorem lf_B_9 : Cond.fieldLink "ShakenTree$Member" 9 "ShakenTree$Member" "whats" "[I" ∈ lw_tbl := lt_1 96 rfl
theorem lf_E_100 : Cond.fieldLink "ShakenTree$Machine" 100 "ShakenTree$Program" "pools" "[LShakenTree$Pool;" ∈ lw_tbl := lt_1 123 rfl
theorem lf_E_104 : Cond.fieldLink "ShakenTree$Machine" 104 "ShakenTree$Pool" "firsts" "[I" ∈ lw_tbl := lt_1 46 rfl
theorem lf_E_125 : Cond.fieldLink "ShakenTree$Machine" 125 "ShakenTree$Member" "arguments" "I" ∈ lw_tbl := lt_1 83 rfl
theorem lf_E_133 : Cond.fieldLink "ShakenTree$Machine" 133 "ShakenTree$Frame" "x" "I" ∈ lw_tbl := lt_1 197 rfl
theorem lf_E_136 : Cond.fieldLink "ShakenTree$Machine" 136 "ShakenTree$Frame" "y" "I" ∈ lw_tbl := lt_1 199 rfl
theorem lf_E_17 : Cond.fieldLink "ShakenTree$Machine" 17 "ShakenTree$Machine" "frames" "[LShakenTree$Frame;" ∈ lw_tbl := lt_1 214 rfl
theorem lf_E_28 : Cond.fieldLink "ShakenTree$Machine" 28 "ShakenTree$Machine" "open" "I" ∈ lw_tbl := lt_1 215 rfl
theorem lf_E_32 : Cond.fieldLink "ShakenTree$Machine" 32 "ShakenTree$Program" "members" "[LShakenTree$Member;" ∈ lw_tbl := lt_1 126 rfl
theorem lf_E_46 : Cond.fieldLink "ShakenTree$Machine" 46 "ShakenTree$Machine" "result" "I" ∈ lw_tbl := lt_1 216 rfl
theorem lf_E_61 : Cond.fieldLink "ShakenTree$Machine" 61 "ShakenTree$Frame" "next" "I" ∈ lw_tbl := lt_1 195 rfl
theorem lf_E_64 : Cond.fieldLink "ShakenTree$Machine" 64 "ShakenTree$Frame" "method" "LShakenTree$Member;" ∈ lw_tbl := lt_1 193 rfl
theorem lf_E_68 : Cond.fieldLink "ShakenTree$Machine" 68 "ShakenTree$Member" "length" "I" ∈ lw_tbl := lt_1 92 rfl
theorem lf_E_75 : Cond.fieldLink "ShakenTree$Machine" 75 "ShakenTree$Member" "whats" "[I" ∈ lw_tbl := lt_1 97 rfl
theorem lf_E_78 : Cond.fieldLink "ShakenTree$Machine" 78 "ShakenTree$Member" "numbers" "[I" ∈ lw_tbl := lt_1 102 rfl
theorem lf_E_9 : Cond.fieldLink "ShakenTree$Machine" 9 "ShakenTree$Machine" "fields" "[I" ∈ lw_tbl := lt_1 213 rfl
theorem lf_E_97 : Cond.fieldLink "ShakenTree$Machine" 97 "ShakenTree$Member" "owner" "I" ∈ lw_tbl := lt_1 74 rfl
theorem lf_F_15 : Cond.fieldLink "ShakenTree$Frame" 15 "ShakenTree$Frame" "method" "LShakenTree$Member;" ∈ lw_tbl := lt_1 192 rfl
theorem lf_F_19 : Cond.fieldLink "ShakenTree$Frame" 19 "ShakenTree$Frame" "x" "I" ∈ lw_tbl := lt_1 196 rfl
theorem lf_F_23 : Cond.fieldLink "ShakenTree$Frame" 23 "ShakenTree$Frame" "y" "I" ∈ lw_tbl := lt_1 198 rfl
theorem lf_F_26 : Cond.fieldLink "ShakenTree$Frame" 26 "ShakenTree$Frame" "height" "I" ∈ lw_tbl := lt_1 191 rfl
theorem lf_F_29 : Cond.fieldLink "ShakenTree$Frame" 29 "ShakenTree$Frame" "next" "I" ∈ lw_tbl := lt_1 194 rfl
theorem lf_F_9 : Cond.fieldLink "ShakenTree$Frame" 9 "ShakenTree$Frame" "stack" "[I" ∈ lw_tbl := lt_1 190 rfl
theorem lf_K_104 : Cond.fieldLink "ShakenTree$Shaker" 104 "ShakenTree$Member" "namePlace" "I" ∈ lw_tbl := lt_1 79 rfl
theorem lf_K_107 : Cond.fieldLink "ShakenTree$Shaker" 107 "ShakenTree$Program" "pools" "[LShakenTree$Pool;" ∈ lw_tbl := lt_1 124 rfl
theorem lf_K_111 : Cond.fieldLink "ShakenTree$Shaker" 111 "ShakenTree$Pool" "kinds" "[I" ∈ lw_tbl := lt_1 42 rfl
theorem lf_K_119 : Cond.fieldLink "ShakenTree$Shaker" 119 "ShakenTree$Pool" "firsts" "[I" ∈ lw_tbl := lt_1 48 rfl
theorem lf_K_122 : Cond.fieldLink "ShakenTree$Shaker" 122 "ShakenTree$Pool" "seconds" "[I" ∈ lw_tbl := lt_1 51 rfl
theorem lf_K_132 : Cond.fieldLink "ShakenTree$Shaker" 132 "ShakenTree$Program" "classes" "I" ∈ lw_tbl := lt_1 131 rfl
theorem lf_K_135 : Cond.fieldLink "ShakenTree$Shaker" 135 "ShakenTree$Pool" "size" "I" ∈ lw_tbl := lt_1 57 rfl
theorem lf_K_15 : Cond.fieldLink "ShakenTree$Shaker" 15 "ShakenTree$Shaker" "classTo" "[I" ∈ lw_tbl := lt_1 156 rfl
theorem lf_K_166 : Cond.fieldLink "ShakenTree$Shaker" 166 "ShakenTree$Member" "arguments" "I" ∈ lw_tbl := lt_1 86 rfl
theorem lf_K_20 : Cond.fieldLink "ShakenTree$Shaker" 20 "ShakenTree$Shaker" "constantTo" "[[I" ∈ lw_tbl := lt_1 157 rfl
theorem lf_K_23 : Cond.fieldLink "ShakenTree$Shaker" 23 "ShakenTree$Shaker" "nameTo" "[I" ∈ lw_tbl := lt_1 158 rfl
theorem lf_K_26 : Cond.fieldLink "ShakenTree$Shaker" 26 "ShakenTree$Shaker" "nameUse" "[I" ∈ lw_tbl := lt_1 159 rfl
theorem lf_K_29 : Cond.fieldLink "ShakenTree$Shaker" 29 "ShakenTree$Shaker" "found" "[I" ∈ lw_tbl := lt_1 160 rfl
theorem lf_K_61 : Cond.fieldLink "ShakenTree$Shaker" 61 "ShakenTree$Shaker" "foundSize" "I" ∈ lw_tbl := lt_1 161 rfl
theorem lf_K_65 : Cond.fieldLink "ShakenTree$Shaker" 65 "ShakenTree$Program" "size" "I" ∈ lw_tbl := lt_1 134 rfl
theorem lf_K_70 : Cond.fieldLink "ShakenTree$Shaker" 70 "ShakenTree$Program" "members" "[LShakenTree$Member;" ∈ lw_tbl := lt_1 127 rfl
theorem lf_K_74 : Cond.fieldLink "ShakenTree$Shaker" 74 "ShakenTree$Member" "isEntry" "Z" ∈ lw_tbl := lt_1 88 rfl
theorem lf_K_84 : Cond.fieldLink "ShakenTree$Shaker" 84 "ShakenTree$Member" "length" "I" ∈ lw_tbl := lt_1 94 rfl
theorem lf_K_87 : Cond.fieldLink "ShakenTree$Shaker" 87 "ShakenTree$Member" "whats" "[I" ∈ lw_tbl := lt_1 98 rfl
theorem lf_K_9 : Cond.fieldLink "ShakenTree$Shaker" 9 "ShakenTree$Shaker" "memberTo" "[I" ∈ lw_tbl := lt_1 155 rfl
theorem lf_K_94 : Cond.fieldLink "ShakenTree$Shaker" 94 "ShakenTree$Member" "owner" "I" ∈ lw_tbl := lt_1 75 rfl
theorem lf_K_97 : Cond.fieldLink "ShakenTree$Shaker" 97 "ShakenTree$Member" "numbers" "[I" ∈ lw_tbl := lt_1 103 rfl
theorem lf_P_103 : Cond.fieldLink "ShakenTree$Program" 103 "ShakenTree$Member" "arguments" "I" ∈ lw_tbl := lt_1 85 rfl
theorem lf_P_11 : Cond.fieldLink "ShakenTree$Program" 11 "ShakenTree$Program" "pools" "[LShakenTree$Pool;" ∈ lw_tbl := lt_1 121 rfl
theorem lf_P_19 : Cond.fieldLink "ShakenTree$Program" 19 "ShakenTree$Program" "members" "[LShakenTree$Member;" ∈ lw_tbl := lt_1 125 rfl
theorem lf_P_25 : Cond.fieldLink "ShakenTree$Program" 25 "ShakenTree$Program" "classes" "I" ∈ lw_tbl := lt_1 129 rfl
theorem lf_P_29 : Cond.fieldLink "ShakenTree$Program" 29 "ShakenTree$Program" "size" "I" ∈ lw_tbl := lt_1 132 rfl
theorem lf_P_32 : Cond.fieldLink "ShakenTree$Program" 32 "ShakenTree$Pool" "size" "I" ∈ lw_tbl := lt_1 55 rfl
theorem lf_P_45 : Cond.fieldLink "ShakenTree$Program" 45 "ShakenTree$Member" "owner" "I" ∈ lw_tbl := lt_1 76 rfl
theorem lf_P_48 : Cond.fieldLink "ShakenTree$Program" 48 "ShakenTree$Pool" "firsts" "[I" ∈ lw_tbl := lt_1 47 rfl
theorem lf_P_52 : Cond.fieldLink "ShakenTree$Program" 52 "ShakenTree$Member" "namePlace" "I" ∈ lw_tbl := lt_1 80 rfl
theorem lf_P_55 : Cond.fieldLink "ShakenTree$Program" 55 "ShakenTree$Member" "isEntry" "Z" ∈ lw_tbl := lt_1 90 rfl
theorem lf_P_77 : Cond.fieldLink "ShakenTree$Program" 77 "ShakenTree$Pool" "kinds" "[I" ∈ lw_tbl := lt_1 44 rfl
theorem lf_P_83 : Cond.fieldLink "ShakenTree$Program" 83 "ShakenTree$Pool" "seconds" "[I" ∈ lw_tbl := lt_1 53 rfl
theorem lf_P_86 : Cond.fieldLink "ShakenTree$Program" 86 "ShakenTree$Member" "length" "I" ∈ lw_tbl := lt_1 95 rfl
theorem lf_P_89 : Cond.fieldLink "ShakenTree$Program" 89 "ShakenTree$Member" "whats" "[I" ∈ lw_tbl := lt_1 99 rfl
theorem lf_P_92 : Cond.fieldLink "ShakenTree$Program" 92 "ShakenTree$Member" "numbers" "[I" ∈ lw_tbl := lt_1 104 rfl
theorem lf_Q_15 : Cond.fieldLink "ShakenTree$Pool" 15 "ShakenTree$Pool" "firsts" "[I" ∈ lw_tbl := lt_1 45 rfl
theorem lf_Q_18 : Cond.fieldLink "ShakenTree$Pool" 18 "ShakenTree$Pool" "seconds" "[I" ∈ lw_tbl := lt_1 50 rfl
theorem lf_Q_21 : Cond.fieldLink "ShakenTree$Pool" 21 "ShakenTree$Pool" "size" "I" ∈ lw_tbl := lt_1 54 rfl
theorem lf_Q_9 : Cond.fieldLink "ShakenTree$Pool" 9 "ShakenTree$Pool" "kinds" "[I" ∈ lw_tbl := lt_1 41 rfl
theorem lf_R_13 : Cond.fieldLink "ShakenTreeModel" 13 "ShakenTreeModel" "members" "[I" ∈ lw_tbl := lt_3 237 rfl
theorem lf_R_16 : Cond.fieldLink "ShakenTreeModel" 16 "ShakenTreeModel" "pools" "[I" ∈ lw_tbl := lt_3 238 rfl
theorem lf_R_163 : Cond.fieldLink "ShakenTreeModel" 163 "ShakenTreeModel" "depth" "I" ∈ lw_tbl := lt_4 17 rfl
theorem lf_R_180 : Cond.fieldLink "ShakenTreeModel" 180 "ShakenTreeModel" "popped" "I" ∈ lw_tbl := lt_4 24 rfl
theorem lf_R_19 : Cond.fieldLink "ShakenTreeModel" 19 "ShakenTreeModel" "kinds" "[I" ∈ lw_tbl := lt_3 239 rfl
theorem lf_R_22 : Cond.fieldLink "ShakenTreeModel" 22 "ShakenTreeModel" "firsts" "[I" ∈ lw_tbl := lt_4 0 rfl
theorem lf_R_25 : Cond.fieldLink "ShakenTreeModel" 25 "ShakenTreeModel" "seconds" "[I" ∈ lw_tbl := lt_4 1 rfl
theorem lf_R_28 : Cond.fieldLink "ShakenTreeModel" 28 "ShakenTreeModel" "owners" "[I" ∈ lw_tbl := lt_4 2 rfl
theorem lf_R_31 : Cond.fieldLink "ShakenTreeModel" 31 "ShakenTreeModel" "names" "[I" ∈ lw_tbl := lt_4 3 rfl
theorem lf_R_34 : Cond.fieldLink "ShakenTreeModel" 34 "ShakenTreeModel" "arguments" "[I" ∈ lw_tbl := lt_4 4 rfl
theorem lf_R_37 : Cond.fieldLink "ShakenTreeModel" 37 "ShakenTreeModel" "sizes" "[I" ∈ lw_tbl := lt_4 5 rfl
theorem lf_R_40 : Cond.fieldLink "ShakenTreeModel" 40 "ShakenTreeModel" "entries" "[Z" ∈ lw_tbl := lt_4 6 rfl
theorem lf_R_44 : Cond.fieldLink "ShakenTreeModel" 44 "ShakenTreeModel" "whats" "[I" ∈ lw_tbl := lt_4 7 rfl
theorem lf_R_47 : Cond.fieldLink "ShakenTreeModel" 47 "ShakenTreeModel" "numbers" "[I" ∈ lw_tbl := lt_4 8 rfl
theorem lf_R_50 : Cond.fieldLink "ShakenTreeModel" 50 "ShakenTreeModel" "movedTo" "[I" ∈ lw_tbl := lt_4 9 rfl
theorem lf_R_53 : Cond.fieldLink "ShakenTreeModel" 53 "ShakenTreeModel" "keep" "[Z" ∈ lw_tbl := lt_4 10 rfl
theorem lf_R_56 : Cond.fieldLink "ShakenTreeModel" 56 "ShakenTreeModel" "classTo" "[I" ∈ lw_tbl := lt_4 11 rfl
theorem lf_R_59 : Cond.fieldLink "ShakenTreeModel" 59 "ShakenTreeModel" "keepConstant" "[Z" ∈ lw_tbl := lt_4 12 rfl
theorem lf_R_62 : Cond.fieldLink "ShakenTreeModel" 62 "ShakenTreeModel" "constantTo" "[I" ∈ lw_tbl := lt_4 13 rfl
theorem lf_R_65 : Cond.fieldLink "ShakenTreeModel" 65 "ShakenTreeModel" "nameTo" "[I" ∈ lw_tbl := lt_4 14 rfl
theorem lf_R_68 : Cond.fieldLink "ShakenTreeModel" 68 "ShakenTreeModel" "given" "[Z" ∈ lw_tbl := lt_4 15 rfl
theorem lf_R_7 : Cond.fieldLink "ShakenTreeModel" 7 "ShakenTreeModel" "classes" "[I" ∈ lw_tbl := lt_3 236 rfl
theorem lf_R_71 : Cond.fieldLink "ShakenTreeModel" 71 "ShakenTreeModel" "values" "[I" ∈ lw_tbl := lt_4 16 rfl
theorem lf_R_74 : Cond.fieldLink "ShakenTreeModel" 74 "ShakenTreeModel" "method" "[I" ∈ lw_tbl := lt_4 18 rfl
theorem lf_R_77 : Cond.fieldLink "ShakenTreeModel" 77 "ShakenTreeModel" "at" "[I" ∈ lw_tbl := lt_4 19 rfl
theorem lf_R_80 : Cond.fieldLink "ShakenTreeModel" 80 "ShakenTreeModel" "given0" "[I" ∈ lw_tbl := lt_4 20 rfl
theorem lf_R_83 : Cond.fieldLink "ShakenTreeModel" 83 "ShakenTreeModel" "given1" "[I" ∈ lw_tbl := lt_4 21 rfl
theorem lf_R_86 : Cond.fieldLink "ShakenTreeModel" 86 "ShakenTreeModel" "high" "[I" ∈ lw_tbl := lt_4 22 rfl
theorem lf_R_89 : Cond.fieldLink "ShakenTreeModel" 89 "ShakenTreeModel" "stack" "[I" ∈ lw_tbl := lt_4 23 rfl
theorem lf_R_92 : Cond.fieldLink "ShakenTreeModel" 92 "ShakenTreeModel" "code" "I" ∈ lw_tbl := lt_3 235 rfl
theorem lf_S_10 : Cond.fieldLink "ShakenTree" 10 "ShakenTree" "wholeProgram" "LShakenTree$Program;" ∈ lw_tbl := lt_1 226 rfl
theorem lf_S_103 : Cond.fieldLink "ShakenTree" 103 "ShakenTree$Program" "members" "[LShakenTree$Member;" ∈ lw_tbl := lt_1 128 rfl
theorem lf_S_107 : Cond.fieldLink "ShakenTree" 107 "ShakenTree$Member" "length" "I" ∈ lw_tbl := lt_1 93 rfl
theorem lf_S_117 : Cond.fieldLink "ShakenTree" 117 "ShakenTree$Member" "isEntry" "Z" ∈ lw_tbl := lt_1 89 rfl
theorem lf_S_149 : Cond.fieldLink "ShakenTree" 149 "ShakenTree$Pool" "kinds" "[I" ∈ lw_tbl := lt_1 43 rfl
theorem lf_S_153 : Cond.fieldLink "ShakenTree" 153 "ShakenTree$Pool" "firsts" "[I" ∈ lw_tbl := lt_1 49 rfl
theorem lf_S_156 : Cond.fieldLink "ShakenTree" 156 "ShakenTree$Pool" "seconds" "[I" ∈ lw_tbl := lt_1 52 rfl
theorem lf_S_16 : Cond.fieldLink "ShakenTree" 16 "ShakenTree" "shakenProgram" "LShakenTree$Program;" ∈ lw_tbl := lt_1 227 rfl
theorem lf_S_166 : Cond.fieldLink "ShakenTree" 166 "ShakenTree$Member" "owner" "I" ∈ lw_tbl := lt_1 77 rfl
theorem lf_S_169 : Cond.fieldLink "ShakenTree" 169 "ShakenTree$Member" "namePlace" "I" ∈ lw_tbl := lt_1 81 rfl
theorem lf_S_172 : Cond.fieldLink "ShakenTree" 172 "ShakenTree$Member" "arguments" "I" ∈ lw_tbl := lt_1 84 rfl
theorem lf_S_181 : Cond.fieldLink "ShakenTree" 181 "ShakenTree$Member" "whats" "[I" ∈ lw_tbl := lt_1 100 rfl
theorem lf_S_184 : Cond.fieldLink "ShakenTree" 184 "ShakenTree$Member" "numbers" "[I" ∈ lw_tbl := lt_1 105 rfl
theorem lf_S_22 : Cond.fieldLink "ShakenTree" 22 "ShakenTree" "shaker" "LShakenTree$Shaker;" ∈ lw_tbl := lt_1 228 rfl
theorem lf_S_29 : Cond.fieldLink "ShakenTree" 29 "ShakenTree" "machine" "LShakenTree$Machine;" ∈ lw_tbl := lt_1 229 rfl
theorem lf_S_33 : Cond.fieldLink "ShakenTree" 33 "ShakenTree$Program" "classes" "I" ∈ lw_tbl := lt_1 130 rfl
theorem lf_S_66 : Cond.fieldLink "ShakenTree" 66 "ShakenTree$Program" "pools" "[LShakenTree$Pool;" ∈ lw_tbl := lt_1 122 rfl
theorem lf_S_70 : Cond.fieldLink "ShakenTree" 70 "ShakenTree$Pool" "size" "I" ∈ lw_tbl := lt_1 56 rfl
theorem lf_S_90 : Cond.fieldLink "ShakenTree" 90 "ShakenTree$Program" "size" "I" ∈ lw_tbl := lt_1 133 rfl
theorem li_B : Cond.initialized "ShakenTree$Member" ∈ lw_tbl := lt_1 4 rfl
theorem li_E : Cond.initialized "ShakenTree$Machine" ∈ lw_tbl := lt_1 7 rfl
theorem li_F : Cond.initialized "ShakenTree$Frame" ∈ lw_tbl := lt_1 8 rfl
theorem li_K : Cond.initialized "ShakenTree$Shaker" ∈ lw_tbl := lt_1 5 rfl
theorem li_P : Cond.initialized "ShakenTree$Program" ∈ lw_tbl := lt_1 2 rfl
theorem li_Q : Cond.initialized "ShakenTree$Pool" ∈ lw_tbl := lt_1 3 rfl
theorem li_R : Cond.initialized "ShakenTreeModel" ∈ lw_tbl := lt_1 9 rfl
theorem li_S : Cond.initialized "ShakenTree" ∈ lw_tbl := lt_1 1 rfl
theorem lm_B_3 : Cond.methodLink "ShakenTree$Member" 3 ⟨"java/lang/Object", "<init>", "()V"⟩ ∈ lw_tbl := lt_1 72 rfl
theorem lm_E_109 : Cond.methodLink "ShakenTree$Machine" 109 ⟨"ShakenTree$Frame", "put", "(I)V"⟩ ∈ lw_tbl := lt_3 168 rfl
theorem lm_E_113 : Cond.methodLink "ShakenTree$Machine" 113 ⟨"ShakenTree$Program", "meant", "(II)I"⟩ ∈ lw_tbl := lt_3 175 rfl
theorem lm_E_117 : Cond.methodLink "ShakenTree$Machine" 117 ⟨"ShakenTree$Frame", "take", "()I"⟩ ∈ lw_tbl := lt_3 176 rfl
theorem lm_E_121 : Cond.methodLink "ShakenTree$Machine" 121 ⟨"ShakenTree$Machine", "call", "(LShakenTree$Frame;LShakenTree$Member;)V"⟩ ∈ lw_tbl := lt_3 181 rfl
theorem lm_E_132 : Cond.methodLink "ShakenTree$Machine" 132 ⟨"java/lang/ArithmeticException", "<init>", "(Ljava/lang/String;)V"⟩ ∈ lw_tbl := lt_3 198 rfl
theorem lm_E_139 : Cond.methodLink "ShakenTree$Machine" 139 ⟨"ShakenTree$Machine", "end", "(I)V"⟩ ∈ lw_tbl := lt_3 208 rfl
theorem lm_E_146 : Cond.methodLink "ShakenTree$Machine" 146 ⟨"java/lang/UnsupportedOperationException", "<init>", "(Ljava/lang/String;)V"⟩ ∈ lw_tbl := lt_3 222 rfl
theorem lm_E_21 : Cond.methodLinkNest "ShakenTree$Machine" 21 ⟨"ShakenTree$Frame", "<init>", "()V"⟩ "ShakenTree" ∈ lw_tbl := lt_1 186 rfl
theorem lm_E_22 : Cond.methodLink "ShakenTree$Machine" 22 ⟨"java/util/Arrays", "fill", "([II)V"⟩ ∈ lw_tbl := lt_3 146 rfl
theorem lm_E_3 : Cond.methodLink "ShakenTree$Machine" 3 ⟨"java/lang/Object", "<init>", "()V"⟩ ∈ lw_tbl := lt_1 182 rfl
theorem lm_E_38 : Cond.methodLink "ShakenTree$Machine" 38 ⟨"ShakenTree$Machine", "begin", "(LShakenTree$Member;II)V"⟩ ∈ lw_tbl := lt_3 147 rfl
theorem lm_E_42 : Cond.methodLink "ShakenTree$Machine" 42 ⟨"ShakenTree$Machine", "step", "(LShakenTree$Program;LShakenTree$Frame;)V"⟩ ∈ lw_tbl := lt_3 158 rfl
theorem lm_E_53 : Cond.methodLink "ShakenTree$Machine" 53 ⟨"java/lang/IllegalStateException", "<init>", "(Ljava/lang/String;)V"⟩ ∈ lw_tbl := lt_3 153 rfl
theorem lm_E_58 : Cond.methodLink "ShakenTree$Machine" 58 ⟨"ShakenTree$Frame", "start", "(LShakenTree$Member;II)V"⟩ ∈ lw_tbl := lt_3 154 rfl
theorem lm_E_81 : Cond.methodLinkNest "ShakenTree$Machine" 81 ⟨"ShakenTree", "usesConstant", "(I)Z"⟩ "ShakenTree" ∈ lw_tbl := lt_3 163 rfl
theorem lm_E_85 : Cond.methodLink "ShakenTree$Machine" 85 ⟨"ShakenTree$Machine", "useConstant", "(LShakenTree$Program;LShakenTree$Frame;II)V"⟩ ∈ lw_tbl := lt_3 164 rfl
theorem lm_E_89 : Cond.methodLink "ShakenTree$Machine" 89 ⟨"ShakenTree$Machine", "calculate", "(LShakenTree$Frame;I)V"⟩ ∈ lw_tbl := lt_3 185 rfl
theorem lm_E_93 : Cond.methodLink "ShakenTree$Machine" 93 ⟨"ShakenTree$Machine", "steer", "(LShakenTree$Frame;II)V"⟩ ∈ lw_tbl := lt_3 204 rfl
theorem lm_F_3 : Cond.methodLink "ShakenTree$Frame" 3 ⟨"java/lang/Object", "<init>", "()V"⟩ ∈ lw_tbl := lt_1 189 rfl
theorem lm_F_36 : Cond.methodLink "ShakenTree$Frame" 36 ⟨"java/lang/IllegalStateException", "<init>", "(Ljava/lang/String;)V"⟩ ∈ lw_tbl := lt_3 174 rfl
theorem lm_K_100 : Cond.methodLink "ShakenTree$Shaker" 100 ⟨"ShakenTree$Shaker", "keepConstant", "(LShakenTree$Program;II)V"⟩ ∈ lw_tbl := lt_3 39 rfl
theorem lm_K_116 : Cond.methodLinkNest "ShakenTree$Shaker" 116 ⟨"ShakenTree", "hasTwoPlaces", "(I)Z"⟩ "ShakenTree" ∈ lw_tbl := lt_3 43 rfl
theorem lm_K_125 : Cond.methodLink "ShakenTree$Shaker" 125 ⟨"ShakenTree$Program", "meant", "(II)I"⟩ ∈ lw_tbl := lt_3 44 rfl
theorem lm_K_129 : Cond.methodLink "ShakenTree$Shaker" 129 ⟨"ShakenTree$Shaker", "closeUp", "([II)V"⟩ ∈ lw_tbl := lt_3 49 rfl
theorem lm_K_136 : Cond.methodLink "ShakenTree$Shaker" 136 ⟨"ShakenTree$Program", "nameOf", "(I)I"⟩ ∈ lw_tbl := lt_3 56 rfl
theorem lm_K_140 : Cond.methodLink "ShakenTree$Shaker" 140 ⟨"ShakenTree$Shaker", "leastFreeName", "(I)I"⟩ ∈ lw_tbl := lt_3 61 rfl
theorem lm_K_143 : Cond.methodLink "ShakenTree$Shaker" 143 ⟨"ShakenTree$Program", "empty", "()V"⟩ ∈ lw_tbl := lt_3 69 rfl
theorem lm_K_146 : Cond.methodLink "ShakenTree$Shaker" 146 ⟨"ShakenTree$Program", "startClass", "()I"⟩ ∈ lw_tbl := lt_3 70 rfl
theorem lm_K_150 : Cond.methodLink "ShakenTree$Shaker" 150 ⟨"ShakenTree$Shaker", "writePool", "(LShakenTree$Pool;[ILShakenTree$Pool;)V"⟩ ∈ lw_tbl := lt_3 71 rfl
theorem lm_K_154 : Cond.methodLink "ShakenTree$Shaker" 154 ⟨"ShakenTree$Shaker", "writeMember", "(LShakenTree$Member;LShakenTree$Program;)V"⟩ ∈ lw_tbl := lt_3 80 rfl
theorem lm_K_158 : Cond.methodLink "ShakenTree$Shaker" 158 ⟨"ShakenTree$Shaker", "newFirst", "(II[I)I"⟩ ∈ lw_tbl := lt_3 75 rfl
theorem lm_K_162 : Cond.methodLink "ShakenTree$Shaker" 162 ⟨"ShakenTree$Pool", "append", "(III)I"⟩ ∈ lw_tbl := lt_3 79 rfl
theorem lm_K_169 : Cond.methodLink "ShakenTree$Shaker" 169 ⟨"ShakenTree$Program", "startMember", "(III)I"⟩ ∈ lw_tbl := lt_3 84 rfl
theorem lm_K_172 : Cond.methodLink "ShakenTree$Shaker" 172 ⟨"ShakenTree$Member", "append", "(II)I"⟩ ∈ lw_tbl := lt_3 85 rfl
theorem lm_K_3 : Cond.methodLink "ShakenTree$Shaker" 3 ⟨"java/lang/Object", "<init>", "()V"⟩ ∈ lw_tbl := lt_1 149 rfl
theorem lm_K_32 : Cond.methodLink "ShakenTree$Shaker" 32 ⟨"java/util/Arrays", "fill", "([II)V"⟩ ∈ lw_tbl := lt_1 152 rfl
theorem lm_K_38 : Cond.methodLink "ShakenTree$Shaker" 38 ⟨"ShakenTree$Shaker", "forget", "()V"⟩ ∈ lw_tbl := lt_3 20 rfl
theorem lm_K_41 : Cond.methodLink "ShakenTree$Shaker" 41 ⟨"ShakenTree$Shaker", "keepEntries", "(LShakenTree$Program;)V"⟩ ∈ lw_tbl := lt_3 24 rfl
theorem lm_K_45 : Cond.methodLink "ShakenTree$Shaker" 45 ⟨"ShakenTree$Shaker", "keepReached", "(LShakenTree$Program;)V"⟩ ∈ lw_tbl := lt_3 32 rfl
theorem lm_K_48 : Cond.methodLink "ShakenTree$Shaker" 48 ⟨"ShakenTree$Shaker", "closeUpAll", "(LShakenTree$Program;)V"⟩ ∈ lw_tbl := lt_3 45 rfl
theorem lm_K_51 : Cond.methodLink "ShakenTree$Shaker" 51 ⟨"ShakenTree$Shaker", "lookAtNames", "(LShakenTree$Program;)V"⟩ ∈ lw_tbl := lt_3 52 rfl
theorem lm_K_54 : Cond.methodLink "ShakenTree$Shaker" 54 ⟨"ShakenTree$Shaker", "giveNames", "()V"⟩ ∈ lw_tbl := lt_3 57 rfl
theorem lm_K_57 : Cond.methodLink "ShakenTree$Shaker" 57 ⟨"ShakenTree$Shaker", "write", "(LShakenTree$Program;LShakenTree$Program;)V"⟩ ∈ lw_tbl := lt_3 65 rfl
theorem lm_K_80 : Cond.methodLink "ShakenTree$Shaker" 80 ⟨"ShakenTree$Shaker", "keepMember", "(LShakenTree$Program;I)V"⟩ ∈ lw_tbl := lt_3 28 rfl
theorem lm_K_90 : Cond.methodLinkNest "ShakenTree$Shaker" 90 ⟨"ShakenTree", "usesConstant", "(I)Z"⟩ "ShakenTree" ∈ lw_tbl := lt_3 36 rfl
theorem lm_P_23 : Cond.methodLinkNest "ShakenTree$Program" 23 ⟨"ShakenTree$Pool", "<init>", "()V"⟩ "ShakenTree" ∈ lw_tbl := lt_1 37 rfl
theorem lm_P_24 : Cond.methodLinkNest "ShakenTree$Program" 24 ⟨"ShakenTree$Member", "<init>", "()V"⟩ "ShakenTree" ∈ lw_tbl := lt_1 69 rfl
theorem lm_P_3 : Cond.methodLink "ShakenTree$Program" 3 ⟨"java/lang/Object", "<init>", "()V"⟩ ∈ lw_tbl := lt_1 31 rfl
theorem lm_P_33 : Cond.methodLink "ShakenTree$Program" 33 ⟨"ShakenTree$Member", "start", "(III)V"⟩ ∈ lw_tbl := lt_2 210 rfl
theorem lm_P_37 : Cond.methodLink "ShakenTree$Program" 37 ⟨"ShakenTree$Program", "hasMember", "(I)Z"⟩ ∈ lw_tbl := lt_2 225 rfl
theorem lm_P_41 : Cond.methodLink "ShakenTree$Program" 41 ⟨"ShakenTree$Member", "isField", "()Z"⟩ ∈ lw_tbl := lt_2 39 rfl
theorem lm_P_59 : Cond.methodLink "ShakenTree$Program" 59 ⟨"ShakenTree$Program", "hasClass", "(I)Z"⟩ ∈ lw_tbl := lt_2 170 rfl
theorem lm_P_62 : Cond.methodLink "ShakenTree$Program" 62 ⟨"ShakenTree$Pool", "holds", "(II)Z"⟩ ∈ lw_tbl := lt_2 19 rfl
theorem lm_P_66 : Cond.methodLink "ShakenTree$Program" 66 ⟨"ShakenTree$Program", "find", "(IIZ)I"⟩ ∈ lw_tbl := lt_2 35 rfl
theorem lm_P_70 : Cond.methodLink "ShakenTree$Program" 70 ⟨"ShakenTree$Program", "nameOf", "(I)I"⟩ ∈ lw_tbl := lt_2 43 rfl
theorem lm_P_74 : Cond.methodLink "ShakenTree$Program" 74 ⟨"ShakenTree$Pool", "has", "(I)Z"⟩ ∈ lw_tbl := lt_2 31 rfl
theorem lm_P_80 : Cond.methodLinkNest "ShakenTree$Program" 80 ⟨"ShakenTree", "hasTwoPlaces", "(I)Z"⟩ "ShakenTree" ∈ lw_tbl := lt_2 32 rfl
theorem lm_P_95 : Cond.methodLink "ShakenTree$Program" 95 ⟨"ShakenTree$Program", "isSound", "(LShakenTree$Member;II)Z"⟩ ∈ lw_tbl := lt_2 15 rfl
theorem lm_P_99 : Cond.methodLink "ShakenTree$Program" 99 ⟨"ShakenTree$Program", "meant", "(II)I"⟩ ∈ lw_tbl := lt_2 27 rfl
theorem lm_Q_25 : Cond.methodLink "ShakenTree$Pool" 25 ⟨"ShakenTree$Pool", "has", "(I)Z"⟩ ∈ lw_tbl := lt_2 23 rfl
theorem lm_Q_3 : Cond.methodLink "ShakenTree$Pool" 3 ⟨"java/lang/Object", "<init>", "()V"⟩ ∈ lw_tbl := lt_1 40 rfl
theorem lm_R_1 : Cond.methodLink "ShakenTreeModel" 1 ⟨"java/lang/Object", "<init>", "()V"⟩ ∈ lw_tbl := lt_3 234 rfl
theorem lm_R_100 : Cond.methodLink "ShakenTreeModel" 100 ⟨"ShakenTreeModel", "base", "(II)I"⟩ ∈ lw_tbl := lt_4 107 rfl
theorem lm_R_104 : Cond.methodLink "ShakenTreeModel" 104 ⟨"ShakenTreeModel", "noClass", "(II)Z"⟩ ∈ lw_tbl := lt_4 99 rfl
theorem lm_R_107 : Cond.methodLink "ShakenTreeModel" 107 ⟨"ShakenTreeModel", "has", "(IIII)Z"⟩ ∈ lw_tbl := lt_4 103 rfl
theorem lm_R_111 : Cond.methodLink "ShakenTreeModel" 111 ⟨"ShakenTreeModel", "nameOf", "(II)I"⟩ ∈ lw_tbl := lt_4 118 rfl
theorem lm_R_114 : Cond.methodLink "ShakenTreeModel" 114 ⟨"ShakenTreeModel", "find", "(IIZI)I"⟩ ∈ lw_tbl := lt_4 114 rfl
theorem lm_R_118 : Cond.methodLink "ShakenTreeModel" 118 ⟨"ShakenTreeModel", "noMethod", "(II)Z"⟩ ∈ lw_tbl := lt_4 126 rfl
theorem lm_R_121 : Cond.methodLink "ShakenTreeModel" 121 ⟨"ShakenTreeModel", "meant", "(IIII)I"⟩ ∈ lw_tbl := lt_4 154 rfl
theorem lm_R_125 : Cond.methodLink "ShakenTreeModel" 125 ⟨"ShakenTreeModel", "isClosed", "(III)Z"⟩ ∈ lw_tbl := lt_4 150 rfl
theorem lm_R_129 : Cond.methodLink "ShakenTreeModel" 129 ⟨"ShakenTreeModel", "firstFault", "()I"⟩ ∈ lw_tbl := lt_4 146 rfl
theorem lm_R_133 : Cond.methodLink "ShakenTreeModel" 133 ⟨"ShakenTreeModel", "usesPool", "(I)Z"⟩ ∈ lw_tbl := lt_4 174 rfl
theorem lm_R_137 : Cond.methodLink "ShakenTreeModel" 137 ⟨"ShakenTreeModel", "copyPool", "(I)V"⟩ ∈ lw_tbl := lt_4 189 rfl
theorem lm_R_141 : Cond.methodLink "ShakenTreeModel" 141 ⟨"ShakenTreeModel", "copyMember", "(I)V"⟩ ∈ lw_tbl := lt_4 193 rfl
theorem lm_R_144 : Cond.methodLink "ShakenTreeModel" 144 ⟨"ShakenTreeModel", "countEntries", "(I)I"⟩ ∈ lw_tbl := lt_4 162 rfl
theorem lm_R_148 : Cond.methodLink "ShakenTreeModel" 148 ⟨"ShakenTreeModel", "reach", "()V"⟩ ∈ lw_tbl := lt_4 166 rfl
theorem lm_R_151 : Cond.methodLink "ShakenTreeModel" 151 ⟨"ShakenTreeModel", "markConstants", "()V"⟩ ∈ lw_tbl := lt_4 170 rfl
theorem lm_R_154 : Cond.methodLink "ShakenTreeModel" 154 ⟨"ShakenTreeModel", "numberAll", "()V"⟩ ∈ lw_tbl := lt_4 177 rfl
theorem lm_R_157 : Cond.methodLink "ShakenTreeModel" 157 ⟨"ShakenTreeModel", "giveNames", "()V"⟩ ∈ lw_tbl := lt_4 181 rfl
theorem lm_R_160 : Cond.methodLink "ShakenTreeModel" 160 ⟨"ShakenTreeModel", "copyKept", "()V"⟩ ∈ lw_tbl := lt_4 185 rfl
theorem lm_R_166 : Cond.methodLink "ShakenTreeModel" 166 ⟨"ShakenTreeModel", "pop", "()I"⟩ ∈ lw_tbl := lt_4 237 rfl
theorem lm_R_169 : Cond.methodLink "ShakenTreeModel" 169 ⟨"ShakenTreeModel", "push", "(I)V"⟩ ∈ lw_tbl := lt_4 233 rfl
theorem lm_R_172 : Cond.methodLink "ShakenTreeModel" 172 ⟨"ShakenTreeModel", "begin", "(III)V"⟩ ∈ lw_tbl := lt_4 225 rfl
theorem lm_R_176 : Cond.methodLink "ShakenTreeModel" 176 ⟨"ShakenTreeModel", "call", "(II)V"⟩ ∈ lw_tbl := lt_5 1 rfl
theorem lm_R_183 : Cond.methodLink "ShakenTreeModel" 183 ⟨"ShakenTreeModel", "arithmetic", "(I)V"⟩ ∈ lw_tbl := lt_5 5 rfl
theorem lm_R_186 : Cond.methodLink "ShakenTreeModel" 186 ⟨"ShakenTreeModel", "step", "(I)V"⟩ ∈ lw_tbl := lt_4 229 rfl
theorem lm_R_96 : Cond.methodLink "ShakenTreeModel" 96 ⟨"ShakenTreeModel", "noMember", "(II)Z"⟩ ∈ lw_tbl := lt_4 130 rfl
theorem lm_S_1 : Cond.methodLink "ShakenTree" 1 ⟨"java/lang/Object", "<init>", "()V"⟩ ∈ lw_tbl := lt_1 23 rfl
theorem lm_S_114 : Cond.methodLink "ShakenTree" 114 ⟨"ShakenTree$Member", "append", "(II)I"⟩ ∈ lw_tbl := lt_2 232 rfl
theorem lm_S_121 : Cond.methodLink "ShakenTree" 121 ⟨"ShakenTree$Program", "empty", "()V"⟩ ∈ lw_tbl := lt_2 3 rfl
theorem lm_S_124 : Cond.methodLink "ShakenTree" 124 ⟨"ShakenTree$Program", "firstFault", "()I"⟩ ∈ lw_tbl := lt_2 11 rfl
theorem lm_S_129 : Cond.methodLink "ShakenTree" 129 ⟨"ShakenTree$Program", "entries", "()I"⟩ ∈ lw_tbl := lt_3 11 rfl
theorem lm_S_134 : Cond.methodLink "ShakenTree" 134 ⟨"ShakenTree$Shaker", "rebuild", "(LShakenTree$Program;LShakenTree$Program;)V"⟩ ∈ lw_tbl := lt_3 16 rfl
theorem lm_S_138 : Cond.methodLink "ShakenTree" 138 ⟨"ShakenTree", "chosen", "(Z)LShakenTree$Program;"⟩ ∈ lw_tbl := lt_3 93 rfl
theorem lm_S_144 : Cond.methodLink "ShakenTree" 144 ⟨"ShakenTree$Pool", "has", "(I)Z"⟩ ∈ lw_tbl := lt_3 112 rfl
theorem lm_S_161 : Cond.methodLink "ShakenTree" 161 ⟨"ShakenTree$Program", "hasMember", "(I)Z"⟩ ∈ lw_tbl := lt_3 122 rfl
theorem lm_S_175 : Cond.methodLink "ShakenTree" 175 ⟨"ShakenTree$Program", "nameOf", "(I)I"⟩ ∈ lw_tbl := lt_3 124 rfl
theorem lm_S_187 : Cond.methodLink "ShakenTree" 187 ⟨"ShakenTree$Shaker", "newNumber", "(I)I"⟩ ∈ lw_tbl := lt_2 51 rfl
theorem lm_S_190 : Cond.methodLink "ShakenTree" 190 ⟨"ShakenTree$Machine", "execute", "(LShakenTree$Program;III)I"⟩ ∈ lw_tbl := lt_3 142 rfl
theorem lm_S_21 : Cond.methodLink "ShakenTree" 21 ⟨"ShakenTree$Shaker", "<init>", "()V"⟩ ∈ lw_tbl := lt_1 146 rfl
theorem lm_S_28 : Cond.methodLink "ShakenTree" 28 ⟨"ShakenTree$Machine", "<init>", "()V"⟩ ∈ lw_tbl := lt_1 179 rfl
theorem lm_S_41 : Cond.methodLink "ShakenTree" 41 ⟨"java/lang/IllegalStateException", "<init>", "(Ljava/lang/String;)V"⟩ ∈ lw_tbl := lt_2 107 rfl
theorem lm_S_44 : Cond.methodLink "ShakenTree" 44 ⟨"ShakenTree$Program", "startClass", "()I"⟩ ∈ lw_tbl := lt_2 133 rfl
theorem lm_S_48 : Cond.methodLink "ShakenTree" 48 ⟨"ShakenTree$Program", "hasClass", "(I)Z"⟩ ∈ lw_tbl := lt_2 146 rfl
theorem lm_S_56 : Cond.methodLink "ShakenTree" 56 ⟨"java/lang/IndexOutOfBoundsException", "<init>", "(Ljava/lang/String;)V"⟩ ∈ lw_tbl := lt_2 160 rfl
theorem lm_S_57 : Cond.methodLink "ShakenTree" 57 ⟨"ShakenTree$Program", "allowsConstant", "(IIII)Z"⟩ ∈ lw_tbl := lt_2 166 rfl
theorem lm_S_65 : Cond.methodLink "ShakenTree" 65 ⟨"java/lang/IllegalArgumentException", "<init>", "(Ljava/lang/String;)V"⟩ ∈ lw_tbl := lt_2 181 rfl
theorem lm_S_77 : Cond.methodLink "ShakenTree" 77 ⟨"ShakenTree", "hasTwoPlaces", "(I)Z"⟩ ∈ lw_tbl := lt_2 188 rfl
theorem lm_S_80 : Cond.methodLink "ShakenTree" 80 ⟨"ShakenTree$Pool", "append", "(III)I"⟩ ∈ lw_tbl := lt_2 189 rfl
theorem lm_S_84 : Cond.methodLink "ShakenTree" 84 ⟨"ShakenTree$Program", "allowsMember", "(III)Z"⟩ ∈ lw_tbl := lt_2 200 rfl
theorem lm_S_9 : Cond.methodLink "ShakenTree" 9 ⟨"ShakenTree$Program", "<init>", "()V"⟩ ∈ lw_tbl := lt_1 28 rfl
theorem lm_S_93 : Cond.methodLink "ShakenTree" 93 ⟨"ShakenTree$Program", "startMember", "(III)I"⟩ ∈ lw_tbl := lt_2 206 rfl
theorem lm_S_96 : Cond.methodLink "ShakenTree" 96 ⟨"ShakenTree$Program", "hasMethod", "(I)Z"⟩ ∈ lw_tbl := lt_2 221 rfl
theorem lm_W_100 : Cond.methodLink "ShakenTreeLaw" 100 ⟨"ShakenTreeModel", "shake", "()I"⟩ ∈ lw_tbl := lt_4 158 rfl
theorem lm_W_101 : Cond.methodLink "ShakenTreeLaw" 101 ⟨"ShakenTreeLaw", "count", "(LShakenTree;ZI[J)I"⟩ ∈ lw_tbl := lt_3 86 rfl
theorem lm_W_104 : Cond.methodLink "ShakenTreeLaw" 104 ⟨"ShakenTreeModel", "count", "(ZI)I"⟩ ∈ lw_tbl := lt_4 197 rfl
theorem lm_W_105 : Cond.methodLink "ShakenTreeLaw" 105 ⟨"ShakenTreeLaw", "pool", "(LShakenTree;ZI[J)I"⟩ ∈ lw_tbl := lt_3 98 rfl
theorem lm_W_107 : Cond.methodLink "ShakenTreeLaw" 107 ⟨"ShakenTreeModel", "pool", "(ZI)I"⟩ ∈ lw_tbl := lt_4 201 rfl
theorem lm_W_108 : Cond.methodLink "ShakenTreeLaw" 108 ⟨"ShakenTreeLaw", "constantAt", "(LShakenTree;ZIII[J)I"⟩ ∈ lw_tbl := lt_3 105 rfl
theorem lm_W_111 : Cond.methodLink "ShakenTreeLaw" 111 ⟨"ShakenTreeModel", "constantAt", "(ZIII)I"⟩ ∈ lw_tbl := lt_4 205 rfl
theorem lm_W_112 : Cond.methodLink "ShakenTreeLaw" 112 ⟨"ShakenTreeLaw", "memberAt", "(LShakenTree;ZII[J)I"⟩ ∈ lw_tbl := lt_3 115 rfl
theorem lm_W_115 : Cond.methodLink "ShakenTreeLaw" 115 ⟨"ShakenTreeModel", "memberAt", "(ZII)I"⟩ ∈ lw_tbl := lt_4 209 rfl
theorem lm_W_116 : Cond.methodLink "ShakenTreeLaw" 116 ⟨"ShakenTreeLaw", "codeAt", "(LShakenTree;ZII[J)I"⟩ ∈ lw_tbl := lt_3 126 rfl
theorem lm_W_118 : Cond.methodLink "ShakenTreeLaw" 118 ⟨"ShakenTreeModel", "codeAt", "(ZII)I"⟩ ∈ lw_tbl := lt_4 213 rfl
theorem lm_W_119 : Cond.methodLink "ShakenTreeLaw" 119 ⟨"ShakenTree", "moved", "(I)I"⟩ ∈ lw_tbl := lt_2 47 rfl
theorem lm_W_123 : Cond.methodLink "ShakenTreeLaw" 123 ⟨"ShakenTreeModel", "moved", "(I)I"⟩ ∈ lw_tbl := lt_4 217 rfl
theorem lm_W_124 : Cond.methodLink "ShakenTreeLaw" 124 ⟨"ShakenTreeLaw", "run", "(LShakenTree;ZIII[J)I"⟩ ∈ lw_tbl := lt_3 133 rfl
theorem lm_W_126 : Cond.methodLink "ShakenTreeLaw" 126 ⟨"ShakenTreeModel", "run", "(ZIII)I"⟩ ∈ lw_tbl := lt_4 221 rfl
theorem lm_W_15 : Cond.methodLink "ShakenTreeLaw" 15 ⟨"ShakenTree", "constant", "(IIII)I"⟩ ∈ lw_tbl := lt_2 142 rfl
theorem lm_W_23 : Cond.methodLink "ShakenTreeLaw" 23 ⟨"ShakenTree", "member", "(III)I"⟩ ∈ lw_tbl := lt_2 196 rfl
theorem lm_W_27 : Cond.methodLink "ShakenTreeLaw" 27 ⟨"ShakenTree", "code", "(III)I"⟩ ∈ lw_tbl := lt_2 217 rfl
theorem lm_W_30 : Cond.methodLink "ShakenTreeLaw" 30 ⟨"ShakenTree", "entry", "(IZ)V"⟩ ∈ lw_tbl := lt_2 239 rfl
theorem lm_W_34 : Cond.methodLink "ShakenTreeLaw" 34 ⟨"ShakenTree", "shake", "()I"⟩ ∈ lw_tbl := lt_3 6 rfl
theorem lm_W_37 : Cond.methodLink "ShakenTreeLaw" 37 ⟨"ShakenTree", "count", "(ZI)I"⟩ ∈ lw_tbl := lt_3 89 rfl
theorem lm_W_41 : Cond.methodLink "ShakenTreeLaw" 41 ⟨"ShakenTree", "pool", "(ZI)I"⟩ ∈ lw_tbl := lt_3 101 rfl
theorem lm_W_44 : Cond.methodLink "ShakenTreeLaw" 44 ⟨"ShakenTree", "constantAt", "(ZIII)I"⟩ ∈ lw_tbl := lt_3 108 rfl
theorem lm_W_48 : Cond.methodLink "ShakenTreeLaw" 48 ⟨"ShakenTree", "memberAt", "(ZII)I"⟩ ∈ lw_tbl := lt_3 118 rfl
theorem lm_W_52 : Cond.methodLink "ShakenTreeLaw" 52 ⟨"ShakenTree", "codeAt", "(ZII)I"⟩ ∈ lw_tbl := lt_3 129 rfl
theorem lm_W_55 : Cond.methodLink "ShakenTreeLaw" 55 ⟨"ShakenTree", "run", "(ZIII)I"⟩ ∈ lw_tbl := lt_3 138 rfl
theorem lm_W_62 : Cond.methodLink "ShakenTreeLaw" 62 ⟨"ShakenTree", "<init>", "()V"⟩ ∈ lw_tbl := lt_1 20 rfl
theorem lm_W_65 : Cond.methodLink "ShakenTreeLaw" 65 ⟨"ShakenTreeModel", "<init>", "()V"⟩ ∈ lw_tbl := lt_3 231 rfl
theorem lm_W_66 : Cond.methodLink "ShakenTreeLaw" 66 ⟨"ShakenTreeLaw", "add", "(LShakenTree;[J)I"⟩ ∈ lw_tbl := lt_2 55 rfl
theorem lm_W_7 : Cond.methodLink "ShakenTreeLaw" 7 ⟨"ShakenTree", "add", "()I"⟩ ∈ lw_tbl := lt_2 59 rfl
theorem lm_W_71 : Cond.methodLink "ShakenTreeLaw" 71 ⟨"ShakenTreeModel", "add", "()I"⟩ ∈ lw_tbl := lt_4 91 rfl
theorem lm_W_72 : Cond.methodLink "ShakenTreeLaw" 72 ⟨"ShakenTreeModel", "thrown", "()I"⟩ ∈ lw_tbl := lt_4 87 rfl
theorem lm_W_75 : Cond.methodLink "ShakenTreeLaw" 75 ⟨"ShakenTreeLaw", "constant", "(LShakenTree;IIII[J)I"⟩ ∈ lw_tbl := lt_2 137 rfl
theorem lm_W_78 : Cond.methodLink "ShakenTreeLaw" 78 ⟨"ShakenTreeModel", "constant", "(IIII)I"⟩ ∈ lw_tbl := lt_4 95 rfl
theorem lm_W_79 : Cond.methodLink "ShakenTreeLaw" 79 ⟨"ShakenTreeLaw", "member", "(LShakenTree;III[J)I"⟩ ∈ lw_tbl := lt_2 193 rfl
theorem lm_W_82 : Cond.methodLink "ShakenTreeLaw" 82 ⟨"ShakenTreeModel", "member", "(III)I"⟩ ∈ lw_tbl := lt_4 110 rfl
theorem lm_W_83 : Cond.methodLink "ShakenTreeLaw" 83 ⟨"ShakenTreeLaw", "code", "(LShakenTree;III[J)I"⟩ ∈ lw_tbl := lt_2 214 rfl
theorem lm_W_85 : Cond.methodLink "ShakenTreeLaw" 85 ⟨"ShakenTreeModel", "code", "(III)I"⟩ ∈ lw_tbl := lt_4 122 rfl
theorem lm_W_86 : Cond.methodLink "ShakenTreeLaw" 86 ⟨"ShakenTreeLaw", "entry", "(LShakenTree;IZ)I"⟩ ∈ lw_tbl := lt_2 236 rfl
theorem lm_W_89 : Cond.methodLink "ShakenTreeLaw" 89 ⟨"ShakenTreeModel", "entry", "(IZ)V"⟩ ∈ lw_tbl := lt_4 134 rfl
theorem lm_W_90 : Cond.methodLink "ShakenTreeLaw" 90 ⟨"ShakenTree", "clear", "()V"⟩ ∈ lw_tbl := lt_1 239 rfl
theorem lm_W_93 : Cond.methodLink "ShakenTreeLaw" 93 ⟨"ShakenTreeModel", "clear", "()V"⟩ ∈ lw_tbl := lt_4 138 rfl
theorem lm_W_94 : Cond.methodLink "ShakenTreeLaw" 94 ⟨"ShakenTree", "fault", "()I"⟩ ∈ lw_tbl := lt_2 7 rfl
theorem lm_W_97 : Cond.methodLink "ShakenTreeLaw" 97 ⟨"ShakenTreeModel", "fault", "()I"⟩ ∈ lw_tbl := lt_4 142 rfl
theorem lm_W_98 : Cond.methodLink "ShakenTreeLaw" 98 ⟨"ShakenTreeLaw", "shake", "(LShakenTree;[J)I"⟩ ∈ lw_tbl := lt_3 3 rfl
theorem lo_B : Cond.arrayOver (.object "ShakenTree$Member") ∈ lw_tbl := lt_1 35 rfl
theorem lo_F : Cond.arrayOver (.object "ShakenTree$Frame") ∈ lw_tbl := lt_1 184 rfl
theorem lo_Q : Cond.arrayOver (.object "ShakenTree$Pool") ∈ lw_tbl := lt_1 33 rfl
theorem ls_E_130 : Cond.stringRef "ShakenTree$Machine" 130 "a division by 0" ∈ lw_tbl := lt_3 197 rfl
theorem ls_E_144 : Cond.stringRef "ShakenTree$Machine" 144 "thrown by the program" ∈ lw_tbl := lt_3 221 rfl
theorem ls_E_51 : Cond.stringRef "ShakenTree$Machine" 51 "too many instructions" ∈ lw_tbl := lt_3 228 rfl
theorem ls_E_56 : Cond.stringRef "ShakenTree$Machine" 56 "too many open methods" ∈ lw_tbl := lt_3 152 rfl
theorem ls_E_73 : Cond.stringRef "ShakenTree$Machine" 73 "no next instruction" ∈ lw_tbl := lt_3 162 rfl
theorem ls_F_34 : Cond.stringRef "ShakenTree$Frame" 34 "the stack is full" ∈ lw_tbl := lt_3 173 rfl
theorem ls_F_39 : Cond.stringRef "ShakenTree$Frame" 39 "the stack is empty" ∈ lw_tbl := lt_3 180 rfl
theorem ls_S_101 : Cond.stringRef "ShakenTree" 101 "no such instruction" ∈ lw_tbl := lt_2 230 rfl
theorem ls_S_112 : Cond.stringRef "ShakenTree" 112 "no room for an instruction" ∈ lw_tbl := lt_2 231 rfl
theorem ls_S_127 : Cond.stringRef "ShakenTree" 127 "the program is not closed" ∈ lw_tbl := lt_3 10 rfl
theorem ls_S_132 : Cond.stringRef "ShakenTree" 132 "the program has no entry" ∈ lw_tbl := lt_3 15 rfl
theorem ls_S_142 : Cond.stringRef "ShakenTree" 142 "nothing to count" ∈ lw_tbl := lt_3 97 rfl
theorem ls_S_147 : Cond.stringRef "ShakenTree" 147 "no such place" ∈ lw_tbl := lt_3 113 rfl
theorem ls_S_159 : Cond.stringRef "ShakenTree" 159 "nothing to tell of a constant" ∈ lw_tbl := lt_3 114 rfl
theorem ls_S_164 : Cond.stringRef "ShakenTree" 164 "no such member" ∈ lw_tbl := lt_3 123 rfl
theorem ls_S_179 : Cond.stringRef "ShakenTree" 179 "nothing to tell of a member" ∈ lw_tbl := lt_3 125 rfl
theorem ls_S_39 : Cond.stringRef "ShakenTree" 39 "no room for a class" ∈ lw_tbl := lt_2 106 rfl
theorem ls_S_54 : Cond.stringRef "ShakenTree" 54 "no such class" ∈ lw_tbl := lt_2 159 rfl
theorem ls_S_63 : Cond.stringRef "ShakenTree" 63 "no constant is like this" ∈ lw_tbl := lt_2 180 rfl
theorem ls_S_75 : Cond.stringRef "ShakenTree" 75 "no room for a constant" ∈ lw_tbl := lt_2 187 rfl
theorem ls_S_88 : Cond.stringRef "ShakenTree" 88 "no member can be like this" ∈ lw_tbl := lt_2 204 rfl
theorem ls_S_91 : Cond.stringRef "ShakenTree" 91 "no room for a member" ∈ lw_tbl := lt_2 205 rfl
theorem ls_S_99 : Cond.stringRef "ShakenTree" 99 "no such method" ∈ lw_tbl := lt_2 229 rfl
theorem mw_Q_init : xMet y_Q_init := ⟨lt_1 39 rfl, lt_1 3 rfl⟩
theorem mi_Q_init : Cond.instanceMethod (ym y_Q_init) ∈ lw_tbl := lt_1 38 rfl
theorem mx_Q_init : ((ym y_Q_init).cls ≠ "java/lang/invoke/MethodHandle" ∧ (ym y_Q_init).cls ≠ "java/lang/invoke/VarHandle") ∧ (parseMethodDescriptor (ym y_Q_init).desc).map (fun d => d.parameters.length) = some 0 := by decide +kernel
theorem mw_B_init : xMet y_B_init := ⟨lt_1 71 rfl, lt_1 4 rfl⟩
theorem mi_B_init : Cond.instanceMethod (ym y_B_init) ∈ lw_tbl := lt_1 70 rfl
theorem mx_B_init : ((ym y_B_init).cls ≠ "java/lang/invoke/MethodHandle" ∧ (ym y_B_init).cls ≠ "java/lang/invoke/VarHandle") ∧ (parseMethodDescriptor (ym y_B_init).desc).map (fun d => d.parameters.length) = some 0 := by decide +kernel
theorem mw_P_init : xMet y_P_init := ⟨lt_1 30 rfl, lt_1 2 rfl⟩
theorem mi_P_init : Cond.instanceMethod (ym y_P_init) ∈ lw_tbl := lt_1 29 rfl
theorem mx_P_init : ((ym y_P_init).cls ≠ "java/lang/invoke/MethodHandle" ∧ (ym y_P_init).cls ≠ "java/lang/invoke/VarHandle") ∧ (parseMethodDescriptor (ym y_P_init).desc).map (fun d => d.parameters.length) = some 0 := by decide +kernel
theorem mw_A_fill : xMet y_A_fill := ⟨lt_1 154 rfl, lt_1 6 rfl⟩
theorem mi_A_fill : Cond.static (ym y_A_fill) ∈ lw_tbl := lt_1 153 rfl
theorem mx_A_fill : ((ym y_A_fill).cls ≠ "java/lang/invoke/MethodHandle" ∧ (ym y_A_fill).cls ≠ "java/lang/invoke/VarHandle") ∧ (parseMethodDescriptor (ym y_A_fill).desc).map (fun d => d.parameters.length) = some 2 := by decide +kernel
theorem mw_K_init : xMet y_K_init := ⟨lt_1 148 rfl, lt_1 5 rfl⟩
theorem mi_K_init : Cond.instanceMethod (ym y_K_init) ∈ lw_tbl := lt_1 147 rfl
theorem mx_K_init : ((ym y_K_init).cls ≠ "java/lang/invoke/MethodHandle" ∧ (ym y_K_init).cls ≠ "java/lang/invoke/VarHandle") ∧ (parseMethodDescriptor (ym y_K_init).desc).map (fun d => d.parameters.length) = some 0 := by decide +kernel
theorem mw_F_init : xMet y_F_init := ⟨lt_1 188 rfl, lt_1 8 rfl⟩
theorem mi_F_init : Cond.instanceMethod (ym y_F_init) ∈ lw_tbl := lt_1 187 rfl
theorem mx_F_init : ((ym y_F_init).cls ≠ "java/lang/invoke/MethodHandle" ∧ (ym y_F_init).cls ≠ "java/lang/invoke/VarHandle") ∧ (parseMethodDescriptor (ym y_F_init).desc).map (fun d => d.parameters.length) = some 0 := by decide +kernel
theorem mw_E_init : xMet y_E_init := ⟨lt_1 181 rfl, lt_1 7 rfl⟩
theorem mi_E_init : Cond.instanceMethod (ym y_E_init) ∈ lw_tbl := lt_1 180 rfl
theorem mx_E_init : ((ym y_E_init).cls ≠ "java/lang/invoke/MethodHandle" ∧ (ym y_E_init).cls ≠ "java/lang/invoke/VarHandle") ∧ (parseMethodDescriptor (ym y_E_init).desc).map (fun d => d.parameters.length) = some 0 := by decide +kernel
theorem mw_S_init : xMet y_S_init := ⟨lt_1 22 rfl, lt_1 1 rfl⟩
theorem mi_S_init : Cond.instanceMethod (ym y_S_init) ∈ lw_tbl := lt_1 21 rfl
theorem mx_S_init : ((ym y_S_init).cls ≠ "java/lang/invoke/MethodHandle" ∧ (ym y_S_init).cls ≠ "java/lang/invoke/VarHandle") ∧ (parseMethodDescriptor (ym y_S_init).desc).map (fun d => d.parameters.length) = some 0 := by decide +kernel
theorem mw_P_empty : xMet y_P_empty := ⟨lt_2 6 rfl, lt_1 2 rfl⟩
theorem mi_P_empty : Cond.instanceMethod (ym y_P_empty) ∈ lw_tbl := lt_2 4 rfl
theorem ms_P_empty : Cond.selects "ShakenTree$Program" (ym y_P_empty) (ym y_P_empty) ∈ lw_tbl := lt_2 5 rfl
theorem mx_P_empty : ((ym y_P_empty).cls ≠ "java/lang/invoke/MethodHandle" ∧ (ym y_P_empty).cls ≠ "java/lang/invoke/VarHandle") ∧ (parseMethodDescriptor (ym y_P_empty).desc).map (fun d => d.parameters.length) = some 0 := by decide +kernel
theorem mw_S_clear : xMet y_S_clear := ⟨lt_2 2 rfl, lt_1 1 rfl⟩
theorem mi_S_clear : Cond.instanceMethod (ym y_S_clear) ∈ lw_tbl := lt_2 0 rfl
theorem ms_S_clear : Cond.selects "ShakenTree" (ym y_S_clear) (ym y_S_clear) ∈ lw_tbl := lt_2 1 rfl
theorem mx_S_clear : ((ym y_S_clear).cls ≠ "java/lang/invoke/MethodHandle" ∧ (ym y_S_clear).cls ≠ "java/lang/invoke/VarHandle") ∧ (parseMethodDescriptor (ym y_S_clear).desc).map (fun d => d.parameters.length) = some 0 := by decide +kernel
theorem mw_Q_has : xMet y_Q_has := ⟨lt_2 26 rfl, lt_1 3 rfl⟩
theorem mi_Q_has : Cond.instanceMethod (ym y_Q_has) ∈ lw_tbl := lt_2 24 rfl
theorem ms_Q_has : Cond.selects "ShakenTree$Pool" (ym y_Q_has) (ym y_Q_has) ∈ lw_tbl := lt_2 25 rfl
theorem mx_Q_has : ((ym y_Q_has).cls ≠ "java/lang/invoke/MethodHandle" ∧ (ym y_Q_has).cls ≠ "java/lang/invoke/VarHandle") ∧ (parseMethodDescriptor (ym y_Q_has).desc).map (fun d => d.parameters.length) = some 1 := by decide +kernel
theorem mw_Q_holds : xMet y_Q_holds := ⟨lt_2 22 rfl, lt_1 3 rfl⟩
theorem mi_Q_holds : Cond.instanceMethod (ym y_Q_holds) ∈ lw_tbl := lt_2 20 rfl
theorem ms_Q_holds : Cond.selects "ShakenTree$Pool" (ym y_Q_holds) (ym y_Q_holds) ∈ lw_tbl := lt_2 21 rfl
theorem mx_Q_holds : ((ym y_Q_holds).cls ≠ "java/lang/invoke/MethodHandle" ∧ (ym y_Q_holds).cls ≠ "java/lang/invoke/VarHandle") ∧ (parseMethodDescriptor (ym y_Q_holds).desc).map (fun d => d.parameters.length) = some 2 := by decide +kernel
theorem mw_S_hasTwoPlaces : xMet y_S_hasTwoPlaces := ⟨lt_2 34 rfl, lt_1 1 rfl⟩
theorem mi_S_hasTwoPlaces : Cond.static (ym y_S_hasTwoPlaces) ∈ lw_tbl := lt_2 33 rfl
theorem mx_S_hasTwoPlaces : ((ym y_S_hasTwoPlaces).cls ≠ "java/lang/invoke/MethodHandle" ∧ (ym y_S_hasTwoPlaces).cls ≠ "java/lang/invoke/VarHandle") ∧ (parseMethodDescriptor (ym y_S_hasTwoPlaces).desc).map (fun d => d.parameters.length) = some 1 := by decide +kernel
theorem mw_B_isField : xMet y_B_isField := ⟨lt_2 42 rfl, lt_1 4 rfl⟩
theorem mi_B_isField : Cond.instanceMethod (ym y_B_isField) ∈ lw_tbl := lt_2 40 rfl
theorem ms_B_isField : Cond.selects "ShakenTree$Member" (ym y_B_isField) (ym y_B_isField) ∈ lw_tbl := lt_2 41 rfl
theorem mx_B_isField : ((ym y_B_isField).cls ≠ "java/lang/invoke/MethodHandle" ∧ (ym y_B_isField).cls ≠ "java/lang/invoke/VarHandle") ∧ (parseMethodDescriptor (ym y_B_isField).desc).map (fun d => d.parameters.length) = some 0 := by decide +kernel
theorem mw_P_nameOf : xMet y_P_nameOf := ⟨lt_2 46 rfl, lt_1 2 rfl⟩
theorem mi_P_nameOf : Cond.instanceMethod (ym y_P_nameOf) ∈ lw_tbl := lt_2 44 rfl
theorem ms_P_nameOf : Cond.selects "ShakenTree$Program" (ym y_P_nameOf) (ym y_P_nameOf) ∈ lw_tbl := lt_2 45 rfl
theorem mx_P_nameOf : ((ym y_P_nameOf).cls ≠ "java/lang/invoke/MethodHandle" ∧ (ym y_P_nameOf).cls ≠ "java/lang/invoke/VarHandle") ∧ (parseMethodDescriptor (ym y_P_nameOf).desc).map (fun d => d.parameters.length) = some 1 := by decide +kernel
theorem mw_P_find : xMet y_P_find := ⟨lt_2 38 rfl, lt_1 2 rfl⟩
theorem mi_P_find : Cond.instanceMethod (ym y_P_find) ∈ lw_tbl := lt_2 36 rfl
theorem ms_P_find : Cond.selects "ShakenTree$Program" (ym y_P_find) (ym y_P_find) ∈ lw_tbl := lt_2 37 rfl
theorem mx_P_find : ((ym y_P_find).cls ≠ "java/lang/invoke/MethodHandle" ∧ (ym y_P_find).cls ≠ "java/lang/invoke/VarHandle") ∧ (parseMethodDescriptor (ym y_P_find).desc).map (fun d => d.parameters.length) = some 3 := by decide +kernel
theorem mw_P_meant : xMet y_P_meant := ⟨lt_2 30 rfl, lt_1 2 rfl⟩
theorem mi_P_meant : Cond.instanceMethod (ym y_P_meant) ∈ lw_tbl := lt_2 28 rfl
theorem ms_P_meant : Cond.selects "ShakenTree$Program" (ym y_P_meant) (ym y_P_meant) ∈ lw_tbl := lt_2 29 rfl
theorem mx_P_meant : ((ym y_P_meant).cls ≠ "java/lang/invoke/MethodHandle" ∧ (ym y_P_meant).cls ≠ "java/lang/invoke/VarHandle") ∧ (parseMethodDescriptor (ym y_P_meant).desc).map (fun d => d.parameters.length) = some 2 := by decide +kernel
theorem mw_P_isSound : xMet y_P_isSound := ⟨lt_2 18 rfl, lt_1 2 rfl⟩
theorem mi_P_isSound : Cond.instanceMethod (ym y_P_isSound) ∈ lw_tbl := lt_2 17 rfl
theorem ms_P_isSound : Cond.selects "ShakenTree$Program" (ym y_P_isSound) (ym y_P_isSound) ∈ lw_tbl := lt_p 0 rfl
theorem mx_P_isSound : ((ym y_P_isSound).cls ≠ "java/lang/invoke/MethodHandle" ∧ (ym y_P_isSound).cls ≠ "java/lang/invoke/VarHandle") ∧ (parseMethodDescriptor (ym y_P_isSound).desc).map (fun d => d.parameters.length) = some 3 := by decide +kernel
theorem mw_P_firstFault : xMet y_P_firstFault := ⟨lt_2 14 rfl, lt_1 2 rfl⟩
theorem mi_P_firstFault : Cond.instanceMethod (ym y_P_firstFault) ∈ lw_tbl := lt_2 12 rfl
theorem ms_P_firstFault : Cond.selects "ShakenTree$Program" (ym y_P_firstFault) (ym y_P_firstFault) ∈ lw_tbl := lt_2 13 rfl
theorem mx_P_firstFault : ((ym y_P_firstFault).cls ≠ "java/lang/invoke/MethodHandle" ∧ (ym y_P_firstFault).cls ≠ "java/lang/invoke/VarHandle") ∧ (parseMethodDescriptor (ym y_P_firstFault).desc).map (fun d => d.parameters.length) = some 0 := by decide +kernel
theorem mw_S_fault : xMet y_S_fault := ⟨lt_2 10 rfl, lt_1 1 rfl⟩
theorem mi_S_fault : Cond.instanceMethod (ym y_S_fault) ∈ lw_tbl := lt_2 8 rfl
theorem ms_S_fault : Cond.selects "ShakenTree" (ym y_S_fault) (ym y_S_fault) ∈ lw_tbl := lt_2 9 rfl
theorem mx_S_fault : ((ym y_S_fault).cls ≠ "java/lang/invoke/MethodHandle" ∧ (ym y_S_fault).cls ≠ "java/lang/invoke/VarHandle") ∧ (parseMethodDescriptor (ym y_S_fault).desc).map (fun d => d.parameters.length) = some 0 := by decide +kernel
theorem mw_K_newNumber : xMet y_K_newNumber := ⟨lt_2 54 rfl, lt_1 5 rfl⟩
theorem mi_K_newNumber : Cond.instanceMethod (ym y_K_newNumber) ∈ lw_tbl := lt_2 52 rfl
theorem ms_K_newNumber : Cond.selects "ShakenTree$Shaker" (ym y_K_newNumber) (ym y_K_newNumber) ∈ lw_tbl := lt_2 53 rfl
theorem mx_K_newNumber : ((ym y_K_newNumber).cls ≠ "java/lang/invoke/MethodHandle" ∧ (ym y_K_newNumber).cls ≠ "java/lang/invoke/VarHandle") ∧ (parseMethodDescriptor (ym y_K_newNumber).desc).map (fun d => d.parameters.length) = some 1 := by decide +kernel
theorem mw_S_moved : xMet y_S_moved := ⟨lt_2 50 rfl, lt_1 1 rfl⟩
theorem mi_S_moved : Cond.instanceMethod (ym y_S_moved) ∈ lw_tbl := lt_2 48 rfl
theorem ms_S_moved : Cond.selects "ShakenTree" (ym y_S_moved) (ym y_S_moved) ∈ lw_tbl := lt_2 49 rfl
theorem mx_S_moved : ((ym y_S_moved).cls ≠ "java/lang/invoke/MethodHandle" ∧ (ym y_S_moved).cls ≠ "java/lang/invoke/VarHandle") ∧ (parseMethodDescriptor (ym y_S_moved).desc).map (fun d => d.parameters.length) = some 1 := by decide +kernel
theorem mw_P_startClass : xMet y_P_startClass := ⟨lt_2 136 rfl, lt_1 2 rfl⟩
theorem mi_P_startClass : Cond.instanceMethod (ym y_P_startClass) ∈ lw_tbl := lt_2 134 rfl
theorem ms_P_startClass : Cond.selects "ShakenTree$Program" (ym y_P_startClass) (ym y_P_startClass) ∈ lw_tbl := lt_2 135 rfl
theorem mx_P_startClass : ((ym y_P_startClass).cls ≠ "java/lang/invoke/MethodHandle" ∧ (ym y_P_startClass).cls ≠ "java/lang/invoke/VarHandle") ∧ (parseMethodDescriptor (ym y_P_startClass).desc).map (fun d => d.parameters.length) = some 0 := by decide +kernel
theorem mw_S_add : xMet y_S_add := ⟨lt_2 62 rfl, lt_1 1 rfl⟩
theorem mi_S_add : Cond.instanceMethod (ym y_S_add) ∈ lw_tbl := lt_2 60 rfl
theorem ms_S_add : Cond.selects "ShakenTree" (ym y_S_add) (ym y_S_add) ∈ lw_tbl := lt_2 61 rfl
theorem mx_S_add : ((ym y_S_add).cls ≠ "java/lang/invoke/MethodHandle" ∧ (ym y_S_add).cls ≠ "java/lang/invoke/VarHandle") ∧ (parseMethodDescriptor (ym y_S_add).desc).map (fun d => d.parameters.length) = some 0 := by decide +kernel
theorem mw_W_add : xMet y_W_add := ⟨lt_2 57 rfl, lt_1 0 rfl⟩
theorem mi_W_add : Cond.static (ym y_W_add) ∈ lw_tbl := lt_2 56 rfl
theorem mx_W_add : ((ym y_W_add).cls ≠ "java/lang/invoke/MethodHandle" ∧ (ym y_W_add).cls ≠ "java/lang/invoke/VarHandle") ∧ (parseMethodDescriptor (ym y_W_add).desc).map (fun d => d.parameters.length) = some 2 := by decide +kernel
theorem mw_P_hasClass : xMet y_P_hasClass := ⟨lt_2 149 rfl, lt_1 2 rfl⟩
theorem mi_P_hasClass : Cond.instanceMethod (ym y_P_hasClass) ∈ lw_tbl := lt_2 147 rfl
theorem ms_P_hasClass : Cond.selects "ShakenTree$Program" (ym y_P_hasClass) (ym y_P_hasClass) ∈ lw_tbl := lt_2 148 rfl
theorem mx_P_hasClass : ((ym y_P_hasClass).cls ≠ "java/lang/invoke/MethodHandle" ∧ (ym y_P_hasClass).cls ≠ "java/lang/invoke/VarHandle") ∧ (parseMethodDescriptor (ym y_P_hasClass).desc).map (fun d => d.parameters.length) = some 1 := by decide +kernel
theorem mw_P_allowsConstant : xMet y_P_allowsConstant := ⟨lt_2 169 rfl, lt_1 2 rfl⟩
theorem mi_P_allowsConstant : Cond.instanceMethod (ym y_P_allowsConstant) ∈ lw_tbl := lt_2 167 rfl
theorem ms_P_allowsConstant : Cond.selects "ShakenTree$Program" (ym y_P_allowsConstant) (ym y_P_allowsConstant) ∈ lw_tbl := lt_2 168 rfl
theorem mx_P_allowsConstant : ((ym y_P_allowsConstant).cls ≠ "java/lang/invoke/MethodHandle" ∧ (ym y_P_allowsConstant).cls ≠ "java/lang/invoke/VarHandle") ∧ (parseMethodDescriptor (ym y_P_allowsConstant).desc).map (fun d => d.parameters.length) = some 4 := by decide +kernel
theorem mw_Q_append : xMet y_Q_append := ⟨lt_2 192 rfl, lt_1 3 rfl⟩
theorem mi_Q_append : Cond.instanceMethod (ym y_Q_append) ∈ lw_tbl := lt_2 190 rfl
theorem ms_Q_append : Cond.selects "ShakenTree$Pool" (ym y_Q_append) (ym y_Q_append) ∈ lw_tbl := lt_2 191 rfl
theorem mx_Q_append : ((ym y_Q_append).cls ≠ "java/lang/invoke/MethodHandle" ∧ (ym y_Q_append).cls ≠ "java/lang/invoke/VarHandle") ∧ (parseMethodDescriptor (ym y_Q_append).desc).map (fun d => d.parameters.length) = some 3 := by decide +kernel
theorem mw_S_constant : xMet y_S_constant := ⟨lt_2 145 rfl, lt_1 1 rfl⟩
theorem mi_S_constant : Cond.instanceMethod (ym y_S_constant) ∈ lw_tbl := lt_2 143 rfl
theorem ms_S_constant : Cond.selects "ShakenTree" (ym y_S_constant) (ym y_S_constant) ∈ lw_tbl := lt_2 144 rfl
theorem mx_S_constant : ((ym y_S_constant).cls ≠ "java/lang/invoke/MethodHandle" ∧ (ym y_S_constant).cls ≠ "java/lang/invoke/VarHandle") ∧ (parseMethodDescriptor (ym y_S_constant).desc).map (fun d => d.parameters.length) = some 4 := by decide +kernel
theorem mw_W_constant : xMet y_W_constant := ⟨lt_2 139 rfl, lt_1 0 rfl⟩
theorem mi_W_constant : Cond.static (ym y_W_constant) ∈ lw_tbl := lt_2 138 rfl
theorem mx_W_constant : ((ym y_W_constant).cls ≠ "java/lang/invoke/MethodHandle" ∧ (ym y_W_constant).cls ≠ "java/lang/invoke/VarHandle") ∧ (parseMethodDescriptor (ym y_W_constant).desc).map (fun d => d.parameters.length) = some 6 := by decide +kernel
theorem mw_P_allowsMember : xMet y_P_allowsMember := ⟨lt_2 203 rfl, lt_1 2 rfl⟩
theorem mi_P_allowsMember : Cond.instanceMethod (ym y_P_allowsMember) ∈ lw_tbl := lt_2 201 rfl
theorem ms_P_allowsMember : Cond.selects "ShakenTree$Program" (ym y_P_allowsMember) (ym y_P_allowsMember) ∈ lw_tbl := lt_2 202 rfl
theorem mx_P_allowsMember : ((ym y_P_allowsMember).cls ≠ "java/lang/invoke/MethodHandle" ∧ (ym y_P_allowsMember).cls ≠ "java/lang/invoke/VarHandle") ∧ (parseMethodDescriptor (ym y_P_allowsMember).desc).map (fun d => d.parameters.length) = some 3 := by decide +kernel
theorem mw_B_start : xMet y_B_start := ⟨lt_2 213 rfl, lt_1 4 rfl⟩
theorem mi_B_start : Cond.instanceMethod (ym y_B_start) ∈ lw_tbl := lt_2 211 rfl
theorem ms_B_start : Cond.selects "ShakenTree$Member" (ym y_B_start) (ym y_B_start) ∈ lw_tbl := lt_2 212 rfl
theorem mx_B_start : ((ym y_B_start).cls ≠ "java/lang/invoke/MethodHandle" ∧ (ym y_B_start).cls ≠ "java/lang/invoke/VarHandle") ∧ (parseMethodDescriptor (ym y_B_start).desc).map (fun d => d.parameters.length) = some 3 := by decide +kernel
theorem mw_P_startMember : xMet y_P_startMember := ⟨lt_2 209 rfl, lt_1 2 rfl⟩
theorem mi_P_startMember : Cond.instanceMethod (ym y_P_startMember) ∈ lw_tbl := lt_2 207 rfl
theorem ms_P_startMember : Cond.selects "ShakenTree$Program" (ym y_P_startMember) (ym y_P_startMember) ∈ lw_tbl := lt_2 208 rfl
theorem mx_P_startMember : ((ym y_P_startMember).cls ≠ "java/lang/invoke/MethodHandle" ∧ (ym y_P_startMember).cls ≠ "java/lang/invoke/VarHandle") ∧ (parseMethodDescriptor (ym y_P_startMember).desc).map (fun d => d.parameters.length) = some 3 := by decide +kernel
theorem mw_S_member : xMet y_S_member := ⟨lt_2 199 rfl, lt_1 1 rfl⟩
theorem mi_S_member : Cond.instanceMethod (ym y_S_member) ∈ lw_tbl := lt_2 197 rfl
theorem ms_S_member : Cond.selects "ShakenTree" (ym y_S_member) (ym y_S_member) ∈ lw_tbl := lt_2 198 rfl
theorem mx_S_member : ((ym y_S_member).cls ≠ "java/lang/invoke/MethodHandle" ∧ (ym y_S_member).cls ≠ "java/lang/invoke/VarHandle") ∧ (parseMethodDescriptor (ym y_S_member).desc).map (fun d => d.parameters.length) = some 3 := by decide +kernel
theorem mw_W_member : xMet y_W_member := ⟨lt_2 195 rfl, lt_1 0 rfl⟩
theorem mi_W_member : Cond.static (ym y_W_member) ∈ lw_tbl := lt_2 194 rfl
theorem mx_W_member : ((ym y_W_member).cls ≠ "java/lang/invoke/MethodHandle" ∧ (ym y_W_member).cls ≠ "java/lang/invoke/VarHandle") ∧ (parseMethodDescriptor (ym y_W_member).desc).map (fun d => d.parameters.length) = some 5 := by decide +kernel
theorem mw_P_hasMember : xMet y_P_hasMember := ⟨lt_2 228 rfl, lt_1 2 rfl⟩
theorem mi_P_hasMember : Cond.instanceMethod (ym y_P_hasMember) ∈ lw_tbl := lt_2 226 rfl
theorem ms_P_hasMember : Cond.selects "ShakenTree$Program" (ym y_P_hasMember) (ym y_P_hasMember) ∈ lw_tbl := lt_2 227 rfl
theorem mx_P_hasMember : ((ym y_P_hasMember).cls ≠ "java/lang/invoke/MethodHandle" ∧ (ym y_P_hasMember).cls ≠ "java/lang/invoke/VarHandle") ∧ (parseMethodDescriptor (ym y_P_hasMember).desc).map (fun d => d.parameters.length) = some 1 := by decide +kernel
theorem mw_P_hasMethod : xMet y_P_hasMethod := ⟨lt_2 224 rfl, lt_1 2 rfl⟩
theorem mi_P_hasMethod : Cond.instanceMethod (ym y_P_hasMethod) ∈ lw_tbl := lt_2 222 rfl
theorem ms_P_hasMethod : Cond.selects "ShakenTree$Program" (ym y_P_hasMethod) (ym y_P_hasMethod) ∈ lw_tbl := lt_2 223 rfl
theorem mx_P_hasMethod : ((ym y_P_hasMethod).cls ≠ "java/lang/invoke/MethodHandle" ∧ (ym y_P_hasMethod).cls ≠ "java/lang/invoke/VarHandle") ∧ (parseMethodDescriptor (ym y_P_hasMethod).desc).map (fun d => d.parameters.length) = some 1 := by decide +kernel
theorem mw_B_append : xMet y_B_append := ⟨lt_2 235 rfl, lt_1 4 rfl⟩
theorem mi_B_append : Cond.instanceMethod (ym y_B_append) ∈ lw_tbl := lt_2 233 rfl
theorem ms_B_append : Cond.selects "ShakenTree$Member" (ym y_B_append) (ym y_B_append) ∈ lw_tbl := lt_2 234 rfl
theorem mx_B_append : ((ym y_B_append).cls ≠ "java/lang/invoke/MethodHandle" ∧ (ym y_B_append).cls ≠ "java/lang/invoke/VarHandle") ∧ (parseMethodDescriptor (ym y_B_append).desc).map (fun d => d.parameters.length) = some 2 := by decide +kernel
theorem mw_S_code : xMet y_S_code := ⟨lt_2 220 rfl, lt_1 1 rfl⟩
theorem mi_S_code : Cond.instanceMethod (ym y_S_code) ∈ lw_tbl := lt_2 218 rfl
theorem ms_S_code : Cond.selects "ShakenTree" (ym y_S_code) (ym y_S_code) ∈ lw_tbl := lt_2 219 rfl
theorem mx_S_code : ((ym y_S_code).cls ≠ "java/lang/invoke/MethodHandle" ∧ (ym y_S_code).cls ≠ "java/lang/invoke/VarHandle") ∧ (parseMethodDescriptor (ym y_S_code).desc).map (fun d => d.parameters.length) = some 3 := by decide +kernel
theorem mw_W_code : xMet y_W_code := ⟨lt_2 216 rfl, lt_1 0 rfl⟩
theorem mi_W_code : Cond.static (ym y_W_code) ∈ lw_tbl := lt_2 215 rfl
theorem mx_W_code : ((ym y_W_code).cls ≠ "java/lang/invoke/MethodHandle" ∧ (ym y_W_code).cls ≠ "java/lang/invoke/VarHandle") ∧ (parseMethodDescriptor (ym y_W_code).desc).map (fun d => d.parameters.length) = some 5 := by decide +kernel
theorem mw_S_entry : xMet y_S_entry := ⟨lt_3 2 rfl, lt_1 1 rfl⟩
theorem mi_S_entry : Cond.instanceMethod (ym y_S_entry) ∈ lw_tbl := lt_3 0 rfl
theorem ms_S_entry : Cond.selects "ShakenTree" (ym y_S_entry) (ym y_S_entry) ∈ lw_tbl := lt_3 1 rfl
theorem mx_S_entry : ((ym y_S_entry).cls ≠ "java/lang/invoke/MethodHandle" ∧ (ym y_S_entry).cls ≠ "java/lang/invoke/VarHandle") ∧ (parseMethodDescriptor (ym y_S_entry).desc).map (fun d => d.parameters.length) = some 2 := by decide +kernel
theorem mw_W_entry : xMet y_W_entry := ⟨lt_2 238 rfl, lt_1 0 rfl⟩
theorem mi_W_entry : Cond.static (ym y_W_entry) ∈ lw_tbl := lt_2 237 rfl
theorem mx_W_entry : ((ym y_W_entry).cls ≠ "java/lang/invoke/MethodHandle" ∧ (ym y_W_entry).cls ≠ "java/lang/invoke/VarHandle") ∧ (parseMethodDescriptor (ym y_W_entry).desc).map (fun d => d.parameters.length) = some 3 := by decide +kernel
theorem mw_P_entries : xMet y_P_entries := ⟨lt_3 14 rfl, lt_1 2 rfl⟩
theorem mi_P_entries : Cond.instanceMethod (ym y_P_entries) ∈ lw_tbl := lt_3 12 rfl
theorem ms_P_entries : Cond.selects "ShakenTree$Program" (ym y_P_entries) (ym y_P_entries) ∈ lw_tbl := lt_3 13 rfl
theorem mx_P_entries : ((ym y_P_entries).cls ≠ "java/lang/invoke/MethodHandle" ∧ (ym y_P_entries).cls ≠ "java/lang/invoke/VarHandle") ∧ (parseMethodDescriptor (ym y_P_entries).desc).map (fun d => d.parameters.length) = some 0 := by decide +kernel
theorem mw_K_forget : xMet y_K_forget := ⟨lt_3 23 rfl, lt_1 5 rfl⟩
theorem mi_K_forget : Cond.instanceMethod (ym y_K_forget) ∈ lw_tbl := lt_3 22 rfl
theorem ms_K_forget : Cond.selects "ShakenTree$Shaker" (ym y_K_forget) (ym y_K_forget) ∈ lw_tbl := lt_p 2 rfl
theorem mx_K_forget : ((ym y_K_forget).cls ≠ "java/lang/invoke/MethodHandle" ∧ (ym y_K_forget).cls ≠ "java/lang/invoke/VarHandle") ∧ (parseMethodDescriptor (ym y_K_forget).desc).map (fun d => d.parameters.length) = some 0 := by decide +kernel
theorem mw_K_keepMember : xMet y_K_keepMember := ⟨lt_3 31 rfl, lt_1 5 rfl⟩
theorem mi_K_keepMember : Cond.instanceMethod (ym y_K_keepMember) ∈ lw_tbl := lt_3 30 rfl
theorem ms_K_keepMember : Cond.selects "ShakenTree$Shaker" (ym y_K_keepMember) (ym y_K_keepMember) ∈ lw_tbl := lt_p 4 rfl
theorem mx_K_keepMember : ((ym y_K_keepMember).cls ≠ "java/lang/invoke/MethodHandle" ∧ (ym y_K_keepMember).cls ≠ "java/lang/invoke/VarHandle") ∧ (parseMethodDescriptor (ym y_K_keepMember).desc).map (fun d => d.parameters.length) = some 2 := by decide +kernel
theorem mw_K_keepEntries : xMet y_K_keepEntries := ⟨lt_3 27 rfl, lt_1 5 rfl⟩
theorem mi_K_keepEntries : Cond.instanceMethod (ym y_K_keepEntries) ∈ lw_tbl := lt_3 26 rfl
theorem ms_K_keepEntries : Cond.selects "ShakenTree$Shaker" (ym y_K_keepEntries) (ym y_K_keepEntries) ∈ lw_tbl := lt_p 3 rfl
theorem mx_K_keepEntries : ((ym y_K_keepEntries).cls ≠ "java/lang/invoke/MethodHandle" ∧ (ym y_K_keepEntries).cls ≠ "java/lang/invoke/VarHandle") ∧ (parseMethodDescriptor (ym y_K_keepEntries).desc).map (fun d => d.parameters.length) = some 1 := by decide +kernel
theorem mw_S_usesConstant : xMet y_S_usesConstant := ⟨lt_3 38 rfl, lt_1 1 rfl⟩
theorem mi_S_usesConstant : Cond.static (ym y_S_usesConstant) ∈ lw_tbl := lt_3 37 rfl
theorem mx_S_usesConstant : ((ym y_S_usesConstant).cls ≠ "java/lang/invoke/MethodHandle" ∧ (ym y_S_usesConstant).cls ≠ "java/lang/invoke/VarHandle") ∧ (parseMethodDescriptor (ym y_S_usesConstant).desc).map (fun d => d.parameters.length) = some 1 := by decide +kernel
theorem mw_K_keepConstant : xMet y_K_keepConstant := ⟨lt_3 42 rfl, lt_1 5 rfl⟩
theorem mi_K_keepConstant : Cond.instanceMethod (ym y_K_keepConstant) ∈ lw_tbl := lt_3 41 rfl
theorem ms_K_keepConstant : Cond.selects "ShakenTree$Shaker" (ym y_K_keepConstant) (ym y_K_keepConstant) ∈ lw_tbl := lt_p 6 rfl
theorem mx_K_keepConstant : ((ym y_K_keepConstant).cls ≠ "java/lang/invoke/MethodHandle" ∧ (ym y_K_keepConstant).cls ≠ "java/lang/invoke/VarHandle") ∧ (parseMethodDescriptor (ym y_K_keepConstant).desc).map (fun d => d.parameters.length) = some 3 := by decide +kernel
theorem mw_K_keepReached : xMet y_K_keepReached := ⟨lt_3 35 rfl, lt_1 5 rfl⟩
theorem mi_K_keepReached : Cond.instanceMethod (ym y_K_keepReached) ∈ lw_tbl := lt_3 34 rfl
theorem ms_K_keepReached : Cond.selects "ShakenTree$Shaker" (ym y_K_keepReached) (ym y_K_keepReached) ∈ lw_tbl := lt_p 5 rfl
theorem mx_K_keepReached : ((ym y_K_keepReached).cls ≠ "java/lang/invoke/MethodHandle" ∧ (ym y_K_keepReached).cls ≠ "java/lang/invoke/VarHandle") ∧ (parseMethodDescriptor (ym y_K_keepReached).desc).map (fun d => d.parameters.length) = some 1 := by decide +kernel
theorem mw_K_closeUp : xMet y_K_closeUp := ⟨lt_3 51 rfl, lt_1 5 rfl⟩
theorem mi_K_closeUp : Cond.static (ym y_K_closeUp) ∈ lw_tbl := lt_3 50 rfl
theorem mx_K_closeUp : ((ym y_K_closeUp).cls ≠ "java/lang/invoke/MethodHandle" ∧ (ym y_K_closeUp).cls ≠ "java/lang/invoke/VarHandle") ∧ (parseMethodDescriptor (ym y_K_closeUp).desc).map (fun d => d.parameters.length) = some 2 := by decide +kernel
theorem mw_K_closeUpAll : xMet y_K_closeUpAll := ⟨lt_3 48 rfl, lt_1 5 rfl⟩
theorem mi_K_closeUpAll : Cond.instanceMethod (ym y_K_closeUpAll) ∈ lw_tbl := lt_3 47 rfl
theorem ms_K_closeUpAll : Cond.selects "ShakenTree$Shaker" (ym y_K_closeUpAll) (ym y_K_closeUpAll) ∈ lw_tbl := lt_p 7 rfl
theorem mx_K_closeUpAll : ((ym y_K_closeUpAll).cls ≠ "java/lang/invoke/MethodHandle" ∧ (ym y_K_closeUpAll).cls ≠ "java/lang/invoke/VarHandle") ∧ (parseMethodDescriptor (ym y_K_closeUpAll).desc).map (fun d => d.parameters.length) = some 1 := by decide +kernel
theorem mw_K_lookAtNames : xMet y_K_lookAtNames := ⟨lt_3 55 rfl, lt_1 5 rfl⟩
theorem mi_K_lookAtNames : Cond.instanceMethod (ym y_K_lookAtNames) ∈ lw_tbl := lt_3 54 rfl
theorem ms_K_lookAtNames : Cond.selects "ShakenTree$Shaker" (ym y_K_lookAtNames) (ym y_K_lookAtNames) ∈ lw_tbl := lt_p 8 rfl
theorem mx_K_lookAtNames : ((ym y_K_lookAtNames).cls ≠ "java/lang/invoke/MethodHandle" ∧ (ym y_K_lookAtNames).cls ≠ "java/lang/invoke/VarHandle") ∧ (parseMethodDescriptor (ym y_K_lookAtNames).desc).map (fun d => d.parameters.length) = some 1 := by decide +kernel
theorem mw_K_leastFreeName : xMet y_K_leastFreeName := ⟨lt_3 64 rfl, lt_1 5 rfl⟩
theorem mi_K_leastFreeName : Cond.instanceMethod (ym y_K_leastFreeName) ∈ lw_tbl := lt_3 63 rfl
theorem ms_K_leastFreeName : Cond.selects "ShakenTree$Shaker" (ym y_K_leastFreeName) (ym y_K_leastFreeName) ∈ lw_tbl := lt_p 10 rfl
theorem mx_K_leastFreeName : ((ym y_K_leastFreeName).cls ≠ "java/lang/invoke/MethodHandle" ∧ (ym y_K_leastFreeName).cls ≠ "java/lang/invoke/VarHandle") ∧ (parseMethodDescriptor (ym y_K_leastFreeName).desc).map (fun d => d.parameters.length) = some 1 := by decide +kernel
theorem mw_K_giveNames : xMet y_K_giveNames := ⟨lt_3 60 rfl, lt_1 5 rfl⟩
theorem mi_K_giveNames : Cond.instanceMethod (ym y_K_giveNames) ∈ lw_tbl := lt_3 59 rfl
theorem ms_K_giveNames : Cond.selects "ShakenTree$Shaker" (ym y_K_giveNames) (ym y_K_giveNames) ∈ lw_tbl := lt_p 9 rfl
theorem mx_K_giveNames : ((ym y_K_giveNames).cls ≠ "java/lang/invoke/MethodHandle" ∧ (ym y_K_giveNames).cls ≠ "java/lang/invoke/VarHandle") ∧ (parseMethodDescriptor (ym y_K_giveNames).desc).map (fun d => d.parameters.length) = some 0 := by decide +kernel
theorem mw_K_newFirst : xMet y_K_newFirst := ⟨lt_3 78 rfl, lt_1 5 rfl⟩
theorem mi_K_newFirst : Cond.instanceMethod (ym y_K_newFirst) ∈ lw_tbl := lt_3 77 rfl
theorem ms_K_newFirst : Cond.selects "ShakenTree$Shaker" (ym y_K_newFirst) (ym y_K_newFirst) ∈ lw_tbl := lt_p 13 rfl
theorem mx_K_newFirst : ((ym y_K_newFirst).cls ≠ "java/lang/invoke/MethodHandle" ∧ (ym y_K_newFirst).cls ≠ "java/lang/invoke/VarHandle") ∧ (parseMethodDescriptor (ym y_K_newFirst).desc).map (fun d => d.parameters.length) = some 3 := by decide +kernel
theorem mw_K_writePool : xMet y_K_writePool := ⟨lt_3 74 rfl, lt_1 5 rfl⟩
theorem mi_K_writePool : Cond.instanceMethod (ym y_K_writePool) ∈ lw_tbl := lt_3 73 rfl
theorem ms_K_writePool : Cond.selects "ShakenTree$Shaker" (ym y_K_writePool) (ym y_K_writePool) ∈ lw_tbl := lt_p 12 rfl
theorem mx_K_writePool : ((ym y_K_writePool).cls ≠ "java/lang/invoke/MethodHandle" ∧ (ym y_K_writePool).cls ≠ "java/lang/invoke/VarHandle") ∧ (parseMethodDescriptor (ym y_K_writePool).desc).map (fun d => d.parameters.length) = some 3 := by decide +kernel
theorem mw_K_writeMember : xMet y_K_writeMember := ⟨lt_3 83 rfl, lt_1 5 rfl⟩
theorem mi_K_writeMember : Cond.instanceMethod (ym y_K_writeMember) ∈ lw_tbl := lt_3 82 rfl
theorem ms_K_writeMember : Cond.selects "ShakenTree$Shaker" (ym y_K_writeMember) (ym y_K_writeMember) ∈ lw_tbl := lt_p 14 rfl
theorem mx_K_writeMember : ((ym y_K_writeMember).cls ≠ "java/lang/invoke/MethodHandle" ∧ (ym y_K_writeMember).cls ≠ "java/lang/invoke/VarHandle") ∧ (parseMethodDescriptor (ym y_K_writeMember).desc).map (fun d => d.parameters.length) = some 2 := by decide +kernel
theorem mw_K_write : xMet y_K_write := ⟨lt_3 68 rfl, lt_1 5 rfl⟩
theorem mi_K_write : Cond.instanceMethod (ym y_K_write) ∈ lw_tbl := lt_3 67 rfl
theorem ms_K_write : Cond.selects "ShakenTree$Shaker" (ym y_K_write) (ym y_K_write) ∈ lw_tbl := lt_p 11 rfl
theorem mx_K_write : ((ym y_K_write).cls ≠ "java/lang/invoke/MethodHandle" ∧ (ym y_K_write).cls ≠ "java/lang/invoke/VarHandle") ∧ (parseMethodDescriptor (ym y_K_write).desc).map (fun d => d.parameters.length) = some 2 := by decide +kernel
theorem mw_K_rebuild : xMet y_K_rebuild := ⟨lt_3 19 rfl, lt_1 5 rfl⟩
theorem mi_K_rebuild : Cond.instanceMethod (ym y_K_rebuild) ∈ lw_tbl := lt_3 17 rfl
theorem ms_K_rebuild : Cond.selects "ShakenTree$Shaker" (ym y_K_rebuild) (ym y_K_rebuild) ∈ lw_tbl := lt_3 18 rfl
theorem mx_K_rebuild : ((ym y_K_rebuild).cls ≠ "java/lang/invoke/MethodHandle" ∧ (ym y_K_rebuild).cls ≠ "java/lang/invoke/VarHandle") ∧ (parseMethodDescriptor (ym y_K_rebuild).desc).map (fun d => d.parameters.length) = some 2 := by decide +kernel
theorem mw_S_shake : xMet y_S_shake := ⟨lt_3 9 rfl, lt_1 1 rfl⟩
theorem mi_S_shake : Cond.instanceMethod (ym y_S_shake) ∈ lw_tbl := lt_3 7 rfl
theorem ms_S_shake : Cond.selects "ShakenTree" (ym y_S_shake) (ym y_S_shake) ∈ lw_tbl := lt_3 8 rfl
theorem mx_S_shake : ((ym y_S_shake).cls ≠ "java/lang/invoke/MethodHandle" ∧ (ym y_S_shake).cls ≠ "java/lang/invoke/VarHandle") ∧ (parseMethodDescriptor (ym y_S_shake).desc).map (fun d => d.parameters.length) = some 0 := by decide +kernel
theorem mw_W_shake : xMet y_W_shake := ⟨lt_3 5 rfl, lt_1 0 rfl⟩
theorem mi_W_shake : Cond.static (ym y_W_shake) ∈ lw_tbl := lt_3 4 rfl
theorem mx_W_shake : ((ym y_W_shake).cls ≠ "java/lang/invoke/MethodHandle" ∧ (ym y_W_shake).cls ≠ "java/lang/invoke/VarHandle") ∧ (parseMethodDescriptor (ym y_W_shake).desc).map (fun d => d.parameters.length) = some 2 := by decide +kernel
theorem mw_S_chosen : xMet y_S_chosen := ⟨lt_3 96 rfl, lt_1 1 rfl⟩
theorem mi_S_chosen : Cond.instanceMethod (ym y_S_chosen) ∈ lw_tbl := lt_3 95 rfl
theorem ms_S_chosen : Cond.selects "ShakenTree" (ym y_S_chosen) (ym y_S_chosen) ∈ lw_tbl := lt_p 15 rfl
theorem mx_S_chosen : ((ym y_S_chosen).cls ≠ "java/lang/invoke/MethodHandle" ∧ (ym y_S_chosen).cls ≠ "java/lang/invoke/VarHandle") ∧ (parseMethodDescriptor (ym y_S_chosen).desc).map (fun d => d.parameters.length) = some 1 := by decide +kernel
theorem mw_S_count : xMet y_S_count := ⟨lt_3 92 rfl, lt_1 1 rfl⟩
theorem mi_S_count : Cond.instanceMethod (ym y_S_count) ∈ lw_tbl := lt_3 90 rfl
theorem ms_S_count : Cond.selects "ShakenTree" (ym y_S_count) (ym y_S_count) ∈ lw_tbl := lt_3 91 rfl
theorem mx_S_count : ((ym y_S_count).cls ≠ "java/lang/invoke/MethodHandle" ∧ (ym y_S_count).cls ≠ "java/lang/invoke/VarHandle") ∧ (parseMethodDescriptor (ym y_S_count).desc).map (fun d => d.parameters.length) = some 2 := by decide +kernel
theorem mw_W_count : xMet y_W_count := ⟨lt_3 88 rfl, lt_1 0 rfl⟩
theorem mi_W_count : Cond.static (ym y_W_count) ∈ lw_tbl := lt_3 87 rfl
theorem mx_W_count : ((ym y_W_count).cls ≠ "java/lang/invoke/MethodHandle" ∧ (ym y_W_count).cls ≠ "java/lang/invoke/VarHandle") ∧ (parseMethodDescriptor (ym y_W_count).desc).map (fun d => d.parameters.length) = some 4 := by decide +kernel
theorem mw_S_pool : xMet y_S_pool := ⟨lt_3 104 rfl, lt_1 1 rfl⟩
theorem mi_S_pool : Cond.instanceMethod (ym y_S_pool) ∈ lw_tbl := lt_3 102 rfl
theorem ms_S_pool : Cond.selects "ShakenTree" (ym y_S_pool) (ym y_S_pool) ∈ lw_tbl := lt_3 103 rfl
theorem mx_S_pool : ((ym y_S_pool).cls ≠ "java/lang/invoke/MethodHandle" ∧ (ym y_S_pool).cls ≠ "java/lang/invoke/VarHandle") ∧ (parseMethodDescriptor (ym y_S_pool).desc).map (fun d => d.parameters.length) = some 2 := by decide +kernel
theorem mw_W_pool : xMet y_W_pool := ⟨lt_3 100 rfl, lt_1 0 rfl⟩
theorem mi_W_pool : Cond.static (ym y_W_pool) ∈ lw_tbl := lt_3 99 rfl
theorem mx_W_pool : ((ym y_W_pool).cls ≠ "java/lang/invoke/MethodHandle" ∧ (ym y_W_pool).cls ≠ "java/lang/invoke/VarHandle") ∧ (parseMethodDescriptor (ym y_W_pool).desc).map (fun d => d.parameters.length) = some 4 := by decide +kernel
theorem mw_S_constantAt : xMet y_S_constantAt := ⟨lt_3 111 rfl, lt_1 1 rfl⟩
theorem mi_S_constantAt : Cond.instanceMethod (ym y_S_constantAt) ∈ lw_tbl := lt_3 109 rfl
theorem ms_S_constantAt : Cond.selects "ShakenTree" (ym y_S_constantAt) (ym y_S_constantAt) ∈ lw_tbl := lt_3 110 rfl
theorem mx_S_constantAt : ((ym y_S_constantAt).cls ≠ "java/lang/invoke/MethodHandle" ∧ (ym y_S_constantAt).cls ≠ "java/lang/invoke/VarHandle") ∧ (parseMethodDescriptor (ym y_S_constantAt).desc).map (fun d => d.parameters.length) = some 4 := by decide +kernel
theorem mw_W_constantAt : xMet y_W_constantAt := ⟨lt_3 107 rfl, lt_1 0 rfl⟩
theorem mi_W_constantAt : Cond.static (ym y_W_constantAt) ∈ lw_tbl := lt_3 106 rfl
theorem mx_W_constantAt : ((ym y_W_constantAt).cls ≠ "java/lang/invoke/MethodHandle" ∧ (ym y_W_constantAt).cls ≠ "java/lang/invoke/VarHandle") ∧ (parseMethodDescriptor (ym y_W_constantAt).desc).map (fun d => d.parameters.length) = some 6 := by decide +kernel
theorem mw_S_memberAt : xMet y_S_memberAt := ⟨lt_3 121 rfl, lt_1 1 rfl⟩
theorem mi_S_memberAt : Cond.instanceMethod (ym y_S_memberAt) ∈ lw_tbl := lt_3 119 rfl
theorem ms_S_memberAt : Cond.selects "ShakenTree" (ym y_S_memberAt) (ym y_S_memberAt) ∈ lw_tbl := lt_3 120 rfl
theorem mx_S_memberAt : ((ym y_S_memberAt).cls ≠ "java/lang/invoke/MethodHandle" ∧ (ym y_S_memberAt).cls ≠ "java/lang/invoke/VarHandle") ∧ (parseMethodDescriptor (ym y_S_memberAt).desc).map (fun d => d.parameters.length) = some 3 := by decide +kernel
theorem mw_W_memberAt : xMet y_W_memberAt := ⟨lt_3 117 rfl, lt_1 0 rfl⟩
theorem mi_W_memberAt : Cond.static (ym y_W_memberAt) ∈ lw_tbl := lt_3 116 rfl
theorem mx_W_memberAt : ((ym y_W_memberAt).cls ≠ "java/lang/invoke/MethodHandle" ∧ (ym y_W_memberAt).cls ≠ "java/lang/invoke/VarHandle") ∧ (parseMethodDescriptor (ym y_W_memberAt).desc).map (fun d => d.parameters.length) = some 5 := by decide +kernel
theorem mw_S_codeAt : xMet y_S_codeAt := ⟨lt_3 132 rfl, lt_1 1 rfl⟩
theorem mi_S_codeAt : Cond.instanceMethod (ym y_S_codeAt) ∈ lw_tbl := lt_3 130 rfl
theorem ms_S_codeAt : Cond.selects "ShakenTree" (ym y_S_codeAt) (ym y_S_codeAt) ∈ lw_tbl := lt_3 131 rfl
theorem mx_S_codeAt : ((ym y_S_codeAt).cls ≠ "java/lang/invoke/MethodHandle" ∧ (ym y_S_codeAt).cls ≠ "java/lang/invoke/VarHandle") ∧ (parseMethodDescriptor (ym y_S_codeAt).desc).map (fun d => d.parameters.length) = some 3 := by decide +kernel
theorem mw_W_codeAt : xMet y_W_codeAt := ⟨lt_3 128 rfl, lt_1 0 rfl⟩
theorem mi_W_codeAt : Cond.static (ym y_W_codeAt) ∈ lw_tbl := lt_3 127 rfl
theorem mx_W_codeAt : ((ym y_W_codeAt).cls ≠ "java/lang/invoke/MethodHandle" ∧ (ym y_W_codeAt).cls ≠ "java/lang/invoke/VarHandle") ∧ (parseMethodDescriptor (ym y_W_codeAt).desc).map (fun d => d.parameters.length) = some 5 := by decide +kernel
theorem mw_F_start : xMet y_F_start := ⟨lt_3 157 rfl, lt_1 8 rfl⟩
theorem mi_F_start : Cond.instanceMethod (ym y_F_start) ∈ lw_tbl := lt_3 155 rfl
theorem ms_F_start : Cond.selects "ShakenTree$Frame" (ym y_F_start) (ym y_F_start) ∈ lw_tbl := lt_3 156 rfl
theorem mx_F_start : ((ym y_F_start).cls ≠ "java/lang/invoke/MethodHandle" ∧ (ym y_F_start).cls ≠ "java/lang/invoke/VarHandle") ∧ (parseMethodDescriptor (ym y_F_start).desc).map (fun d => d.parameters.length) = some 3 := by decide +kernel
theorem mw_E_begin : xMet y_E_begin := ⟨lt_3 150 rfl, lt_1 7 rfl⟩
theorem mi_E_begin : Cond.instanceMethod (ym y_E_begin) ∈ lw_tbl := lt_3 149 rfl
theorem ms_E_begin : Cond.selects "ShakenTree$Machine" (ym y_E_begin) (ym y_E_begin) ∈ lw_tbl := lt_p 16 rfl
theorem mx_E_begin : ((ym y_E_begin).cls ≠ "java/lang/invoke/MethodHandle" ∧ (ym y_E_begin).cls ≠ "java/lang/invoke/VarHandle") ∧ (parseMethodDescriptor (ym y_E_begin).desc).map (fun d => d.parameters.length) = some 3 := by decide +kernel
theorem mw_F_put : xMet y_F_put := ⟨lt_3 171 rfl, lt_1 8 rfl⟩
theorem mi_F_put : Cond.instanceMethod (ym y_F_put) ∈ lw_tbl := lt_3 169 rfl
theorem ms_F_put : Cond.selects "ShakenTree$Frame" (ym y_F_put) (ym y_F_put) ∈ lw_tbl := lt_3 170 rfl
theorem mx_F_put : ((ym y_F_put).cls ≠ "java/lang/invoke/MethodHandle" ∧ (ym y_F_put).cls ≠ "java/lang/invoke/VarHandle") ∧ (parseMethodDescriptor (ym y_F_put).desc).map (fun d => d.parameters.length) = some 1 := by decide +kernel
theorem mw_F_take : xMet y_F_take := ⟨lt_3 179 rfl, lt_1 8 rfl⟩
theorem mi_F_take : Cond.instanceMethod (ym y_F_take) ∈ lw_tbl := lt_3 177 rfl
theorem ms_F_take : Cond.selects "ShakenTree$Frame" (ym y_F_take) (ym y_F_take) ∈ lw_tbl := lt_3 178 rfl
theorem mx_F_take : ((ym y_F_take).cls ≠ "java/lang/invoke/MethodHandle" ∧ (ym y_F_take).cls ≠ "java/lang/invoke/VarHandle") ∧ (parseMethodDescriptor (ym y_F_take).desc).map (fun d => d.parameters.length) = some 0 := by decide +kernel
theorem mw_E_call : xMet y_E_call := ⟨lt_3 184 rfl, lt_1 7 rfl⟩
theorem mi_E_call : Cond.instanceMethod (ym y_E_call) ∈ lw_tbl := lt_3 183 rfl
theorem ms_E_call : Cond.selects "ShakenTree$Machine" (ym y_E_call) (ym y_E_call) ∈ lw_tbl := lt_p 19 rfl
theorem mx_E_call : ((ym y_E_call).cls ≠ "java/lang/invoke/MethodHandle" ∧ (ym y_E_call).cls ≠ "java/lang/invoke/VarHandle") ∧ (parseMethodDescriptor (ym y_E_call).desc).map (fun d => d.parameters.length) = some 2 := by decide +kernel
theorem mw_E_useConstant : xMet y_E_useConstant := ⟨lt_3 167 rfl, lt_1 7 rfl⟩
theorem mi_E_useConstant : Cond.instanceMethod (ym y_E_useConstant) ∈ lw_tbl := lt_3 166 rfl
theorem ms_E_useConstant : Cond.selects "ShakenTree$Machine" (ym y_E_useConstant) (ym y_E_useConstant) ∈ lw_tbl := lt_p 18 rfl
theorem mx_E_useConstant : ((ym y_E_useConstant).cls ≠ "java/lang/invoke/MethodHandle" ∧ (ym y_E_useConstant).cls ≠ "java/lang/invoke/VarHandle") ∧ (parseMethodDescriptor (ym y_E_useConstant).desc).map (fun d => d.parameters.length) = some 4 := by decide +kernel
theorem mw_E_calculate : xMet y_E_calculate := ⟨lt_3 187 rfl, lt_1 7 rfl⟩
theorem mi_E_calculate : Cond.static (ym y_E_calculate) ∈ lw_tbl := lt_3 186 rfl
theorem mx_E_calculate : ((ym y_E_calculate).cls ≠ "java/lang/invoke/MethodHandle" ∧ (ym y_E_calculate).cls ≠ "java/lang/invoke/VarHandle") ∧ (parseMethodDescriptor (ym y_E_calculate).desc).map (fun d => d.parameters.length) = some 2 := by decide +kernel
theorem mw_E_end : xMet y_E_end := ⟨lt_3 211 rfl, lt_1 7 rfl⟩
theorem mi_E_end : Cond.instanceMethod (ym y_E_end) ∈ lw_tbl := lt_3 210 rfl
theorem ms_E_end : Cond.selects "ShakenTree$Machine" (ym y_E_end) (ym y_E_end) ∈ lw_tbl := lt_p 21 rfl
theorem mx_E_end : ((ym y_E_end).cls ≠ "java/lang/invoke/MethodHandle" ∧ (ym y_E_end).cls ≠ "java/lang/invoke/VarHandle") ∧ (parseMethodDescriptor (ym y_E_end).desc).map (fun d => d.parameters.length) = some 1 := by decide +kernel
theorem mw_E_steer : xMet y_E_steer := ⟨lt_3 207 rfl, lt_1 7 rfl⟩
theorem mi_E_steer : Cond.instanceMethod (ym y_E_steer) ∈ lw_tbl := lt_3 206 rfl
theorem ms_E_steer : Cond.selects "ShakenTree$Machine" (ym y_E_steer) (ym y_E_steer) ∈ lw_tbl := lt_p 20 rfl
theorem mx_E_steer : ((ym y_E_steer).cls ≠ "java/lang/invoke/MethodHandle" ∧ (ym y_E_steer).cls ≠ "java/lang/invoke/VarHandle") ∧ (parseMethodDescriptor (ym y_E_steer).desc).map (fun d => d.parameters.length) = some 3 := by decide +kernel
theorem mw_E_step : xMet y_E_step := ⟨lt_3 161 rfl, lt_1 7 rfl⟩
theorem mi_E_step : Cond.instanceMethod (ym y_E_step) ∈ lw_tbl := lt_3 160 rfl
theorem ms_E_step : Cond.selects "ShakenTree$Machine" (ym y_E_step) (ym y_E_step) ∈ lw_tbl := lt_p 17 rfl
theorem mx_E_step : ((ym y_E_step).cls ≠ "java/lang/invoke/MethodHandle" ∧ (ym y_E_step).cls ≠ "java/lang/invoke/VarHandle") ∧ (parseMethodDescriptor (ym y_E_step).desc).map (fun d => d.parameters.length) = some 2 := by decide +kernel
theorem mw_E_execute : xMet y_E_execute := ⟨lt_3 145 rfl, lt_1 7 rfl⟩
theorem mi_E_execute : Cond.instanceMethod (ym y_E_execute) ∈ lw_tbl := lt_3 143 rfl
theorem ms_E_execute : Cond.selects "ShakenTree$Machine" (ym y_E_execute) (ym y_E_execute) ∈ lw_tbl := lt_3 144 rfl
theorem mx_E_execute : ((ym y_E_execute).cls ≠ "java/lang/invoke/MethodHandle" ∧ (ym y_E_execute).cls ≠ "java/lang/invoke/VarHandle") ∧ (parseMethodDescriptor (ym y_E_execute).desc).map (fun d => d.parameters.length) = some 4 := by decide +kernel
theorem mw_S_run : xMet y_S_run := ⟨lt_3 141 rfl, lt_1 1 rfl⟩
theorem mi_S_run : Cond.instanceMethod (ym y_S_run) ∈ lw_tbl := lt_3 139 rfl
theorem ms_S_run : Cond.selects "ShakenTree" (ym y_S_run) (ym y_S_run) ∈ lw_tbl := lt_3 140 rfl
theorem mx_S_run : ((ym y_S_run).cls ≠ "java/lang/invoke/MethodHandle" ∧ (ym y_S_run).cls ≠ "java/lang/invoke/VarHandle") ∧ (parseMethodDescriptor (ym y_S_run).desc).map (fun d => d.parameters.length) = some 4 := by decide +kernel
theorem mw_W_run : xMet y_W_run := ⟨lt_3 135 rfl, lt_1 0 rfl⟩
theorem mi_W_run : Cond.static (ym y_W_run) ∈ lw_tbl := lt_3 134 rfl
theorem mx_W_run : ((ym y_W_run).cls ≠ "java/lang/invoke/MethodHandle" ∧ (ym y_W_run).cls ≠ "java/lang/invoke/VarHandle") ∧ (parseMethodDescriptor (ym y_W_run).desc).map (fun d => d.parameters.length) = some 6 := by decide +kernel
theorem mw_R_init : xMet y_R_init := ⟨lt_3 233 rfl, lt_1 9 rfl⟩
theorem mi_R_init : Cond.instanceMethod (ym y_R_init) ∈ lw_tbl := lt_3 232 rfl
theorem mx_R_init : ((ym y_R_init).cls ≠ "java/lang/invoke/MethodHandle" ∧ (ym y_R_init).cls ≠ "java/lang/invoke/VarHandle") ∧ (parseMethodDescriptor (ym y_R_init).desc).map (fun d => d.parameters.length) = some 0 := by decide +kernel
theorem mw_R_thrown : xMet y_R_thrown := ⟨lt_4 90 rfl, lt_1 9 rfl⟩
theorem mi_R_thrown : Cond.instanceMethod (ym y_R_thrown) ∈ lw_tbl := lt_4 88 rfl
theorem ms_R_thrown : Cond.selects "ShakenTreeModel" (ym y_R_thrown) (ym y_R_thrown) ∈ lw_tbl := lt_4 89 rfl
theorem mx_R_thrown : ((ym y_R_thrown).cls ≠ "java/lang/invoke/MethodHandle" ∧ (ym y_R_thrown).cls ≠ "java/lang/invoke/VarHandle") ∧ (parseMethodDescriptor (ym y_R_thrown).desc).map (fun d => d.parameters.length) = some 0 := by decide +kernel
theorem mw_R_add : xMet y_R_add := ⟨lt_4 94 rfl, lt_1 9 rfl⟩
theorem mi_R_add : Cond.instanceMethod (ym y_R_add) ∈ lw_tbl := lt_4 92 rfl
theorem ms_R_add : Cond.selects "ShakenTreeModel" (ym y_R_add) (ym y_R_add) ∈ lw_tbl := lt_4 93 rfl
theorem mx_R_add : ((ym y_R_add).cls ≠ "java/lang/invoke/MethodHandle" ∧ (ym y_R_add).cls ≠ "java/lang/invoke/VarHandle") ∧ (parseMethodDescriptor (ym y_R_add).desc).map (fun d => d.parameters.length) = some 0 := by decide +kernel
theorem mw_R_noClass : xMet y_R_noClass := ⟨lt_4 102 rfl, lt_1 9 rfl⟩
theorem mi_R_noClass : Cond.instanceMethod (ym y_R_noClass) ∈ lw_tbl := lt_4 101 rfl
theorem ms_R_noClass : Cond.selects "ShakenTreeModel" (ym y_R_noClass) (ym y_R_noClass) ∈ lw_tbl := lt_p 22 rfl
theorem mx_R_noClass : ((ym y_R_noClass).cls ≠ "java/lang/invoke/MethodHandle" ∧ (ym y_R_noClass).cls ≠ "java/lang/invoke/VarHandle") ∧ (parseMethodDescriptor (ym y_R_noClass).desc).map (fun d => d.parameters.length) = some 2 := by decide +kernel
theorem mw_R_base : xMet y_R_base := ⟨lt_4 109 rfl, lt_1 9 rfl⟩
theorem mi_R_base : Cond.static (ym y_R_base) ∈ lw_tbl := lt_4 108 rfl
theorem mx_R_base : ((ym y_R_base).cls ≠ "java/lang/invoke/MethodHandle" ∧ (ym y_R_base).cls ≠ "java/lang/invoke/VarHandle") ∧ (parseMethodDescriptor (ym y_R_base).desc).map (fun d => d.parameters.length) = some 2 := by decide +kernel
theorem mw_R_has : xMet y_R_has := ⟨lt_4 106 rfl, lt_1 9 rfl⟩
theorem mi_R_has : Cond.instanceMethod (ym y_R_has) ∈ lw_tbl := lt_4 105 rfl
theorem ms_R_has : Cond.selects "ShakenTreeModel" (ym y_R_has) (ym y_R_has) ∈ lw_tbl := lt_p 23 rfl
theorem mx_R_has : ((ym y_R_has).cls ≠ "java/lang/invoke/MethodHandle" ∧ (ym y_R_has).cls ≠ "java/lang/invoke/VarHandle") ∧ (parseMethodDescriptor (ym y_R_has).desc).map (fun d => d.parameters.length) = some 4 := by decide +kernel
theorem mw_R_constant : xMet y_R_constant := ⟨lt_4 98 rfl, lt_1 9 rfl⟩
theorem mi_R_constant : Cond.instanceMethod (ym y_R_constant) ∈ lw_tbl := lt_4 96 rfl
theorem ms_R_constant : Cond.selects "ShakenTreeModel" (ym y_R_constant) (ym y_R_constant) ∈ lw_tbl := lt_4 97 rfl
theorem mx_R_constant : ((ym y_R_constant).cls ≠ "java/lang/invoke/MethodHandle" ∧ (ym y_R_constant).cls ≠ "java/lang/invoke/VarHandle") ∧ (parseMethodDescriptor (ym y_R_constant).desc).map (fun d => d.parameters.length) = some 4 := by decide +kernel
theorem mw_R_nameOf : xMet y_R_nameOf := ⟨lt_4 121 rfl, lt_1 9 rfl⟩
theorem mi_R_nameOf : Cond.instanceMethod (ym y_R_nameOf) ∈ lw_tbl := lt_4 120 rfl
theorem ms_R_nameOf : Cond.selects "ShakenTreeModel" (ym y_R_nameOf) (ym y_R_nameOf) ∈ lw_tbl := lt_p 25 rfl
theorem mx_R_nameOf : ((ym y_R_nameOf).cls ≠ "java/lang/invoke/MethodHandle" ∧ (ym y_R_nameOf).cls ≠ "java/lang/invoke/VarHandle") ∧ (parseMethodDescriptor (ym y_R_nameOf).desc).map (fun d => d.parameters.length) = some 2 := by decide +kernel
theorem mw_R_find : xMet y_R_find := ⟨lt_4 117 rfl, lt_1 9 rfl⟩
theorem mi_R_find : Cond.instanceMethod (ym y_R_find) ∈ lw_tbl := lt_4 116 rfl
theorem ms_R_find : Cond.selects "ShakenTreeModel" (ym y_R_find) (ym y_R_find) ∈ lw_tbl := lt_p 24 rfl
theorem mx_R_find : ((ym y_R_find).cls ≠ "java/lang/invoke/MethodHandle" ∧ (ym y_R_find).cls ≠ "java/lang/invoke/VarHandle") ∧ (parseMethodDescriptor (ym y_R_find).desc).map (fun d => d.parameters.length) = some 4 := by decide +kernel
theorem mw_R_member : xMet y_R_member := ⟨lt_4 113 rfl, lt_1 9 rfl⟩
theorem mi_R_member : Cond.instanceMethod (ym y_R_member) ∈ lw_tbl := lt_4 111 rfl
theorem ms_R_member : Cond.selects "ShakenTreeModel" (ym y_R_member) (ym y_R_member) ∈ lw_tbl := lt_4 112 rfl
theorem mx_R_member : ((ym y_R_member).cls ≠ "java/lang/invoke/MethodHandle" ∧ (ym y_R_member).cls ≠ "java/lang/invoke/VarHandle") ∧ (parseMethodDescriptor (ym y_R_member).desc).map (fun d => d.parameters.length) = some 3 := by decide +kernel
theorem mw_R_noMember : xMet y_R_noMember := ⟨lt_4 133 rfl, lt_1 9 rfl⟩
theorem mi_R_noMember : Cond.instanceMethod (ym y_R_noMember) ∈ lw_tbl := lt_4 132 rfl
theorem ms_R_noMember : Cond.selects "ShakenTreeModel" (ym y_R_noMember) (ym y_R_noMember) ∈ lw_tbl := lt_p 27 rfl
theorem mx_R_noMember : ((ym y_R_noMember).cls ≠ "java/lang/invoke/MethodHandle" ∧ (ym y_R_noMember).cls ≠ "java/lang/invoke/VarHandle") ∧ (parseMethodDescriptor (ym y_R_noMember).desc).map (fun d => d.parameters.length) = some 2 := by decide +kernel
theorem mw_R_noMethod : xMet y_R_noMethod := ⟨lt_4 129 rfl, lt_1 9 rfl⟩
theorem mi_R_noMethod : Cond.instanceMethod (ym y_R_noMethod) ∈ lw_tbl := lt_4 128 rfl
theorem ms_R_noMethod : Cond.selects "ShakenTreeModel" (ym y_R_noMethod) (ym y_R_noMethod) ∈ lw_tbl := lt_p 26 rfl
theorem mx_R_noMethod : ((ym y_R_noMethod).cls ≠ "java/lang/invoke/MethodHandle" ∧ (ym y_R_noMethod).cls ≠ "java/lang/invoke/VarHandle") ∧ (parseMethodDescriptor (ym y_R_noMethod).desc).map (fun d => d.parameters.length) = some 2 := by decide +kernel
theorem mw_R_code : xMet y_R_code := ⟨lt_4 125 rfl, lt_1 9 rfl⟩
theorem mi_R_code : Cond.instanceMethod (ym y_R_code) ∈ lw_tbl := lt_4 123 rfl
theorem ms_R_code : Cond.selects "ShakenTreeModel" (ym y_R_code) (ym y_R_code) ∈ lw_tbl := lt_4 124 rfl
theorem mx_R_code : ((ym y_R_code).cls ≠ "java/lang/invoke/MethodHandle" ∧ (ym y_R_code).cls ≠ "java/lang/invoke/VarHandle") ∧ (parseMethodDescriptor (ym y_R_code).desc).map (fun d => d.parameters.length) = some 3 := by decide +kernel
theorem mw_R_entry : xMet y_R_entry := ⟨lt_4 137 rfl, lt_1 9 rfl⟩
theorem mi_R_entry : Cond.instanceMethod (ym y_R_entry) ∈ lw_tbl := lt_4 135 rfl
theorem ms_R_entry : Cond.selects "ShakenTreeModel" (ym y_R_entry) (ym y_R_entry) ∈ lw_tbl := lt_4 136 rfl
theorem mx_R_entry : ((ym y_R_entry).cls ≠ "java/lang/invoke/MethodHandle" ∧ (ym y_R_entry).cls ≠ "java/lang/invoke/VarHandle") ∧ (parseMethodDescriptor (ym y_R_entry).desc).map (fun d => d.parameters.length) = some 2 := by decide +kernel
theorem mw_R_clear : xMet y_R_clear := ⟨lt_4 141 rfl, lt_1 9 rfl⟩
theorem mi_R_clear : Cond.instanceMethod (ym y_R_clear) ∈ lw_tbl := lt_4 139 rfl
theorem ms_R_clear : Cond.selects "ShakenTreeModel" (ym y_R_clear) (ym y_R_clear) ∈ lw_tbl := lt_4 140 rfl
theorem mx_R_clear : ((ym y_R_clear).cls ≠ "java/lang/invoke/MethodHandle" ∧ (ym y_R_clear).cls ≠ "java/lang/invoke/VarHandle") ∧ (parseMethodDescriptor (ym y_R_clear).desc).map (fun d => d.parameters.length) = some 0 := by decide +kernel
theorem mw_R_meant : xMet y_R_meant := ⟨lt_4 157 rfl, lt_1 9 rfl⟩
theorem mi_R_meant : Cond.instanceMethod (ym y_R_meant) ∈ lw_tbl := lt_4 156 rfl
theorem ms_R_meant : Cond.selects "ShakenTreeModel" (ym y_R_meant) (ym y_R_meant) ∈ lw_tbl := lt_p 30 rfl
theorem mx_R_meant : ((ym y_R_meant).cls ≠ "java/lang/invoke/MethodHandle" ∧ (ym y_R_meant).cls ≠ "java/lang/invoke/VarHandle") ∧ (parseMethodDescriptor (ym y_R_meant).desc).map (fun d => d.parameters.length) = some 4 := by decide +kernel
theorem mw_R_isClosed : xMet y_R_isClosed := ⟨lt_4 153 rfl, lt_1 9 rfl⟩
theorem mi_R_isClosed : Cond.instanceMethod (ym y_R_isClosed) ∈ lw_tbl := lt_4 152 rfl
theorem ms_R_isClosed : Cond.selects "ShakenTreeModel" (ym y_R_isClosed) (ym y_R_isClosed) ∈ lw_tbl := lt_p 29 rfl
theorem mx_R_isClosed : ((ym y_R_isClosed).cls ≠ "java/lang/invoke/MethodHandle" ∧ (ym y_R_isClosed).cls ≠ "java/lang/invoke/VarHandle") ∧ (parseMethodDescriptor (ym y_R_isClosed).desc).map (fun d => d.parameters.length) = some 3 := by decide +kernel
theorem mw_R_firstFault : xMet y_R_firstFault := ⟨lt_4 149 rfl, lt_1 9 rfl⟩
theorem mi_R_firstFault : Cond.instanceMethod (ym y_R_firstFault) ∈ lw_tbl := lt_4 148 rfl
theorem ms_R_firstFault : Cond.selects "ShakenTreeModel" (ym y_R_firstFault) (ym y_R_firstFault) ∈ lw_tbl := lt_p 28 rfl
theorem mx_R_firstFault : ((ym y_R_firstFault).cls ≠ "java/lang/invoke/MethodHandle" ∧ (ym y_R_firstFault).cls ≠ "java/lang/invoke/VarHandle") ∧ (parseMethodDescriptor (ym y_R_firstFault).desc).map (fun d => d.parameters.length) = some 0 := by decide +kernel
theorem mw_R_fault : xMet y_R_fault := ⟨lt_4 145 rfl, lt_1 9 rfl⟩
theorem mi_R_fault : Cond.instanceMethod (ym y_R_fault) ∈ lw_tbl := lt_4 143 rfl
theorem ms_R_fault : Cond.selects "ShakenTreeModel" (ym y_R_fault) (ym y_R_fault) ∈ lw_tbl := lt_4 144 rfl
theorem mx_R_fault : ((ym y_R_fault).cls ≠ "java/lang/invoke/MethodHandle" ∧ (ym y_R_fault).cls ≠ "java/lang/invoke/VarHandle") ∧ (parseMethodDescriptor (ym y_R_fault).desc).map (fun d => d.parameters.length) = some 0 := by decide +kernel
theorem mw_R_countEntries : xMet y_R_countEntries := ⟨lt_4 165 rfl, lt_1 9 rfl⟩
theorem mi_R_countEntries : Cond.instanceMethod (ym y_R_countEntries) ∈ lw_tbl := lt_4 164 rfl
theorem ms_R_countEntries : Cond.selects "ShakenTreeModel" (ym y_R_countEntries) (ym y_R_countEntries) ∈ lw_tbl := lt_p 31 rfl
theorem mx_R_countEntries : ((ym y_R_countEntries).cls ≠ "java/lang/invoke/MethodHandle" ∧ (ym y_R_countEntries).cls ≠ "java/lang/invoke/VarHandle") ∧ (parseMethodDescriptor (ym y_R_countEntries).desc).map (fun d => d.parameters.length) = some 1 := by decide +kernel
theorem mw_R_reach : xMet y_R_reach := ⟨lt_4 169 rfl, lt_1 9 rfl⟩
theorem mi_R_reach : Cond.instanceMethod (ym y_R_reach) ∈ lw_tbl := lt_4 168 rfl
theorem ms_R_reach : Cond.selects "ShakenTreeModel" (ym y_R_reach) (ym y_R_reach) ∈ lw_tbl := lt_p 32 rfl
theorem mx_R_reach : ((ym y_R_reach).cls ≠ "java/lang/invoke/MethodHandle" ∧ (ym y_R_reach).cls ≠ "java/lang/invoke/VarHandle") ∧ (parseMethodDescriptor (ym y_R_reach).desc).map (fun d => d.parameters.length) = some 0 := by decide +kernel
theorem mw_R_usesPool : xMet y_R_usesPool := ⟨lt_4 176 rfl, lt_1 9 rfl⟩
theorem mi_R_usesPool : Cond.static (ym y_R_usesPool) ∈ lw_tbl := lt_4 175 rfl
theorem mx_R_usesPool : ((ym y_R_usesPool).cls ≠ "java/lang/invoke/MethodHandle" ∧ (ym y_R_usesPool).cls ≠ "java/lang/invoke/VarHandle") ∧ (parseMethodDescriptor (ym y_R_usesPool).desc).map (fun d => d.parameters.length) = some 1 := by decide +kernel
theorem mw_R_markConstants : xMet y_R_markConstants := ⟨lt_4 173 rfl, lt_1 9 rfl⟩
theorem mi_R_markConstants : Cond.instanceMethod (ym y_R_markConstants) ∈ lw_tbl := lt_4 172 rfl
theorem ms_R_markConstants : Cond.selects "ShakenTreeModel" (ym y_R_markConstants) (ym y_R_markConstants) ∈ lw_tbl := lt_p 33 rfl
theorem mx_R_markConstants : ((ym y_R_markConstants).cls ≠ "java/lang/invoke/MethodHandle" ∧ (ym y_R_markConstants).cls ≠ "java/lang/invoke/VarHandle") ∧ (parseMethodDescriptor (ym y_R_markConstants).desc).map (fun d => d.parameters.length) = some 0 := by decide +kernel
theorem mw_R_numberAll : xMet y_R_numberAll := ⟨lt_4 180 rfl, lt_1 9 rfl⟩
theorem mi_R_numberAll : Cond.instanceMethod (ym y_R_numberAll) ∈ lw_tbl := lt_4 179 rfl
theorem ms_R_numberAll : Cond.selects "ShakenTreeModel" (ym y_R_numberAll) (ym y_R_numberAll) ∈ lw_tbl := lt_p 34 rfl
theorem mx_R_numberAll : ((ym y_R_numberAll).cls ≠ "java/lang/invoke/MethodHandle" ∧ (ym y_R_numberAll).cls ≠ "java/lang/invoke/VarHandle") ∧ (parseMethodDescriptor (ym y_R_numberAll).desc).map (fun d => d.parameters.length) = some 0 := by decide +kernel
theorem mw_R_giveNames : xMet y_R_giveNames := ⟨lt_4 184 rfl, lt_1 9 rfl⟩
theorem mi_R_giveNames : Cond.instanceMethod (ym y_R_giveNames) ∈ lw_tbl := lt_4 183 rfl
theorem ms_R_giveNames : Cond.selects "ShakenTreeModel" (ym y_R_giveNames) (ym y_R_giveNames) ∈ lw_tbl := lt_p 35 rfl
theorem mx_R_giveNames : ((ym y_R_giveNames).cls ≠ "java/lang/invoke/MethodHandle" ∧ (ym y_R_giveNames).cls ≠ "java/lang/invoke/VarHandle") ∧ (parseMethodDescriptor (ym y_R_giveNames).desc).map (fun d => d.parameters.length) = some 0 := by decide +kernel
theorem mw_R_copyPool : xMet y_R_copyPool := ⟨lt_4 192 rfl, lt_1 9 rfl⟩
theorem mi_R_copyPool : Cond.instanceMethod (ym y_R_copyPool) ∈ lw_tbl := lt_4 191 rfl
theorem ms_R_copyPool : Cond.selects "ShakenTreeModel" (ym y_R_copyPool) (ym y_R_copyPool) ∈ lw_tbl := lt_p 37 rfl
theorem mx_R_copyPool : ((ym y_R_copyPool).cls ≠ "java/lang/invoke/MethodHandle" ∧ (ym y_R_copyPool).cls ≠ "java/lang/invoke/VarHandle") ∧ (parseMethodDescriptor (ym y_R_copyPool).desc).map (fun d => d.parameters.length) = some 1 := by decide +kernel
theorem mw_R_copyMember : xMet y_R_copyMember := ⟨lt_4 196 rfl, lt_1 9 rfl⟩
theorem mi_R_copyMember : Cond.instanceMethod (ym y_R_copyMember) ∈ lw_tbl := lt_4 195 rfl
theorem ms_R_copyMember : Cond.selects "ShakenTreeModel" (ym y_R_copyMember) (ym y_R_copyMember) ∈ lw_tbl := lt_p 38 rfl
theorem mx_R_copyMember : ((ym y_R_copyMember).cls ≠ "java/lang/invoke/MethodHandle" ∧ (ym y_R_copyMember).cls ≠ "java/lang/invoke/VarHandle") ∧ (parseMethodDescriptor (ym y_R_copyMember).desc).map (fun d => d.parameters.length) = some 1 := by decide +kernel
theorem mw_R_copyKept : xMet y_R_copyKept := ⟨lt_4 188 rfl, lt_1 9 rfl⟩
theorem mi_R_copyKept : Cond.instanceMethod (ym y_R_copyKept) ∈ lw_tbl := lt_4 187 rfl
theorem ms_R_copyKept : Cond.selects "ShakenTreeModel" (ym y_R_copyKept) (ym y_R_copyKept) ∈ lw_tbl := lt_p 36 rfl
theorem mx_R_copyKept : ((ym y_R_copyKept).cls ≠ "java/lang/invoke/MethodHandle" ∧ (ym y_R_copyKept).cls ≠ "java/lang/invoke/VarHandle") ∧ (parseMethodDescriptor (ym y_R_copyKept).desc).map (fun d => d.parameters.length) = some 0 := by decide +kernel
theorem mw_R_shake : xMet y_R_shake := ⟨lt_4 161 rfl, lt_1 9 rfl⟩
theorem mi_R_shake : Cond.instanceMethod (ym y_R_shake) ∈ lw_tbl := lt_4 159 rfl
theorem ms_R_shake : Cond.selects "ShakenTreeModel" (ym y_R_shake) (ym y_R_shake) ∈ lw_tbl := lt_4 160 rfl
theorem mx_R_shake : ((ym y_R_shake).cls ≠ "java/lang/invoke/MethodHandle" ∧ (ym y_R_shake).cls ≠ "java/lang/invoke/VarHandle") ∧ (parseMethodDescriptor (ym y_R_shake).desc).map (fun d => d.parameters.length) = some 0 := by decide +kernel
theorem mw_R_count : xMet y_R_count := ⟨lt_4 200 rfl, lt_1 9 rfl⟩
theorem mi_R_count : Cond.instanceMethod (ym y_R_count) ∈ lw_tbl := lt_4 198 rfl
theorem ms_R_count : Cond.selects "ShakenTreeModel" (ym y_R_count) (ym y_R_count) ∈ lw_tbl := lt_4 199 rfl
theorem mx_R_count : ((ym y_R_count).cls ≠ "java/lang/invoke/MethodHandle" ∧ (ym y_R_count).cls ≠ "java/lang/invoke/VarHandle") ∧ (parseMethodDescriptor (ym y_R_count).desc).map (fun d => d.parameters.length) = some 2 := by decide +kernel
theorem mw_R_pool : xMet y_R_pool := ⟨lt_4 204 rfl, lt_1 9 rfl⟩
theorem mi_R_pool : Cond.instanceMethod (ym y_R_pool) ∈ lw_tbl := lt_4 202 rfl
theorem ms_R_pool : Cond.selects "ShakenTreeModel" (ym y_R_pool) (ym y_R_pool) ∈ lw_tbl := lt_4 203 rfl
theorem mx_R_pool : ((ym y_R_pool).cls ≠ "java/lang/invoke/MethodHandle" ∧ (ym y_R_pool).cls ≠ "java/lang/invoke/VarHandle") ∧ (parseMethodDescriptor (ym y_R_pool).desc).map (fun d => d.parameters.length) = some 2 := by decide +kernel
theorem mw_R_constantAt : xMet y_R_constantAt := ⟨lt_4 208 rfl, lt_1 9 rfl⟩
theorem mi_R_constantAt : Cond.instanceMethod (ym y_R_constantAt) ∈ lw_tbl := lt_4 206 rfl
theorem ms_R_constantAt : Cond.selects "ShakenTreeModel" (ym y_R_constantAt) (ym y_R_constantAt) ∈ lw_tbl := lt_4 207 rfl
theorem mx_R_constantAt : ((ym y_R_constantAt).cls ≠ "java/lang/invoke/MethodHandle" ∧ (ym y_R_constantAt).cls ≠ "java/lang/invoke/VarHandle") ∧ (parseMethodDescriptor (ym y_R_constantAt).desc).map (fun d => d.parameters.length) = some 4 := by decide +kernel
theorem mw_R_memberAt : xMet y_R_memberAt := ⟨lt_4 212 rfl, lt_1 9 rfl⟩
theorem mi_R_memberAt : Cond.instanceMethod (ym y_R_memberAt) ∈ lw_tbl := lt_4 210 rfl
theorem ms_R_memberAt : Cond.selects "ShakenTreeModel" (ym y_R_memberAt) (ym y_R_memberAt) ∈ lw_tbl := lt_4 211 rfl
theorem mx_R_memberAt : ((ym y_R_memberAt).cls ≠ "java/lang/invoke/MethodHandle" ∧ (ym y_R_memberAt).cls ≠ "java/lang/invoke/VarHandle") ∧ (parseMethodDescriptor (ym y_R_memberAt).desc).map (fun d => d.parameters.length) = some 3 := by decide +kernel
theorem mw_R_codeAt : xMet y_R_codeAt := ⟨lt_4 216 rfl, lt_1 9 rfl⟩
theorem mi_R_codeAt : Cond.instanceMethod (ym y_R_codeAt) ∈ lw_tbl := lt_4 214 rfl
theorem ms_R_codeAt : Cond.selects "ShakenTreeModel" (ym y_R_codeAt) (ym y_R_codeAt) ∈ lw_tbl := lt_4 215 rfl
theorem mx_R_codeAt : ((ym y_R_codeAt).cls ≠ "java/lang/invoke/MethodHandle" ∧ (ym y_R_codeAt).cls ≠ "java/lang/invoke/VarHandle") ∧ (parseMethodDescriptor (ym y_R_codeAt).desc).map (fun d => d.parameters.length) = some 3 := by decide +kernel
theorem mw_R_moved : xMet y_R_moved := ⟨lt_4 220 rfl, lt_1 9 rfl⟩
theorem mi_R_moved : Cond.instanceMethod (ym y_R_moved) ∈ lw_tbl := lt_4 218 rfl
theorem ms_R_moved : Cond.selects "ShakenTreeModel" (ym y_R_moved) (ym y_R_moved) ∈ lw_tbl := lt_4 219 rfl
theorem mx_R_moved : ((ym y_R_moved).cls ≠ "java/lang/invoke/MethodHandle" ∧ (ym y_R_moved).cls ≠ "java/lang/invoke/VarHandle") ∧ (parseMethodDescriptor (ym y_R_moved).desc).map (fun d => d.parameters.length) = some 1 := by decide +kernel
theorem mw_R_begin : xMet y_R_begin := ⟨lt_4 228 rfl, lt_1 9 rfl⟩
theorem mi_R_begin : Cond.instanceMethod (ym y_R_begin) ∈ lw_tbl := lt_4 227 rfl
theorem ms_R_begin : Cond.selects "ShakenTreeModel" (ym y_R_begin) (ym y_R_begin) ∈ lw_tbl := lt_p 39 rfl
theorem mx_R_begin : ((ym y_R_begin).cls ≠ "java/lang/invoke/MethodHandle" ∧ (ym y_R_begin).cls ≠ "java/lang/invoke/VarHandle") ∧ (parseMethodDescriptor (ym y_R_begin).desc).map (fun d => d.parameters.length) = some 3 := by decide +kernel
theorem mw_R_push : xMet y_R_push := ⟨lt_4 236 rfl, lt_1 9 rfl⟩
theorem mi_R_push : Cond.instanceMethod (ym y_R_push) ∈ lw_tbl := lt_4 235 rfl
theorem ms_R_push : Cond.selects "ShakenTreeModel" (ym y_R_push) (ym y_R_push) ∈ lw_tbl := lt_p 41 rfl
theorem mx_R_push : ((ym y_R_push).cls ≠ "java/lang/invoke/MethodHandle" ∧ (ym y_R_push).cls ≠ "java/lang/invoke/VarHandle") ∧ (parseMethodDescriptor (ym y_R_push).desc).map (fun d => d.parameters.length) = some 1 := by decide +kernel
theorem mw_R_pop : xMet y_R_pop := ⟨lt_5 0 rfl, lt_1 9 rfl⟩
theorem mi_R_pop : Cond.instanceMethod (ym y_R_pop) ∈ lw_tbl := lt_4 239 rfl
theorem ms_R_pop : Cond.selects "ShakenTreeModel" (ym y_R_pop) (ym y_R_pop) ∈ lw_tbl := lt_p 42 rfl
theorem mx_R_pop : ((ym y_R_pop).cls ≠ "java/lang/invoke/MethodHandle" ∧ (ym y_R_pop).cls ≠ "java/lang/invoke/VarHandle") ∧ (parseMethodDescriptor (ym y_R_pop).desc).map (fun d => d.parameters.length) = some 0 := by decide +kernel
theorem mw_R_call : xMet y_R_call := ⟨lt_5 4 rfl, lt_1 9 rfl⟩
theorem mi_R_call : Cond.instanceMethod (ym y_R_call) ∈ lw_tbl := lt_5 3 rfl
theorem ms_R_call : Cond.selects "ShakenTreeModel" (ym y_R_call) (ym y_R_call) ∈ lw_tbl := lt_p 43 rfl
theorem mx_R_call : ((ym y_R_call).cls ≠ "java/lang/invoke/MethodHandle" ∧ (ym y_R_call).cls ≠ "java/lang/invoke/VarHandle") ∧ (parseMethodDescriptor (ym y_R_call).desc).map (fun d => d.parameters.length) = some 2 := by decide +kernel
theorem mw_R_arithmetic : xMet y_R_arithmetic := ⟨lt_5 8 rfl, lt_1 9 rfl⟩
theorem mi_R_arithmetic : Cond.instanceMethod (ym y_R_arithmetic) ∈ lw_tbl := lt_5 7 rfl
theorem ms_R_arithmetic : Cond.selects "ShakenTreeModel" (ym y_R_arithmetic) (ym y_R_arithmetic) ∈ lw_tbl := lt_p 44 rfl
theorem mx_R_arithmetic : ((ym y_R_arithmetic).cls ≠ "java/lang/invoke/MethodHandle" ∧ (ym y_R_arithmetic).cls ≠ "java/lang/invoke/VarHandle") ∧ (parseMethodDescriptor (ym y_R_arithmetic).desc).map (fun d => d.parameters.length) = some 1 := by decide +kernel
theorem mw_R_step : xMet y_R_step := ⟨lt_4 232 rfl, lt_1 9 rfl⟩
theorem mi_R_step : Cond.instanceMethod (ym y_R_step) ∈ lw_tbl := lt_4 231 rfl
theorem ms_R_step : Cond.selects "ShakenTreeModel" (ym y_R_step) (ym y_R_step) ∈ lw_tbl := lt_p 40 rfl
theorem mx_R_step : ((ym y_R_step).cls ≠ "java/lang/invoke/MethodHandle" ∧ (ym y_R_step).cls ≠ "java/lang/invoke/VarHandle") ∧ (parseMethodDescriptor (ym y_R_step).desc).map (fun d => d.parameters.length) = some 1 := by decide +kernel
theorem mw_R_run : xMet y_R_run := ⟨lt_4 224 rfl, lt_1 9 rfl⟩
theorem mi_R_run : Cond.instanceMethod (ym y_R_run) ∈ lw_tbl := lt_4 222 rfl
theorem ms_R_run : Cond.selects "ShakenTreeModel" (ym y_R_run) (ym y_R_run) ∈ lw_tbl := lt_4 223 rfl
theorem mx_R_run : ((ym y_R_run).cls ≠ "java/lang/invoke/MethodHandle" ∧ (ym y_R_run).cls ≠ "java/lang/invoke/VarHandle") ∧ (parseMethodDescriptor (ym y_R_run).desc).map (fun d => d.parameters.length) = some 4 := by decide +kernel
