/-! THE WORDS of the texts' methods, and their code -/
theorem sw_coder : sW yJ0_coder_7d493 cJ0_coder_7d493 1 (some .byte) 0 := ⟨mGi_1 180 rfl rfl, mGi_1 7 rfl rfl, by decide +kernel, by decide +kernel, by decide +kernel⟩
theorem si_coder : Cond.instanceMethod yJ0_coder_7d493 ∈ mGt := mGi_1 178 rfl rfl
theorem se_coder : Cond.selects yJ0_coder_7d493.cls yJ0_coder_7d493 yJ0_coder_7d493 ∈ mGt := mGi_1 179 rfl rfl
theorem sp_coder : plainName yJ0_coder_7d493.cls = true := by decide +kernel
theorem sd_coder_0 : decode cJ0_coder_7d493 0 = .ok (.getstatic 38, 3) := by decide +kernel
theorem sd_coder_3 : decode cJ0_coder_7d493 3 = .ok (.ifCond .eq 10, 3) := by decide +kernel
theorem sd_coder_6 : decode cJ0_coder_7d493 6 = .ok (.aload_n 0, 1) := by decide +kernel
theorem sd_coder_7 : decode cJ0_coder_7d493 7 = .ok (.getfield 15, 3) := by decide +kernel
theorem sd_coder_10 : decode cJ0_coder_7d493 10 = .ok (.goto 4, 3) := by decide +kernel
theorem sd_coder_14 : decode cJ0_coder_7d493 14 = .ok (.ireturn, 1) := by decide +kernel
theorem sw_latin : sW yJ0_isLatin1_aae02 cJ0_isLatin1_aae02 1 (some .boolean) 0 := ⟨mGi_1 190 rfl rfl, mGi_1 7 rfl rfl, by decide +kernel, by decide +kernel, by decide +kernel⟩
theorem si_latin : Cond.instanceMethod yJ0_isLatin1_aae02 ∈ mGt := mGi_1 188 rfl rfl
theorem se_latin : Cond.selects yJ0_isLatin1_aae02.cls yJ0_isLatin1_aae02 yJ0_isLatin1_aae02 ∈ mGt := mGi_1 189 rfl rfl
theorem sp_latin : plainName yJ0_isLatin1_aae02.cls = true := by decide +kernel
theorem sd_latin_0 : decode cJ0_isLatin1_aae02 0 = .ok (.getstatic 38, 3) := by decide +kernel
theorem sd_latin_3 : decode cJ0_isLatin1_aae02 3 = .ok (.ifCond .eq 14, 3) := by decide +kernel
theorem sd_latin_6 : decode cJ0_isLatin1_aae02 6 = .ok (.aload_n 0, 1) := by decide +kernel
theorem sd_latin_7 : decode cJ0_isLatin1_aae02 7 = .ok (.getfield 15, 3) := by decide +kernel
theorem sd_latin_10 : decode cJ0_isLatin1_aae02 10 = .ok (.ifCond .ne 7, 3) := by decide +kernel
theorem sd_latin_13 : decode cJ0_isLatin1_aae02 13 = .ok (.iconst 1, 1) := by decide +kernel
theorem sd_latin_14 : decode cJ0_isLatin1_aae02 14 = .ok (.goto 4, 3) := by decide +kernel
theorem sd_latin_18 : decode cJ0_isLatin1_aae02 18 = .ok (.ireturn, 1) := by decide +kernel
theorem sw_len : sW yJ0_length_8abf5 cJ0_length_8abf5 1 (some .int) 0 := ⟨mGi_1 176 rfl rfl, mGi_1 7 rfl rfl, by decide +kernel, by decide +kernel, by decide +kernel⟩
theorem si_len : Cond.instanceMethod yJ0_length_8abf5 ∈ mGt := mGi_1 174 rfl rfl
theorem se_len : Cond.selects yJ0_length_8abf5.cls yJ0_length_8abf5 yJ0_length_8abf5 ∈ mGt := mGi_1 175 rfl rfl
theorem sp_len : plainName yJ0_length_8abf5.cls = true := by decide +kernel
theorem sd_len_0 : decode cJ0_length_8abf5 0 = .ok (.aload_n 0, 1) := by decide +kernel
theorem sd_len_1 : decode cJ0_length_8abf5 1 = .ok (.getfield 9, 3) := by decide +kernel
theorem sd_len_4 : decode cJ0_length_8abf5 4 = .ok (.arraylength, 1) := by decide +kernel
theorem sd_len_5 : decode cJ0_length_8abf5 5 = .ok (.aload_n 0, 1) := by decide +kernel
theorem sd_len_6 : decode cJ0_length_8abf5 6 = .ok (.invokevirtual 335, 3) := by decide +kernel
theorem sd_len_9 : decode cJ0_length_8abf5 9 = .ok (.ishr, 1) := by decide +kernel
theorem sd_len_10 : decode cJ0_length_8abf5 10 = .ok (.ireturn, 1) := by decide +kernel
theorem sw_pchk : sW yJ3_checkIndex_8e157 cJ3_checkIndex_8e157 3 (some .int) 3 := ⟨mGi_1 201 rfl rfl, mGi_1 9 rfl rfl, by decide +kernel, by decide +kernel, by decide +kernel⟩
theorem st_pchk : Cond.static yJ3_checkIndex_8e157 ∈ mGt := mGi_1 200 rfl rfl
theorem sp_pchk : plainName yJ3_checkIndex_8e157.cls = true := by decide +kernel
theorem sd_pchk_0 : decode cJ3_checkIndex_8e157 0 = .ok (.iload_n 0, 1) := by decide +kernel
theorem sd_pchk_1 : decode cJ3_checkIndex_8e157 1 = .ok (.ifCond .lt 8, 3) := by decide +kernel
theorem sd_pchk_4 : decode cJ3_checkIndex_8e157 4 = .ok (.iload_n 0, 1) := by decide +kernel
theorem sd_pchk_5 : decode cJ3_checkIndex_8e157 5 = .ok (.iload_n 1, 1) := by decide +kernel
theorem sd_pchk_6 : decode cJ3_checkIndex_8e157 6 = .ok (.if_icmp .lt 10, 3) := by decide +kernel
theorem sd_pchk_16 : decode cJ3_checkIndex_8e157 16 = .ok (.iload_n 0, 1) := by decide +kernel
theorem sd_pchk_17 : decode cJ3_checkIndex_8e157 17 = .ok (.ireturn, 1) := by decide +kernel
theorem sw_chk : sW yJ0_checkIndex_df160 cJ0_checkIndex_df160 2 none 2 := ⟨mGi_1 196 rfl rfl, mGi_1 7 rfl rfl, by decide +kernel, by decide +kernel, by decide +kernel⟩
theorem st_chk : Cond.static yJ0_checkIndex_df160 ∈ mGt := mGi_1 195 rfl rfl
theorem sp_chk : plainName yJ0_checkIndex_df160.cls = true := by decide +kernel
theorem sd_chk_0 : decode cJ0_checkIndex_df160 0 = .ok (.iload_n 0, 1) := by decide +kernel
theorem sd_chk_1 : decode cJ0_checkIndex_df160 1 = .ok (.iload_n 1, 1) := by decide +kernel
theorem sd_chk_2 : decode cJ0_checkIndex_df160 2 = .ok (.getstatic 1053, 3) := by decide +kernel
theorem sd_chk_5 : decode cJ0_checkIndex_df160 5 = .ok (.invokestatic 1059, 3) := by decide +kernel
theorem sd_chk_8 : decode cJ0_checkIndex_df160 8 = .ok (.pop, 1) := by decide +kernel
theorem sd_chk_9 : decode cJ0_checkIndex_df160 9 = .ok (.return_, 1) := by decide +kernel
theorem sw_lchar : sW yJ1_charAt_3b067 cJ1_charAt_3b067 2 (some .char) 2 := ⟨mGi_1 193 rfl rfl, mGi_1 8 rfl rfl, by decide +kernel, by decide +kernel, by decide +kernel⟩
theorem st_lchar : Cond.static yJ1_charAt_3b067 ∈ mGt := mGi_1 192 rfl rfl
theorem sp_lchar : plainName yJ1_charAt_3b067.cls = true := by decide +kernel
theorem sd_lchar_0 : decode cJ1_charAt_3b067 0 = .ok (.iload_n 1, 1) := by decide +kernel
theorem sd_lchar_1 : decode cJ1_charAt_3b067 1 = .ok (.aload_n 0, 1) := by decide +kernel
theorem sd_lchar_2 : decode cJ1_charAt_3b067 2 = .ok (.arraylength, 1) := by decide +kernel
theorem sd_lchar_3 : decode cJ1_charAt_3b067 3 = .ok (.invokestatic 9, 3) := by decide +kernel
theorem sd_lchar_6 : decode cJ1_charAt_3b067 6 = .ok (.aload_n 0, 1) := by decide +kernel
theorem sd_lchar_7 : decode cJ1_charAt_3b067 7 = .ok (.iload_n 1, 1) := by decide +kernel
theorem sd_lchar_8 : decode cJ1_charAt_3b067 8 = .ok (.baload, 1) := by decide +kernel
theorem sd_lchar_9 : decode cJ1_charAt_3b067 9 = .ok (.sipush 255, 3) := by decide +kernel
theorem sd_lchar_12 : decode cJ1_charAt_3b067 12 = .ok (.iand, 1) := by decide +kernel
theorem sd_lchar_13 : decode cJ1_charAt_3b067 13 = .ok (.i2c, 1) := by decide +kernel
theorem sd_lchar_14 : decode cJ1_charAt_3b067 14 = .ok (.ireturn, 1) := by decide +kernel
theorem sw_char : sW yJ0_charAt_5068e cJ0_charAt_5068e 2 (some .char) 1 := ⟨mGi_1 186 rfl rfl, mGi_1 7 rfl rfl, by decide +kernel, by decide +kernel, by decide +kernel⟩
theorem si_char : Cond.instanceMethod yJ0_charAt_5068e ∈ mGt := mGi_1 184 rfl rfl
theorem se_char : Cond.selects yJ0_charAt_5068e.cls yJ0_charAt_5068e yJ0_charAt_5068e ∈ mGt := mGi_1 185 rfl rfl
theorem sp_char : plainName yJ0_charAt_5068e.cls = true := by decide +kernel
theorem sd_char_0 : decode cJ0_charAt_5068e 0 = .ok (.aload_n 0, 1) := by decide +kernel
theorem sd_char_1 : decode cJ0_charAt_5068e 1 = .ok (.invokevirtual 492, 3) := by decide +kernel
theorem sd_char_4 : decode cJ0_charAt_5068e 4 = .ok (.ifCond .eq 12, 3) := by decide +kernel
theorem sd_char_7 : decode cJ0_charAt_5068e 7 = .ok (.aload_n 0, 1) := by decide +kernel
theorem sd_char_8 : decode cJ0_charAt_5068e 8 = .ok (.getfield 9, 3) := by decide +kernel
theorem sd_char_11 : decode cJ0_charAt_5068e 11 = .ok (.iload_n 1, 1) := by decide +kernel
theorem sd_char_12 : decode cJ0_charAt_5068e 12 = .ok (.invokestatic 495, 3) := by decide +kernel
theorem sd_char_15 : decode cJ0_charAt_5068e 15 = .ok (.ireturn, 1) := by decide +kernel
theorem sw_can : sW yJ1_canEncode_9a6ad cJ1_canEncode_9a6ad 1 (some .boolean) 1 := ⟨mGi_3 90 rfl rfl, mGi_1 8 rfl rfl, by decide +kernel, by decide +kernel, by decide +kernel⟩
theorem st_can : Cond.static yJ1_canEncode_9a6ad ∈ mGt := mGi_3 89 rfl rfl
theorem sp_can : plainName yJ1_canEncode_9a6ad.cls = true := by decide +kernel
theorem sd_can_0 : decode cJ1_canEncode_9a6ad 0 = .ok (.iload_n 0, 1) := by decide +kernel
theorem sd_can_1 : decode cJ1_canEncode_9a6ad 1 = .ok (.ifCond .lt 14, 3) := by decide +kernel
theorem sd_can_4 : decode cJ1_canEncode_9a6ad 4 = .ok (.iload_n 0, 1) := by decide +kernel
theorem sd_can_5 : decode cJ1_canEncode_9a6ad 5 = .ok (.sipush 255, 3) := by decide +kernel
theorem sd_can_8 : decode cJ1_canEncode_9a6ad 8 = .ok (.if_icmp .gt 7, 3) := by decide +kernel
theorem sd_can_11 : decode cJ1_canEncode_9a6ad 11 = .ok (.iconst 1, 1) := by decide +kernel
theorem sd_can_12 : decode cJ1_canEncode_9a6ad 12 = .ok (.goto 4, 3) := by decide +kernel
theorem sd_can_16 : decode cJ1_canEncode_9a6ad 16 = .ok (.ireturn, 1) := by decide +kernel
theorem sw_lidc : sW yJ1_indexOfChar_4cfef cJ1_indexOfChar_4cfef 6 (some .int) 4 := ⟨mGi_3 97 rfl rfl, mGi_1 8 rfl rfl, by decide +kernel, by decide +kernel, by decide +kernel⟩
theorem st_lidc : Cond.static yJ1_indexOfChar_4cfef ∈ mGt := mGi_3 96 rfl rfl
theorem sp_lidc : plainName yJ1_indexOfChar_4cfef.cls = true := by decide +kernel
theorem sd_lidc_0 : decode cJ1_indexOfChar_4cfef 0 = .ok (.iload_n 1, 1) := by decide +kernel
theorem sd_lidc_1 : decode cJ1_indexOfChar_4cfef 1 = .ok (.i2b, 1) := by decide +kernel
theorem sd_lidc_2 : decode cJ1_indexOfChar_4cfef 2 = .ok (.istore 4, 2) := by decide +kernel
theorem sd_lidc_4 : decode cJ1_indexOfChar_4cfef 4 = .ok (.iload_n 2, 1) := by decide +kernel
theorem sd_lidc_5 : decode cJ1_indexOfChar_4cfef 5 = .ok (.istore 5, 2) := by decide +kernel
theorem sd_lidc_7 : decode cJ1_indexOfChar_4cfef 7 = .ok (.iload 5, 2) := by decide +kernel
theorem sd_lidc_9 : decode cJ1_indexOfChar_4cfef 9 = .ok (.iload_n 3, 1) := by decide +kernel
theorem sd_lidc_10 : decode cJ1_indexOfChar_4cfef 10 = .ok (.if_icmp .ge 21, 3) := by decide +kernel
theorem sd_lidc_13 : decode cJ1_indexOfChar_4cfef 13 = .ok (.aload_n 0, 1) := by decide +kernel
theorem sd_lidc_14 : decode cJ1_indexOfChar_4cfef 14 = .ok (.iload 5, 2) := by decide +kernel
theorem sd_lidc_16 : decode cJ1_indexOfChar_4cfef 16 = .ok (.baload, 1) := by decide +kernel
theorem sd_lidc_17 : decode cJ1_indexOfChar_4cfef 17 = .ok (.iload 4, 2) := by decide +kernel
theorem sd_lidc_19 : decode cJ1_indexOfChar_4cfef 19 = .ok (.if_icmp .ne 6, 3) := by decide +kernel
theorem sd_lidc_22 : decode cJ1_indexOfChar_4cfef 22 = .ok (.iload 5, 2) := by decide +kernel
theorem sd_lidc_24 : decode cJ1_indexOfChar_4cfef 24 = .ok (.ireturn, 1) := by decide +kernel
theorem sd_lidc_25 : decode cJ1_indexOfChar_4cfef 25 = .ok (.iinc 5 1, 3) := by decide +kernel
theorem sd_lidc_28 : decode cJ1_indexOfChar_4cfef 28 = .ok (.goto (-21), 3) := by decide +kernel
theorem sd_lidc_31 : decode cJ1_indexOfChar_4cfef 31 = .ok (.iconst (-1), 1) := by decide +kernel
theorem sd_lidc_32 : decode cJ1_indexOfChar_4cfef 32 = .ok (.ireturn, 1) := by decide +kernel
theorem sw_lidx : sW yJ1_indexOf_4cfef cJ1_indexOf_4cfef 4 (some .int) 4 := ⟨mGi_3 87 rfl rfl, mGi_1 8 rfl rfl, by decide +kernel, by decide +kernel, by decide +kernel⟩
theorem st_lidx : Cond.static yJ1_indexOf_4cfef ∈ mGt := mGi_3 86 rfl rfl
theorem sp_lidx : plainName yJ1_indexOf_4cfef.cls = true := by decide +kernel
theorem sd_lidx_0 : decode cJ1_indexOf_4cfef 0 = .ok (.iload_n 1, 1) := by decide +kernel
theorem sd_lidx_1 : decode cJ1_indexOf_4cfef 1 = .ok (.invokestatic 88, 3) := by decide +kernel
theorem sd_lidx_4 : decode cJ1_indexOf_4cfef 4 = .ok (.ifCond .ne 5, 3) := by decide +kernel
theorem sd_lidx_9 : decode cJ1_indexOf_4cfef 9 = .ok (.iload_n 2, 1) := by decide +kernel
theorem sd_lidx_10 : decode cJ1_indexOf_4cfef 10 = .ok (.iconst 0, 1) := by decide +kernel
theorem sd_lidx_11 : decode cJ1_indexOf_4cfef 11 = .ok (.invokestatic 92, 3) := by decide +kernel
theorem sd_lidx_14 : decode cJ1_indexOf_4cfef 14 = .ok (.istore_n 2, 1) := by decide +kernel
theorem sd_lidx_15 : decode cJ1_indexOf_4cfef 15 = .ok (.iload_n 3, 1) := by decide +kernel
theorem sd_lidx_16 : decode cJ1_indexOf_4cfef 16 = .ok (.aload_n 0, 1) := by decide +kernel
theorem sd_lidx_17 : decode cJ1_indexOf_4cfef 17 = .ok (.arraylength, 1) := by decide +kernel
theorem sd_lidx_18 : decode cJ1_indexOf_4cfef 18 = .ok (.invokestatic 38, 3) := by decide +kernel
theorem sd_lidx_21 : decode cJ1_indexOf_4cfef 21 = .ok (.istore_n 3, 1) := by decide +kernel
theorem sd_lidx_22 : decode cJ1_indexOf_4cfef 22 = .ok (.iload_n 2, 1) := by decide +kernel
theorem sd_lidx_23 : decode cJ1_indexOf_4cfef 23 = .ok (.iload_n 3, 1) := by decide +kernel
theorem sd_lidx_24 : decode cJ1_indexOf_4cfef 24 = .ok (.if_icmp .lt 5, 3) := by decide +kernel
theorem sd_lidx_29 : decode cJ1_indexOf_4cfef 29 = .ok (.aload_n 0, 1) := by decide +kernel
theorem sd_lidx_30 : decode cJ1_indexOf_4cfef 30 = .ok (.iload_n 1, 1) := by decide +kernel
theorem sd_lidx_31 : decode cJ1_indexOf_4cfef 31 = .ok (.iload_n 2, 1) := by decide +kernel
theorem sd_lidx_32 : decode cJ1_indexOf_4cfef 32 = .ok (.iload_n 3, 1) := by decide +kernel
theorem sd_lidx_33 : decode cJ1_indexOf_4cfef 33 = .ok (.invokestatic 95, 3) := by decide +kernel
theorem sd_lidx_36 : decode cJ1_indexOf_4cfef 36 = .ok (.ireturn, 1) := by decide +kernel
theorem sw_idx2 : sW yJ0_indexOf_7cf53 cJ0_indexOf_7cf53 3 (some .int) 2 := ⟨mGi_3 83 rfl rfl, mGi_1 7 rfl rfl, by decide +kernel, by decide +kernel, by decide +kernel⟩
theorem si_idx2 : Cond.instanceMethod yJ0_indexOf_7cf53 ∈ mGt := mGi_3 81 rfl rfl
theorem se_idx2 : Cond.selects yJ0_indexOf_7cf53.cls yJ0_indexOf_7cf53 yJ0_indexOf_7cf53 ∈ mGt := mGi_3 82 rfl rfl
theorem sp_idx2 : plainName yJ0_indexOf_7cf53.cls = true := by decide +kernel
theorem sd_idx2_0 : decode cJ0_indexOf_7cf53 0 = .ok (.aload_n 0, 1) := by decide +kernel
theorem sd_idx2_1 : decode cJ0_indexOf_7cf53 1 = .ok (.invokevirtual 492, 3) := by decide +kernel
theorem sd_idx2_4 : decode cJ0_indexOf_7cf53 4 = .ok (.ifCond .eq 19, 3) := by decide +kernel
theorem sd_idx2_7 : decode cJ0_indexOf_7cf53 7 = .ok (.aload_n 0, 1) := by decide +kernel
theorem sd_idx2_8 : decode cJ0_indexOf_7cf53 8 = .ok (.getfield 9, 3) := by decide +kernel
theorem sd_idx2_11 : decode cJ0_indexOf_7cf53 11 = .ok (.iload_n 1, 1) := by decide +kernel
theorem sd_idx2_12 : decode cJ0_indexOf_7cf53 12 = .ok (.iload_n 2, 1) := by decide +kernel
theorem sd_idx2_13 : decode cJ0_indexOf_7cf53 13 = .ok (.aload_n 0, 1) := by decide +kernel
theorem sd_idx2_14 : decode cJ0_indexOf_7cf53 14 = .ok (.invokevirtual 505, 3) := by decide +kernel
theorem sd_idx2_17 : decode cJ0_indexOf_7cf53 17 = .ok (.invokestatic 637, 3) := by decide +kernel
theorem sd_idx2_20 : decode cJ0_indexOf_7cf53 20 = .ok (.goto 16, 3) := by decide +kernel
theorem sd_idx2_36 : decode cJ0_indexOf_7cf53 36 = .ok (.ireturn, 1) := by decide +kernel
theorem sw_idx : sW yJ0_indexOf_0f7a4 cJ0_indexOf_0f7a4 2 (some .int) 1 := ⟨mGi_3 79 rfl rfl, mGi_1 7 rfl rfl, by decide +kernel, by decide +kernel, by decide +kernel⟩
theorem si_idx : Cond.instanceMethod yJ0_indexOf_0f7a4 ∈ mGt := mGi_3 77 rfl rfl
theorem se_idx : Cond.selects yJ0_indexOf_0f7a4.cls yJ0_indexOf_0f7a4 yJ0_indexOf_0f7a4 ∈ mGt := mGi_3 78 rfl rfl
theorem sp_idx : plainName yJ0_indexOf_0f7a4.cls = true := by decide +kernel
theorem sd_idx_0 : decode cJ0_indexOf_0f7a4 0 = .ok (.aload_n 0, 1) := by decide +kernel
theorem sd_idx_1 : decode cJ0_indexOf_0f7a4 1 = .ok (.iload_n 1, 1) := by decide +kernel
theorem sd_idx_2 : decode cJ0_indexOf_0f7a4 2 = .ok (.iconst 0, 1) := by decide +kernel
theorem sd_idx_3 : decode cJ0_indexOf_0f7a4 3 = .ok (.invokevirtual 633, 3) := by decide +kernel
theorem sd_idx_6 : decode cJ0_indexOf_0f7a4 6 = .ok (.ireturn, 1) := by decide +kernel
theorem sl_335 : Cond.methodLink "java/lang/String" 335 yJ0_coder_7d493 ∈ mGt := mGi_1 177 rfl rfl
theorem sl_492 : Cond.methodLink "java/lang/String" 492 yJ0_isLatin1_aae02 ∈ mGt := mGi_1 187 rfl rfl
theorem sl_495 : Cond.methodLink "java/lang/String" 495 yJ1_charAt_3b067 ∈ mGt := mGi_1 191 rfl rfl
theorem sl_9 : Cond.methodLink "java/lang/StringLatin1" 9 yJ0_checkIndex_df160 ∈ mGt := mGi_1 194 rfl rfl
theorem sl_1059 : Cond.methodLink "java/lang/String" 1059 yJ3_checkIndex_8e157 ∈ mGt := mGi_1 199 rfl rfl
theorem sl_505 : Cond.methodLink "java/lang/String" 505 yJ0_length_8abf5 ∈ mGt := mGi_3 84 rfl rfl
theorem sl_633 : Cond.methodLink "java/lang/String" 633 yJ0_indexOf_7cf53 ∈ mGt := mGi_3 80 rfl rfl
theorem sl_637 : Cond.methodLink "java/lang/String" 637 yJ1_indexOf_4cfef ∈ mGt := mGi_3 85 rfl rfl
theorem sl_88 : Cond.methodLink "java/lang/StringLatin1" 88 yJ1_canEncode_9a6ad ∈ mGt := mGi_3 88 rfl rfl
theorem sl_92 : Cond.methodLink "java/lang/StringLatin1" 92 Lib.Math.max.name ∈ mGt := mGi_3 91 rfl rfl
theorem sl_38 : Cond.methodLink "java/lang/StringLatin1" 38 Lib.Math.min.name ∈ mGt := mGi_3 92 rfl rfl
theorem sl_95 : Cond.methodLink "java/lang/StringLatin1" 95 yJ1_indexOfChar_4cfef ∈ mGt := mGi_3 95 rfl rfl
theorem sk_38 : Cond.fieldLink "java/lang/String" 38 "java/lang/String" "COMPACT_STRINGS" "Z" ∈ mGt := mGi_1 181 rfl rfl
theorem sk_15 : Cond.fieldLink "java/lang/String" 15 "java/lang/String" "coder" "B" ∈ mGt := mGi_9 37 rfl rfl
theorem sk_9 : Cond.fieldLink "java/lang/String" 9 "java/lang/String" "value" "[B" ∈ mGt := mGi_9 36 rfl rfl
theorem sk_1053 : Cond.fieldLink "java/lang/String" 1053 "jdk/internal/util/Preconditions" "SIOOBE_FORMATTER" "Ljava/util/function/BiFunction;" ∈ mGt := mGi_1 197 rfl rfl
