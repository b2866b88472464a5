/-! names: the strings' methods -/
def RJ9 : String := "java/lang/Math"
def RJ0 : String := "java/lang/String"
def RJ1 : String := "java/lang/StringLatin1"
def RJ3 : String := "jdk/internal/util/Preconditions"
abbrev cJ0_length_8abf5 : ByteArray := prog_18_method_54_code
def yJ0_length_8abf5 : MethodName := ⟨RJ0, "length", "()I"⟩
abbrev cJ0_coder_7d493 : ByteArray := prog_18_method_152_code
def yJ0_coder_7d493 : MethodName := ⟨RJ0, "coder", "()B"⟩
abbrev cJ0_isLatin1_aae02 : ByteArray := prog_18_method_154_code
def yJ0_isLatin1_aae02 : MethodName := ⟨RJ0, "isLatin1", "()Z"⟩
abbrev cJ0_charAt_5068e : ByteArray := prog_18_method_56_code
def yJ0_charAt_5068e : MethodName := ⟨RJ0, "charAt", "(I)C"⟩
abbrev cJ1_charAt_3b067 : ByteArray := prog_19_method_2_code
def yJ1_charAt_3b067 : MethodName := ⟨RJ1, "charAt", "([BI)C"⟩
abbrev cJ0_checkIndex_df160 : ByteArray := prog_18_method_155_code
def yJ0_checkIndex_df160 : MethodName := ⟨RJ0, "checkIndex", "(II)V"⟩
abbrev cJ3_checkIndex_8e157 : ByteArray := prog_26_method_11_code
def yJ3_checkIndex_8e157 : MethodName := ⟨RJ3, "checkIndex", "(IILjava/util/function/BiFunction;)I"⟩
abbrev cX6_isWord : ByteArray := prog_8_method_8_code
def yX6_isWord : MethodName := ⟨RX6, "isWord", "([IIILjava/lang/String;)Z"⟩
abbrev cX6_overKind : ByteArray := prog_8_method_7_code
def yX6_overKind : MethodName := ⟨RX6, "overKind", "([III)I"⟩
abbrev cX6_wordKind : ByteArray := prog_8_method_6_code
def yX6_wordKind : MethodName := ⟨RX6, "wordKind", "([III)I"⟩
theorem dJ0_length_8abf5_0 : decode cJ0_length_8abf5 0 = .ok (.aload_n 0, 1) := by decide +kernel
theorem dJ0_length_8abf5_1 : decode cJ0_length_8abf5 1 = .ok (.getfield 9, 3) := by decide +kernel
theorem dJ0_length_8abf5_4 : decode cJ0_length_8abf5 4 = .ok (.arraylength, 1) := by decide +kernel
theorem dJ0_length_8abf5_5 : decode cJ0_length_8abf5 5 = .ok (.aload_n 0, 1) := by decide +kernel
theorem dJ0_length_8abf5_6 : decode cJ0_length_8abf5 6 = .ok (.invokevirtual 335, 3) := by decide +kernel
theorem dJ0_length_8abf5_9 : decode cJ0_length_8abf5 9 = .ok (.ishr, 1) := by decide +kernel
theorem dJ0_length_8abf5_10 : decode cJ0_length_8abf5 10 = .ok (.ireturn, 1) := by decide +kernel
theorem dJ0_coder_7d493_0 : decode cJ0_coder_7d493 0 = .ok (.getstatic 38, 3) := by decide +kernel
theorem dJ0_coder_7d493_3 : decode cJ0_coder_7d493 3 = .ok (.ifCond .eq 10, 3) := by decide +kernel
theorem dJ0_coder_7d493_6 : decode cJ0_coder_7d493 6 = .ok (.aload_n 0, 1) := by decide +kernel
theorem dJ0_coder_7d493_7 : decode cJ0_coder_7d493 7 = .ok (.getfield 15, 3) := by decide +kernel
theorem dJ0_coder_7d493_10 : decode cJ0_coder_7d493 10 = .ok (.goto 4, 3) := by decide +kernel
theorem dJ0_coder_7d493_13 : decode cJ0_coder_7d493 13 = .ok (.iconst 1, 1) := by decide +kernel
theorem dJ0_coder_7d493_14 : decode cJ0_coder_7d493 14 = .ok (.ireturn, 1) := by decide +kernel
theorem dJ0_isLatin1_aae02_0 : decode cJ0_isLatin1_aae02 0 = .ok (.getstatic 38, 3) := by decide +kernel
theorem dJ0_isLatin1_aae02_3 : decode cJ0_isLatin1_aae02 3 = .ok (.ifCond .eq 14, 3) := by decide +kernel
theorem dJ0_isLatin1_aae02_6 : decode cJ0_isLatin1_aae02 6 = .ok (.aload_n 0, 1) := by decide +kernel
theorem dJ0_isLatin1_aae02_7 : decode cJ0_isLatin1_aae02 7 = .ok (.getfield 15, 3) := by decide +kernel
theorem dJ0_isLatin1_aae02_10 : decode cJ0_isLatin1_aae02 10 = .ok (.ifCond .ne 7, 3) := by decide +kernel
theorem dJ0_isLatin1_aae02_13 : decode cJ0_isLatin1_aae02 13 = .ok (.iconst 1, 1) := by decide +kernel
theorem dJ0_isLatin1_aae02_14 : decode cJ0_isLatin1_aae02 14 = .ok (.goto 4, 3) := by decide +kernel
theorem dJ0_isLatin1_aae02_17 : decode cJ0_isLatin1_aae02 17 = .ok (.iconst 0, 1) := by decide +kernel
theorem dJ0_isLatin1_aae02_18 : decode cJ0_isLatin1_aae02 18 = .ok (.ireturn, 1) := by decide +kernel
theorem dJ0_charAt_5068e_0 : decode cJ0_charAt_5068e 0 = .ok (.aload_n 0, 1) := by decide +kernel
theorem dJ0_charAt_5068e_1 : decode cJ0_charAt_5068e 1 = .ok (.invokevirtual 492, 3) := by decide +kernel
theorem dJ0_charAt_5068e_4 : decode cJ0_charAt_5068e 4 = .ok (.ifCond .eq 12, 3) := by decide +kernel
theorem dJ0_charAt_5068e_7 : decode cJ0_charAt_5068e 7 = .ok (.aload_n 0, 1) := by decide +kernel
theorem dJ0_charAt_5068e_8 : decode cJ0_charAt_5068e 8 = .ok (.getfield 9, 3) := by decide +kernel
theorem dJ0_charAt_5068e_11 : decode cJ0_charAt_5068e 11 = .ok (.iload_n 1, 1) := by decide +kernel
theorem dJ0_charAt_5068e_12 : decode cJ0_charAt_5068e 12 = .ok (.invokestatic 495, 3) := by decide +kernel
theorem dJ0_charAt_5068e_15 : decode cJ0_charAt_5068e 15 = .ok (.ireturn, 1) := by decide +kernel
theorem dJ0_charAt_5068e_16 : decode cJ0_charAt_5068e 16 = .ok (.aload_n 0, 1) := by decide +kernel
theorem dJ0_charAt_5068e_17 : decode cJ0_charAt_5068e 17 = .ok (.getfield 9, 3) := by decide +kernel
theorem dJ0_charAt_5068e_20 : decode cJ0_charAt_5068e 20 = .ok (.iload_n 1, 1) := by decide +kernel
theorem dJ0_charAt_5068e_21 : decode cJ0_charAt_5068e 21 = .ok (.invokestatic 498, 3) := by decide +kernel
theorem dJ0_charAt_5068e_24 : decode cJ0_charAt_5068e 24 = .ok (.ireturn, 1) := by decide +kernel
theorem dJ1_charAt_3b067_0 : decode cJ1_charAt_3b067 0 = .ok (.iload_n 1, 1) := by decide +kernel
theorem dJ1_charAt_3b067_1 : decode cJ1_charAt_3b067 1 = .ok (.aload_n 0, 1) := by decide +kernel
theorem dJ1_charAt_3b067_2 : decode cJ1_charAt_3b067 2 = .ok (.arraylength, 1) := by decide +kernel
theorem dJ1_charAt_3b067_3 : decode cJ1_charAt_3b067 3 = .ok (.invokestatic 9, 3) := by decide +kernel
theorem dJ1_charAt_3b067_6 : decode cJ1_charAt_3b067 6 = .ok (.aload_n 0, 1) := by decide +kernel
theorem dJ1_charAt_3b067_7 : decode cJ1_charAt_3b067 7 = .ok (.iload_n 1, 1) := by decide +kernel
theorem dJ1_charAt_3b067_8 : decode cJ1_charAt_3b067 8 = .ok (.baload, 1) := by decide +kernel
theorem dJ1_charAt_3b067_9 : decode cJ1_charAt_3b067 9 = .ok (.sipush 255, 3) := by decide +kernel
theorem dJ1_charAt_3b067_12 : decode cJ1_charAt_3b067 12 = .ok (.iand, 1) := by decide +kernel
theorem dJ1_charAt_3b067_13 : decode cJ1_charAt_3b067 13 = .ok (.i2c, 1) := by decide +kernel
theorem dJ1_charAt_3b067_14 : decode cJ1_charAt_3b067 14 = .ok (.ireturn, 1) := by decide +kernel
theorem dJ0_checkIndex_df160_0 : decode cJ0_checkIndex_df160 0 = .ok (.iload_n 0, 1) := by decide +kernel
theorem dJ0_checkIndex_df160_1 : decode cJ0_checkIndex_df160 1 = .ok (.iload_n 1, 1) := by decide +kernel
theorem dJ0_checkIndex_df160_2 : decode cJ0_checkIndex_df160 2 = .ok (.getstatic 1053, 3) := by decide +kernel
theorem dJ0_checkIndex_df160_5 : decode cJ0_checkIndex_df160 5 = .ok (.invokestatic 1059, 3) := by decide +kernel
theorem dJ0_checkIndex_df160_8 : decode cJ0_checkIndex_df160 8 = .ok (.pop, 1) := by decide +kernel
theorem dJ0_checkIndex_df160_9 : decode cJ0_checkIndex_df160 9 = .ok (.return_, 1) := by decide +kernel
theorem dJ3_checkIndex_8e157_0 : decode cJ3_checkIndex_8e157 0 = .ok (.iload_n 0, 1) := by decide +kernel
theorem dJ3_checkIndex_8e157_1 : decode cJ3_checkIndex_8e157 1 = .ok (.ifCond .lt 8, 3) := by decide +kernel
theorem dJ3_checkIndex_8e157_4 : decode cJ3_checkIndex_8e157 4 = .ok (.iload_n 0, 1) := by decide +kernel
theorem dJ3_checkIndex_8e157_5 : decode cJ3_checkIndex_8e157 5 = .ok (.iload_n 1, 1) := by decide +kernel
theorem dJ3_checkIndex_8e157_6 : decode cJ3_checkIndex_8e157 6 = .ok (.if_icmp .lt 10, 3) := by decide +kernel
theorem dJ3_checkIndex_8e157_9 : decode cJ3_checkIndex_8e157 9 = .ok (.aload_n 2, 1) := by decide +kernel
theorem dJ3_checkIndex_8e157_10 : decode cJ3_checkIndex_8e157 10 = .ok (.iload_n 0, 1) := by decide +kernel
theorem dJ3_checkIndex_8e157_11 : decode cJ3_checkIndex_8e157 11 = .ok (.iload_n 1, 1) := by decide +kernel
theorem dJ3_checkIndex_8e157_12 : decode cJ3_checkIndex_8e157 12 = .ok (.invokestatic 95, 3) := by decide +kernel
theorem dJ3_checkIndex_8e157_15 : decode cJ3_checkIndex_8e157 15 = .ok (.athrow, 1) := by decide +kernel
theorem dJ3_checkIndex_8e157_16 : decode cJ3_checkIndex_8e157 16 = .ok (.iload_n 0, 1) := by decide +kernel
theorem dJ3_checkIndex_8e157_17 : decode cJ3_checkIndex_8e157 17 = .ok (.ireturn, 1) := by decide +kernel
theorem dX6_isWord_0 : decode cX6_isWord 0 = .ok (.iload_n 2, 1) := by decide +kernel
theorem dX6_isWord_1 : decode cX6_isWord 1 = .ok (.iload_n 1, 1) := by decide +kernel
theorem dX6_isWord_2 : decode cX6_isWord 2 = .ok (.isub, 1) := by decide +kernel
theorem dX6_isWord_3 : decode cX6_isWord 3 = .ok (.aload_n 3, 1) := by decide +kernel
theorem dX6_isWord_4 : decode cX6_isWord 4 = .ok (.invokevirtual 87, 3) := by decide +kernel
theorem dX6_isWord_7 : decode cX6_isWord 7 = .ok (.if_icmp .eq 5, 3) := by decide +kernel
theorem dX6_isWord_10 : decode cX6_isWord 10 = .ok (.iconst 0, 1) := by decide +kernel
theorem dX6_isWord_11 : decode cX6_isWord 11 = .ok (.ireturn, 1) := by decide +kernel
theorem dX6_isWord_12 : decode cX6_isWord 12 = .ok (.iconst 0, 1) := by decide +kernel
theorem dX6_isWord_13 : decode cX6_isWord 13 = .ok (.istore 4, 2) := by decide +kernel
theorem dX6_isWord_15 : decode cX6_isWord 15 = .ok (.iload 4, 2) := by decide +kernel
theorem dX6_isWord_17 : decode cX6_isWord 17 = .ok (.aload_n 3, 1) := by decide +kernel
theorem dX6_isWord_18 : decode cX6_isWord 18 = .ok (.invokevirtual 87, 3) := by decide +kernel
theorem dX6_isWord_21 : decode cX6_isWord 21 = .ok (.if_icmp .ge 28, 3) := by decide +kernel
theorem dX6_isWord_24 : decode cX6_isWord 24 = .ok (.aload_n 0, 1) := by decide +kernel
theorem dX6_isWord_25 : decode cX6_isWord 25 = .ok (.iload_n 1, 1) := by decide +kernel
theorem dX6_isWord_26 : decode cX6_isWord 26 = .ok (.iload 4, 2) := by decide +kernel
theorem dX6_isWord_28 : decode cX6_isWord 28 = .ok (.iadd, 1) := by decide +kernel
theorem dX6_isWord_29 : decode cX6_isWord 29 = .ok (.invokestatic 25, 3) := by decide +kernel
theorem dX6_isWord_32 : decode cX6_isWord 32 = .ok (.aload_n 3, 1) := by decide +kernel
theorem dX6_isWord_33 : decode cX6_isWord 33 = .ok (.iload 4, 2) := by decide +kernel
theorem dX6_isWord_35 : decode cX6_isWord 35 = .ok (.invokevirtual 93, 3) := by decide +kernel
theorem dX6_isWord_38 : decode cX6_isWord 38 = .ok (.if_icmp .eq 5, 3) := by decide +kernel
theorem dX6_isWord_41 : decode cX6_isWord 41 = .ok (.iconst 0, 1) := by decide +kernel
theorem dX6_isWord_42 : decode cX6_isWord 42 = .ok (.ireturn, 1) := by decide +kernel
theorem dX6_isWord_43 : decode cX6_isWord 43 = .ok (.iinc 4 1, 3) := by decide +kernel
theorem dX6_isWord_46 : decode cX6_isWord 46 = .ok (.goto (-31), 3) := by decide +kernel
theorem dX6_isWord_49 : decode cX6_isWord 49 = .ok (.iconst 1, 1) := by decide +kernel
theorem dX6_isWord_50 : decode cX6_isWord 50 = .ok (.ireturn, 1) := by decide +kernel
theorem dX6_overKind_0 : decode cX6_overKind 0 = .ok (.aload_n 0, 1) := by decide +kernel
theorem dX6_overKind_1 : decode cX6_overKind 1 = .ok (.iload_n 1, 1) := by decide +kernel
theorem dX6_overKind_2 : decode cX6_overKind 2 = .ok (.iload_n 2, 1) := by decide +kernel
theorem dX6_overKind_3 : decode cX6_overKind 3 = .ok (.ldc 79, 2) := by decide +kernel
theorem dX6_overKind_5 : decode cX6_overKind 5 = .ok (.invokestatic 61, 3) := by decide +kernel
theorem dX6_overKind_8 : decode cX6_overKind 8 = .ok (.ifCond .eq 6, 3) := by decide +kernel
theorem dX6_overKind_11 : decode cX6_overKind 11 = .ok (.bipush 11, 2) := by decide +kernel
theorem dX6_overKind_13 : decode cX6_overKind 13 = .ok (.ireturn, 1) := by decide +kernel
theorem dX6_overKind_14 : decode cX6_overKind 14 = .ok (.aload_n 0, 1) := by decide +kernel
theorem dX6_overKind_15 : decode cX6_overKind 15 = .ok (.iload_n 1, 1) := by decide +kernel
theorem dX6_overKind_16 : decode cX6_overKind 16 = .ok (.iload_n 2, 1) := by decide +kernel
theorem dX6_overKind_17 : decode cX6_overKind 17 = .ok (.ldc 81, 2) := by decide +kernel
theorem dX6_overKind_19 : decode cX6_overKind 19 = .ok (.invokestatic 61, 3) := by decide +kernel
theorem dX6_overKind_22 : decode cX6_overKind 22 = .ok (.ifCond .eq 6, 3) := by decide +kernel
theorem dX6_overKind_25 : decode cX6_overKind 25 = .ok (.bipush 12, 2) := by decide +kernel
theorem dX6_overKind_27 : decode cX6_overKind 27 = .ok (.ireturn, 1) := by decide +kernel
theorem dX6_overKind_28 : decode cX6_overKind 28 = .ok (.aload_n 0, 1) := by decide +kernel
theorem dX6_overKind_29 : decode cX6_overKind 29 = .ok (.iload_n 1, 1) := by decide +kernel
theorem dX6_overKind_30 : decode cX6_overKind 30 = .ok (.iload_n 2, 1) := by decide +kernel
theorem dX6_overKind_31 : decode cX6_overKind 31 = .ok (.ldc 83, 2) := by decide +kernel
theorem dX6_overKind_33 : decode cX6_overKind 33 = .ok (.invokestatic 61, 3) := by decide +kernel
theorem dX6_overKind_36 : decode cX6_overKind 36 = .ok (.ifCond .eq 6, 3) := by decide +kernel
theorem dX6_overKind_39 : decode cX6_overKind 39 = .ok (.bipush 13, 2) := by decide +kernel
theorem dX6_overKind_41 : decode cX6_overKind 41 = .ok (.ireturn, 1) := by decide +kernel
theorem dX6_overKind_42 : decode cX6_overKind 42 = .ok (.aload_n 0, 1) := by decide +kernel
theorem dX6_overKind_43 : decode cX6_overKind 43 = .ok (.iload_n 1, 1) := by decide +kernel
theorem dX6_overKind_44 : decode cX6_overKind 44 = .ok (.iload_n 2, 1) := by decide +kernel
theorem dX6_overKind_45 : decode cX6_overKind 45 = .ok (.ldc 85, 2) := by decide +kernel
theorem dX6_overKind_47 : decode cX6_overKind 47 = .ok (.invokestatic 61, 3) := by decide +kernel
theorem dX6_overKind_50 : decode cX6_overKind 50 = .ok (.ifCond .eq 8, 3) := by decide +kernel
theorem dX6_overKind_53 : decode cX6_overKind 53 = .ok (.bipush 14, 2) := by decide +kernel
theorem dX6_overKind_55 : decode cX6_overKind 55 = .ok (.goto 4, 3) := by decide +kernel
theorem dX6_overKind_58 : decode cX6_overKind 58 = .ok (.iconst 1, 1) := by decide +kernel
theorem dX6_overKind_59 : decode cX6_overKind 59 = .ok (.ireturn, 1) := by decide +kernel
theorem dX6_wordKind_0 : decode cX6_wordKind 0 = .ok (.aload_n 0, 1) := by decide +kernel
theorem dX6_wordKind_1 : decode cX6_wordKind 1 = .ok (.iload_n 1, 1) := by decide +kernel
theorem dX6_wordKind_2 : decode cX6_wordKind 2 = .ok (.iload_n 2, 1) := by decide +kernel
theorem dX6_wordKind_3 : decode cX6_wordKind 3 = .ok (.ldc 59, 2) := by decide +kernel
theorem dX6_wordKind_5 : decode cX6_wordKind 5 = .ok (.invokestatic 61, 3) := by decide +kernel
theorem dX6_wordKind_8 : decode cX6_wordKind 8 = .ok (.ifCond .eq 5, 3) := by decide +kernel
theorem dX6_wordKind_11 : decode cX6_wordKind 11 = .ok (.iconst 4, 1) := by decide +kernel
theorem dX6_wordKind_12 : decode cX6_wordKind 12 = .ok (.ireturn, 1) := by decide +kernel
theorem dX6_wordKind_13 : decode cX6_wordKind 13 = .ok (.aload_n 0, 1) := by decide +kernel
theorem dX6_wordKind_14 : decode cX6_wordKind 14 = .ok (.iload_n 1, 1) := by decide +kernel
theorem dX6_wordKind_15 : decode cX6_wordKind 15 = .ok (.iload_n 2, 1) := by decide +kernel
theorem dX6_wordKind_16 : decode cX6_wordKind 16 = .ok (.ldc 65, 2) := by decide +kernel
theorem dX6_wordKind_18 : decode cX6_wordKind 18 = .ok (.invokestatic 61, 3) := by decide +kernel
theorem dX6_wordKind_21 : decode cX6_wordKind 21 = .ok (.ifCond .eq 5, 3) := by decide +kernel
theorem dX6_wordKind_24 : decode cX6_wordKind 24 = .ok (.iconst 5, 1) := by decide +kernel
theorem dX6_wordKind_25 : decode cX6_wordKind 25 = .ok (.ireturn, 1) := by decide +kernel
theorem dX6_wordKind_26 : decode cX6_wordKind 26 = .ok (.aload_n 0, 1) := by decide +kernel
theorem dX6_wordKind_27 : decode cX6_wordKind 27 = .ok (.iload_n 1, 1) := by decide +kernel
theorem dX6_wordKind_28 : decode cX6_wordKind 28 = .ok (.iload_n 2, 1) := by decide +kernel
theorem dX6_wordKind_29 : decode cX6_wordKind 29 = .ok (.ldc 67, 2) := by decide +kernel
theorem dX6_wordKind_31 : decode cX6_wordKind 31 = .ok (.invokestatic 61, 3) := by decide +kernel
theorem dX6_wordKind_34 : decode cX6_wordKind 34 = .ok (.ifCond .eq 6, 3) := by decide +kernel
theorem dX6_wordKind_37 : decode cX6_wordKind 37 = .ok (.bipush 6, 2) := by decide +kernel
theorem dX6_wordKind_39 : decode cX6_wordKind 39 = .ok (.ireturn, 1) := by decide +kernel
theorem dX6_wordKind_40 : decode cX6_wordKind 40 = .ok (.aload_n 0, 1) := by decide +kernel
theorem dX6_wordKind_41 : decode cX6_wordKind 41 = .ok (.iload_n 1, 1) := by decide +kernel
theorem dX6_wordKind_42 : decode cX6_wordKind 42 = .ok (.iload_n 2, 1) := by decide +kernel
theorem dX6_wordKind_43 : decode cX6_wordKind 43 = .ok (.ldc 69, 2) := by decide +kernel
theorem dX6_wordKind_45 : decode cX6_wordKind 45 = .ok (.invokestatic 61, 3) := by decide +kernel
theorem dX6_wordKind_48 : decode cX6_wordKind 48 = .ok (.ifCond .eq 6, 3) := by decide +kernel
theorem dX6_wordKind_51 : decode cX6_wordKind 51 = .ok (.bipush 7, 2) := by decide +kernel
theorem dX6_wordKind_53 : decode cX6_wordKind 53 = .ok (.ireturn, 1) := by decide +kernel
theorem dX6_wordKind_54 : decode cX6_wordKind 54 = .ok (.aload_n 0, 1) := by decide +kernel
theorem dX6_wordKind_55 : decode cX6_wordKind 55 = .ok (.iload_n 1, 1) := by decide +kernel
theorem dX6_wordKind_56 : decode cX6_wordKind 56 = .ok (.iload_n 2, 1) := by decide +kernel
theorem dX6_wordKind_57 : decode cX6_wordKind 57 = .ok (.ldc 71, 2) := by decide +kernel
theorem dX6_wordKind_59 : decode cX6_wordKind 59 = .ok (.invokestatic 61, 3) := by decide +kernel
theorem dX6_wordKind_62 : decode cX6_wordKind 62 = .ok (.ifCond .eq 6, 3) := by decide +kernel
theorem dX6_wordKind_65 : decode cX6_wordKind 65 = .ok (.bipush 8, 2) := by decide +kernel
theorem dX6_wordKind_67 : decode cX6_wordKind 67 = .ok (.ireturn, 1) := by decide +kernel
theorem dX6_wordKind_68 : decode cX6_wordKind 68 = .ok (.aload_n 0, 1) := by decide +kernel
theorem dX6_wordKind_69 : decode cX6_wordKind 69 = .ok (.iload_n 1, 1) := by decide +kernel
theorem dX6_wordKind_70 : decode cX6_wordKind 70 = .ok (.iload_n 2, 1) := by decide +kernel
theorem dX6_wordKind_71 : decode cX6_wordKind 71 = .ok (.ldc 73, 2) := by decide +kernel
theorem dX6_wordKind_73 : decode cX6_wordKind 73 = .ok (.invokestatic 61, 3) := by decide +kernel
theorem dX6_wordKind_76 : decode cX6_wordKind 76 = .ok (.ifCond .eq 6, 3) := by decide +kernel
theorem dX6_wordKind_79 : decode cX6_wordKind 79 = .ok (.bipush 9, 2) := by decide +kernel
theorem dX6_wordKind_81 : decode cX6_wordKind 81 = .ok (.ireturn, 1) := by decide +kernel
theorem dX6_wordKind_82 : decode cX6_wordKind 82 = .ok (.aload_n 0, 1) := by decide +kernel
theorem dX6_wordKind_83 : decode cX6_wordKind 83 = .ok (.iload_n 1, 1) := by decide +kernel
theorem dX6_wordKind_84 : decode cX6_wordKind 84 = .ok (.iload_n 2, 1) := by decide +kernel
theorem dX6_wordKind_85 : decode cX6_wordKind 85 = .ok (.ldc 74, 2) := by decide +kernel
theorem dX6_wordKind_87 : decode cX6_wordKind 87 = .ok (.invokestatic 61, 3) := by decide +kernel
theorem dX6_wordKind_90 : decode cX6_wordKind 90 = .ok (.ifCond .eq 8, 3) := by decide +kernel
theorem dX6_wordKind_93 : decode cX6_wordKind 93 = .ok (.bipush 10, 2) := by decide +kernel
theorem dX6_wordKind_95 : decode cX6_wordKind 95 = .ok (.goto 9, 3) := by decide +kernel
theorem dX6_wordKind_98 : decode cX6_wordKind 98 = .ok (.aload_n 0, 1) := by decide +kernel
theorem dX6_wordKind_99 : decode cX6_wordKind 99 = .ok (.iload_n 1, 1) := by decide +kernel
theorem dX6_wordKind_100 : decode cX6_wordKind 100 = .ok (.iload_n 2, 1) := by decide +kernel
theorem dX6_wordKind_101 : decode cX6_wordKind 101 = .ok (.invokestatic 76, 3) := by decide +kernel
theorem dX6_wordKind_104 : decode cX6_wordKind 104 = .ok (.ireturn, 1) := by decide +kernel
