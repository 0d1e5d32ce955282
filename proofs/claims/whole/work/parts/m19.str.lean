/-! the literals: their own members, walked over the machine -/
abbrev jb_len : ByteArray := prog_17_method_54_code
def jy_len : MethodName := ⟨"java/lang/String", "length", "()I"⟩
theorem jd_len_0 : decode jb_len 0 = .ok (.aload_n 0, 1) := by decide +kernel
theorem jd_len_1 : decode jb_len 1 = .ok (.getfield 9, 3) := by decide +kernel
theorem jd_len_4 : decode jb_len 4 = .ok (.arraylength, 1) := by decide +kernel
theorem jd_len_5 : decode jb_len 5 = .ok (.aload_n 0, 1) := by decide +kernel
theorem jd_len_6 : decode jb_len 6 = .ok (.invokevirtual 335, 3) := by decide +kernel
theorem jd_len_9 : decode jb_len 9 = .ok (.ishr, 1) := by decide +kernel
theorem jd_len_10 : decode jb_len 10 = .ok (.ireturn, 1) := by decide +kernel
theorem jw_len : Cond.code jy_len jb_len 1 (some .int) ∈ pm_gw := pm_wat_of (i := 763) (by decide +kernel)
theorem ji_len : Cond.instanceMethod jy_len ∈ pm_gw := pm_wat_of (i := 761) (by decide +kernel)
theorem je_len : Cond.selects "java/lang/String" jy_len jy_len ∈ pm_gw := pm_wat_of (i := 762) (by decide +kernel)
abbrev jb_cod : ByteArray := prog_17_method_152_code
def jy_cod : MethodName := ⟨"java/lang/String", "coder", "()B"⟩
theorem jd_cod_0 : decode jb_cod 0 = .ok (.getstatic 38, 3) := by decide +kernel
theorem jd_cod_3 : decode jb_cod 3 = .ok (.ifCond .eq 10, 3) := by decide +kernel
theorem jd_cod_6 : decode jb_cod 6 = .ok (.aload_n 0, 1) := by decide +kernel
theorem jd_cod_7 : decode jb_cod 7 = .ok (.getfield 15, 3) := by decide +kernel
theorem jd_cod_10 : decode jb_cod 10 = .ok (.goto 4, 3) := by decide +kernel
theorem jd_cod_14 : decode jb_cod 14 = .ok (.ireturn, 1) := by decide +kernel
theorem jw_cod : Cond.code jy_cod jb_cod 1 (some .byte) ∈ pm_gw := pm_wat_of (i := 767) (by decide +kernel)
theorem ji_cod : Cond.instanceMethod jy_cod ∈ pm_gw := pm_wat_of (i := 765) (by decide +kernel)
theorem je_cod : Cond.selects "java/lang/String" jy_cod jy_cod ∈ pm_gw := pm_wat_of (i := 766) (by decide +kernel)
abbrev jb_chr : ByteArray := prog_17_method_56_code
def jy_chr : MethodName := ⟨"java/lang/String", "charAt", "(I)C"⟩
theorem jd_chr_0 : decode jb_chr 0 = .ok (.aload_n 0, 1) := by decide +kernel
theorem jd_chr_1 : decode jb_chr 1 = .ok (.invokevirtual 492, 3) := by decide +kernel
theorem jd_chr_4 : decode jb_chr 4 = .ok (.ifCond .eq 12, 3) := by decide +kernel
theorem jd_chr_7 : decode jb_chr 7 = .ok (.aload_n 0, 1) := by decide +kernel
theorem jd_chr_8 : decode jb_chr 8 = .ok (.getfield 9, 3) := by decide +kernel
theorem jd_chr_11 : decode jb_chr 11 = .ok (.iload_n 1, 1) := by decide +kernel
theorem jd_chr_12 : decode jb_chr 12 = .ok (.invokestatic 495, 3) := by decide +kernel
theorem jd_chr_15 : decode jb_chr 15 = .ok (.ireturn, 1) := by decide +kernel
theorem jw_chr : Cond.code jy_chr jb_chr 2 (some .char) ∈ pm_gw := pm_wat_of (i := 773) (by decide +kernel)
theorem ji_chr : Cond.instanceMethod jy_chr ∈ pm_gw := pm_wat_of (i := 771) (by decide +kernel)
theorem je_chr : Cond.selects "java/lang/String" jy_chr jy_chr ∈ pm_gw := pm_wat_of (i := 772) (by decide +kernel)
abbrev jb_lat : ByteArray := prog_17_method_154_code
def jy_lat : MethodName := ⟨"java/lang/String", "isLatin1", "()Z"⟩
theorem jd_lat_0 : decode jb_lat 0 = .ok (.getstatic 38, 3) := by decide +kernel
theorem jd_lat_3 : decode jb_lat 3 = .ok (.ifCond .eq 14, 3) := by decide +kernel
theorem jd_lat_6 : decode jb_lat 6 = .ok (.aload_n 0, 1) := by decide +kernel
theorem jd_lat_7 : decode jb_lat 7 = .ok (.getfield 15, 3) := by decide +kernel
theorem jd_lat_10 : decode jb_lat 10 = .ok (.ifCond .ne 7, 3) := by decide +kernel
theorem jd_lat_13 : decode jb_lat 13 = .ok (.iconst 1, 1) := by decide +kernel
theorem jd_lat_14 : decode jb_lat 14 = .ok (.goto 4, 3) := by decide +kernel
theorem jd_lat_18 : decode jb_lat 18 = .ok (.ireturn, 1) := by decide +kernel
theorem jw_lat : Cond.code jy_lat jb_lat 1 (some .boolean) ∈ pm_gw := pm_wat_of (i := 777) (by decide +kernel)
theorem ji_lat : Cond.instanceMethod jy_lat ∈ pm_gw := pm_wat_of (i := 775) (by decide +kernel)
theorem je_lat : Cond.selects "java/lang/String" jy_lat jy_lat ∈ pm_gw := pm_wat_of (i := 776) (by decide +kernel)
abbrev jb_ix1 : ByteArray := prog_17_method_79_code
def jy_ix1 : MethodName := ⟨"java/lang/String", "indexOf", "(I)I"⟩
theorem jd_ix1_0 : decode jb_ix1 0 = .ok (.aload_n 0, 1) := by decide +kernel
theorem jd_ix1_1 : decode jb_ix1 1 = .ok (.iload_n 1, 1) := by decide +kernel
theorem jd_ix1_2 : decode jb_ix1 2 = .ok (.iconst 0, 1) := by decide +kernel
theorem jd_ix1_3 : decode jb_ix1 3 = .ok (.invokevirtual 633, 3) := by decide +kernel
theorem jd_ix1_6 : decode jb_ix1 6 = .ok (.ireturn, 1) := by decide +kernel
theorem jw_ix1 : Cond.code jy_ix1 jb_ix1 2 (some .int) ∈ pm_gw := pm_wat_of (i := 826) (by decide +kernel)
theorem ji_ix1 : Cond.instanceMethod jy_ix1 ∈ pm_gw := pm_wat_of (i := 824) (by decide +kernel)
theorem je_ix1 : Cond.selects "java/lang/String" jy_ix1 jy_ix1 ∈ pm_gw := pm_wat_of (i := 825) (by decide +kernel)
abbrev jb_ix2 : ByteArray := prog_17_method_80_code
def jy_ix2 : MethodName := ⟨"java/lang/String", "indexOf", "(II)I"⟩
theorem jd_ix2_0 : decode jb_ix2 0 = .ok (.aload_n 0, 1) := by decide +kernel
theorem jd_ix2_1 : decode jb_ix2 1 = .ok (.invokevirtual 492, 3) := by decide +kernel
theorem jd_ix2_4 : decode jb_ix2 4 = .ok (.ifCond .eq 19, 3) := by decide +kernel
theorem jd_ix2_7 : decode jb_ix2 7 = .ok (.aload_n 0, 1) := by decide +kernel
theorem jd_ix2_8 : decode jb_ix2 8 = .ok (.getfield 9, 3) := by decide +kernel
theorem jd_ix2_11 : decode jb_ix2 11 = .ok (.iload_n 1, 1) := by decide +kernel
theorem jd_ix2_12 : decode jb_ix2 12 = .ok (.iload_n 2, 1) := by decide +kernel
theorem jd_ix2_13 : decode jb_ix2 13 = .ok (.aload_n 0, 1) := by decide +kernel
theorem jd_ix2_14 : decode jb_ix2 14 = .ok (.invokevirtual 505, 3) := by decide +kernel
theorem jd_ix2_17 : decode jb_ix2 17 = .ok (.invokestatic 637, 3) := by decide +kernel
theorem jd_ix2_20 : decode jb_ix2 20 = .ok (.goto 16, 3) := by decide +kernel
theorem jd_ix2_36 : decode jb_ix2 36 = .ok (.ireturn, 1) := by decide +kernel
theorem jw_ix2 : Cond.code jy_ix2 jb_ix2 3 (some .int) ∈ pm_gw := pm_wat_of (i := 830) (by decide +kernel)
theorem ji_ix2 : Cond.instanceMethod jy_ix2 ∈ pm_gw := pm_wat_of (i := 828) (by decide +kernel)
theorem je_ix2 : Cond.selects "java/lang/String" jy_ix2 jy_ix2 ∈ pm_gw := pm_wat_of (i := 829) (by decide +kernel)
abbrev jb_chk : ByteArray := prog_17_method_155_code
def jy_chk : MethodName := ⟨"java/lang/String", "checkIndex", "(II)V"⟩
theorem jd_chk_0 : decode jb_chk 0 = .ok (.iload_n 0, 1) := by decide +kernel
theorem jd_chk_1 : decode jb_chk 1 = .ok (.iload_n 1, 1) := by decide +kernel
theorem jd_chk_2 : decode jb_chk 2 = .ok (.getstatic 1053, 3) := by decide +kernel
theorem jd_chk_5 : decode jb_chk 5 = .ok (.invokestatic 1059, 3) := by decide +kernel
theorem jd_chk_8 : decode jb_chk 8 = .ok (.pop, 1) := by decide +kernel
theorem jd_chk_9 : decode jb_chk 9 = .ok (.return_, 1) := by decide +kernel
theorem jw_chk : Cond.code jy_chk jb_chk 2 none ∈ pm_gw := pm_wat_of (i := 783) (by decide +kernel)
theorem js_chk : Cond.static jy_chk ∈ pm_gw := pm_wat_of (i := 782) (by decide +kernel)
abbrev jb_lch : ByteArray := prog_18_method_2_code
def jy_lch : MethodName := ⟨"java/lang/StringLatin1", "charAt", "([BI)C"⟩
theorem jd_lch_0 : decode jb_lch 0 = .ok (.iload_n 1, 1) := by decide +kernel
theorem jd_lch_1 : decode jb_lch 1 = .ok (.aload_n 0, 1) := by decide +kernel
theorem jd_lch_2 : decode jb_lch 2 = .ok (.arraylength, 1) := by decide +kernel
theorem jd_lch_3 : decode jb_lch 3 = .ok (.invokestatic 9, 3) := by decide +kernel
theorem jd_lch_6 : decode jb_lch 6 = .ok (.aload_n 0, 1) := by decide +kernel
theorem jd_lch_7 : decode jb_lch 7 = .ok (.iload_n 1, 1) := by decide +kernel
theorem jd_lch_8 : decode jb_lch 8 = .ok (.baload, 1) := by decide +kernel
theorem jd_lch_9 : decode jb_lch 9 = .ok (.sipush 255, 3) := by decide +kernel
theorem jd_lch_12 : decode jb_lch 12 = .ok (.iand, 1) := by decide +kernel
theorem jd_lch_13 : decode jb_lch 13 = .ok (.i2c, 1) := by decide +kernel
theorem jd_lch_14 : decode jb_lch 14 = .ok (.ireturn, 1) := by decide +kernel
theorem jw_lch : Cond.code jy_lch jb_lch 2 (some .char) ∈ pm_gw := pm_wat_of (i := 780) (by decide +kernel)
theorem js_lch : Cond.static jy_lch ∈ pm_gw := pm_wat_of (i := 779) (by decide +kernel)
abbrev jb_lix : ByteArray := prog_18_method_22_code
def jy_lix : MethodName := ⟨"java/lang/StringLatin1", "indexOf", "([BIII)I"⟩
theorem jd_lix_0 : decode jb_lix 0 = .ok (.iload_n 1, 1) := by decide +kernel
theorem jd_lix_1 : decode jb_lix 1 = .ok (.invokestatic 88, 3) := by decide +kernel
theorem jd_lix_4 : decode jb_lix 4 = .ok (.ifCond .ne 5, 3) := by decide +kernel
theorem jd_lix_7 : decode jb_lix 7 = .ok (.iconst (-1), 1) := by decide +kernel
theorem jd_lix_8 : decode jb_lix 8 = .ok (.ireturn, 1) := by decide +kernel
theorem jd_lix_9 : decode jb_lix 9 = .ok (.iload_n 2, 1) := by decide +kernel
theorem jd_lix_10 : decode jb_lix 10 = .ok (.iconst 0, 1) := by decide +kernel
theorem jd_lix_11 : decode jb_lix 11 = .ok (.invokestatic 92, 3) := by decide +kernel
theorem jd_lix_14 : decode jb_lix 14 = .ok (.istore_n 2, 1) := by decide +kernel
theorem jd_lix_15 : decode jb_lix 15 = .ok (.iload_n 3, 1) := by decide +kernel
theorem jd_lix_16 : decode jb_lix 16 = .ok (.aload_n 0, 1) := by decide +kernel
theorem jd_lix_17 : decode jb_lix 17 = .ok (.arraylength, 1) := by decide +kernel
theorem jd_lix_18 : decode jb_lix 18 = .ok (.invokestatic 38, 3) := by decide +kernel
theorem jd_lix_21 : decode jb_lix 21 = .ok (.istore_n 3, 1) := by decide +kernel
theorem jd_lix_22 : decode jb_lix 22 = .ok (.iload_n 2, 1) := by decide +kernel
theorem jd_lix_23 : decode jb_lix 23 = .ok (.iload_n 3, 1) := by decide +kernel
theorem jd_lix_24 : decode jb_lix 24 = .ok (.if_icmp .lt 5, 3) := by decide +kernel
theorem jd_lix_29 : decode jb_lix 29 = .ok (.aload_n 0, 1) := by decide +kernel
theorem jd_lix_30 : decode jb_lix 30 = .ok (.iload_n 1, 1) := by decide +kernel
theorem jd_lix_31 : decode jb_lix 31 = .ok (.iload_n 2, 1) := by decide +kernel
theorem jd_lix_32 : decode jb_lix 32 = .ok (.iload_n 3, 1) := by decide +kernel
theorem jd_lix_33 : decode jb_lix 33 = .ok (.invokestatic 95, 3) := by decide +kernel
theorem jd_lix_36 : decode jb_lix 36 = .ok (.ireturn, 1) := by decide +kernel
theorem jw_lix : Cond.code jy_lix jb_lix 4 (some .int) ∈ pm_gw := pm_wat_of (i := 834) (by decide +kernel)
theorem js_lix : Cond.static jy_lix ∈ pm_gw := pm_wat_of (i := 833) (by decide +kernel)
abbrev jb_can : ByteArray := prog_18_method_4_code
def jy_can : MethodName := ⟨"java/lang/StringLatin1", "canEncode", "(I)Z"⟩
theorem jd_can_0 : decode jb_can 0 = .ok (.iload_n 0, 1) := by decide +kernel
theorem jd_can_1 : decode jb_can 1 = .ok (.ifCond .lt 14, 3) := by decide +kernel
theorem jd_can_4 : decode jb_can 4 = .ok (.iload_n 0, 1) := by decide +kernel
theorem jd_can_5 : decode jb_can 5 = .ok (.sipush 255, 3) := by decide +kernel
theorem jd_can_8 : decode jb_can 8 = .ok (.if_icmp .gt 7, 3) := by decide +kernel
theorem jd_can_11 : decode jb_can 11 = .ok (.iconst 1, 1) := by decide +kernel
theorem jd_can_12 : decode jb_can 12 = .ok (.goto 4, 3) := by decide +kernel
theorem jd_can_15 : decode jb_can 15 = .ok (.iconst 0, 1) := by decide +kernel
theorem jd_can_16 : decode jb_can 16 = .ok (.ireturn, 1) := by decide +kernel
theorem jw_can : Cond.code jy_can jb_can 1 (some .boolean) ∈ pm_gw := pm_wat_of (i := 837) (by decide +kernel)
theorem js_can : Cond.static jy_can ∈ pm_gw := pm_wat_of (i := 836) (by decide +kernel)
abbrev jb_loc : ByteArray := prog_18_method_23_code
def jy_loc : MethodName := ⟨"java/lang/StringLatin1", "indexOfChar", "([BIII)I"⟩
theorem jd_loc_0 : decode jb_loc 0 = .ok (.iload_n 1, 1) := by decide +kernel
theorem jd_loc_1 : decode jb_loc 1 = .ok (.i2b, 1) := by decide +kernel
theorem jd_loc_2 : decode jb_loc 2 = .ok (.istore 4, 2) := by decide +kernel
theorem jd_loc_4 : decode jb_loc 4 = .ok (.iload_n 2, 1) := by decide +kernel
theorem jd_loc_5 : decode jb_loc 5 = .ok (.istore 5, 2) := by decide +kernel
theorem jd_loc_7 : decode jb_loc 7 = .ok (.iload 5, 2) := by decide +kernel
theorem jd_loc_9 : decode jb_loc 9 = .ok (.iload_n 3, 1) := by decide +kernel
theorem jd_loc_10 : decode jb_loc 10 = .ok (.if_icmp .ge 21, 3) := by decide +kernel
theorem jd_loc_13 : decode jb_loc 13 = .ok (.aload_n 0, 1) := by decide +kernel
theorem jd_loc_14 : decode jb_loc 14 = .ok (.iload 5, 2) := by decide +kernel
theorem jd_loc_16 : decode jb_loc 16 = .ok (.baload, 1) := by decide +kernel
theorem jd_loc_17 : decode jb_loc 17 = .ok (.iload 4, 2) := by decide +kernel
theorem jd_loc_19 : decode jb_loc 19 = .ok (.if_icmp .ne 6, 3) := by decide +kernel
theorem jd_loc_22 : decode jb_loc 22 = .ok (.iload 5, 2) := by decide +kernel
theorem jd_loc_24 : decode jb_loc 24 = .ok (.ireturn, 1) := by decide +kernel
theorem jd_loc_25 : decode jb_loc 25 = .ok (.iinc 5 1, 3) := by decide +kernel
theorem jd_loc_28 : decode jb_loc 28 = .ok (.goto (-21), 3) := by decide +kernel
theorem jd_loc_31 : decode jb_loc 31 = .ok (.iconst (-1), 1) := by decide +kernel
theorem jd_loc_32 : decode jb_loc 32 = .ok (.ireturn, 1) := by decide +kernel
theorem jw_loc : Cond.code jy_loc jb_loc 6 (some .int) ∈ pm_gw := pm_wat_of (i := 844) (by decide +kernel)
theorem js_loc : Cond.static jy_loc ∈ pm_gw := pm_wat_of (i := 843) (by decide +kernel)
abbrev jb_pre : ByteArray := prog_22_method_11_code
def jy_pre : MethodName := ⟨"jdk/internal/util/Preconditions", "checkIndex", "(IILjava/util/function/BiFunction;)I"⟩
theorem jd_pre_0 : decode jb_pre 0 = .ok (.iload_n 0, 1) := by decide +kernel
theorem jd_pre_1 : decode jb_pre 1 = .ok (.ifCond .lt 8, 3) := by decide +kernel
theorem jd_pre_4 : decode jb_pre 4 = .ok (.iload_n 0, 1) := by decide +kernel
theorem jd_pre_5 : decode jb_pre 5 = .ok (.iload_n 1, 1) := by decide +kernel
theorem jd_pre_6 : decode jb_pre 6 = .ok (.if_icmp .lt 10, 3) := by decide +kernel
theorem jd_pre_16 : decode jb_pre 16 = .ok (.iload_n 0, 1) := by decide +kernel
theorem jd_pre_17 : decode jb_pre 17 = .ok (.ireturn, 1) := by decide +kernel
theorem jw_pre : Cond.code jy_pre jb_pre 3 (some .int) ∈ pm_gw := pm_wat_of (i := 788) (by decide +kernel)
theorem js_pre : Cond.static jy_pre ∈ pm_gw := pm_wat_of (i := 787) (by decide +kernel)
theorem jl_140_len : Cond.methodLink "StatuesWhoOwe$Reader" 140 jy_len ∈ pm_gw := pm_wat_of (i := 760) (by decide +kernel)
theorem jl_143_chr : Cond.methodLink "StatuesWhoOwe$Reader" 143 jy_chr ∈ pm_gw := pm_wat_of (i := 770) (by decide +kernel)
theorem jl_149_ix1 : Cond.methodLink "StatuesWhoOwe$Reader" 149 jy_ix1 ∈ pm_gw := pm_wat_of (i := 823) (by decide +kernel)
theorem jl_335_cod : Cond.methodLink "java/lang/String" 335 jy_cod ∈ pm_gw := pm_wat_of (i := 764) (by decide +kernel)
theorem jl_492_lat : Cond.methodLink "java/lang/String" 492 jy_lat ∈ pm_gw := pm_wat_of (i := 774) (by decide +kernel)
theorem jl_495_lch : Cond.methodLink "java/lang/String" 495 jy_lch ∈ pm_gw := pm_wat_of (i := 778) (by decide +kernel)
theorem jl_9_chk : Cond.methodLink "java/lang/StringLatin1" 9 jy_chk ∈ pm_gw := pm_wat_of (i := 781) (by decide +kernel)
theorem jl_1059_pre : Cond.methodLink "java/lang/String" 1059 jy_pre ∈ pm_gw := pm_wat_of (i := 786) (by decide +kernel)
theorem jl_633_ix2 : Cond.methodLink "java/lang/String" 633 jy_ix2 ∈ pm_gw := pm_wat_of (i := 827) (by decide +kernel)
theorem jl_505_len : Cond.methodLink "java/lang/String" 505 jy_len ∈ pm_gw := pm_wat_of (i := 831) (by decide +kernel)
theorem jl_637_lix : Cond.methodLink "java/lang/String" 637 jy_lix ∈ pm_gw := pm_wat_of (i := 832) (by decide +kernel)
theorem jl_88_can : Cond.methodLink "java/lang/StringLatin1" 88 jy_can ∈ pm_gw := pm_wat_of (i := 835) (by decide +kernel)
theorem jl_95_loc : Cond.methodLink "java/lang/StringLatin1" 95 jy_loc ∈ pm_gw := pm_wat_of (i := 842) (by decide +kernel)
theorem jf_38 : Cond.fieldLink "java/lang/String" 38 "java/lang/String" "COMPACT_STRINGS" "Z" ∈ pm_gw := pm_wat_of (i := 768) (by decide +kernel)
theorem jf_1053 : Cond.fieldLink "java/lang/String" 1053 "jdk/internal/util/Preconditions" "SIOOBE_FORMATTER" "Ljava/util/function/BiFunction;" ∈ pm_gw := pm_wat_of (i := 784) (by decide +kernel)
theorem jf_9 : Cond.fieldLink "java/lang/String" 9 "java/lang/String" "value" "[B" ∈ pm_gw := pm_wat_of (i := 1852) (by decide +kernel)
theorem jf_15 : Cond.fieldLink "java/lang/String" 15 "java/lang/String" "coder" "B" ∈ pm_gw := pm_wat_of (i := 1853) (by decide +kernel)
theorem jn_S : Cond.initialized "java/lang/String" ∈ pm_gw := pm_wat_of (i := 107) (by decide +kernel)
theorem jn_L : Cond.initialized "java/lang/StringLatin1" ∈ pm_gw := pm_wat_of (i := 108) (by decide +kernel)
theorem jn_P : Cond.initialized "jdk/internal/util/Preconditions" ∈ pm_gw := pm_wat_of (i := 109) (by decide +kernel)
theorem jn_M : Cond.initialized "java/lang/Math" ∈ pm_gw := pm_wat_of (i := 104) (by decide +kernel)
theorem jm_max : Cond.methodLink "java/lang/StringLatin1" 92 Lib.Math.max.name ∈ pm_gw := pm_wat_of (i := 838) (by decide +kernel)
theorem jms_max : Cond.static Lib.Math.max.name ∈ pm_gw := pm_wat_of (i := 839) (by decide +kernel)
theorem jmc_max : Cond.code Lib.Math.max.name Lib.Math.max.code 2 (some .int) ∈ pm_gw := pm_wat_of (i := 840) (by decide +kernel)
theorem jm_min : Cond.methodLink "java/lang/StringLatin1" 38 Lib.Math.min.name ∈ pm_gw := pm_wat_of (i := 841) (by decide +kernel)
theorem jms_min : Cond.static Lib.Math.min.name ∈ pm_gw := pm_wat_of (i := 816) (by decide +kernel)
theorem jmc_min : Cond.code Lib.Math.min.name Lib.Math.min.code 2 (some .int) ∈ pm_gw := pm_wat_of (i := 817) (by decide +kernel)
def jr_m (d : Nat) : Room := { frames := d, cells := 0, slots := 0, locals := 64 * d }
def jr_w (y : MethodName) (b : ByteArray) (L : Nat) (R : Option FieldType) : List Cond := Cond.code y b L R :: pm_gw
def jr_P (G : pm_G) (A : Nat → Prop) (vs : List Value) : Array Value → State → Prop := va_Pc vs (fun U => pm_Sg G A U U.heap)
/-- what holds at the entry of such a method -/
def jr_C (G : pm_G) (A : Nat → Prop) (y : MethodName) (b : ByteArray) (L : Nat) (R : Option FieldType) (vs : List Value) (p : Program) (s : State) (m : MethodId) (meth : Method) (c : Code) : Prop := p.tables.exec = Jvm.exec ∧ c.code = b ∧ c.maxLocals = L ∧ meth.sig.returnType = R ∧ s.vm.findClass y.cls = some m.cls ∧ (∀ w ∈ pm_gw, w.before vs.toArray s = true) ∧ pm_Sg G A s s.heap ∧ meth.locks = false
theorem jr_of {G : pm_G} {A : Nat → Prop} {y : MethodName} {b : ByteArray} {L d : Nat} {R : Option FieldType} {vs : List Value} {Qc : Array Value → State → Outcome → State → Prop} (hpl : plainName y.cls = true) (hL : (lg_sl vs).length ≤ L)
    (body : ∀ (p : Program) (e : Env) (s : State) (m : MethodId) (below : List Frame) (meth : Method) (c : Code) (ls : Array Slot), jr_C G A y b L R vs p s m meth c → lv_has ls L (lv_args 0 vs) → W p (g_l G) e (jr_m d) s m vs.toArray below meth c s.heap [] 0 0 (MQ below Qc vs.toArray s 0 0 (fun _ => False)) (F0 m 0 ls [])) :
    Met (g_l G) y (jr_w y b L R) (jr_m d) (jr_P G A vs) Qc 0 0 (fun _ => False) := by
  refine Met.ofW (cc := b) (maxL := L) (ret := R) (ws' := pm_gw) hpl rfl ?_
  intro p e s m args below meth c s₁ B hml hv
  obtain ⟨rfl, hSg⟩ := hv
  have hts := atoms_spec (ws := jr_w y b L R) B.pre
  have hl := lv_entry vs (n := L) hL
  rw [lg_entry_eq]
  generalize (lg_sl vs ++ List.replicate (L - (lg_sl vs).length) Slot.unset).toArray = ls at hl ⊢
  exact body p e s m below meth c ls ⟨B.exec, B.bytes, hml, B.returns, findClass_of_methodNamed B.named, fun w hw => hts w (List.mem_cons_of_mem _ hw), hSg, B.notSynchronized⟩ hl
theorem jr_blind (G : pm_G) (A : Nat → Prop) (vs : List Value) : FrameBlind (jr_P G A vs) := by
  intro a U g mk h
  obtain ⟨h1, g1, g2, g3, g4, g5⟩ := h
  exact ⟨h1, vk_S.moved (u := U) (U := U.calling g mk a) (Vm.Alike.refl U.vm) g1, vk_R.same (u := U) rfl g2, vk_R.same (u := U) rfl g3, va_Z.moved (u := U) (U := U.calling g mk a) (Vm.Alike.refl U.vm) g4, va_Zq.moved (u := U) (U := U.calling g mk a) (Vm.Alike.refl U.vm) g5⟩
theorem jr_good {y : MethodName} {b : ByteArray} {L : Nat} {R : Option FieldType} (h : Cond.code y b L R ∈ pm_gw) : GoodIn pm_gw (jr_w y b L R) := by
  intro w hw
  rcases List.mem_cons.mp hw with rfl | hw
  · exact pm_goodw _ h
  · exact pm_goodw w hw
section
variable {G : pm_G} {A : Nat → Prop} {p : Program} {e : Env} {R : Room} {s : State} {m : MethodId} {args : Array Value} {below : List Frame} {meth : Method} {c : Code} {H : Heap} {locs : List Loc} {cells slots : Nat} {Q : State → Prop} {pc : Nat} {ls : Array Slot} {cc : ByteArray} {nL : Nat} {own : String}
/-- a call of a static member, an answer of numbers -/
theorem jr_callS {yc : MethodName} {bc : ByteArray} {Lc dc idx na : Nat} {Rc : Option FieldType} {As rest : List Value} {r : Int32}
    (F : p.tables.exec = Jvm.exec ∧ c.code = cc ∧ c.maxLocals = nL ∧ s.vm.findClass own = some m.cls ∧ (∀ w ∈ pm_gw, w.before args s = true)) (hSg : pm_Sg G A s s.heap) (hS : va_S A s.heap H locs) (hM : Met (g_l G) yc (jr_w yc bc Lc Rc) (jr_m dc) (jr_P G A As) (QcRead r) 0 0 (fun _ => False))
    (hw : Cond.code yc bc Lc Rc ∈ pm_gw) (hsta : Cond.static yc ∈ pm_gw) (hlk : Cond.methodLink own idx yc ∈ pm_gw) (hini : Cond.initialized yc.cls ∈ pm_gw) (hy : yc.cls ≠ "java/lang/invoke/MethodHandle" ∧ yc.cls ≠ "java/lang/invoke/VarHandle") (hsig : (parseMethodDescriptor yc.desc).map (fun z => z.parameters.length) = some na) (hna : As.length = na) (hLc : Lc ≤ 40) (hfr : dc + 1 ≤ R.frames) (hlo : 64 * (dc + 1) ≤ R.locals) (hls : ls.size = nL)
    (hrest : (rest.map fun v => v.category).sum ≤ 8) (hc : cells ≤ R.cells) (hs : slots ≤ R.slots) (hdg : decode cc pc = .ok (.invokestatic idx, 3))
    (kk : W p (g_l G) e R s m args below meth c H locs cells slots Q (F0 m (pc + 3) ls (.int r :: rest))) : W p (g_l G) e R s m args below meth c H locs cells slots Q (F0 m pc ls (As.reverse ++ rest)) := by
  refine W.callR (W.runS (As := As) (rest := rest) (n := na) F hM ⟨⟨rfl, rfl, hfr, by simp only [jr_m]; omega, pay_in F.2.2.2.2 (jr_good hw), List.mem_cons_self, F.2.2.2.2 _ hw, F.2.2.2.2 _ hini, hy, fun sig hh => ?_, F.2.2.2.2 _ hlk⟩, F.2.2.2.2 _ hsta⟩ ⟨jr_blind G A As, fun U hU hW => ⟨rfl, pm_Sg_warm hW hU hS (fun _ h => h) hSg⟩⟩ rfl hna hls rfl (lv_room hrest) hdg ⟨by omega, by omega⟩) kk
  rw [hh] at hsig
  exact (Option.some.inj hsig).symm
theorem jr_callV {yc : MethodName} {bc : ByteArray} {Lc dc idx na i : Nat} {Rc : Option FieldType} {As rest : List Value} {r : Int32}
    (F : p.tables.exec = Jvm.exec ∧ c.code = cc ∧ c.maxLocals = nL ∧ s.vm.findClass own = some m.cls ∧ (∀ w ∈ pm_gw, w.before args s = true)) (hSg : pm_Sg G A s s.heap) (hS : va_S A s.heap H locs) (hi : i < 2) (hM : Met (g_l G) yc (jr_w yc bc Lc Rc) (jr_m dc) (jr_P G A (.ref (g_K G i) :: As)) (QcRead r) 0 0 (fun _ => False))
    (hw : Cond.code yc bc Lc Rc ∈ pm_gw) (hin : Cond.instanceMethod yc ∈ pm_gw) (hse : Cond.selects "java/lang/String" yc yc ∈ pm_gw) (hlk : Cond.methodLink own idx yc ∈ pm_gw) (hini : Cond.initialized yc.cls ∈ pm_gw) (hy : yc.cls ≠ "java/lang/invoke/MethodHandle" ∧ yc.cls ≠ "java/lang/invoke/VarHandle") (hsig : (parseMethodDescriptor yc.desc).map (fun z => z.parameters.length) = some na) (hna : As.length = na) (hLc : Lc ≤ 40) (hfr : dc + 1 ≤ R.frames) (hlo : 64 * (dc + 1) ≤ R.locals) (hls : ls.size = nL)
    (hrest : (rest.map fun v => v.category).sum ≤ 8) (hc : cells ≤ R.cells) (hs : slots ≤ R.slots) (hdg : decode cc pc = .ok (.invokevirtual idx, 3))
    (kk : W p (g_l G) e R s m args below meth c H locs cells slots Q (F0 m (pc + 3) ls (.int r :: rest))) : W p (g_l G) e R s m args below meth c H locs cells slots Q (F0 m pc ls (As.reverse ++ .ref (g_K G i) :: rest)) := by
  refine W.callR (W.runV (As := As) (rest := rest) (n := na) (C := "java/lang/String") F hM ⟨⟨rfl, rfl, hfr, by simp only [jr_m]; omega, pay_in F.2.2.2.2 (jr_good hw), List.mem_cons_self, F.2.2.2.2 _ hw, F.2.2.2.2 _ hini, hy, fun sig hh => ?_, F.2.2.2.2 _ hlk⟩, F.2.2.2.2 _ hin, F.2.2.2.2 _ hse⟩ ⟨jr_blind G A _, vk_recv hSg.1 hi hS, fun U hU hW => ⟨rfl, pm_Sg_warm hW hU hS (fun _ h => h) hSg⟩⟩ rfl hna hls rfl (lv_room hrest) hdg ⟨by omega, by omega⟩) kk
  rw [hh] at hsig
  exact (Option.some.inj hsig).symm
end
theorem js_same (o : String) (s : State) (n d : String) : ∀ x, s.fieldFound? o n d = some x → s.fieldFound? o n d = some x := fun _ h => h
theorem jc_cod (G : pm_G) (A : Nat → Prop) {i : Nat} (hi : i < 2) : Met (g_l G) jy_cod (jr_w jy_cod jb_cod 1 (some .byte)) (jr_m 1) (jr_P G A [.ref (g_K G i)]) (QcRead 0) 0 0 (fun _ => False) := by
  refine jr_of (by decide +kernel) (Nat.le_of_ble_eq_true rfl) ?_
  intro p e s m below meth c ls ⟨hx, hb, hml, hr, hown, hts, hSg, hlocks⟩ hl
  have hS : va_S A s.heap s.heap [] := va_S.rf
  have hl : lv_has ls 1 [(0, .ref (g_K G i))] := hl
  refine va_gets hx hb hSg.2.2.2.1 hS hown (hts _ jf_38) (js_same _ _ _ _) jd_cod_0 ?_
  refine lv_if_eq (tgt := 13) hx hb jd_cod_3 (by decide) (fun z => absurd z (by decide)) (fun _ => ?_)
  refine lv_aload_n hx hb jd_cod_6 rfl (lv_at hl 0 rfl) ?_
  refine vk_getf hx hb (hSg.1.1 i hi).2.1 hS hown (hts _ jf_15) (js_same _ _ _ _) jd_cod_7 ?_
  refine lv_goto (tgt := 14) hx hb jd_cod_10 (by decide) ?_
  exact W.zret hx hb hr (by decide) (fun t ht _ => ⟨rfl, ht⟩) (fun q hq => absurd hq List.not_mem_nil) jd_cod_14
theorem jc_lat (G : pm_G) (A : Nat → Prop) {i : Nat} (hi : i < 2) : Met (g_l G) jy_lat (jr_w jy_lat jb_lat 1 (some .boolean)) (jr_m 1) (jr_P G A [.ref (g_K G i)]) (QcRead 1) 0 0 (fun _ => False) := by
  refine jr_of (by decide +kernel) (Nat.le_of_ble_eq_true rfl) ?_
  intro p e s m below meth c ls ⟨hx, hb, hml, hr, hown, hts, hSg, hlocks⟩ hl
  have hS : va_S A s.heap s.heap [] := va_S.rf
  have hl : lv_has ls 1 [(0, .ref (g_K G i))] := hl
  refine va_gets hx hb hSg.2.2.2.1 hS hown (hts _ jf_38) (js_same _ _ _ _) jd_lat_0 ?_
  refine lv_if_eq (tgt := 17) hx hb jd_lat_3 (by decide) (fun z => absurd z (by decide)) (fun _ => ?_)
  refine lv_aload_n hx hb jd_lat_6 rfl (lv_at hl 0 rfl) ?_
  refine vk_getf hx hb (hSg.1.1 i hi).2.1 hS hown (hts _ jf_15) (js_same _ _ _ _) jd_lat_7 ?_
  refine lv_if_ne (tgt := 17) hx hb jd_lat_10 (by decide) (fun z => absurd rfl z) (fun _ => ?_)
  refine lv_iconst (v := 1) hx hb jd_lat_13 (by decide) ?_
  refine lv_goto (tgt := 18) hx hb jd_lat_14 (by decide) ?_
  exact W.zret hx hb hr (by decide) (fun t ht _ => ⟨rfl, ht⟩) (fun q hq => absurd hq List.not_mem_nil) jd_lat_18
theorem jc_len (G : pm_G) (A : Nat → Prop) {i : Nat} (hi : i < 2) : Met (g_l G) jy_len (jr_w jy_len jb_len 1 (some .int)) (jr_m 2) (jr_P G A [.ref (g_K G i)]) (QcRead (Int32.ofNat (pm_len.getD i 0))) 0 0 (fun _ => False) := by
  refine jr_of (by decide +kernel) (Nat.le_of_ble_eq_true rfl) ?_
  intro p e s m below meth c ls ⟨hx, hb, hml, hr, hown, hts, hSg, hlocks⟩ hl
  have hS : va_S A s.heap s.heap [] := va_S.rf
  have hl : lv_has ls 1 [(0, .ref (g_K G i))] := hl
  refine lv_aload_n hx hb jd_len_0 rfl (lv_at hl 0 rfl) ?_
  refine vk_getf hx hb (hSg.1.1 i hi).2.2.1 hS hown (hts _ jf_9) (js_same _ _ _ _) jd_len_1 ?_
  refine va_tlen hx hb (hSg.1.1 i hi).2.2.2 hS rfl jd_len_4 ?_
  refine lv_aload_n hx hb jd_len_5 rfl (lv_at hl 0 rfl) ?_
  refine jr_callV (As := []) (na := 0) ⟨hx, hb, hml, hown, hts⟩ hSg hS hi (jc_cod G A hi) jw_cod ji_cod je_cod jl_335_cod jn_S (by decide +kernel) (by decide +kernel) rfl (by decide) (by decide) (by decide) hl.1 (Nat.le_of_ble_eq_true rfl) (by decide) (by decide) jd_len_6 ?_
  refine lv_ishr hx hb jd_len_9 ?_
  have e1 : Int32.ofNat (pm_len.getD i 0) >>> ((0 : Int32) &&& 31) = Int32.ofNat (pm_len.getD i 0) := by
    rcases (show i = 0 ∨ i = 1 by omega) with rfl | rfl <;> decide +kernel
  rw [e1]
  exact W.iret hx hb hr (fun t ht _ => ⟨rfl, ht⟩) (fun q hq => absurd hq List.not_mem_nil) jd_len_10
theorem jc_pre (G : pm_G) (A : Nat → Prop) (k n : Int32) (z : Value) (hz : z.category = 1) (h0 : ¬ k < 0) (h1 : k < n) : Met (g_l G) jy_pre (jr_w jy_pre jb_pre 3 (some .int)) (jr_m 1) (jr_P G A [.int k, .int n, z]) (QcRead k) 0 0 (fun _ => False) := by
  refine jr_of (by decide +kernel) (by cases z <;> first | exact Nat.le_of_ble_eq_true rfl | (simp [Value.category] at hz)) ?_
  intro p e s m below meth c ls ⟨hx, hb, hml, hr, hown, hts, hSg, hlocks⟩ hl
  have hl : lv_has ls 3 [(0, .int k), (1, .int n), (2, z)] := hl
  refine lv_iload_n hx hb jd_pre_0 rfl (lv_at hl 0 rfl) ?_
  refine lv_if_lt (tgt := 9) hx hb jd_pre_1 (by decide) (fun q => absurd q h0) (fun _ => ?_)
  refine lv_iload_n hx hb jd_pre_4 rfl (lv_at hl 0 rfl) ?_
  refine lv_iload_n hx hb jd_pre_5 rfl (lv_at hl 1 rfl) ?_
  refine lv_icmp_lt (tgt := 16) hx hb jd_pre_6 (by decide) (fun _ => ?_) (fun q => absurd h1 q)
  refine lv_iload_n hx hb jd_pre_16 rfl (lv_at hl 0 rfl) ?_
  exact W.iret hx hb hr (fun t ht _ => ⟨rfl, ht⟩) (fun q hq => absurd hq List.not_mem_nil) jd_pre_17
def jq_v : Array Value → State → Outcome → State → Prop := fun _ st o t => o = .returned none ∧ t.heap = st.heap
theorem jc_chk (G : pm_G) (A : Nat → Prop) (k n : Int32) (h0 : ¬ k < 0) (h1 : k < n) : Met (g_l G) jy_chk (jr_w jy_chk jb_chk 2 none) (jr_m 2) (jr_P G A [.int k, .int n]) jq_v 0 0 (fun _ => False) := by
  refine jr_of (by decide +kernel) (Nat.le_of_ble_eq_true rfl) ?_
  intro p e s m below meth c ls ⟨hx, hb, hml, hr, hown, hts, hSg, hlocks⟩ hl
  have hS : va_S A s.heap s.heap [] := va_S.rf
  have hl : lv_has ls 2 [(0, .int k), (1, .int n)] := hl
  refine lv_iload_n hx hb jd_chk_0 rfl (lv_at hl 0 rfl) ?_
  refine lv_iload_n hx hb jd_chk_1 rfl (lv_at hl 1 rfl) ?_
  have key : ∀ z : Value, z.category = 1 → va_Z "jdk/internal/util/Preconditions" "SIOOBE_FORMATTER" "Ljava/util/function/BiFunction;" z A s s.heap → W p (g_l G) e (jr_m 2) s m [Value.int k, Value.int n].toArray below meth c s.heap [] 0 0 (MQ below jq_v [Value.int k, Value.int n].toArray s 0 0 (fun _ => False)) (F0 m 2 ls [.int n, .int k]) := by
    intro z hz hZ
    refine va_gets hx hb hZ hS hown (hts _ jf_1053) (js_same _ _ _ _) jd_chk_2 ?_
    refine jr_callS (As := [.int k, .int n, z]) (rest := []) (na := 3) ⟨hx, hb, hml, hown, hts⟩ hSg hS (jc_pre G A k n z hz h0 h1) jw_pre js_pre jl_1059_pre jn_P (by decide +kernel) (by decide +kernel) rfl (by decide) (by decide) (by decide) hl.1 (by decide) (by decide) (by decide) jd_chk_5 ?_
    refine lv_pop hx hb jd_chk_8 rfl ?_
    exact W.vret hx hb hr (fun t ht _ => ⟨rfl, ht⟩) (fun q hq => absurd hq List.not_mem_nil) jd_chk_9
  rcases hSg.2.2.2.2 with hZ | ⟨t, hZ⟩
  · exact key .null rfl hZ
  · exact key (.ref t) rfl hZ
theorem jc_lch (G : pm_G) (A : Nat → Prop) {i : Nat} (hi : i < 2) (k : Int32) (h0 : ¬ k < 0) (h1 : k < Int32.ofNat (pm_len.getD i 0)) (hin : vp_in k (pm_len.getD i 0)) (r : Int32) (hr0 : ((((pm_byt.getD i []).getD k.toNatClampNeg 0) &&& 255).toUInt32 % 65536).toInt32 = r) (hrn : narrow .char (.int r) = .int r) : Met (g_l G) jy_lch (jr_w jy_lch jb_lch 2 (some .char)) (jr_m 3) (jr_P G A [.ref (g_V G i), .int k]) (QcRead r) 0 0 (fun _ => False) := by
  refine jr_of (by decide +kernel) (Nat.le_of_ble_eq_true rfl) ?_
  intro p e s m below meth c ls ⟨hx, hb, hml, hr, hown, hts, hSg, hlocks⟩ hl
  have hS : va_S A s.heap s.heap [] := va_S.rf
  have hl : lv_has ls 2 [(0, .ref (g_V G i)), (1, .int k)] := hl
  refine lv_iload_n hx hb jd_lch_0 rfl (lv_at hl 1 rfl) ?_
  refine lv_aload_n hx hb jd_lch_1 rfl (lv_at hl 0 rfl) ?_
  refine va_tlen hx hb (hSg.1.1 i hi).2.2.2 hS rfl jd_lch_2 ?_
  have hrun := W.runS (As := [.int k, .int (Int32.ofNat (pm_len.getD i 0))]) (rest := []) (n := 2) (H := s.heap) (locs := []) (cells := 0) (slots := 0) (e := e) (below := below) (meth := meth) (R := jr_m 3) (g := F0 m 3 ls [.int (Int32.ofNat (pm_len.getD i 0)), .int k]) ⟨hx, hb, hml, hown, hts⟩ (jc_chk G A k (Int32.ofNat (pm_len.getD i 0)) h0 h1) ⟨⟨rfl, rfl, by decide, by decide, pay_in hts (jr_good jw_chk), List.mem_cons_self, hts _ jw_chk, hts _ jn_S, by decide +kernel, fun sig hh => by (have h2 : (parseMethodDescriptor jy_chk.desc).map (fun z => z.parameters.length) = some 2 := by decide +kernel); rw [hh] at h2; exact (Option.some.inj h2).symm, hts _ jl_9_chk⟩, hts _ js_chk⟩ ⟨jr_blind G A _, fun U hU hW => ⟨rfl, pm_Sg_warm hW hU hS (fun _ h => h) hSg⟩⟩ rfl rfl hl.1 rfl (lv_room (by decide)) jd_lch_3 ⟨by decide, by decide⟩
  refine W.callX hrun (fun _ h => h.elim) ?_
  intro v st₀ t h00 hq
  obtain ⟨hv, hh⟩ := hq
  cases hv
  rw [hh, h00]
  show W p (g_l G) e (jr_m 3) s m _ below meth c s.heap [] 0 0 _ (F0 m 6 ls [])
  refine lv_aload_n hx hb jd_lch_6 rfl (lv_at hl 0 rfl) ?_
  refine lv_iload_n hx hb jd_lch_7 rfl (lv_at hl 1 rfl) ?_
  refine va_tb hx hb (hSg.1.1 i hi).2.2.2 hS hin rfl jd_lch_8 ?_
  refine lv_sipush (v := 255) hx hb jd_lch_9 (by decide) ?_
  refine lv_iand hx hb jd_lch_12 ?_
  refine lv_i2c hx hb jd_lch_13 hr0 ?_
  exact W.zret hx hb hr hrn (fun t ht _ => ⟨rfl, ht⟩) (fun q hq => absurd hq List.not_mem_nil) jd_lch_14
theorem jc_chr (G : pm_G) (A : Nat → Prop) {i : Nat} (hi : i < 2) (k : Int32) (h0 : ¬ k < 0) (h1 : k < Int32.ofNat (pm_len.getD i 0)) (hin : vp_in k (pm_len.getD i 0)) (r : Int32) (hr0 : ((((pm_byt.getD i []).getD k.toNatClampNeg 0) &&& 255).toUInt32 % 65536).toInt32 = r) (hrn : narrow .char (.int r) = .int r) : Met (g_l G) jy_chr (jr_w jy_chr jb_chr 2 (some .char)) (jr_m 4) (jr_P G A [.ref (g_K G i), .int k]) (QcRead r) 0 0 (fun _ => False) := by
  refine jr_of (by decide +kernel) (Nat.le_of_ble_eq_true rfl) ?_
  intro p e s m below meth c ls ⟨hx, hb, hml, hr, hown, hts, hSg, hlocks⟩ hl
  have hS : va_S A s.heap s.heap [] := va_S.rf
  have hl : lv_has ls 2 [(0, .ref (g_K G i)), (1, .int k)] := hl
  refine lv_aload_n hx hb jd_chr_0 rfl (lv_at hl 0 rfl) ?_
  refine jr_callV (As := []) (na := 0) ⟨hx, hb, hml, hown, hts⟩ hSg hS hi (jc_lat G A hi) jw_lat ji_lat je_lat jl_492_lat jn_S (by decide +kernel) (by decide +kernel) rfl (by decide) (by decide) (by decide) hl.1 (by decide) (by decide) (by decide) jd_chr_1 ?_
  refine lv_if_eq (tgt := 16) hx hb jd_chr_4 (by decide) (fun z => absurd z (by decide)) (fun _ => ?_)
  refine lv_aload_n hx hb jd_chr_7 rfl (lv_at hl 0 rfl) ?_
  refine vk_getf hx hb (hSg.1.1 i hi).2.2.1 hS hown (hts _ jf_9) (js_same _ _ _ _) jd_chr_8 ?_
  refine lv_iload_n hx hb jd_chr_11 rfl (lv_at hl 1 rfl) ?_
  refine jr_callS (As := [.ref (g_V G i), .int k]) (rest := []) (na := 2) ⟨hx, hb, hml, hown, hts⟩ hSg hS (jc_lch G A hi k h0 h1 hin r hr0 hrn) jw_lch js_lch jl_495_lch jn_L (by decide +kernel) (by decide +kernel) rfl (by decide) (by decide) (by decide) hl.1 (by decide) (by decide) (by decide) jd_chr_12 ?_
  exact W.zret hx hb hr hrn (fun t ht _ => ⟨rfl, ht⟩) (fun q hq => absurd hq List.not_mem_nil) jd_chr_15

theorem jx_n (k : Nat) : Int32.ofInt (k : Int) = Int32.ofNat k := by first | rfl | exact Int32.ofInt_eq_ofNat | simp
theorem jx_a : ∀ b : Nat, b < 128 → ∀ c : Nat, c < 256 → (Int32.ofNat b = (Int32.ofNat c).toInt8.toInt32 ↔ b = c) := by decide +kernel
theorem jx_b : ∀ i : Nat, i < 2 → ∀ j : Nat, j < pm_len.getD i 0 → (pm_byt.getD i []).getD j 0 = Int32.ofNat ((x_byt i).getD j 0).toNat ∧ 0 ≤ (x_byt i).getD j 0 ∧ (x_byt i).getD j 0 < 128 := by decide +kernel
theorem jx_len : ∀ i : Nat, i < 2 → (x_byt i).length = pm_len.getD i 0 := by decide +kernel
theorem jx_l2 : ∀ i : Nat, i < 2 → pm_len.getD i 0 < 200 := by decide +kernel
theorem jx_chr : ∀ i : Nat, i < 2 → ∀ j : Nat, j < pm_len.getD i 0 → ((((pm_byt.getD i []).getD j 0) &&& 255).toUInt32 % 65536).toInt32 = Int32.ofInt ((x_byt i).getD j 0) := by decide +kernel
theorem jx_nar : ∀ i : Nat, i < 2 → ∀ j : Nat, j < pm_len.getD i 0 → (Int32.ofInt ((x_byt i).getD j 0)).toUInt32.toUInt16.toUInt32.toInt32 = Int32.ofInt ((x_byt i).getD j 0) := by decide +kernel
theorem jx_eq {i j : Nat} {c : Int} (hi : i < 2) (hj : j < pm_len.getD i 0) (h0 : 0 ≤ c) (h1 : c ≤ 255) : (pm_byt.getD i []).getD j 0 = (Int32.ofInt c).toInt8.toInt32 ↔ (x_byt i).getD j 0 = c := by
  obtain ⟨e1, e2, e3⟩ := jx_b i hi j hj
  rw [e1]
  have e4 : Int32.ofInt c = Int32.ofNat c.toNat := by
    have : c = (c.toNat : Int) := by omega
    exact (congrArg Int32.ofInt this).trans (jx_n _)
  rw [e4, jx_a _ (by omega) _ (by omega)]
  omega
theorem jx_none {c : Int} (l : List Int) (k : Int) (h : ∀ b ∈ l, b ≠ c) : x_find c l k = -1 := by
  induction l generalizing k with
  | nil => rfl
  | cons b l ih =>
    rw [x_find, if_neg (h b List.mem_cons_self)]
    exact ih _ (fun b' hb => h b' (List.mem_cons_of_mem _ hb))
theorem jx_out {i : Nat} {c : Int} (hi : i < 2) (h : ¬ (0 ≤ c ∧ c ≤ 255)) : x_find c (x_byt i) 0 = -1 := by
  refine jx_none _ _ fun b hb => ?_
  obtain ⟨j, hj, e⟩ := List.getElem_of_mem hb
  have h1 := jx_b i hi j (by rw [← jx_len i hi]; exact hj)
  rw [show (x_byt i).getD j 0 = b by rw [List.getD_eq_getElem?_getD, List.getElem?_eq_getElem hj, Option.getD_some, e]] at h1
  rintro rfl
  exact h ⟨h1.2.1, by omega⟩
theorem jx_drop {i j : Nat} {c : Int} (hj : j < (x_byt i).length) : x_find c ((x_byt i).drop j) j = if (x_byt i).getD j 0 = c then (j : Int) else x_find c ((x_byt i).drop (j + 1)) ((j + 1 : Nat) : Int) := by
  rw [List.drop_eq_getElem_cons hj, x_find, List.getD_eq_getElem?_getD, List.getElem?_eq_getElem hj, Option.getD_some]
  rfl
theorem jc_can (G : pm_G) (A : Nat → Prop) (x r : Int32) (h : r = if 0 ≤ x ∧ x ≤ 255 then 1 else 0) : Met (g_l G) jy_can (jr_w jy_can jb_can 1 (some .boolean)) (jr_m 1) (jr_P G A [.int x]) (QcRead r) 0 0 (fun _ => False) := by
  refine jr_of (by decide +kernel) (Nat.le_of_ble_eq_true rfl) ?_
  intro p e s m below meth c ls ⟨hx, hb, hml, hr, hown, hts, hSg, hlocks⟩ hl
  have hl : lv_has ls 1 [(0, .int x)] := hl
  have no : r = 0 → W p (g_l G) e (jr_m 1) s m [Value.int x].toArray below meth c s.heap [] 0 0 (MQ below (QcRead r) [Value.int x].toArray s 0 0 (fun _ => False)) (F0 m 15 ls []) := by
    intro h0
    refine lv_iconst (v := 0) hx hb jd_can_15 (by decide) ?_
    subst h0
    exact W.zret hx hb hr (by decide) (fun t ht _ => ⟨rfl, ht⟩) (fun q hq => absurd hq List.not_mem_nil) jd_can_16
  refine lv_iload_n hx hb jd_can_0 rfl (lv_at hl 0 rfl) ?_
  refine lv_if_lt (tgt := 15) hx hb jd_can_1 (by decide) (fun q => no ?_) (fun q => ?_)
  · rw [h, if_neg]
    intro z
    exact absurd z.1 (Int32.not_le.mpr q)
  refine lv_iload_n hx hb jd_can_4 rfl (lv_at hl 0 rfl) ?_
  refine lv_sipush (v := 255) hx hb jd_can_5 (by decide) ?_
  refine lv_icmp_gt (tgt := 15) hx hb jd_can_8 (by decide) (fun q2 => no ?_) (fun q2 => ?_)
  · rw [h, if_neg]
    intro z
    exact absurd z.2 (Int32.not_le.mpr q2)
  rw [if_pos ⟨Int32.not_lt.mp q, Int32.not_lt.mp q2⟩] at h
  subst h
  refine lv_iconst (v := 1) hx hb jd_can_11 (by decide) ?_
  refine lv_goto (tgt := 16) hx hb jd_can_12 (by decide) ?_
  exact W.zret hx hb hr (by decide) (fun t ht _ => ⟨rfl, ht⟩) (fun q hq => absurd hq List.not_mem_nil) jd_can_16
theorem jc_loc (G : pm_G) (A : Nat → Prop) {i : Nat} (hi : i < 2) (c : Int) (h0 : 0 ≤ c) (h1 : c ≤ 255) : Met (g_l G) jy_loc (jr_w jy_loc jb_loc 6 (some .int)) (jr_m 1) (jr_P G A [.ref (g_V G i), .int (Int32.ofInt c), .int 0, .int (nI (pm_len.getD i 0))]) (QcRead (Int32.ofInt (x_find c (x_byt i) 0))) 0 0 (fun _ => False) := by
  refine jr_of (by decide +kernel) (Nat.le_of_ble_eq_true rfl) ?_
  intro p e s m below meth cc ls ⟨hx, hb, hml, hr, hown, hts, hSg, hlocks⟩ hl
  have hS : va_S A s.heap s.heap [] := va_S.rf
  have hl : lv_has ls 6 [(0, .ref (g_V G i)), (1, .int (Int32.ofInt c)), (2, .int 0), (3, .int (nI (pm_len.getD i 0)))] := hl
  have h200 := jx_l2 i hi
  have hlen := jx_len i hi
  generalize [Value.ref (g_V G i), Value.int (Int32.ofInt c), Value.int 0, Value.int (nI (pm_len.getD i 0))].toArray = args at *
  refine lv_iload_n hx hb jd_loc_0 rfl (lv_at hl 1 rfl) ?_
  refine lv_i2b hx hb jd_loc_1 rfl ?_
  refine lv_istore (nL := 6) hx hb jd_loc_2 hl (by decide) rfl ?_
  intro ls1 hl1
  refine lv_iload_n hx hb jd_loc_4 rfl (lv_at hl1 3 rfl) ?_
  refine lv_istore (nL := 6) hx hb jd_loc_5 hl1 (by decide) rfl ?_
  intro ls2 hl2
  have loop : ∀ (k j : Nat) (lsj : Array Slot), j + k = pm_len.getD i 0 → lv_has lsj 6 [(5, .int (nI j)), (4, .int ((Int32.ofInt c).toInt8.toInt32)), (0, .ref (g_V G i)), (1, .int (Int32.ofInt c)), (2, .int 0), (3, .int (nI (pm_len.getD i 0)))] →
      W p (g_l G) e (jr_m 1) s m args below meth cc s.heap [] 0 0 (MQ below (QcRead (Int32.ofInt (x_find c ((x_byt i).drop j) j))) args s 0 0 (fun _ => False)) (F0 m 7 lsj []) := by
    intro k
    induction k with
    | zero =>
      intro j lsj hj hlj
      refine lv_iload hx hb jd_loc_7 (lv_at hlj 0 rfl) ?_
      refine lv_iload_n hx hb jd_loc_9 rfl (lv_at hlj 5 rfl) ?_
      refine lv_icmp_ge (tgt := 31) hx hb jd_loc_10 (by decide) (fun _ => ?_) (fun q => absurd (nI_le (by omega) (by omega)) q)
      refine lv_iconst (v := -1) hx hb jd_loc_31 (by decide) ?_
      rw [List.drop_eq_nil_of_le (by omega)]
      exact W.iret hx hb hr (fun t ht _ => ⟨rfl, ht⟩) (fun q hq => absurd hq List.not_mem_nil) jd_loc_32
    | succ k ih =>
      intro j lsj hj hlj
      refine lv_iload hx hb jd_loc_7 (lv_at hlj 0 rfl) ?_
      refine lv_iload_n hx hb jd_loc_9 rfl (lv_at hlj 5 rfl) ?_
      refine lv_icmp_ge (tgt := 31) hx hb jd_loc_10 (by decide) (fun q => absurd q (nI_ge (by omega) (by omega))) (fun _ => ?_)
      refine lv_aload_n hx hb jd_loc_13 rfl (lv_at hlj 2 rfl) ?_
      refine lv_iload hx hb jd_loc_14 (lv_at hlj 0 rfl) ?_
      refine va_tb hx hb (hSg.1.1 i hi).2.2.2 hS (nI_in (by omega) (by omega)) (by rw [nI_clamp (by omega)]) jd_loc_16 ?_
      refine lv_iload hx hb jd_loc_17 (lv_at hlj 1 rfl) ?_
      rw [jx_drop (by omega)]
      refine lv_icmp_ne (tgt := 25) hx hb jd_loc_19 (by decide) (fun q => ?_) (fun q => ?_)
      · rw [if_neg (fun z => q ((jx_eq hi (by omega) h0 h1).mpr z))]
        refine lv_iinc (nL := 6) (k := 0) hx hb jd_loc_25 hlj rfl (show nI j + Int32.ofInt 1 = nI (j + 1) from nI_1 j) (by decide) rfl ?_
        intro ls3 hl3
        refine lv_goto (tgt := 7) hx hb jd_loc_28 (by decide) ?_
        exact ih (j + 1) ls3 (by omega) hl3
      · rw [if_pos ((jx_eq hi (by omega) h0 h1).mp q)]
        refine lv_iload hx hb jd_loc_22 (lv_at hlj 0 rfl) ?_
        exact W.iret hx hb hr (fun t ht _ => ⟨by rw [jx_n]; rfl, ht⟩) (fun q hq => absurd hq List.not_mem_nil) jd_loc_24
  exact loop (pm_len.getD i 0) 0 ls2 (by omega) hl2
theorem jc_lix (G : pm_G) (A : Nat → Prop) {i : Nat} (hi : i < 2) (c : Int) (hc : pm_i32 c) : Met (g_l G) jy_lix (jr_w jy_lix jb_lix 4 (some .int)) (jr_m 2) (jr_P G A [.ref (g_V G i), .int (Int32.ofInt c), .int 0, .int (nI (pm_len.getD i 0))]) (QcRead (Int32.ofInt (x_find c (x_byt i) 0))) 0 0 (fun _ => False) := by
  refine jr_of (by decide +kernel) (Nat.le_of_ble_eq_true rfl) ?_
  intro p e s m below meth cc ls ⟨hx, hb, hml, hr, hown, hts, hSg, hlocks⟩ hl
  have hS : va_S A s.heap s.heap [] := va_S.rf
  have hl : lv_has ls 4 [(0, .ref (g_V G i)), (1, .int (Int32.ofInt c)), (2, .int 0), (3, .int (nI (pm_len.getD i 0)))] := hl
  have h200 := jx_l2 i hi
  have h255 : (0 ≤ Int32.ofInt c ∧ Int32.ofInt c ≤ 255) ↔ (0 ≤ c ∧ c ≤ 255) := by
    have e1 := k32 (a := 0) (b := c) z32 hc
    have e2 := k32 (a := c) (b := 255) hc ⟨by omega, by omega⟩
    exact ⟨fun z => ⟨e1.mp z.1, e2.mp z.2⟩, fun z => ⟨e1.mpr z.1, e2.mpr z.2⟩⟩
  refine lv_iload_n hx hb jd_lix_0 rfl (lv_at hl 1 rfl) ?_
  refine jr_callS (As := [.int (Int32.ofInt c)]) (rest := []) (na := 1) ⟨hx, hb, hml, hown, hts⟩ hSg hS (jc_can G A (Int32.ofInt c) _ rfl) jw_can js_can jl_88_can jn_L (by decide +kernel) (by decide +kernel) rfl (by decide) (by decide) (by decide) hl.1 (by decide) (by decide) (by decide) jd_lix_1 ?_
  refine lv_if_ne (tgt := 9) hx hb jd_lix_4 (by decide) (fun q => ?_) (fun q => ?_)
  · by_cases hr1 : 0 ≤ Int32.ofInt c ∧ Int32.ofInt c ≤ 255
    · have hr2 := h255.mp hr1
      refine lv_iload_n hx hb jd_lix_9 rfl (lv_at hl 2 rfl) ?_
      refine lv_iconst (v := 0) hx hb jd_lix_10 (by decide) ?_
      refine va_mmax hx hb (by rw [hml]; exact hl.1.symm) hown (hts _ jm_max) (hts _ jms_max) (hts _ jn_M) (hts _ jmc_max) (by decide) (by decide) (by decide) (by decide) jd_lix_11 ?_
      refine lv_istore_n (nL := 4) hx hb jd_lix_14 rfl hl (by decide) rfl ?_
      intro ls1 hl1
      refine lv_iload_n hx hb jd_lix_15 rfl (lv_at hl1 3 rfl) ?_
      refine lv_aload_n hx hb jd_lix_16 rfl (lv_at hl1 1 rfl) ?_
      refine va_tlen hx hb (hSg.1.1 i hi).2.2.2 hS rfl jd_lix_17 ?_
      refine va_mmin hx hb (by rw [hml]; exact hl1.1.symm) hown (hts _ jm_min) (hts _ jms_min) (hts _ jn_M) (hts _ jmc_min) (by decide) (by decide) (by decide) (by decide) jd_lix_18 ?_
      have e3 : (if Int32.ofNat (pm_len.getD i 0) < nI (pm_len.getD i 0) then Int32.ofNat (pm_len.getD i 0) else nI (pm_len.getD i 0)) = nI (pm_len.getD i 0) := by
        split <;> rfl
      rw [e3]
      refine lv_istore_n (nL := 4) hx hb jd_lix_21 rfl hl1 (by decide) rfl ?_
      intro ls2 hl2
      have hl2 : lv_has ls2 4 [(3, .int (nI (pm_len.getD i 0))), (2, .int 0), (0, .ref (g_V G i)), (1, .int (Int32.ofInt c))] := hl2
      refine lv_iload_n hx hb jd_lix_22 rfl (lv_at hl2 1 rfl) ?_
      refine lv_iload_n hx hb jd_lix_23 rfl (lv_at hl2 0 rfl) ?_
      have h3 : (0 : Int32) < nI (pm_len.getD i 0) := by
        rcases (show i = 0 ∨ i = 1 by omega) with rfl | rfl <;> decide +kernel
      refine lv_icmp_lt (tgt := 29) hx hb jd_lix_24 (by decide) (fun _ => ?_) (fun q => absurd h3 q)
      refine lv_aload_n hx hb jd_lix_29 rfl (lv_at hl2 2 rfl) ?_
      refine lv_iload_n hx hb jd_lix_30 rfl (lv_at hl2 3 rfl) ?_
      refine lv_iload_n hx hb jd_lix_31 rfl (lv_at hl2 1 rfl) ?_
      refine lv_iload_n hx hb jd_lix_32 rfl (lv_at hl2 0 rfl) ?_
      refine jr_callS (As := [.ref (g_V G i), .int (Int32.ofInt c), .int 0, .int (nI (pm_len.getD i 0))]) (rest := []) (na := 4) ⟨hx, hb, hml, hown, hts⟩ hSg hS (jc_loc G A hi c hr2.1 hr2.2) jw_loc js_loc jl_95_loc jn_L (by decide +kernel) (by decide +kernel) rfl (by decide) (by decide) (by decide) hl2.1 (by decide) (by decide) (by decide) jd_lix_33 ?_
      exact W.iret hx hb hr (fun t ht _ => ⟨rfl, ht⟩) (fun q hq => absurd hq List.not_mem_nil) jd_lix_36
    · exact absurd (if_neg hr1) q
  · have hr1 : ¬ (0 ≤ Int32.ofInt c ∧ Int32.ofInt c ≤ 255) := fun z => by rw [if_pos z] at q; exact absurd q (by decide)
    rw [jx_out hi (fun z => hr1 (h255.mpr z))]
    refine lv_iconst (v := -1) hx hb jd_lix_7 (by decide) ?_
    exact W.iret hx hb hr (fun t ht _ => ⟨rfl, ht⟩) (fun q hq => absurd hq List.not_mem_nil) jd_lix_8
theorem jc_ix2 (G : pm_G) (A : Nat → Prop) {i : Nat} (hi : i < 2) (c : Int) (hc : pm_i32 c) : Met (g_l G) jy_ix2 (jr_w jy_ix2 jb_ix2 3 (some .int)) (jr_m 3) (jr_P G A [.ref (g_K G i), .int (Int32.ofInt c), .int 0]) (QcRead (Int32.ofInt (x_find c (x_byt i) 0))) 0 0 (fun _ => False) := by
  refine jr_of (by decide +kernel) (Nat.le_of_ble_eq_true rfl) ?_
  intro p e s m below meth cc ls ⟨hx, hb, hml, hr, hown, hts, hSg, hlocks⟩ hl
  have hS : va_S A s.heap s.heap [] := va_S.rf
  have hl : lv_has ls 3 [(0, .ref (g_K G i)), (1, .int (Int32.ofInt c)), (2, .int 0)] := hl
  refine lv_aload_n hx hb jd_ix2_0 rfl (lv_at hl 0 rfl) ?_
  refine jr_callV (As := []) (na := 0) ⟨hx, hb, hml, hown, hts⟩ hSg hS hi (jc_lat G A hi) jw_lat ji_lat je_lat jl_492_lat jn_S (by decide +kernel) (by decide +kernel) rfl (by decide) (by decide) (by decide) hl.1 (by decide) (by decide) (by decide) jd_ix2_1 ?_
  refine lv_if_eq (tgt := 23) hx hb jd_ix2_4 (by decide) (fun z => absurd z (by decide)) (fun _ => ?_)
  refine lv_aload_n hx hb jd_ix2_7 rfl (lv_at hl 0 rfl) ?_
  refine vk_getf hx hb (hSg.1.1 i hi).2.2.1 hS hown (hts _ jf_9) (js_same _ _ _ _) jd_ix2_8 ?_
  refine lv_iload_n hx hb jd_ix2_11 rfl (lv_at hl 1 rfl) ?_
  refine lv_iload_n hx hb jd_ix2_12 rfl (lv_at hl 2 rfl) ?_
  refine lv_aload_n hx hb jd_ix2_13 rfl (lv_at hl 0 rfl) ?_
  refine jr_callV (As := []) (na := 0) ⟨hx, hb, hml, hown, hts⟩ hSg hS hi (jc_len G A hi) jw_len ji_len je_len jl_505_len jn_S (by decide +kernel) (by decide +kernel) rfl (by decide) (by decide) (by decide) hl.1 (Nat.le_of_ble_eq_true rfl) (by decide) (by decide) jd_ix2_14 ?_
  refine jr_callS (As := [.ref (g_V G i), .int (Int32.ofInt c), .int 0, .int (nI (pm_len.getD i 0))]) (rest := []) (na := 4) ⟨hx, hb, hml, hown, hts⟩ hSg hS (jc_lix G A hi c hc) jw_lix js_lix jl_637_lix jn_L (by decide +kernel) (by decide +kernel) rfl (by decide) (by decide) (by decide) hl.1 (by decide) (by decide) (by decide) jd_ix2_17 ?_
  refine lv_goto (tgt := 36) hx hb jd_ix2_20 (by decide) ?_
  exact W.iret hx hb hr (fun t ht _ => ⟨rfl, ht⟩) (fun q hq => absurd hq List.not_mem_nil) jd_ix2_36
theorem jc_ix1 (G : pm_G) (A : Nat → Prop) {i : Nat} (hi : i < 2) (c : Int) (hc : pm_i32 c) : Met (g_l G) jy_ix1 (jr_w jy_ix1 jb_ix1 2 (some .int)) (jr_m 4) (jr_P G A [.ref (g_K G i), .int (Int32.ofInt c)]) (QcRead (Int32.ofInt (x_find c (x_byt i) 0))) 0 0 (fun _ => False) := by
  refine jr_of (by decide +kernel) (Nat.le_of_ble_eq_true rfl) ?_
  intro p e s m below meth cc ls ⟨hx, hb, hml, hr, hown, hts, hSg, hlocks⟩ hl
  have hS : va_S A s.heap s.heap [] := va_S.rf
  have hl : lv_has ls 2 [(0, .ref (g_K G i)), (1, .int (Int32.ofInt c))] := hl
  refine lv_aload_n hx hb jd_ix1_0 rfl (lv_at hl 0 rfl) ?_
  refine lv_iload_n hx hb jd_ix1_1 rfl (lv_at hl 1 rfl) ?_
  refine lv_iconst (v := 0) hx hb jd_ix1_2 (by decide) ?_
  refine jr_callV (As := [.int (Int32.ofInt c), .int 0]) (rest := []) (na := 2) ⟨hx, hb, hml, hown, hts⟩ hSg hS hi (jc_ix2 G A hi c hc) jw_ix2 ji_ix2 je_ix2 jl_633_ix2 jn_S (by decide +kernel) (by decide +kernel) rfl (by decide) (by decide) (by decide) hl.1 (by decide) (by decide) (by decide) jd_ix1_3 ?_
  exact W.iret hx hb hr (fun t ht _ => ⟨rfl, ht⟩) (fun q hq => absurd hq List.not_mem_nil) jd_ix1_6
/-! the literals: ldc, length, charAt, indexOf -/
section
variable {α : Type} {G : pm_G} {t : pm_T} {d pc n : Nat} {ls : pm_L} {st : List pm_V} {N : pm_N} {M : pm_M} {T : Option α} {Z : α → pm_Q → Prop}
theorem R_ldcS0 (ho : pm_oG G t) (h7 : pm_tO t = 7) (hi : pm_tI t pc = some (.ldc 138, 2)) (hw : pm_wd st ≤ 8) (r : pm_R G t d (pc + 2, ls, .inr (.inr (31, 0)) :: st, n, N, M) T Z) : pm_R G t d (pc, ls, st, n, N, M) T Z := by
  refine R_re (pm_re_stk (fun h1 h2 _ _ v hv => ?_) ?_) r
  · rcases List.mem_cons.mp hv with rfl | hv
    · exact Or.inr (Or.inl ⟨Or.inl rfl, by decide⟩)
    · exact h2 v hv
  · intro p e R s m args below meth c H locs cells slots Q A ad lsr hS hF hX hD kk
    have hown := hF.2.2.2.1
    rw [h7] at hown
    exact va_ldcS hF.1 hF.2.1 (own := "StatuesWhoOwe$Reader") hown hS.2.2.2.1 (ho.1.1 _ _ _ hi).1 kk
theorem R_ldcS1 (ho : pm_oG G t) (h7 : pm_tO t = 7) (hi : pm_tI t pc = some (.ldc 147, 2)) (hw : pm_wd st ≤ 8) (r : pm_R G t d (pc + 2, ls, .inr (.inr (31, 1)) :: st, n, N, M) T Z) : pm_R G t d (pc, ls, st, n, N, M) T Z := by
  refine R_re (pm_re_stk (fun h1 h2 _ _ v hv => ?_) ?_) r
  · rcases List.mem_cons.mp hv with rfl | hv
    · exact Or.inr (Or.inl ⟨Or.inl rfl, by decide⟩)
    · exact h2 v hv
  · intro p e R s m args below meth c H locs cells slots Q A ad lsr hS hF hX hD kk
    have hown := hF.2.2.2.1
    rw [h7] at hown
    exact va_ldcS hF.1 hF.2.1 (own := "StatuesWhoOwe$Reader") hown hS.2.2.2.2.1 (ho.1.1 _ _ _ hi).1 kk
theorem jx_w {n w : Nat} (h : pm_okv n (.inr (.inr (31, w)))) : w < 2 := by
  rcases h with h | h | h
  · exact absurd (show (31 : Nat) = 30 from h) (by decide)
  · exact h.2
  · exact absurd (show (31 : Nat) < 25 from h.1) (by decide)
theorem R_x_len {w : Nat} {K : Int → Option α} (ho : pm_oG G t) (h7 : pm_tO t = 7) (hi : pm_tI t pc = some (.invokevirtual 140, 3)) (hw : pm_wd st ≤ 8) (hd : 5 ≤ d) (k : ∀ y, pm_R G t d (pc + 3, ls, .inl y :: st, n, N, M) (K y) Z) : pm_R G t d (pc, ls, .inr (.inr (31, w)) :: st, n, N, M) ((x_len w).bind K) Z := by
  refine R_re (pm_re_rm (fun h2 v hv => ?_) ?_) (k ((x_byt w).length : Int))
  · rcases List.mem_cons.mp hv with rfl | hv
    · have h3 := jx_w (h2 _ List.mem_cons_self)
      have h4 := jx_len w h3
      have h5 := jx_l2 w h3
      exact ⟨by omega, by omega⟩
    · exact h2 v (List.mem_cons_of_mem _ hv)
  · intro p e R s m args below meth c H locs cells slots Q A ad lsr hS hF hD hc hs kk
    have hw2 : w < 2 := jx_w (hD.2.2.2.2.1 (.inr (.inr (31, w))) List.mem_cons_self)
    have hown := hF.2.2.2.1
    rw [h7] at hown
    have hR1 := hF.2.2.2.2.2.1
    have hR2 := hF.2.2.2.2.2.2
    refine jr_callV (own := "StatuesWhoOwe$Reader") (As := []) (na := 0) ⟨hF.1, hF.2.1, hF.2.2.1, hown, hS.1⟩ hS.2.2 hD.2.1 hw2 (jc_len G A hw2) jw_len ji_len je_len jl_140_len jn_S (by decide +kernel) (by decide +kernel) rfl (by decide) (by omega) (by omega) hD.2.2.2.2.2.1 (by rw [pm_wd_sum]; exact hw) hc hs (ho.1.1 _ _ _ hi).1 ?_
    rw [← jx_len w hw2, ← jx_n]
    exact kk
theorem R_x_chr {w : Nat} {i : Int} {K : Int → Option α} (ho : pm_oG G t) (h7 : pm_tO t = 7) (hi : pm_tI t pc = some (.invokevirtual 143, 3)) (hw : pm_wd st ≤ 8) (hd : 5 ≤ d) (k : ∀ y, pm_R G t d (pc + 3, ls, .inl y :: st, n, N, M) (K y) Z) : pm_R G t d (pc, ls, .inl i :: .inr (.inr (31, w)) :: st, n, N, M) ((x_chr w i).bind K) Z := by
  unfold x_chr
  by_cases hir : 0 ≤ i ∧ i < ((x_byt w).length : Int)
  · rw [if_pos hir]
    refine R_re (pm_re_rm (fun h2 v hv => ?_) ?_) (k _)
    · have h3 := jx_w (h2 _ (List.mem_cons_of_mem _ List.mem_cons_self))
      rcases List.mem_cons.mp hv with rfl | hv
      · have h4 := jx_b w h3 i.toNat (by have := jx_len w h3; omega)
        exact ⟨by omega, by omega⟩
      · exact h2 v (List.mem_cons_of_mem _ (List.mem_cons_of_mem _ hv))
    · intro p e R s m args below meth c H locs cells slots Q A ad lsr hS hF hD hc hs kk
      have hw2 : w < 2 := jx_w (hD.2.2.2.2.1 (.inr (.inr (31, w))) (List.mem_cons_of_mem _ List.mem_cons_self))
      have hown := hF.2.2.2.1
      rw [h7] at hown
      have hR1 := hF.2.2.2.2.2.1
      have hR2 := hF.2.2.2.2.2.2
      have hlen := jx_len w hw2
      have h200 := jx_l2 w hw2
      have ei : Int32.ofInt i = nI i.toNat := by
        have : i = (i.toNat : Int) := by omega
        exact (congrArg Int32.ofInt this).trans (jx_n _)
      have hj : i.toNat < pm_len.getD w 0 := by omega
      show W p (g_l G) e R s m args below meth c H locs cells slots Q (F0 m pc lsr (.int (Int32.ofInt i) :: .ref (g_K G w) :: st.map (pm_tv G ad)))
      refine jr_callV (own := "StatuesWhoOwe$Reader") (As := [.int (Int32.ofInt i)]) (na := 1) ⟨hF.1, hF.2.1, hF.2.2.1, hown, hS.1⟩ hS.2.2 hD.2.1 hw2 (jc_chr G A hw2 (Int32.ofInt i) ?_ ?_ ?_ (Int32.ofInt ((x_byt w).getD i.toNat 0)) ?_ ?_) jw_chr ji_chr je_chr jl_143_chr jn_S (by decide +kernel) (by decide +kernel) rfl (by decide) (by omega) (by omega) hD.2.2.2.2.2.1 (by rw [pm_wd_sum]; exact hw) hc hs (ho.1.1 _ _ _ hi).1 kk
      · rw [ei]; exact nI_pos (by omega)
      · rw [ei]; exact nI_lt hj (by omega)
      · rw [ei]; exact nI_in hj (by omega)
      · rw [ei, nI_clamp (by omega)]; exact jx_chr w hw2 _ hj
      · exact congrArg Value.int (jx_nar w hw2 _ hj)
  · rw [if_neg hir]; exact R_none
theorem x_find_i32 {c : Int} : ∀ (l : List Int) (k : Int), 0 ≤ k → k + l.length < 1000 → pm_i32 (x_find c l k)
  | [], k, h0, h1 => ⟨by rw [x_find]; omega, by rw [x_find]; omega⟩
  | b :: l, k, h0, h1 => by
    rw [x_find]
    have h2 : ((b :: l).length : Int) = l.length + 1 := by simp
    by_cases hb : b = c
    · rw [if_pos hb]; exact ⟨by omega, by omega⟩
    · rw [if_neg hb]; exact x_find_i32 l (k + 1) (by omega) (by omega)
theorem R_x_idx {w : Nat} {c : Int} {K : Int → Option α} (ho : pm_oG G t) (h7 : pm_tO t = 7) (hi : pm_tI t pc = some (.invokevirtual 149, 3)) (hw : pm_wd st ≤ 8) (hd : 5 ≤ d) (k : ∀ y, pm_R G t d (pc + 3, ls, .inl y :: st, n, N, M) (K y) Z) : pm_R G t d (pc, ls, .inl c :: .inr (.inr (31, w)) :: st, n, N, M) ((x_idx w c).bind K) Z := by
  refine R_re (pm_re_rm (fun h2 v hv => ?_) ?_) (k (x_find c (x_byt w) 0))
  · rcases List.mem_cons.mp hv with rfl | hv
    · have h3 := jx_w (h2 _ (List.mem_cons_of_mem _ List.mem_cons_self))
      have h4 := jx_len w h3
      have h5 := jx_l2 w h3
      exact x_find_i32 _ 0 (by omega) (by omega)
    · exact h2 v (List.mem_cons_of_mem _ (List.mem_cons_of_mem _ hv))
  · intro p e R s m args below meth cc H locs cells slots Q A ad lsr hS hF hD hc hs kk
    have hw2 : w < 2 := jx_w (hD.2.2.2.2.1 (.inr (.inr (31, w))) (List.mem_cons_of_mem _ List.mem_cons_self))
    have hco : pm_i32 c := hD.2.2.2.2.1 (.inl c) List.mem_cons_self
    have hown := hF.2.2.2.1
    rw [h7] at hown
    have hR1 := hF.2.2.2.2.2.1
    have hR2 := hF.2.2.2.2.2.2
    show W p (g_l G) e R s m args below meth cc H locs cells slots Q (F0 m pc lsr (.int (Int32.ofInt c) :: .ref (g_K G w) :: st.map (pm_tv G ad)))
    exact jr_callV (own := "StatuesWhoOwe$Reader") (As := [.int (Int32.ofInt c)]) (na := 1) ⟨hF.1, hF.2.1, hF.2.2.1, hown, hS.1⟩ hS.2.2 hD.2.1 hw2 (jc_ix1 G A hw2 c hco) jw_ix1 ji_ix1 je_ix1 jl_149_ix1 jn_S (by decide +kernel) (by decide +kernel) rfl (by decide) (by omega) (by omega) hD.2.2.2.2.2.1 (by rw [pm_wd_sum]; exact hw) hc hs (ho.1.1 _ _ _ hi).1 kk
end
