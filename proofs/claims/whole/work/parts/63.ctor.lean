/-! ===== constructors ===== -/
def cWs (y : MethodName) (cc : ByteArray) (n : Nat) : List Cond := .code y cc n none :: jm_tg
theorem cWs_in {y : MethodName} {cc : ByteArray} {n : Nat} (h : Cond.code y cc n none ∈ lw_tbl) : GoodIn jm_tg (cWs y cc n) := by
  intro w hw
  rcases List.mem_cons.mp hw with rfl | h2
  · exact ⟨List.mem_filter.mpr ⟨h, rfl⟩, good_of_word rfl⟩
  · exact ⟨h2, good_of_word (jm_tg_good h2)⟩
abbrev kc0 : ByteArray := prog_2_method_1_code
def ky0 : MethodName := ⟨jR0, "<init>", "()V"⟩
theorem kd0_0 : decode kc0 0 = .ok (.aload_n 0, 1) := by decide +kernel
theorem kd0_1 : decode kc0 1 = .ok (.invokespecial 3, 3) := by decide +kernel
theorem kd0_4 : decode kc0 4 = .ok (.aload_n 0, 1) := by decide +kernel
theorem kd0_5 : decode kc0 5 = .ok (.bipush 12, 2) := by decide +kernel
theorem kd0_7 : decode kc0 7 = .ok (.newarray .int, 2) := by decide +kernel
theorem kd0_9 : decode kc0 9 = .ok (.putfield 9, 3) := by decide +kernel
theorem kd0_12 : decode kc0 12 = .ok (.aload_n 0, 1) := by decide +kernel
theorem kd0_13 : decode kc0 13 = .ok (.bipush 12, 2) := by decide +kernel
theorem kd0_15 : decode kc0 15 = .ok (.newarray .int, 2) := by decide +kernel
theorem kd0_17 : decode kc0 17 = .ok (.putfield 15, 3) := by decide +kernel
theorem kd0_20 : decode kc0 20 = .ok (.aload_n 0, 1) := by decide +kernel
theorem kd0_21 : decode kc0 21 = .ok (.bipush 12, 2) := by decide +kernel
theorem kd0_23 : decode kc0 23 = .ok (.newarray .int, 2) := by decide +kernel
theorem kd0_25 : decode kc0 25 = .ok (.putfield 18, 3) := by decide +kernel
theorem kd0_28 : decode kc0 28 = .ok (.aload_n 0, 1) := by decide +kernel
theorem kd0_29 : decode kc0 29 = .ok (.bipush 12, 2) := by decide +kernel
theorem kd0_31 : decode kc0 31 = .ok (.newarray .int, 2) := by decide +kernel
theorem kd0_33 : decode kc0 33 = .ok (.putfield 21, 3) := by decide +kernel
theorem kd0_36 : decode kc0 36 = .ok (.aload_n 0, 1) := by decide +kernel
theorem kd0_37 : decode kc0 37 = .ok (.bipush 12, 2) := by decide +kernel
theorem kd0_39 : decode kc0 39 = .ok (.newarray .int, 2) := by decide +kernel
theorem kd0_41 : decode kc0 41 = .ok (.putfield 24, 3) := by decide +kernel
theorem kd0_44 : decode kc0 44 = .ok (.aload_n 0, 1) := by decide +kernel
theorem kd0_45 : decode kc0 45 = .ok (.bipush 12, 2) := by decide +kernel
theorem kd0_47 : decode kc0 47 = .ok (.newarray .int, 2) := by decide +kernel
theorem kd0_49 : decode kc0 49 = .ok (.putfield 27, 3) := by decide +kernel
theorem kd0_52 : decode kc0 52 = .ok (.aload_n 0, 1) := by decide +kernel
theorem kd0_53 : decode kc0 53 = .ok (.bipush 12, 2) := by decide +kernel
theorem kd0_55 : decode kc0 55 = .ok (.newarray .int, 2) := by decide +kernel
theorem kd0_57 : decode kc0 57 = .ok (.putfield 30, 3) := by decide +kernel
theorem kd0_60 : decode kc0 60 = .ok (.aload_n 0, 1) := by decide +kernel
theorem kd0_61 : decode kc0 61 = .ok (.bipush 12, 2) := by decide +kernel
theorem kd0_63 : decode kc0 63 = .ok (.newarray .int, 2) := by decide +kernel
theorem kd0_65 : decode kc0 65 = .ok (.putfield 33, 3) := by decide +kernel
theorem kd0_68 : decode kc0 68 = .ok (.aload_n 0, 1) := by decide +kernel
theorem kd0_69 : decode kc0 69 = .ok (.bipush 12, 2) := by decide +kernel
theorem kd0_71 : decode kc0 71 = .ok (.newarray .int, 2) := by decide +kernel
theorem kd0_73 : decode kc0 73 = .ok (.putfield 36, 3) := by decide +kernel
theorem kd0_76 : decode kc0 76 = .ok (.aload_n 0, 1) := by decide +kernel
theorem kd0_77 : decode kc0 77 = .ok (.bipush 48, 2) := by decide +kernel
theorem kd0_79 : decode kc0 79 = .ok (.newarray .int, 2) := by decide +kernel
theorem kd0_81 : decode kc0 81 = .ok (.putfield 39, 3) := by decide +kernel
theorem kd0_84 : decode kc0 84 = .ok (.aload_n 0, 1) := by decide +kernel
theorem kd0_85 : decode kc0 85 = .ok (.iconst 4, 1) := by decide +kernel
theorem kd0_86 : decode kc0 86 = .ok (.newarray .int, 2) := by decide +kernel
theorem kd0_88 : decode kc0 88 = .ok (.putfield 42, 3) := by decide +kernel
theorem kd0_91 : decode kc0 91 = .ok (.aload_n 0, 1) := by decide +kernel
theorem kd0_92 : decode kc0 92 = .ok (.iconst 0, 1) := by decide +kernel
theorem kd0_93 : decode kc0 93 = .ok (.putfield 45, 3) := by decide +kernel
theorem kd0_96 : decode kc0 96 = .ok (.aload_n 0, 1) := by decide +kernel
theorem kd0_97 : decode kc0 97 = .ok (.iconst 0, 1) := by decide +kernel
theorem kd0_98 : decode kc0 98 = .ok (.putfield 49, 3) := by decide +kernel
theorem kd0_101 : decode kc0 101 = .ok (.aload_n 0, 1) := by decide +kernel
theorem kd0_102 : decode kc0 102 = .ok (.iconst 0, 1) := by decide +kernel
theorem kd0_103 : decode kc0 103 = .ok (.putfield 52, 3) := by decide +kernel
theorem kd0_106 : decode kc0 106 = .ok (.aload_n 0, 1) := by decide +kernel
theorem kd0_107 : decode kc0 107 = .ok (.iconst 0, 1) := by decide +kernel
theorem kd0_108 : decode kc0 108 = .ok (.putfield 55, 3) := by decide +kernel
theorem kd0_111 : decode kc0 111 = .ok (.aload_n 0, 1) := by decide +kernel
theorem kd0_112 : decode kc0 112 = .ok (.iconst 0, 1) := by decide +kernel
theorem kd0_113 : decode kc0 113 = .ok (.putfield 58, 3) := by decide +kernel
theorem kd0_116 : decode kc0 116 = .ok (.aload_n 0, 1) := by decide +kernel
theorem kd0_117 : decode kc0 117 = .ok (.iconst 0, 1) := by decide +kernel
theorem kd0_118 : decode kc0 118 = .ok (.putfield 61, 3) := by decide +kernel
theorem kd0_121 : decode kc0 121 = .ok (.return_, 1) := by decide +kernel
abbrev kc1 : ByteArray := prog_3_method_1_code
def ky1 : MethodName := ⟨jR1, "<init>", "()V"⟩
theorem kd1_0 : decode kc1 0 = .ok (.aload_n 0, 1) := by decide +kernel
theorem kd1_1 : decode kc1 1 = .ok (.invokespecial 3, 3) := by decide +kernel
theorem kd1_4 : decode kc1 4 = .ok (.aload_n 0, 1) := by decide +kernel
theorem kd1_5 : decode kc1 5 = .ok (.bipush 100, 2) := by decide +kernel
theorem kd1_7 : decode kc1 7 = .ok (.newarray .int, 2) := by decide +kernel
theorem kd1_9 : decode kc1 9 = .ok (.putfield 9, 3) := by decide +kernel
theorem kd1_12 : decode kc1 12 = .ok (.aload_n 0, 1) := by decide +kernel
theorem kd1_13 : decode kc1 13 = .ok (.bipush 100, 2) := by decide +kernel
theorem kd1_15 : decode kc1 15 = .ok (.newarray .int, 2) := by decide +kernel
theorem kd1_17 : decode kc1 17 = .ok (.putfield 15, 3) := by decide +kernel
theorem kd1_20 : decode kc1 20 = .ok (.return_, 1) := by decide +kernel
abbrev kc2 : ByteArray := prog_4_method_1_code
def ky2 : MethodName := ⟨jR2, "<init>", "()V"⟩
theorem kd2_0 : decode kc2 0 = .ok (.aload_n 0, 1) := by decide +kernel
theorem kd2_1 : decode kc2 1 = .ok (.invokespecial 3, 3) := by decide +kernel
theorem kd2_4 : decode kc2 4 = .ok (.aload_n 0, 1) := by decide +kernel
theorem kd2_5 : decode kc2 5 = .ok (.bipush 12, 2) := by decide +kernel
theorem kd2_7 : decode kc2 7 = .ok (.newarray .int, 2) := by decide +kernel
theorem kd2_9 : decode kc2 9 = .ok (.putfield 9, 3) := by decide +kernel
theorem kd2_12 : decode kc2 12 = .ok (.aload_n 0, 1) := by decide +kernel
theorem kd2_13 : decode kc2 13 = .ok (.bipush 48, 2) := by decide +kernel
theorem kd2_15 : decode kc2 15 = .ok (.newarray .int, 2) := by decide +kernel
theorem kd2_17 : decode kc2 17 = .ok (.putfield 15, 3) := by decide +kernel
theorem kd2_20 : decode kc2 20 = .ok (.aload_n 0, 1) := by decide +kernel
theorem kd2_21 : decode kc2 21 = .ok (.iconst 0, 1) := by decide +kernel
theorem kd2_22 : decode kc2 22 = .ok (.putfield 18, 3) := by decide +kernel
theorem kd2_25 : decode kc2 25 = .ok (.return_, 1) := by decide +kernel
abbrev kc3 : ByteArray := prog_5_method_1_code
def ky3 : MethodName := ⟨jR3, "<init>", "()V"⟩
theorem kd3_0 : decode kc3 0 = .ok (.aload_n 0, 1) := by decide +kernel
theorem kd3_1 : decode kc3 1 = .ok (.invokespecial 3, 3) := by decide +kernel
theorem kd3_4 : decode kc3 4 = .ok (.aload_n 0, 1) := by decide +kernel
theorem kd3_5 : decode kc3 5 = .ok (.bipush 12, 2) := by decide +kernel
theorem kd3_7 : decode kc3 7 = .ok (.newarray .int, 2) := by decide +kernel
theorem kd3_9 : decode kc3 9 = .ok (.putfield 9, 3) := by decide +kernel
theorem kd3_12 : decode kc3 12 = .ok (.aload_n 0, 1) := by decide +kernel
theorem kd3_13 : decode kc3 13 = .ok (.bipush 12, 2) := by decide +kernel
theorem kd3_15 : decode kc3 15 = .ok (.newarray .int, 2) := by decide +kernel
theorem kd3_17 : decode kc3 17 = .ok (.putfield 15, 3) := by decide +kernel
theorem kd3_20 : decode kc3 20 = .ok (.aload_n 0, 1) := by decide +kernel
theorem kd3_21 : decode kc3 21 = .ok (.iconst 0, 1) := by decide +kernel
theorem kd3_22 : decode kc3 22 = .ok (.putfield 18, 3) := by decide +kernel
theorem kd3_25 : decode kc3 25 = .ok (.aload_n 0, 1) := by decide +kernel
theorem kd3_26 : decode kc3 26 = .ok (.iconst (-1), 1) := by decide +kernel
theorem kd3_27 : decode kc3 27 = .ok (.putfield 22, 3) := by decide +kernel
theorem kd3_30 : decode kc3 30 = .ok (.aload_n 0, 1) := by decide +kernel
theorem kd3_31 : decode kc3 31 = .ok (.iconst (-1), 1) := by decide +kernel
theorem kd3_32 : decode kc3 32 = .ok (.putfield 25, 3) := by decide +kernel
theorem kd3_35 : decode kc3 35 = .ok (.aload_n 0, 1) := by decide +kernel
theorem kd3_36 : decode kc3 36 = .ok (.iconst 0, 1) := by decide +kernel
theorem kd3_37 : decode kc3 37 = .ok (.putfield 28, 3) := by decide +kernel
theorem kd3_40 : decode kc3 40 = .ok (.aload_n 0, 1) := by decide +kernel
theorem kd3_41 : decode kc3 41 = .ok (.iconst (-1), 1) := by decide +kernel
theorem kd3_42 : decode kc3 42 = .ok (.putfield 31, 3) := by decide +kernel
theorem kd3_45 : decode kc3 45 = .ok (.aload_n 0, 1) := by decide +kernel
theorem kd3_46 : decode kc3 46 = .ok (.iconst 0, 1) := by decide +kernel
theorem kd3_47 : decode kc3 47 = .ok (.putfield 34, 3) := by decide +kernel
theorem kd3_50 : decode kc3 50 = .ok (.return_, 1) := by decide +kernel
abbrev kc4 : ByteArray := prog_6_method_1_code
def ky4 : MethodName := ⟨jR4, "<init>", "()V"⟩
theorem kd4_0 : decode kc4 0 = .ok (.aload_n 0, 1) := by decide +kernel
theorem kd4_1 : decode kc4 1 = .ok (.invokespecial 3, 3) := by decide +kernel
theorem kd4_4 : decode kc4 4 = .ok (.aload_n 0, 1) := by decide +kernel
theorem kd4_5 : decode kc4 5 = .ok (.sipush 200, 3) := by decide +kernel
theorem kd4_8 : decode kc4 8 = .ok (.newarray .int, 2) := by decide +kernel
theorem kd4_10 : decode kc4 10 = .ok (.putfield 9, 3) := by decide +kernel
theorem kd4_13 : decode kc4 13 = .ok (.aload_n 0, 1) := by decide +kernel
theorem kd4_14 : decode kc4 14 = .ok (.sipush 200, 3) := by decide +kernel
theorem kd4_17 : decode kc4 17 = .ok (.newarray .int, 2) := by decide +kernel
theorem kd4_19 : decode kc4 19 = .ok (.putfield 15, 3) := by decide +kernel
theorem kd4_22 : decode kc4 22 = .ok (.aload_n 0, 1) := by decide +kernel
theorem kd4_23 : decode kc4 23 = .ok (.sipush 200, 3) := by decide +kernel
theorem kd4_26 : decode kc4 26 = .ok (.newarray .boolean, 2) := by decide +kernel
theorem kd4_28 : decode kc4 28 = .ok (.putfield 18, 3) := by decide +kernel
theorem kd4_31 : decode kc4 31 = .ok (.aload_n 0, 1) := by decide +kernel
theorem kd4_32 : decode kc4 32 = .ok (.iconst 0, 1) := by decide +kernel
theorem kd4_33 : decode kc4 33 = .ok (.putfield 22, 3) := by decide +kernel
theorem kd4_36 : decode kc4 36 = .ok (.return_, 1) := by decide +kernel
abbrev kc5 : ByteArray := prog_7_method_1_code
def ky5 : MethodName := ⟨jR5, "<init>", "()V"⟩
theorem kd5_0 : decode kc5 0 = .ok (.aload_n 0, 1) := by decide +kernel
theorem kd5_1 : decode kc5 1 = .ok (.invokespecial 3, 3) := by decide +kernel
theorem kd5_4 : decode kc5 4 = .ok (.aload_n 0, 1) := by decide +kernel
theorem kd5_5 : decode kc5 5 = .ok (.sipush 1000, 3) := by decide +kernel
theorem kd5_8 : decode kc5 8 = .ok (.putfield 11, 3) := by decide +kernel
theorem kd5_11 : decode kc5 11 = .ok (.aload_n 0, 1) := by decide +kernel
theorem kd5_12 : decode kc5 12 = .ok (.sipush 1000, 3) := by decide +kernel
theorem kd5_15 : decode kc5 15 = .ok (.putfield 15, 3) := by decide +kernel
theorem kd5_18 : decode kc5 18 = .ok (.aload_n 0, 1) := by decide +kernel
theorem kd5_19 : decode kc5 19 = .ok (.sipush 1000, 3) := by decide +kernel
theorem kd5_22 : decode kc5 22 = .ok (.putfield 18, 3) := by decide +kernel
theorem kd5_25 : decode kc5 25 = .ok (.return_, 1) := by decide +kernel
abbrev kc6 : ByteArray := prog_8_method_1_code
def ky6 : MethodName := ⟨jR6, "<init>", "()V"⟩
theorem kd6_0 : decode kc6 0 = .ok (.aload_n 0, 1) := by decide +kernel
theorem kd6_1 : decode kc6 1 = .ok (.invokespecial 3, 3) := by decide +kernel
theorem kd6_4 : decode kc6 4 = .ok (.aload_n 0, 1) := by decide +kernel
theorem kd6_5 : decode kc6 5 = .ok (.bipush 60, 2) := by decide +kernel
theorem kd6_7 : decode kc6 7 = .ok (.newarray .int, 2) := by decide +kernel
theorem kd6_9 : decode kc6 9 = .ok (.putfield 9, 3) := by decide +kernel
theorem kd6_12 : decode kc6 12 = .ok (.aload_n 0, 1) := by decide +kernel
theorem kd6_13 : decode kc6 13 = .ok (.iconst (-1), 1) := by decide +kernel
theorem kd6_14 : decode kc6 14 = .ok (.putfield 15, 3) := by decide +kernel
theorem kd6_17 : decode kc6 17 = .ok (.aload_n 0, 1) := by decide +kernel
theorem kd6_18 : decode kc6 18 = .ok (.iconst 0, 1) := by decide +kernel
theorem kd6_19 : decode kc6 19 = .ok (.putfield 19, 3) := by decide +kernel
theorem kd6_22 : decode kc6 22 = .ok (.return_, 1) := by decide +kernel
abbrev kc7 : ByteArray := prog_9_method_1_code
def ky7 : MethodName := ⟨jR7, "<init>", "(I)V"⟩
theorem kd7_0 : decode kc7 0 = .ok (.aload_n 0, 1) := by decide +kernel
theorem kd7_1 : decode kc7 1 = .ok (.invokespecial 3, 3) := by decide +kernel
theorem kd7_4 : decode kc7 4 = .ok (.aload_n 0, 1) := by decide +kernel
theorem kd7_5 : decode kc7 5 = .ok (.iconst 0, 1) := by decide +kernel
theorem kd7_6 : decode kc7 6 = .ok (.putfield 9, 3) := by decide +kernel
theorem kd7_9 : decode kc7 9 = .ok (.aload_n 0, 1) := by decide +kernel
theorem kd7_10 : decode kc7 10 = .ok (.iconst 0, 1) := by decide +kernel
theorem kd7_11 : decode kc7 11 = .ok (.putfield 15, 3) := by decide +kernel
theorem kd7_14 : decode kc7 14 = .ok (.aload_n 0, 1) := by decide +kernel
theorem kd7_15 : decode kc7 15 = .ok (.iconst (-1), 1) := by decide +kernel
theorem kd7_16 : decode kc7 16 = .ok (.putfield 18, 3) := by decide +kernel
theorem kd7_19 : decode kc7 19 = .ok (.aload_n 0, 1) := by decide +kernel
theorem kd7_20 : decode kc7 20 = .ok (.iload_n 1, 1) := by decide +kernel
theorem kd7_21 : decode kc7 21 = .ok (.newarray .int, 2) := by decide +kernel
theorem kd7_23 : decode kc7 23 = .ok (.putfield 21, 3) := by decide +kernel
theorem kd7_26 : decode kc7 26 = .ok (.return_, 1) := by decide +kernel
theorem kq0 : Cond.methodLink "PopPan$Batch" 3 objectInit ∈ jm_tg := List.mem_filter.mpr ⟨by decide +kernel, rfl⟩
theorem kq1 : Cond.instanceMethod objectInit ∈ jm_tg := List.mem_filter.mpr ⟨by decide +kernel, rfl⟩
theorem kq2 : Cond.code objectInit ⟨#[0xb1]⟩ 1 none ∈ jm_tg := List.mem_filter.mpr ⟨by decide +kernel, rfl⟩
theorem kq3 : Cond.arrayClass .int ∈ jm_tg := List.mem_filter.mpr ⟨by decide +kernel, rfl⟩
theorem kq4 : Cond.fieldLink "PopPan$Batch" 9 "PopPan$Batch" "skin" "[I" ∈ jm_tg := List.mem_filter.mpr ⟨by decide +kernel, rfl⟩
theorem kq5 : Cond.fieldLink "PopPan$Batch" 15 "PopPan$Batch" "size" "[I" ∈ jm_tg := List.mem_filter.mpr ⟨by decide +kernel, rfl⟩
theorem kq6 : Cond.fieldLink "PopPan$Batch" 18 "PopPan$Batch" "crack" "[I" ∈ jm_tg := List.mem_filter.mpr ⟨by decide +kernel, rfl⟩
theorem kq7 : Cond.fieldLink "PopPan$Batch" 21 "PopPan$Batch" "warmth" "[I" ∈ jm_tg := List.mem_filter.mpr ⟨by decide +kernel, rfl⟩
theorem kq8 : Cond.fieldLink "PopPan$Batch" 24 "PopPan$Batch" "water" "[I" ∈ jm_tg := List.mem_filter.mpr ⟨by decide +kernel, rfl⟩
theorem kq9 : Cond.fieldLink "PopPan$Batch" 27 "PopPan$Batch" "press" "[I" ∈ jm_tg := List.mem_filter.mpr ⟨by decide +kernel, rfl⟩
theorem kq10 : Cond.fieldLink "PopPan$Batch" 30 "PopPan$Batch" "state" "[I" ∈ jm_tg := List.mem_filter.mpr ⟨by decide +kernel, rfl⟩
theorem kq11 : Cond.fieldLink "PopPan$Batch" 33 "PopPan$Batch" "ended" "[I" ∈ jm_tg := List.mem_filter.mpr ⟨by decide +kernel, rfl⟩
theorem kq12 : Cond.fieldLink "PopPan$Batch" 36 "PopPan$Batch" "large" "[I" ∈ jm_tg := List.mem_filter.mpr ⟨by decide +kernel, rfl⟩
theorem kq13 : Cond.fieldLink "PopPan$Batch" 39 "PopPan$Batch" "rows" "[I" ∈ jm_tg := List.mem_filter.mpr ⟨by decide +kernel, rfl⟩
theorem kq14 : Cond.fieldLink "PopPan$Batch" 42 "PopPan$Batch" "heights" "[I" ∈ jm_tg := List.mem_filter.mpr ⟨by decide +kernel, rfl⟩
theorem kq15 : Cond.fieldLink "PopPan$Batch" 45 "PopPan$Batch" "number" "I" ∈ jm_tg := List.mem_filter.mpr ⟨by decide +kernel, rfl⟩
theorem kq16 : Cond.fieldLink "PopPan$Batch" 49 "PopPan$Batch" "strength" "I" ∈ jm_tg := List.mem_filter.mpr ⟨by decide +kernel, rfl⟩
theorem kq17 : Cond.fieldLink "PopPan$Batch" 52 "PopPan$Batch" "air" "I" ∈ jm_tg := List.mem_filter.mpr ⟨by decide +kernel, rfl⟩
theorem kq18 : Cond.fieldLink "PopPan$Batch" 55 "PopPan$Batch" "whole" "I" ∈ jm_tg := List.mem_filter.mpr ⟨by decide +kernel, rfl⟩
theorem kq19 : Cond.fieldLink "PopPan$Batch" 58 "PopPan$Batch" "gone" "I" ∈ jm_tg := List.mem_filter.mpr ⟨by decide +kernel, rfl⟩
theorem kq20 : Cond.fieldLink "PopPan$Batch" 61 "PopPan$Batch" "risen" "Z" ∈ jm_tg := List.mem_filter.mpr ⟨by decide +kernel, rfl⟩
theorem kq21 : Cond.methodLink "PopPan$Evens" 3 objectInit ∈ jm_tg := List.mem_filter.mpr ⟨by decide +kernel, rfl⟩
theorem kq22 : Cond.fieldLink "PopPan$Evens" 9 "PopPan$Evens" "open" "[I" ∈ jm_tg := List.mem_filter.mpr ⟨by decide +kernel, rfl⟩
theorem kq23 : Cond.fieldLink "PopPan$Evens" 15 "PopPan$Evens" "burnt" "[I" ∈ jm_tg := List.mem_filter.mpr ⟨by decide +kernel, rfl⟩
theorem kq24 : Cond.methodLink "PopPan$Grains" 3 objectInit ∈ jm_tg := List.mem_filter.mpr ⟨by decide +kernel, rfl⟩
theorem kq25 : Cond.fieldLink "PopPan$Grains" 9 "PopPan$Grains" "places" "[I" ∈ jm_tg := List.mem_filter.mpr ⟨by decide +kernel, rfl⟩
theorem kq26 : Cond.fieldLink "PopPan$Grains" 15 "PopPan$Grains" "traits" "[I" ∈ jm_tg := List.mem_filter.mpr ⟨by decide +kernel, rfl⟩
theorem kq27 : Cond.fieldLink "PopPan$Grains" 18 "PopPan$Grains" "number" "I" ∈ jm_tg := List.mem_filter.mpr ⟨by decide +kernel, rfl⟩
theorem kq28 : Cond.methodLink "PopPan$Hearing" 3 objectInit ∈ jm_tg := List.mem_filter.mpr ⟨by decide +kernel, rfl⟩
theorem kq29 : Cond.fieldLink "PopPan$Hearing" 9 "PopPan$Hearing" "who" "[I" ∈ jm_tg := List.mem_filter.mpr ⟨by decide +kernel, rfl⟩
theorem kq30 : Cond.fieldLink "PopPan$Hearing" 15 "PopPan$Hearing" "when" "[I" ∈ jm_tg := List.mem_filter.mpr ⟨by decide +kernel, rfl⟩
theorem kq31 : Cond.fieldLink "PopPan$Hearing" 18 "PopPan$Hearing" "number" "I" ∈ jm_tg := List.mem_filter.mpr ⟨by decide +kernel, rfl⟩
theorem kq32 : Cond.fieldLink "PopPan$Hearing" 22 "PopPan$Hearing" "least" "I" ∈ jm_tg := List.mem_filter.mpr ⟨by decide +kernel, rfl⟩
theorem kq33 : Cond.fieldLink "PopPan$Hearing" 25 "PopPan$Hearing" "greatest" "I" ∈ jm_tg := List.mem_filter.mpr ⟨by decide +kernel, rfl⟩
theorem kq34 : Cond.fieldLink "PopPan$Hearing" 28 "PopPan$Hearing" "many" "I" ∈ jm_tg := List.mem_filter.mpr ⟨by decide +kernel, rfl⟩
theorem kq35 : Cond.fieldLink "PopPan$Hearing" 31 "PopPan$Hearing" "nearest" "I" ∈ jm_tg := List.mem_filter.mpr ⟨by decide +kernel, rfl⟩
theorem kq36 : Cond.fieldLink "PopPan$Hearing" 34 "PopPan$Hearing" "off" "I" ∈ jm_tg := List.mem_filter.mpr ⟨by decide +kernel, rfl⟩
theorem kq37 : Cond.methodLink "PopPan$Heating" 3 objectInit ∈ jm_tg := List.mem_filter.mpr ⟨by decide +kernel, rfl⟩
theorem kq38 : Cond.fieldLink "PopPan$Heating" 9 "PopPan$Heating" "heats" "[I" ∈ jm_tg := List.mem_filter.mpr ⟨by decide +kernel, rfl⟩
theorem kq39 : Cond.fieldLink "PopPan$Heating" 15 "PopPan$Heating" "shakes" "[I" ∈ jm_tg := List.mem_filter.mpr ⟨by decide +kernel, rfl⟩
theorem kq40 : Cond.arrayClass .boolean ∈ jm_tg := List.mem_filter.mpr ⟨by decide +kernel, rfl⟩
theorem kq41 : Cond.fieldLink "PopPan$Heating" 18 "PopPan$Heating" "lids" "[Z" ∈ jm_tg := List.mem_filter.mpr ⟨by decide +kernel, rfl⟩
theorem kq42 : Cond.fieldLink "PopPan$Heating" 22 "PopPan$Heating" "seconds" "I" ∈ jm_tg := List.mem_filter.mpr ⟨by decide +kernel, rfl⟩
theorem kq43 : Cond.methodLink "PopPan$Rule" 3 objectInit ∈ jm_tg := List.mem_filter.mpr ⟨by decide +kernel, rfl⟩
theorem kq44 : Cond.fieldLink "PopPan$Rule" 11 "PopPan$Rule" "silence" "I" ∈ jm_tg := List.mem_filter.mpr ⟨by decide +kernel, rfl⟩
theorem kq45 : Cond.fieldLink "PopPan$Rule" 15 "PopPan$Rule" "sum" "I" ∈ jm_tg := List.mem_filter.mpr ⟨by decide +kernel, rfl⟩
theorem kq46 : Cond.fieldLink "PopPan$Rule" 18 "PopPan$Rule" "time" "I" ∈ jm_tg := List.mem_filter.mpr ⟨by decide +kernel, rfl⟩
theorem kq47 : Cond.methodLink "PopPan$Sheet" 3 objectInit ∈ jm_tg := List.mem_filter.mpr ⟨by decide +kernel, rfl⟩
theorem kq48 : Cond.fieldLink "PopPan$Sheet" 9 "PopPan$Sheet" "items" "[I" ∈ jm_tg := List.mem_filter.mpr ⟨by decide +kernel, rfl⟩
theorem kq49 : Cond.fieldLink "PopPan$Sheet" 15 "PopPan$Sheet" "form" "I" ∈ jm_tg := List.mem_filter.mpr ⟨by decide +kernel, rfl⟩
theorem kq50 : Cond.fieldLink "PopPan$Sheet" 19 "PopPan$Sheet" "size" "I" ∈ jm_tg := List.mem_filter.mpr ⟨by decide +kernel, rfl⟩
theorem kq51 : Cond.methodLink "PopPan$Text" 3 objectInit ∈ jm_tg := List.mem_filter.mpr ⟨by decide +kernel, rfl⟩
theorem kq52 : Cond.fieldLink "PopPan$Text" 9 "PopPan$Text" "size" "I" ∈ jm_tg := List.mem_filter.mpr ⟨by decide +kernel, rfl⟩
theorem kq53 : Cond.fieldLink "PopPan$Text" 15 "PopPan$Text" "at" "I" ∈ jm_tg := List.mem_filter.mpr ⟨by decide +kernel, rfl⟩
theorem kq54 : Cond.fieldLink "PopPan$Text" 18 "PopPan$Text" "flaw" "I" ∈ jm_tg := List.mem_filter.mpr ⟨by decide +kernel, rfl⟩
theorem kq55 : Cond.fieldLink "PopPan$Text" 21 "PopPan$Text" "bytes" "[I" ∈ jm_tg := List.mem_filter.mpr ⟨by decide +kernel, rfl⟩
def kw_Batch (h0 : Nat) (u : (Nat → Nat) × (Nat → ClassId)) : va_W := [(h0, .inr (0, [.ref (u.1 0), .ref (u.1 1), .ref (u.1 2), .ref (u.1 3), .ref (u.1 4), .ref (u.1 5), .ref (u.1 6), .ref (u.1 7), .ref (u.1 8), .ref (u.1 9), .ref (u.1 10), .int 0, .int 0, .int 0, .int 0, .int 0, .int 0])), ((u.1 0), .inl ((u.2 0), 12, .inl (fun _ => 0))), ((u.1 1), .inl ((u.2 1), 12, .inl (fun _ => 0))), ((u.1 2), .inl ((u.2 2), 12, .inl (fun _ => 0))), ((u.1 3), .inl ((u.2 3), 12, .inl (fun _ => 0))), ((u.1 4), .inl ((u.2 4), 12, .inl (fun _ => 0))), ((u.1 5), .inl ((u.2 5), 12, .inl (fun _ => 0))), ((u.1 6), .inl ((u.2 6), 12, .inl (fun _ => 0))), ((u.1 7), .inl ((u.2 7), 12, .inl (fun _ => 0))), ((u.1 8), .inl ((u.2 8), 12, .inl (fun _ => 0))), ((u.1 9), .inl ((u.2 9), 48, .inl (fun _ => 0))), ((u.1 10), .inl ((u.2 10), 4, .inl (fun _ => 0)))]
def kt_Batch (u : (Nat → Nat) × (Nat → ClassId)) : List (ClassId × FieldType) := [(u.2 0, .int), (u.2 1, .int), (u.2 2, .int), (u.2 3, .int), (u.2 4, .int), (u.2 5, .int), (u.2 6, .int), (u.2 7, .int), (u.2 8, .int), (u.2 9, .int), (u.2 10, .int)]
set_option maxHeartbeats 4000000 in
set_option maxRecDepth 100000 in
theorem k_Batch (l : Launch) (D : va_G) (h0 sz : Nat) : Met l ky0 (cWs ky0 kc0 1) ({ frames := 1, cells := 11, slots := 160, locals := 12 }) (va_Pc [.ref h0] (fun U => U.heap.size = sz ∧ va_P D jm_cl [(h0, .inr (0, [.null, .null, .null, .null, .null, .null, .null, .null, .null, .null, .null, .int 0, .int 0, .int 0, .int 0, .int 0, .int 0]))] U.heap ∧ va_K D jm_cl [] U ∧ va_D (fun _ => True) [(h0, .inr (0, [.null, .null, .null, .null, .null, .null, .null, .null, .null, .null, .null, .int 0, .int 0, .int 0, .int 0, .int 0, .int 0]))])) (va_Qv (fun _ : (Nat → Nat) × (Nat → ClassId) => True) (fun u t => va_P D jm_cl (kw_Batch h0 u) t.heap ∧ va_K D jm_cl (kt_Batch u) t ∧ va_D (va_A [(h0, .inr (0, [.null, .null, .null, .null, .null, .null, .null, .null, .null, .null, .null, .int 0, .int 0, .int 0, .int 0, .int 0, .int 0]))] sz) (kw_Batch h0 u)) (va_A [(h0, .inr (0, [.null, .null, .null, .null, .null, .null, .null, .null, .null, .null, .null, .int 0, .int 0, .int 0, .int 0, .int 0, .int 0]))] sz)) 11 160 (va_A [(h0, .inr (0, [.null, .null, .null, .null, .null, .null, .null, .null, .null, .null, .null, .int 0, .int 0, .int 0, .int 0, .int 0, .int 0]))] sz) := by
  refine Met.ofW (cc := kc0) (maxL := 1) (ret := none) (by decide) rfl ?_
  intro p e s m args below meth c s₁ B hml hv
  obtain ⟨rfl, hsz, hP, hK, hD0⟩ := hv
  have hx := B.exec
  have hb := B.bytes
  have hr := B.returns
  have hts : ∀ w ∈ jm_tg, w.before _ s = true := fun w hw => atoms_spec (ws := cWs ky0 kc0 1) B.pre w (List.mem_cons_of_mem _ hw)
  have hown : s.vm.findClass jR0 = some m.cls := findClass_of_methodNamed B.named
  have hlocks := B.notSynchronized
  have hin : meth.name = "<init>" := (name_of_methodNamed B.named B.method).1
  subst hsz
  have hD := hD0.self (sz := s.heap.size)
  generalize hAe : va_A [(h0, .inr (0, [.null, .null, .null, .null, .null, .null, .null, .null, .null, .null, .null, .int 0, .int 0, .int 0, .int 0, .int 0, .int 0]))] s.heap.size = A at hD ⊢
  have hA : ∀ q : Nat, s.heap.size ≤ q → A q := fun q h => by rw [← hAe]; exact Or.inr h
  have hS : va_S A s.heap s.heap [] := va_S.rf
  have hl := lv_entry ([.ref h0]) (n := 1) (Nat.le_of_ble_eq_true rfl)
  rw [lg_entry_eq]
  generalize (lg_sl ([.ref h0]) ++ List.replicate (1 - (lg_sl ([.ref h0])).length) Slot.unset).toArray = ls at hl ⊢
  have hl : lv_has ls 1 [(0, .ref h0)] := hl
  refine lv_aload_n hx hb kd0_0 rfl (lv_at hl 0 rfl) ?_
  refine W.objInit hx hb hown (hts _ kq0) (hts _ kq1) (hts _ kq2) rfl (by rw [hml]; exact hl.1) rfl kd0_1 (Nat.le_of_ble_eq_true rfl) (Nat.le_of_ble_eq_true rfl) ?_
  refine W.eq (g2 := F0 m 4 ls []) rfl ?_
  refine lv_aload_n hx hb kd0_4 rfl (lv_at hl 0 rfl) ?_
  refine lv_bipush (v := 12) hx hb kd0_5 (by decide) ?_
  refine va_newa (atype := .int) (ty := .int) (a0 := (12, .inl (fun _ => 0))) hx hb (hts _ kq3) rfl hK hP hD hS hA (fun _ => rfl) (by decide) (by decide) (by decide) (Nat.le_of_ble_eq_true rfl) (Nat.le_of_ble_eq_true rfl) kd0_7 (fun q1 k2 H hK hP hD hS => ?_)
  have hP : va_P D jm_cl [(h0, .inr (0, [.null, .null, .null, .null, .null, .null, .null, .null, .null, .null, .null, .int 0, .int 0, .int 0, .int 0, .int 0, .int 0])), (q1, .inl (k2, 12, .inl (fun _ => 0)))] H := hP
  have hD : va_D A [(h0, .inr (0, [.null, .null, .null, .null, .null, .null, .null, .null, .null, .null, .null, .int 0, .int 0, .int 0, .int 0, .int 0, .int 0])), (q1, .inl (k2, 12, .inl (fun _ => 0)))] := hD
  have hK : va_K D jm_cl [(k2, .int)] s := hK
  refine W.widen (k := 1) (n := 12) (Nat.le_of_ble_eq_true rfl) (Nat.le_of_ble_eq_true rfl) ?_
  refine va_putF (D := D) (ci := 0) (v := .ref q1) (ty := jY0 0) (C := jR0) (T := jT0) (N := 17) hx hb hts (jm_cli (ci := 0) rfl) jY0 jYo0 jNm0 hown hK hP hD hS 0 rfl rfl 0 (by decide) (hts _ kq4) (fun _ h9 => h9) rfl hin rfl (jYo0 0 (by decide)) rfl rfl (Nat.le_of_ble_eq_true rfl) kd0_9 (fun H locs hP hD hS => ?_)
  have hP : va_P D jm_cl [(h0, .inr (0, [.ref q1, .null, .null, .null, .null, .null, .null, .null, .null, .null, .null, .int 0, .int 0, .int 0, .int 0, .int 0, .int 0])), (q1, .inl (k2, 12, .inl (fun _ => 0)))] H := hP
  have hD : va_D A [(h0, .inr (0, [.ref q1, .null, .null, .null, .null, .null, .null, .null, .null, .null, .null, .int 0, .int 0, .int 0, .int 0, .int 0, .int 0])), (q1, .inl (k2, 12, .inl (fun _ => 0)))] := hD
  refine lv_aload_n hx hb kd0_12 rfl (lv_at hl 0 rfl) ?_
  refine lv_bipush (v := 12) hx hb kd0_13 (by decide) ?_
  refine va_newa (atype := .int) (ty := .int) (a0 := (12, .inl (fun _ => 0))) hx hb (hts _ kq3) rfl hK hP hD hS hA (fun _ => rfl) (by decide) (by decide) (by decide) (Nat.le_of_ble_eq_true rfl) (Nat.le_of_ble_eq_true rfl) kd0_15 (fun q3 k4 H hK hP hD hS => ?_)
  have hP : va_P D jm_cl [(h0, .inr (0, [.ref q1, .null, .null, .null, .null, .null, .null, .null, .null, .null, .null, .int 0, .int 0, .int 0, .int 0, .int 0, .int 0])), (q1, .inl (k2, 12, .inl (fun _ => 0))), (q3, .inl (k4, 12, .inl (fun _ => 0)))] H := hP
  have hD : va_D A [(h0, .inr (0, [.ref q1, .null, .null, .null, .null, .null, .null, .null, .null, .null, .null, .int 0, .int 0, .int 0, .int 0, .int 0, .int 0])), (q1, .inl (k2, 12, .inl (fun _ => 0))), (q3, .inl (k4, 12, .inl (fun _ => 0)))] := hD
  have hK : va_K D jm_cl [(k2, .int), (k4, .int)] s := hK
  refine W.widen (k := 2) (n := 24) (Nat.le_of_ble_eq_true rfl) (Nat.le_of_ble_eq_true rfl) ?_
  refine va_putF (D := D) (ci := 0) (v := .ref q3) (ty := jY0 1) (C := jR0) (T := jT0) (N := 17) hx hb hts (jm_cli (ci := 0) rfl) jY0 jYo0 jNm0 hown hK hP hD hS 0 rfl rfl 1 (by decide) (hts _ kq5) (fun _ h9 => h9) rfl hin rfl (jYo0 1 (by decide)) rfl rfl (Nat.le_of_ble_eq_true rfl) kd0_17 (fun H locs hP hD hS => ?_)
  have hP : va_P D jm_cl [(h0, .inr (0, [.ref q1, .ref q3, .null, .null, .null, .null, .null, .null, .null, .null, .null, .int 0, .int 0, .int 0, .int 0, .int 0, .int 0])), (q1, .inl (k2, 12, .inl (fun _ => 0))), (q3, .inl (k4, 12, .inl (fun _ => 0)))] H := hP
  have hD : va_D A [(h0, .inr (0, [.ref q1, .ref q3, .null, .null, .null, .null, .null, .null, .null, .null, .null, .int 0, .int 0, .int 0, .int 0, .int 0, .int 0])), (q1, .inl (k2, 12, .inl (fun _ => 0))), (q3, .inl (k4, 12, .inl (fun _ => 0)))] := hD
  refine lv_aload_n hx hb kd0_20 rfl (lv_at hl 0 rfl) ?_
  refine lv_bipush (v := 12) hx hb kd0_21 (by decide) ?_
  refine va_newa (atype := .int) (ty := .int) (a0 := (12, .inl (fun _ => 0))) hx hb (hts _ kq3) rfl hK hP hD hS hA (fun _ => rfl) (by decide) (by decide) (by decide) (Nat.le_of_ble_eq_true rfl) (Nat.le_of_ble_eq_true rfl) kd0_23 (fun q5 k6 H hK hP hD hS => ?_)
  have hP : va_P D jm_cl [(h0, .inr (0, [.ref q1, .ref q3, .null, .null, .null, .null, .null, .null, .null, .null, .null, .int 0, .int 0, .int 0, .int 0, .int 0, .int 0])), (q1, .inl (k2, 12, .inl (fun _ => 0))), (q3, .inl (k4, 12, .inl (fun _ => 0))), (q5, .inl (k6, 12, .inl (fun _ => 0)))] H := hP
  have hD : va_D A [(h0, .inr (0, [.ref q1, .ref q3, .null, .null, .null, .null, .null, .null, .null, .null, .null, .int 0, .int 0, .int 0, .int 0, .int 0, .int 0])), (q1, .inl (k2, 12, .inl (fun _ => 0))), (q3, .inl (k4, 12, .inl (fun _ => 0))), (q5, .inl (k6, 12, .inl (fun _ => 0)))] := hD
  have hK : va_K D jm_cl [(k2, .int), (k4, .int), (k6, .int)] s := hK
  refine W.widen (k := 3) (n := 36) (Nat.le_of_ble_eq_true rfl) (Nat.le_of_ble_eq_true rfl) ?_
  refine va_putF (D := D) (ci := 0) (v := .ref q5) (ty := jY0 2) (C := jR0) (T := jT0) (N := 17) hx hb hts (jm_cli (ci := 0) rfl) jY0 jYo0 jNm0 hown hK hP hD hS 0 rfl rfl 2 (by decide) (hts _ kq6) (fun _ h9 => h9) rfl hin rfl (jYo0 2 (by decide)) rfl rfl (Nat.le_of_ble_eq_true rfl) kd0_25 (fun H locs hP hD hS => ?_)
  have hP : va_P D jm_cl [(h0, .inr (0, [.ref q1, .ref q3, .ref q5, .null, .null, .null, .null, .null, .null, .null, .null, .int 0, .int 0, .int 0, .int 0, .int 0, .int 0])), (q1, .inl (k2, 12, .inl (fun _ => 0))), (q3, .inl (k4, 12, .inl (fun _ => 0))), (q5, .inl (k6, 12, .inl (fun _ => 0)))] H := hP
  have hD : va_D A [(h0, .inr (0, [.ref q1, .ref q3, .ref q5, .null, .null, .null, .null, .null, .null, .null, .null, .int 0, .int 0, .int 0, .int 0, .int 0, .int 0])), (q1, .inl (k2, 12, .inl (fun _ => 0))), (q3, .inl (k4, 12, .inl (fun _ => 0))), (q5, .inl (k6, 12, .inl (fun _ => 0)))] := hD
  refine lv_aload_n hx hb kd0_28 rfl (lv_at hl 0 rfl) ?_
  refine lv_bipush (v := 12) hx hb kd0_29 (by decide) ?_
  refine va_newa (atype := .int) (ty := .int) (a0 := (12, .inl (fun _ => 0))) hx hb (hts _ kq3) rfl hK hP hD hS hA (fun _ => rfl) (by decide) (by decide) (by decide) (Nat.le_of_ble_eq_true rfl) (Nat.le_of_ble_eq_true rfl) kd0_31 (fun q7 k8 H hK hP hD hS => ?_)
  have hP : va_P D jm_cl [(h0, .inr (0, [.ref q1, .ref q3, .ref q5, .null, .null, .null, .null, .null, .null, .null, .null, .int 0, .int 0, .int 0, .int 0, .int 0, .int 0])), (q1, .inl (k2, 12, .inl (fun _ => 0))), (q3, .inl (k4, 12, .inl (fun _ => 0))), (q5, .inl (k6, 12, .inl (fun _ => 0))), (q7, .inl (k8, 12, .inl (fun _ => 0)))] H := hP
  have hD : va_D A [(h0, .inr (0, [.ref q1, .ref q3, .ref q5, .null, .null, .null, .null, .null, .null, .null, .null, .int 0, .int 0, .int 0, .int 0, .int 0, .int 0])), (q1, .inl (k2, 12, .inl (fun _ => 0))), (q3, .inl (k4, 12, .inl (fun _ => 0))), (q5, .inl (k6, 12, .inl (fun _ => 0))), (q7, .inl (k8, 12, .inl (fun _ => 0)))] := hD
  have hK : va_K D jm_cl [(k2, .int), (k4, .int), (k6, .int), (k8, .int)] s := hK
  refine W.widen (k := 4) (n := 48) (Nat.le_of_ble_eq_true rfl) (Nat.le_of_ble_eq_true rfl) ?_
  refine va_putF (D := D) (ci := 0) (v := .ref q7) (ty := jY0 3) (C := jR0) (T := jT0) (N := 17) hx hb hts (jm_cli (ci := 0) rfl) jY0 jYo0 jNm0 hown hK hP hD hS 0 rfl rfl 3 (by decide) (hts _ kq7) (fun _ h9 => h9) rfl hin rfl (jYo0 3 (by decide)) rfl rfl (Nat.le_of_ble_eq_true rfl) kd0_33 (fun H locs hP hD hS => ?_)
  have hP : va_P D jm_cl [(h0, .inr (0, [.ref q1, .ref q3, .ref q5, .ref q7, .null, .null, .null, .null, .null, .null, .null, .int 0, .int 0, .int 0, .int 0, .int 0, .int 0])), (q1, .inl (k2, 12, .inl (fun _ => 0))), (q3, .inl (k4, 12, .inl (fun _ => 0))), (q5, .inl (k6, 12, .inl (fun _ => 0))), (q7, .inl (k8, 12, .inl (fun _ => 0)))] H := hP
  have hD : va_D A [(h0, .inr (0, [.ref q1, .ref q3, .ref q5, .ref q7, .null, .null, .null, .null, .null, .null, .null, .int 0, .int 0, .int 0, .int 0, .int 0, .int 0])), (q1, .inl (k2, 12, .inl (fun _ => 0))), (q3, .inl (k4, 12, .inl (fun _ => 0))), (q5, .inl (k6, 12, .inl (fun _ => 0))), (q7, .inl (k8, 12, .inl (fun _ => 0)))] := hD
  refine lv_aload_n hx hb kd0_36 rfl (lv_at hl 0 rfl) ?_
  refine lv_bipush (v := 12) hx hb kd0_37 (by decide) ?_
  refine va_newa (atype := .int) (ty := .int) (a0 := (12, .inl (fun _ => 0))) hx hb (hts _ kq3) rfl hK hP hD hS hA (fun _ => rfl) (by decide) (by decide) (by decide) (Nat.le_of_ble_eq_true rfl) (Nat.le_of_ble_eq_true rfl) kd0_39 (fun q9 k10 H hK hP hD hS => ?_)
  have hP : va_P D jm_cl [(h0, .inr (0, [.ref q1, .ref q3, .ref q5, .ref q7, .null, .null, .null, .null, .null, .null, .null, .int 0, .int 0, .int 0, .int 0, .int 0, .int 0])), (q1, .inl (k2, 12, .inl (fun _ => 0))), (q3, .inl (k4, 12, .inl (fun _ => 0))), (q5, .inl (k6, 12, .inl (fun _ => 0))), (q7, .inl (k8, 12, .inl (fun _ => 0))), (q9, .inl (k10, 12, .inl (fun _ => 0)))] H := hP
  have hD : va_D A [(h0, .inr (0, [.ref q1, .ref q3, .ref q5, .ref q7, .null, .null, .null, .null, .null, .null, .null, .int 0, .int 0, .int 0, .int 0, .int 0, .int 0])), (q1, .inl (k2, 12, .inl (fun _ => 0))), (q3, .inl (k4, 12, .inl (fun _ => 0))), (q5, .inl (k6, 12, .inl (fun _ => 0))), (q7, .inl (k8, 12, .inl (fun _ => 0))), (q9, .inl (k10, 12, .inl (fun _ => 0)))] := hD
  have hK : va_K D jm_cl [(k2, .int), (k4, .int), (k6, .int), (k8, .int), (k10, .int)] s := hK
  refine W.widen (k := 5) (n := 60) (Nat.le_of_ble_eq_true rfl) (Nat.le_of_ble_eq_true rfl) ?_
  refine va_putF (D := D) (ci := 0) (v := .ref q9) (ty := jY0 4) (C := jR0) (T := jT0) (N := 17) hx hb hts (jm_cli (ci := 0) rfl) jY0 jYo0 jNm0 hown hK hP hD hS 0 rfl rfl 4 (by decide) (hts _ kq8) (fun _ h9 => h9) rfl hin rfl (jYo0 4 (by decide)) rfl rfl (Nat.le_of_ble_eq_true rfl) kd0_41 (fun H locs hP hD hS => ?_)
  have hP : va_P D jm_cl [(h0, .inr (0, [.ref q1, .ref q3, .ref q5, .ref q7, .ref q9, .null, .null, .null, .null, .null, .null, .int 0, .int 0, .int 0, .int 0, .int 0, .int 0])), (q1, .inl (k2, 12, .inl (fun _ => 0))), (q3, .inl (k4, 12, .inl (fun _ => 0))), (q5, .inl (k6, 12, .inl (fun _ => 0))), (q7, .inl (k8, 12, .inl (fun _ => 0))), (q9, .inl (k10, 12, .inl (fun _ => 0)))] H := hP
  have hD : va_D A [(h0, .inr (0, [.ref q1, .ref q3, .ref q5, .ref q7, .ref q9, .null, .null, .null, .null, .null, .null, .int 0, .int 0, .int 0, .int 0, .int 0, .int 0])), (q1, .inl (k2, 12, .inl (fun _ => 0))), (q3, .inl (k4, 12, .inl (fun _ => 0))), (q5, .inl (k6, 12, .inl (fun _ => 0))), (q7, .inl (k8, 12, .inl (fun _ => 0))), (q9, .inl (k10, 12, .inl (fun _ => 0)))] := hD
  refine lv_aload_n hx hb kd0_44 rfl (lv_at hl 0 rfl) ?_
  refine lv_bipush (v := 12) hx hb kd0_45 (by decide) ?_
  refine va_newa (atype := .int) (ty := .int) (a0 := (12, .inl (fun _ => 0))) hx hb (hts _ kq3) rfl hK hP hD hS hA (fun _ => rfl) (by decide) (by decide) (by decide) (Nat.le_of_ble_eq_true rfl) (Nat.le_of_ble_eq_true rfl) kd0_47 (fun q11 k12 H hK hP hD hS => ?_)
  have hP : va_P D jm_cl [(h0, .inr (0, [.ref q1, .ref q3, .ref q5, .ref q7, .ref q9, .null, .null, .null, .null, .null, .null, .int 0, .int 0, .int 0, .int 0, .int 0, .int 0])), (q1, .inl (k2, 12, .inl (fun _ => 0))), (q3, .inl (k4, 12, .inl (fun _ => 0))), (q5, .inl (k6, 12, .inl (fun _ => 0))), (q7, .inl (k8, 12, .inl (fun _ => 0))), (q9, .inl (k10, 12, .inl (fun _ => 0))), (q11, .inl (k12, 12, .inl (fun _ => 0)))] H := hP
  have hD : va_D A [(h0, .inr (0, [.ref q1, .ref q3, .ref q5, .ref q7, .ref q9, .null, .null, .null, .null, .null, .null, .int 0, .int 0, .int 0, .int 0, .int 0, .int 0])), (q1, .inl (k2, 12, .inl (fun _ => 0))), (q3, .inl (k4, 12, .inl (fun _ => 0))), (q5, .inl (k6, 12, .inl (fun _ => 0))), (q7, .inl (k8, 12, .inl (fun _ => 0))), (q9, .inl (k10, 12, .inl (fun _ => 0))), (q11, .inl (k12, 12, .inl (fun _ => 0)))] := hD
  have hK : va_K D jm_cl [(k2, .int), (k4, .int), (k6, .int), (k8, .int), (k10, .int), (k12, .int)] s := hK
  refine W.widen (k := 6) (n := 72) (Nat.le_of_ble_eq_true rfl) (Nat.le_of_ble_eq_true rfl) ?_
  refine va_putF (D := D) (ci := 0) (v := .ref q11) (ty := jY0 5) (C := jR0) (T := jT0) (N := 17) hx hb hts (jm_cli (ci := 0) rfl) jY0 jYo0 jNm0 hown hK hP hD hS 0 rfl rfl 5 (by decide) (hts _ kq9) (fun _ h9 => h9) rfl hin rfl (jYo0 5 (by decide)) rfl rfl (Nat.le_of_ble_eq_true rfl) kd0_49 (fun H locs hP hD hS => ?_)
  have hP : va_P D jm_cl [(h0, .inr (0, [.ref q1, .ref q3, .ref q5, .ref q7, .ref q9, .ref q11, .null, .null, .null, .null, .null, .int 0, .int 0, .int 0, .int 0, .int 0, .int 0])), (q1, .inl (k2, 12, .inl (fun _ => 0))), (q3, .inl (k4, 12, .inl (fun _ => 0))), (q5, .inl (k6, 12, .inl (fun _ => 0))), (q7, .inl (k8, 12, .inl (fun _ => 0))), (q9, .inl (k10, 12, .inl (fun _ => 0))), (q11, .inl (k12, 12, .inl (fun _ => 0)))] H := hP
  have hD : va_D A [(h0, .inr (0, [.ref q1, .ref q3, .ref q5, .ref q7, .ref q9, .ref q11, .null, .null, .null, .null, .null, .int 0, .int 0, .int 0, .int 0, .int 0, .int 0])), (q1, .inl (k2, 12, .inl (fun _ => 0))), (q3, .inl (k4, 12, .inl (fun _ => 0))), (q5, .inl (k6, 12, .inl (fun _ => 0))), (q7, .inl (k8, 12, .inl (fun _ => 0))), (q9, .inl (k10, 12, .inl (fun _ => 0))), (q11, .inl (k12, 12, .inl (fun _ => 0)))] := hD
  refine lv_aload_n hx hb kd0_52 rfl (lv_at hl 0 rfl) ?_
  refine lv_bipush (v := 12) hx hb kd0_53 (by decide) ?_
  refine va_newa (atype := .int) (ty := .int) (a0 := (12, .inl (fun _ => 0))) hx hb (hts _ kq3) rfl hK hP hD hS hA (fun _ => rfl) (by decide) (by decide) (by decide) (Nat.le_of_ble_eq_true rfl) (Nat.le_of_ble_eq_true rfl) kd0_55 (fun q13 k14 H hK hP hD hS => ?_)
  have hP : va_P D jm_cl [(h0, .inr (0, [.ref q1, .ref q3, .ref q5, .ref q7, .ref q9, .ref q11, .null, .null, .null, .null, .null, .int 0, .int 0, .int 0, .int 0, .int 0, .int 0])), (q1, .inl (k2, 12, .inl (fun _ => 0))), (q3, .inl (k4, 12, .inl (fun _ => 0))), (q5, .inl (k6, 12, .inl (fun _ => 0))), (q7, .inl (k8, 12, .inl (fun _ => 0))), (q9, .inl (k10, 12, .inl (fun _ => 0))), (q11, .inl (k12, 12, .inl (fun _ => 0))), (q13, .inl (k14, 12, .inl (fun _ => 0)))] H := hP
  have hD : va_D A [(h0, .inr (0, [.ref q1, .ref q3, .ref q5, .ref q7, .ref q9, .ref q11, .null, .null, .null, .null, .null, .int 0, .int 0, .int 0, .int 0, .int 0, .int 0])), (q1, .inl (k2, 12, .inl (fun _ => 0))), (q3, .inl (k4, 12, .inl (fun _ => 0))), (q5, .inl (k6, 12, .inl (fun _ => 0))), (q7, .inl (k8, 12, .inl (fun _ => 0))), (q9, .inl (k10, 12, .inl (fun _ => 0))), (q11, .inl (k12, 12, .inl (fun _ => 0))), (q13, .inl (k14, 12, .inl (fun _ => 0)))] := hD
  have hK : va_K D jm_cl [(k2, .int), (k4, .int), (k6, .int), (k8, .int), (k10, .int), (k12, .int), (k14, .int)] s := hK
  refine W.widen (k := 7) (n := 84) (Nat.le_of_ble_eq_true rfl) (Nat.le_of_ble_eq_true rfl) ?_
  refine va_putF (D := D) (ci := 0) (v := .ref q13) (ty := jY0 6) (C := jR0) (T := jT0) (N := 17) hx hb hts (jm_cli (ci := 0) rfl) jY0 jYo0 jNm0 hown hK hP hD hS 0 rfl rfl 6 (by decide) (hts _ kq10) (fun _ h9 => h9) rfl hin rfl (jYo0 6 (by decide)) rfl rfl (Nat.le_of_ble_eq_true rfl) kd0_57 (fun H locs hP hD hS => ?_)
  have hP : va_P D jm_cl [(h0, .inr (0, [.ref q1, .ref q3, .ref q5, .ref q7, .ref q9, .ref q11, .ref q13, .null, .null, .null, .null, .int 0, .int 0, .int 0, .int 0, .int 0, .int 0])), (q1, .inl (k2, 12, .inl (fun _ => 0))), (q3, .inl (k4, 12, .inl (fun _ => 0))), (q5, .inl (k6, 12, .inl (fun _ => 0))), (q7, .inl (k8, 12, .inl (fun _ => 0))), (q9, .inl (k10, 12, .inl (fun _ => 0))), (q11, .inl (k12, 12, .inl (fun _ => 0))), (q13, .inl (k14, 12, .inl (fun _ => 0)))] H := hP
  have hD : va_D A [(h0, .inr (0, [.ref q1, .ref q3, .ref q5, .ref q7, .ref q9, .ref q11, .ref q13, .null, .null, .null, .null, .int 0, .int 0, .int 0, .int 0, .int 0, .int 0])), (q1, .inl (k2, 12, .inl (fun _ => 0))), (q3, .inl (k4, 12, .inl (fun _ => 0))), (q5, .inl (k6, 12, .inl (fun _ => 0))), (q7, .inl (k8, 12, .inl (fun _ => 0))), (q9, .inl (k10, 12, .inl (fun _ => 0))), (q11, .inl (k12, 12, .inl (fun _ => 0))), (q13, .inl (k14, 12, .inl (fun _ => 0)))] := hD
  refine lv_aload_n hx hb kd0_60 rfl (lv_at hl 0 rfl) ?_
  refine lv_bipush (v := 12) hx hb kd0_61 (by decide) ?_
  refine va_newa (atype := .int) (ty := .int) (a0 := (12, .inl (fun _ => 0))) hx hb (hts _ kq3) rfl hK hP hD hS hA (fun _ => rfl) (by decide) (by decide) (by decide) (Nat.le_of_ble_eq_true rfl) (Nat.le_of_ble_eq_true rfl) kd0_63 (fun q15 k16 H hK hP hD hS => ?_)
  have hP : va_P D jm_cl [(h0, .inr (0, [.ref q1, .ref q3, .ref q5, .ref q7, .ref q9, .ref q11, .ref q13, .null, .null, .null, .null, .int 0, .int 0, .int 0, .int 0, .int 0, .int 0])), (q1, .inl (k2, 12, .inl (fun _ => 0))), (q3, .inl (k4, 12, .inl (fun _ => 0))), (q5, .inl (k6, 12, .inl (fun _ => 0))), (q7, .inl (k8, 12, .inl (fun _ => 0))), (q9, .inl (k10, 12, .inl (fun _ => 0))), (q11, .inl (k12, 12, .inl (fun _ => 0))), (q13, .inl (k14, 12, .inl (fun _ => 0))), (q15, .inl (k16, 12, .inl (fun _ => 0)))] H := hP
  have hD : va_D A [(h0, .inr (0, [.ref q1, .ref q3, .ref q5, .ref q7, .ref q9, .ref q11, .ref q13, .null, .null, .null, .null, .int 0, .int 0, .int 0, .int 0, .int 0, .int 0])), (q1, .inl (k2, 12, .inl (fun _ => 0))), (q3, .inl (k4, 12, .inl (fun _ => 0))), (q5, .inl (k6, 12, .inl (fun _ => 0))), (q7, .inl (k8, 12, .inl (fun _ => 0))), (q9, .inl (k10, 12, .inl (fun _ => 0))), (q11, .inl (k12, 12, .inl (fun _ => 0))), (q13, .inl (k14, 12, .inl (fun _ => 0))), (q15, .inl (k16, 12, .inl (fun _ => 0)))] := hD
  have hK : va_K D jm_cl [(k2, .int), (k4, .int), (k6, .int), (k8, .int), (k10, .int), (k12, .int), (k14, .int), (k16, .int)] s := hK
  refine W.widen (k := 8) (n := 96) (Nat.le_of_ble_eq_true rfl) (Nat.le_of_ble_eq_true rfl) ?_
  refine va_putF (D := D) (ci := 0) (v := .ref q15) (ty := jY0 7) (C := jR0) (T := jT0) (N := 17) hx hb hts (jm_cli (ci := 0) rfl) jY0 jYo0 jNm0 hown hK hP hD hS 0 rfl rfl 7 (by decide) (hts _ kq11) (fun _ h9 => h9) rfl hin rfl (jYo0 7 (by decide)) rfl rfl (Nat.le_of_ble_eq_true rfl) kd0_65 (fun H locs hP hD hS => ?_)
  have hP : va_P D jm_cl [(h0, .inr (0, [.ref q1, .ref q3, .ref q5, .ref q7, .ref q9, .ref q11, .ref q13, .ref q15, .null, .null, .null, .int 0, .int 0, .int 0, .int 0, .int 0, .int 0])), (q1, .inl (k2, 12, .inl (fun _ => 0))), (q3, .inl (k4, 12, .inl (fun _ => 0))), (q5, .inl (k6, 12, .inl (fun _ => 0))), (q7, .inl (k8, 12, .inl (fun _ => 0))), (q9, .inl (k10, 12, .inl (fun _ => 0))), (q11, .inl (k12, 12, .inl (fun _ => 0))), (q13, .inl (k14, 12, .inl (fun _ => 0))), (q15, .inl (k16, 12, .inl (fun _ => 0)))] H := hP
  have hD : va_D A [(h0, .inr (0, [.ref q1, .ref q3, .ref q5, .ref q7, .ref q9, .ref q11, .ref q13, .ref q15, .null, .null, .null, .int 0, .int 0, .int 0, .int 0, .int 0, .int 0])), (q1, .inl (k2, 12, .inl (fun _ => 0))), (q3, .inl (k4, 12, .inl (fun _ => 0))), (q5, .inl (k6, 12, .inl (fun _ => 0))), (q7, .inl (k8, 12, .inl (fun _ => 0))), (q9, .inl (k10, 12, .inl (fun _ => 0))), (q11, .inl (k12, 12, .inl (fun _ => 0))), (q13, .inl (k14, 12, .inl (fun _ => 0))), (q15, .inl (k16, 12, .inl (fun _ => 0)))] := hD
  refine lv_aload_n hx hb kd0_68 rfl (lv_at hl 0 rfl) ?_
  refine lv_bipush (v := 12) hx hb kd0_69 (by decide) ?_
  refine va_newa (atype := .int) (ty := .int) (a0 := (12, .inl (fun _ => 0))) hx hb (hts _ kq3) rfl hK hP hD hS hA (fun _ => rfl) (by decide) (by decide) (by decide) (Nat.le_of_ble_eq_true rfl) (Nat.le_of_ble_eq_true rfl) kd0_71 (fun q17 k18 H hK hP hD hS => ?_)
  have hP : va_P D jm_cl [(h0, .inr (0, [.ref q1, .ref q3, .ref q5, .ref q7, .ref q9, .ref q11, .ref q13, .ref q15, .null, .null, .null, .int 0, .int 0, .int 0, .int 0, .int 0, .int 0])), (q1, .inl (k2, 12, .inl (fun _ => 0))), (q3, .inl (k4, 12, .inl (fun _ => 0))), (q5, .inl (k6, 12, .inl (fun _ => 0))), (q7, .inl (k8, 12, .inl (fun _ => 0))), (q9, .inl (k10, 12, .inl (fun _ => 0))), (q11, .inl (k12, 12, .inl (fun _ => 0))), (q13, .inl (k14, 12, .inl (fun _ => 0))), (q15, .inl (k16, 12, .inl (fun _ => 0))), (q17, .inl (k18, 12, .inl (fun _ => 0)))] H := hP
  have hD : va_D A [(h0, .inr (0, [.ref q1, .ref q3, .ref q5, .ref q7, .ref q9, .ref q11, .ref q13, .ref q15, .null, .null, .null, .int 0, .int 0, .int 0, .int 0, .int 0, .int 0])), (q1, .inl (k2, 12, .inl (fun _ => 0))), (q3, .inl (k4, 12, .inl (fun _ => 0))), (q5, .inl (k6, 12, .inl (fun _ => 0))), (q7, .inl (k8, 12, .inl (fun _ => 0))), (q9, .inl (k10, 12, .inl (fun _ => 0))), (q11, .inl (k12, 12, .inl (fun _ => 0))), (q13, .inl (k14, 12, .inl (fun _ => 0))), (q15, .inl (k16, 12, .inl (fun _ => 0))), (q17, .inl (k18, 12, .inl (fun _ => 0)))] := hD
  have hK : va_K D jm_cl [(k2, .int), (k4, .int), (k6, .int), (k8, .int), (k10, .int), (k12, .int), (k14, .int), (k16, .int), (k18, .int)] s := hK
  refine W.widen (k := 9) (n := 108) (Nat.le_of_ble_eq_true rfl) (Nat.le_of_ble_eq_true rfl) ?_
  refine va_putF (D := D) (ci := 0) (v := .ref q17) (ty := jY0 8) (C := jR0) (T := jT0) (N := 17) hx hb hts (jm_cli (ci := 0) rfl) jY0 jYo0 jNm0 hown hK hP hD hS 0 rfl rfl 8 (by decide) (hts _ kq12) (fun _ h9 => h9) rfl hin rfl (jYo0 8 (by decide)) rfl rfl (Nat.le_of_ble_eq_true rfl) kd0_73 (fun H locs hP hD hS => ?_)
  have hP : va_P D jm_cl [(h0, .inr (0, [.ref q1, .ref q3, .ref q5, .ref q7, .ref q9, .ref q11, .ref q13, .ref q15, .ref q17, .null, .null, .int 0, .int 0, .int 0, .int 0, .int 0, .int 0])), (q1, .inl (k2, 12, .inl (fun _ => 0))), (q3, .inl (k4, 12, .inl (fun _ => 0))), (q5, .inl (k6, 12, .inl (fun _ => 0))), (q7, .inl (k8, 12, .inl (fun _ => 0))), (q9, .inl (k10, 12, .inl (fun _ => 0))), (q11, .inl (k12, 12, .inl (fun _ => 0))), (q13, .inl (k14, 12, .inl (fun _ => 0))), (q15, .inl (k16, 12, .inl (fun _ => 0))), (q17, .inl (k18, 12, .inl (fun _ => 0)))] H := hP
  have hD : va_D A [(h0, .inr (0, [.ref q1, .ref q3, .ref q5, .ref q7, .ref q9, .ref q11, .ref q13, .ref q15, .ref q17, .null, .null, .int 0, .int 0, .int 0, .int 0, .int 0, .int 0])), (q1, .inl (k2, 12, .inl (fun _ => 0))), (q3, .inl (k4, 12, .inl (fun _ => 0))), (q5, .inl (k6, 12, .inl (fun _ => 0))), (q7, .inl (k8, 12, .inl (fun _ => 0))), (q9, .inl (k10, 12, .inl (fun _ => 0))), (q11, .inl (k12, 12, .inl (fun _ => 0))), (q13, .inl (k14, 12, .inl (fun _ => 0))), (q15, .inl (k16, 12, .inl (fun _ => 0))), (q17, .inl (k18, 12, .inl (fun _ => 0)))] := hD
  refine lv_aload_n hx hb kd0_76 rfl (lv_at hl 0 rfl) ?_
  refine lv_bipush (v := 48) hx hb kd0_77 (by decide) ?_
  refine va_newa (atype := .int) (ty := .int) (a0 := (48, .inl (fun _ => 0))) hx hb (hts _ kq3) rfl hK hP hD hS hA (fun _ => rfl) (by decide) (by decide) (by decide) (Nat.le_of_ble_eq_true rfl) (Nat.le_of_ble_eq_true rfl) kd0_79 (fun q19 k20 H hK hP hD hS => ?_)
  have hP : va_P D jm_cl [(h0, .inr (0, [.ref q1, .ref q3, .ref q5, .ref q7, .ref q9, .ref q11, .ref q13, .ref q15, .ref q17, .null, .null, .int 0, .int 0, .int 0, .int 0, .int 0, .int 0])), (q1, .inl (k2, 12, .inl (fun _ => 0))), (q3, .inl (k4, 12, .inl (fun _ => 0))), (q5, .inl (k6, 12, .inl (fun _ => 0))), (q7, .inl (k8, 12, .inl (fun _ => 0))), (q9, .inl (k10, 12, .inl (fun _ => 0))), (q11, .inl (k12, 12, .inl (fun _ => 0))), (q13, .inl (k14, 12, .inl (fun _ => 0))), (q15, .inl (k16, 12, .inl (fun _ => 0))), (q17, .inl (k18, 12, .inl (fun _ => 0))), (q19, .inl (k20, 48, .inl (fun _ => 0)))] H := hP
  have hD : va_D A [(h0, .inr (0, [.ref q1, .ref q3, .ref q5, .ref q7, .ref q9, .ref q11, .ref q13, .ref q15, .ref q17, .null, .null, .int 0, .int 0, .int 0, .int 0, .int 0, .int 0])), (q1, .inl (k2, 12, .inl (fun _ => 0))), (q3, .inl (k4, 12, .inl (fun _ => 0))), (q5, .inl (k6, 12, .inl (fun _ => 0))), (q7, .inl (k8, 12, .inl (fun _ => 0))), (q9, .inl (k10, 12, .inl (fun _ => 0))), (q11, .inl (k12, 12, .inl (fun _ => 0))), (q13, .inl (k14, 12, .inl (fun _ => 0))), (q15, .inl (k16, 12, .inl (fun _ => 0))), (q17, .inl (k18, 12, .inl (fun _ => 0))), (q19, .inl (k20, 48, .inl (fun _ => 0)))] := hD
  have hK : va_K D jm_cl [(k2, .int), (k4, .int), (k6, .int), (k8, .int), (k10, .int), (k12, .int), (k14, .int), (k16, .int), (k18, .int), (k20, .int)] s := hK
  refine W.widen (k := 10) (n := 156) (Nat.le_of_ble_eq_true rfl) (Nat.le_of_ble_eq_true rfl) ?_
  refine va_putF (D := D) (ci := 0) (v := .ref q19) (ty := jY0 9) (C := jR0) (T := jT0) (N := 17) hx hb hts (jm_cli (ci := 0) rfl) jY0 jYo0 jNm0 hown hK hP hD hS 0 rfl rfl 9 (by decide) (hts _ kq13) (fun _ h9 => h9) rfl hin rfl (jYo0 9 (by decide)) rfl rfl (Nat.le_of_ble_eq_true rfl) kd0_81 (fun H locs hP hD hS => ?_)
  have hP : va_P D jm_cl [(h0, .inr (0, [.ref q1, .ref q3, .ref q5, .ref q7, .ref q9, .ref q11, .ref q13, .ref q15, .ref q17, .ref q19, .null, .int 0, .int 0, .int 0, .int 0, .int 0, .int 0])), (q1, .inl (k2, 12, .inl (fun _ => 0))), (q3, .inl (k4, 12, .inl (fun _ => 0))), (q5, .inl (k6, 12, .inl (fun _ => 0))), (q7, .inl (k8, 12, .inl (fun _ => 0))), (q9, .inl (k10, 12, .inl (fun _ => 0))), (q11, .inl (k12, 12, .inl (fun _ => 0))), (q13, .inl (k14, 12, .inl (fun _ => 0))), (q15, .inl (k16, 12, .inl (fun _ => 0))), (q17, .inl (k18, 12, .inl (fun _ => 0))), (q19, .inl (k20, 48, .inl (fun _ => 0)))] H := hP
  have hD : va_D A [(h0, .inr (0, [.ref q1, .ref q3, .ref q5, .ref q7, .ref q9, .ref q11, .ref q13, .ref q15, .ref q17, .ref q19, .null, .int 0, .int 0, .int 0, .int 0, .int 0, .int 0])), (q1, .inl (k2, 12, .inl (fun _ => 0))), (q3, .inl (k4, 12, .inl (fun _ => 0))), (q5, .inl (k6, 12, .inl (fun _ => 0))), (q7, .inl (k8, 12, .inl (fun _ => 0))), (q9, .inl (k10, 12, .inl (fun _ => 0))), (q11, .inl (k12, 12, .inl (fun _ => 0))), (q13, .inl (k14, 12, .inl (fun _ => 0))), (q15, .inl (k16, 12, .inl (fun _ => 0))), (q17, .inl (k18, 12, .inl (fun _ => 0))), (q19, .inl (k20, 48, .inl (fun _ => 0)))] := hD
  refine lv_aload_n hx hb kd0_84 rfl (lv_at hl 0 rfl) ?_
  refine lv_iconst (v := 4) hx hb kd0_85 (by decide) ?_
  refine va_newa (atype := .int) (ty := .int) (a0 := (4, .inl (fun _ => 0))) hx hb (hts _ kq3) rfl hK hP hD hS hA (fun _ => rfl) (by decide) (by decide) (by decide) (Nat.le_of_ble_eq_true rfl) (Nat.le_of_ble_eq_true rfl) kd0_86 (fun q21 k22 H hK hP hD hS => ?_)
  have hP : va_P D jm_cl [(h0, .inr (0, [.ref q1, .ref q3, .ref q5, .ref q7, .ref q9, .ref q11, .ref q13, .ref q15, .ref q17, .ref q19, .null, .int 0, .int 0, .int 0, .int 0, .int 0, .int 0])), (q1, .inl (k2, 12, .inl (fun _ => 0))), (q3, .inl (k4, 12, .inl (fun _ => 0))), (q5, .inl (k6, 12, .inl (fun _ => 0))), (q7, .inl (k8, 12, .inl (fun _ => 0))), (q9, .inl (k10, 12, .inl (fun _ => 0))), (q11, .inl (k12, 12, .inl (fun _ => 0))), (q13, .inl (k14, 12, .inl (fun _ => 0))), (q15, .inl (k16, 12, .inl (fun _ => 0))), (q17, .inl (k18, 12, .inl (fun _ => 0))), (q19, .inl (k20, 48, .inl (fun _ => 0))), (q21, .inl (k22, 4, .inl (fun _ => 0)))] H := hP
  have hD : va_D A [(h0, .inr (0, [.ref q1, .ref q3, .ref q5, .ref q7, .ref q9, .ref q11, .ref q13, .ref q15, .ref q17, .ref q19, .null, .int 0, .int 0, .int 0, .int 0, .int 0, .int 0])), (q1, .inl (k2, 12, .inl (fun _ => 0))), (q3, .inl (k4, 12, .inl (fun _ => 0))), (q5, .inl (k6, 12, .inl (fun _ => 0))), (q7, .inl (k8, 12, .inl (fun _ => 0))), (q9, .inl (k10, 12, .inl (fun _ => 0))), (q11, .inl (k12, 12, .inl (fun _ => 0))), (q13, .inl (k14, 12, .inl (fun _ => 0))), (q15, .inl (k16, 12, .inl (fun _ => 0))), (q17, .inl (k18, 12, .inl (fun _ => 0))), (q19, .inl (k20, 48, .inl (fun _ => 0))), (q21, .inl (k22, 4, .inl (fun _ => 0)))] := hD
  have hK : va_K D jm_cl [(k2, .int), (k4, .int), (k6, .int), (k8, .int), (k10, .int), (k12, .int), (k14, .int), (k16, .int), (k18, .int), (k20, .int), (k22, .int)] s := hK
  refine W.widen (k := 11) (n := 160) (Nat.le_of_ble_eq_true rfl) (Nat.le_of_ble_eq_true rfl) ?_
  refine va_putF (D := D) (ci := 0) (v := .ref q21) (ty := jY0 10) (C := jR0) (T := jT0) (N := 17) hx hb hts (jm_cli (ci := 0) rfl) jY0 jYo0 jNm0 hown hK hP hD hS 0 rfl rfl 10 (by decide) (hts _ kq14) (fun _ h9 => h9) rfl hin rfl (jYo0 10 (by decide)) rfl rfl (Nat.le_of_ble_eq_true rfl) kd0_88 (fun H locs hP hD hS => ?_)
  have hP : va_P D jm_cl [(h0, .inr (0, [.ref q1, .ref q3, .ref q5, .ref q7, .ref q9, .ref q11, .ref q13, .ref q15, .ref q17, .ref q19, .ref q21, .int 0, .int 0, .int 0, .int 0, .int 0, .int 0])), (q1, .inl (k2, 12, .inl (fun _ => 0))), (q3, .inl (k4, 12, .inl (fun _ => 0))), (q5, .inl (k6, 12, .inl (fun _ => 0))), (q7, .inl (k8, 12, .inl (fun _ => 0))), (q9, .inl (k10, 12, .inl (fun _ => 0))), (q11, .inl (k12, 12, .inl (fun _ => 0))), (q13, .inl (k14, 12, .inl (fun _ => 0))), (q15, .inl (k16, 12, .inl (fun _ => 0))), (q17, .inl (k18, 12, .inl (fun _ => 0))), (q19, .inl (k20, 48, .inl (fun _ => 0))), (q21, .inl (k22, 4, .inl (fun _ => 0)))] H := hP
  have hD : va_D A [(h0, .inr (0, [.ref q1, .ref q3, .ref q5, .ref q7, .ref q9, .ref q11, .ref q13, .ref q15, .ref q17, .ref q19, .ref q21, .int 0, .int 0, .int 0, .int 0, .int 0, .int 0])), (q1, .inl (k2, 12, .inl (fun _ => 0))), (q3, .inl (k4, 12, .inl (fun _ => 0))), (q5, .inl (k6, 12, .inl (fun _ => 0))), (q7, .inl (k8, 12, .inl (fun _ => 0))), (q9, .inl (k10, 12, .inl (fun _ => 0))), (q11, .inl (k12, 12, .inl (fun _ => 0))), (q13, .inl (k14, 12, .inl (fun _ => 0))), (q15, .inl (k16, 12, .inl (fun _ => 0))), (q17, .inl (k18, 12, .inl (fun _ => 0))), (q19, .inl (k20, 48, .inl (fun _ => 0))), (q21, .inl (k22, 4, .inl (fun _ => 0)))] := hD
  refine lv_aload_n hx hb kd0_91 rfl (lv_at hl 0 rfl) ?_
  refine lv_iconst (v := 0) hx hb kd0_92 (by decide) ?_
  refine va_put (D := D) (ci := 0) (v := .int 0) (ty := jY0 11) (C := jR0) (T := jT0) (N := 17) hx hb hts (jm_cli (ci := 0) rfl) jY0 jYo0 jNm0 hown hK hP hD hS 0 rfl rfl 11 (by decide) (hts _ kq15) (fun _ h9 => h9) rfl (jYo0 11 (by decide)) rfl rfl (Nat.le_of_ble_eq_true rfl) kd0_93 (fun H locs hP hD hS => ?_)
  have hP : va_P D jm_cl [(h0, .inr (0, [.ref q1, .ref q3, .ref q5, .ref q7, .ref q9, .ref q11, .ref q13, .ref q15, .ref q17, .ref q19, .ref q21, .int 0, .int 0, .int 0, .int 0, .int 0, .int 0])), (q1, .inl (k2, 12, .inl (fun _ => 0))), (q3, .inl (k4, 12, .inl (fun _ => 0))), (q5, .inl (k6, 12, .inl (fun _ => 0))), (q7, .inl (k8, 12, .inl (fun _ => 0))), (q9, .inl (k10, 12, .inl (fun _ => 0))), (q11, .inl (k12, 12, .inl (fun _ => 0))), (q13, .inl (k14, 12, .inl (fun _ => 0))), (q15, .inl (k16, 12, .inl (fun _ => 0))), (q17, .inl (k18, 12, .inl (fun _ => 0))), (q19, .inl (k20, 48, .inl (fun _ => 0))), (q21, .inl (k22, 4, .inl (fun _ => 0)))] H := hP
  have hD : va_D A [(h0, .inr (0, [.ref q1, .ref q3, .ref q5, .ref q7, .ref q9, .ref q11, .ref q13, .ref q15, .ref q17, .ref q19, .ref q21, .int 0, .int 0, .int 0, .int 0, .int 0, .int 0])), (q1, .inl (k2, 12, .inl (fun _ => 0))), (q3, .inl (k4, 12, .inl (fun _ => 0))), (q5, .inl (k6, 12, .inl (fun _ => 0))), (q7, .inl (k8, 12, .inl (fun _ => 0))), (q9, .inl (k10, 12, .inl (fun _ => 0))), (q11, .inl (k12, 12, .inl (fun _ => 0))), (q13, .inl (k14, 12, .inl (fun _ => 0))), (q15, .inl (k16, 12, .inl (fun _ => 0))), (q17, .inl (k18, 12, .inl (fun _ => 0))), (q19, .inl (k20, 48, .inl (fun _ => 0))), (q21, .inl (k22, 4, .inl (fun _ => 0)))] := hD
  refine lv_aload_n hx hb kd0_96 rfl (lv_at hl 0 rfl) ?_
  refine lv_iconst (v := 0) hx hb kd0_97 (by decide) ?_
  refine va_put (D := D) (ci := 0) (v := .int 0) (ty := jY0 12) (C := jR0) (T := jT0) (N := 17) hx hb hts (jm_cli (ci := 0) rfl) jY0 jYo0 jNm0 hown hK hP hD hS 0 rfl rfl 12 (by decide) (hts _ kq16) (fun _ h9 => h9) rfl (jYo0 12 (by decide)) rfl rfl (Nat.le_of_ble_eq_true rfl) kd0_98 (fun H locs hP hD hS => ?_)
  have hP : va_P D jm_cl [(h0, .inr (0, [.ref q1, .ref q3, .ref q5, .ref q7, .ref q9, .ref q11, .ref q13, .ref q15, .ref q17, .ref q19, .ref q21, .int 0, .int 0, .int 0, .int 0, .int 0, .int 0])), (q1, .inl (k2, 12, .inl (fun _ => 0))), (q3, .inl (k4, 12, .inl (fun _ => 0))), (q5, .inl (k6, 12, .inl (fun _ => 0))), (q7, .inl (k8, 12, .inl (fun _ => 0))), (q9, .inl (k10, 12, .inl (fun _ => 0))), (q11, .inl (k12, 12, .inl (fun _ => 0))), (q13, .inl (k14, 12, .inl (fun _ => 0))), (q15, .inl (k16, 12, .inl (fun _ => 0))), (q17, .inl (k18, 12, .inl (fun _ => 0))), (q19, .inl (k20, 48, .inl (fun _ => 0))), (q21, .inl (k22, 4, .inl (fun _ => 0)))] H := hP
  have hD : va_D A [(h0, .inr (0, [.ref q1, .ref q3, .ref q5, .ref q7, .ref q9, .ref q11, .ref q13, .ref q15, .ref q17, .ref q19, .ref q21, .int 0, .int 0, .int 0, .int 0, .int 0, .int 0])), (q1, .inl (k2, 12, .inl (fun _ => 0))), (q3, .inl (k4, 12, .inl (fun _ => 0))), (q5, .inl (k6, 12, .inl (fun _ => 0))), (q7, .inl (k8, 12, .inl (fun _ => 0))), (q9, .inl (k10, 12, .inl (fun _ => 0))), (q11, .inl (k12, 12, .inl (fun _ => 0))), (q13, .inl (k14, 12, .inl (fun _ => 0))), (q15, .inl (k16, 12, .inl (fun _ => 0))), (q17, .inl (k18, 12, .inl (fun _ => 0))), (q19, .inl (k20, 48, .inl (fun _ => 0))), (q21, .inl (k22, 4, .inl (fun _ => 0)))] := hD
  refine lv_aload_n hx hb kd0_101 rfl (lv_at hl 0 rfl) ?_
  refine lv_iconst (v := 0) hx hb kd0_102 (by decide) ?_
  refine va_put (D := D) (ci := 0) (v := .int 0) (ty := jY0 13) (C := jR0) (T := jT0) (N := 17) hx hb hts (jm_cli (ci := 0) rfl) jY0 jYo0 jNm0 hown hK hP hD hS 0 rfl rfl 13 (by decide) (hts _ kq17) (fun _ h9 => h9) rfl (jYo0 13 (by decide)) rfl rfl (Nat.le_of_ble_eq_true rfl) kd0_103 (fun H locs hP hD hS => ?_)
  have hP : va_P D jm_cl [(h0, .inr (0, [.ref q1, .ref q3, .ref q5, .ref q7, .ref q9, .ref q11, .ref q13, .ref q15, .ref q17, .ref q19, .ref q21, .int 0, .int 0, .int 0, .int 0, .int 0, .int 0])), (q1, .inl (k2, 12, .inl (fun _ => 0))), (q3, .inl (k4, 12, .inl (fun _ => 0))), (q5, .inl (k6, 12, .inl (fun _ => 0))), (q7, .inl (k8, 12, .inl (fun _ => 0))), (q9, .inl (k10, 12, .inl (fun _ => 0))), (q11, .inl (k12, 12, .inl (fun _ => 0))), (q13, .inl (k14, 12, .inl (fun _ => 0))), (q15, .inl (k16, 12, .inl (fun _ => 0))), (q17, .inl (k18, 12, .inl (fun _ => 0))), (q19, .inl (k20, 48, .inl (fun _ => 0))), (q21, .inl (k22, 4, .inl (fun _ => 0)))] H := hP
  have hD : va_D A [(h0, .inr (0, [.ref q1, .ref q3, .ref q5, .ref q7, .ref q9, .ref q11, .ref q13, .ref q15, .ref q17, .ref q19, .ref q21, .int 0, .int 0, .int 0, .int 0, .int 0, .int 0])), (q1, .inl (k2, 12, .inl (fun _ => 0))), (q3, .inl (k4, 12, .inl (fun _ => 0))), (q5, .inl (k6, 12, .inl (fun _ => 0))), (q7, .inl (k8, 12, .inl (fun _ => 0))), (q9, .inl (k10, 12, .inl (fun _ => 0))), (q11, .inl (k12, 12, .inl (fun _ => 0))), (q13, .inl (k14, 12, .inl (fun _ => 0))), (q15, .inl (k16, 12, .inl (fun _ => 0))), (q17, .inl (k18, 12, .inl (fun _ => 0))), (q19, .inl (k20, 48, .inl (fun _ => 0))), (q21, .inl (k22, 4, .inl (fun _ => 0)))] := hD
  refine lv_aload_n hx hb kd0_106 rfl (lv_at hl 0 rfl) ?_
  refine lv_iconst (v := 0) hx hb kd0_107 (by decide) ?_
  refine va_put (D := D) (ci := 0) (v := .int 0) (ty := jY0 14) (C := jR0) (T := jT0) (N := 17) hx hb hts (jm_cli (ci := 0) rfl) jY0 jYo0 jNm0 hown hK hP hD hS 0 rfl rfl 14 (by decide) (hts _ kq18) (fun _ h9 => h9) rfl (jYo0 14 (by decide)) rfl rfl (Nat.le_of_ble_eq_true rfl) kd0_108 (fun H locs hP hD hS => ?_)
  have hP : va_P D jm_cl [(h0, .inr (0, [.ref q1, .ref q3, .ref q5, .ref q7, .ref q9, .ref q11, .ref q13, .ref q15, .ref q17, .ref q19, .ref q21, .int 0, .int 0, .int 0, .int 0, .int 0, .int 0])), (q1, .inl (k2, 12, .inl (fun _ => 0))), (q3, .inl (k4, 12, .inl (fun _ => 0))), (q5, .inl (k6, 12, .inl (fun _ => 0))), (q7, .inl (k8, 12, .inl (fun _ => 0))), (q9, .inl (k10, 12, .inl (fun _ => 0))), (q11, .inl (k12, 12, .inl (fun _ => 0))), (q13, .inl (k14, 12, .inl (fun _ => 0))), (q15, .inl (k16, 12, .inl (fun _ => 0))), (q17, .inl (k18, 12, .inl (fun _ => 0))), (q19, .inl (k20, 48, .inl (fun _ => 0))), (q21, .inl (k22, 4, .inl (fun _ => 0)))] H := hP
  have hD : va_D A [(h0, .inr (0, [.ref q1, .ref q3, .ref q5, .ref q7, .ref q9, .ref q11, .ref q13, .ref q15, .ref q17, .ref q19, .ref q21, .int 0, .int 0, .int 0, .int 0, .int 0, .int 0])), (q1, .inl (k2, 12, .inl (fun _ => 0))), (q3, .inl (k4, 12, .inl (fun _ => 0))), (q5, .inl (k6, 12, .inl (fun _ => 0))), (q7, .inl (k8, 12, .inl (fun _ => 0))), (q9, .inl (k10, 12, .inl (fun _ => 0))), (q11, .inl (k12, 12, .inl (fun _ => 0))), (q13, .inl (k14, 12, .inl (fun _ => 0))), (q15, .inl (k16, 12, .inl (fun _ => 0))), (q17, .inl (k18, 12, .inl (fun _ => 0))), (q19, .inl (k20, 48, .inl (fun _ => 0))), (q21, .inl (k22, 4, .inl (fun _ => 0)))] := hD
  refine lv_aload_n hx hb kd0_111 rfl (lv_at hl 0 rfl) ?_
  refine lv_iconst (v := 0) hx hb kd0_112 (by decide) ?_
  refine va_put (D := D) (ci := 0) (v := .int 0) (ty := jY0 15) (C := jR0) (T := jT0) (N := 17) hx hb hts (jm_cli (ci := 0) rfl) jY0 jYo0 jNm0 hown hK hP hD hS 0 rfl rfl 15 (by decide) (hts _ kq19) (fun _ h9 => h9) rfl (jYo0 15 (by decide)) rfl rfl (Nat.le_of_ble_eq_true rfl) kd0_113 (fun H locs hP hD hS => ?_)
  have hP : va_P D jm_cl [(h0, .inr (0, [.ref q1, .ref q3, .ref q5, .ref q7, .ref q9, .ref q11, .ref q13, .ref q15, .ref q17, .ref q19, .ref q21, .int 0, .int 0, .int 0, .int 0, .int 0, .int 0])), (q1, .inl (k2, 12, .inl (fun _ => 0))), (q3, .inl (k4, 12, .inl (fun _ => 0))), (q5, .inl (k6, 12, .inl (fun _ => 0))), (q7, .inl (k8, 12, .inl (fun _ => 0))), (q9, .inl (k10, 12, .inl (fun _ => 0))), (q11, .inl (k12, 12, .inl (fun _ => 0))), (q13, .inl (k14, 12, .inl (fun _ => 0))), (q15, .inl (k16, 12, .inl (fun _ => 0))), (q17, .inl (k18, 12, .inl (fun _ => 0))), (q19, .inl (k20, 48, .inl (fun _ => 0))), (q21, .inl (k22, 4, .inl (fun _ => 0)))] H := hP
  have hD : va_D A [(h0, .inr (0, [.ref q1, .ref q3, .ref q5, .ref q7, .ref q9, .ref q11, .ref q13, .ref q15, .ref q17, .ref q19, .ref q21, .int 0, .int 0, .int 0, .int 0, .int 0, .int 0])), (q1, .inl (k2, 12, .inl (fun _ => 0))), (q3, .inl (k4, 12, .inl (fun _ => 0))), (q5, .inl (k6, 12, .inl (fun _ => 0))), (q7, .inl (k8, 12, .inl (fun _ => 0))), (q9, .inl (k10, 12, .inl (fun _ => 0))), (q11, .inl (k12, 12, .inl (fun _ => 0))), (q13, .inl (k14, 12, .inl (fun _ => 0))), (q15, .inl (k16, 12, .inl (fun _ => 0))), (q17, .inl (k18, 12, .inl (fun _ => 0))), (q19, .inl (k20, 48, .inl (fun _ => 0))), (q21, .inl (k22, 4, .inl (fun _ => 0)))] := hD
  refine lv_aload_n hx hb kd0_116 rfl (lv_at hl 0 rfl) ?_
  refine lv_iconst (v := 0) hx hb kd0_117 (by decide) ?_
  refine va_put (D := D) (ci := 0) (v := .int 0) (ty := jY0 16) (C := jR0) (T := jT0) (N := 17) hx hb hts (jm_cli (ci := 0) rfl) jY0 jYo0 jNm0 hown hK hP hD hS 0 rfl rfl 16 (by decide) (hts _ kq20) (fun _ h9 => h9) rfl (jYo0 16 (by decide)) rfl rfl (Nat.le_of_ble_eq_true rfl) kd0_118 (fun H locs hP hD hS => ?_)
  have hP : va_P D jm_cl [(h0, .inr (0, [.ref q1, .ref q3, .ref q5, .ref q7, .ref q9, .ref q11, .ref q13, .ref q15, .ref q17, .ref q19, .ref q21, .int 0, .int 0, .int 0, .int 0, .int 0, .int 0])), (q1, .inl (k2, 12, .inl (fun _ => 0))), (q3, .inl (k4, 12, .inl (fun _ => 0))), (q5, .inl (k6, 12, .inl (fun _ => 0))), (q7, .inl (k8, 12, .inl (fun _ => 0))), (q9, .inl (k10, 12, .inl (fun _ => 0))), (q11, .inl (k12, 12, .inl (fun _ => 0))), (q13, .inl (k14, 12, .inl (fun _ => 0))), (q15, .inl (k16, 12, .inl (fun _ => 0))), (q17, .inl (k18, 12, .inl (fun _ => 0))), (q19, .inl (k20, 48, .inl (fun _ => 0))), (q21, .inl (k22, 4, .inl (fun _ => 0)))] H := hP
  have hD : va_D A [(h0, .inr (0, [.ref q1, .ref q3, .ref q5, .ref q7, .ref q9, .ref q11, .ref q13, .ref q15, .ref q17, .ref q19, .ref q21, .int 0, .int 0, .int 0, .int 0, .int 0, .int 0])), (q1, .inl (k2, 12, .inl (fun _ => 0))), (q3, .inl (k4, 12, .inl (fun _ => 0))), (q5, .inl (k6, 12, .inl (fun _ => 0))), (q7, .inl (k8, 12, .inl (fun _ => 0))), (q9, .inl (k10, 12, .inl (fun _ => 0))), (q11, .inl (k12, 12, .inl (fun _ => 0))), (q13, .inl (k14, 12, .inl (fun _ => 0))), (q15, .inl (k16, 12, .inl (fun _ => 0))), (q17, .inl (k18, 12, .inl (fun _ => 0))), (q19, .inl (k20, 48, .inl (fun _ => 0))), (q21, .inl (k22, 4, .inl (fun _ => 0)))] := hD
  refine W.widen (k := 11) (n := 160) (Nat.le_of_ble_eq_true rfl) (Nat.le_of_ble_eq_true rfl) ?_
  exact W.vret hx hb hr (fun t ht hW => ⟨⟨((fun i => if i = 0 then q1 else if i = 1 then q3 else if i = 2 then q5 else if i = 3 then q7 else if i = 4 then q9 else if i = 5 then q11 else if i = 6 then q13 else if i = 7 then q15 else if i = 8 then q17 else if i = 9 then q19 else if i = 10 then q21 else 0), (fun i => if i = 0 then k2 else if i = 1 then k4 else if i = 2 then k6 else if i = 3 then k8 else if i = 4 then k10 else if i = 5 then k12 else if i = 6 then k14 else if i = 7 then k16 else if i = 8 then k18 else if i = 9 then k20 else if i = 10 then k22 else k2)), rfl, trivial, by rw [ht]; exact hP, va_K.moved hW.alike hK, hD⟩, hS.F ht⟩) hS.2.2 kd0_121
def kw_Evens (h0 : Nat) (u : (Nat → Nat) × (Nat → ClassId)) : va_W := [(h0, .inr (1, [.ref (u.1 0), .ref (u.1 1)])), ((u.1 0), .inl ((u.2 0), 100, .inl (fun _ => 0))), ((u.1 1), .inl ((u.2 1), 100, .inl (fun _ => 0)))]
def kt_Evens (u : (Nat → Nat) × (Nat → ClassId)) : List (ClassId × FieldType) := [(u.2 0, .int), (u.2 1, .int)]
set_option maxHeartbeats 4000000 in
set_option maxRecDepth 100000 in
theorem k_Evens (l : Launch) (D : va_G) (h0 sz : Nat) : Met l ky1 (cWs ky1 kc1 1) ({ frames := 1, cells := 2, slots := 200, locals := 12 }) (va_Pc [.ref h0] (fun U => U.heap.size = sz ∧ va_P D jm_cl [(h0, .inr (1, [.null, .null]))] U.heap ∧ va_K D jm_cl [] U ∧ va_D (fun _ => True) [(h0, .inr (1, [.null, .null]))])) (va_Qv (fun _ : (Nat → Nat) × (Nat → ClassId) => True) (fun u t => va_P D jm_cl (kw_Evens h0 u) t.heap ∧ va_K D jm_cl (kt_Evens u) t ∧ va_D (va_A [(h0, .inr (1, [.null, .null]))] sz) (kw_Evens h0 u)) (va_A [(h0, .inr (1, [.null, .null]))] sz)) 2 200 (va_A [(h0, .inr (1, [.null, .null]))] sz) := by
  refine Met.ofW (cc := kc1) (maxL := 1) (ret := none) (by decide) rfl ?_
  intro p e s m args below meth c s₁ B hml hv
  obtain ⟨rfl, hsz, hP, hK, hD0⟩ := hv
  have hx := B.exec
  have hb := B.bytes
  have hr := B.returns
  have hts : ∀ w ∈ jm_tg, w.before _ s = true := fun w hw => atoms_spec (ws := cWs ky1 kc1 1) B.pre w (List.mem_cons_of_mem _ hw)
  have hown : s.vm.findClass jR1 = some m.cls := findClass_of_methodNamed B.named
  have hlocks := B.notSynchronized
  have hin : meth.name = "<init>" := (name_of_methodNamed B.named B.method).1
  subst hsz
  have hD := hD0.self (sz := s.heap.size)
  generalize hAe : va_A [(h0, .inr (1, [.null, .null]))] s.heap.size = A at hD ⊢
  have hA : ∀ q : Nat, s.heap.size ≤ q → A q := fun q h => by rw [← hAe]; exact Or.inr h
  have hS : va_S A s.heap s.heap [] := va_S.rf
  have hl := lv_entry ([.ref h0]) (n := 1) (Nat.le_of_ble_eq_true rfl)
  rw [lg_entry_eq]
  generalize (lg_sl ([.ref h0]) ++ List.replicate (1 - (lg_sl ([.ref h0])).length) Slot.unset).toArray = ls at hl ⊢
  have hl : lv_has ls 1 [(0, .ref h0)] := hl
  refine lv_aload_n hx hb kd1_0 rfl (lv_at hl 0 rfl) ?_
  refine W.objInit hx hb hown (hts _ kq21) (hts _ kq1) (hts _ kq2) rfl (by rw [hml]; exact hl.1) rfl kd1_1 (Nat.le_of_ble_eq_true rfl) (Nat.le_of_ble_eq_true rfl) ?_
  refine W.eq (g2 := F0 m 4 ls []) rfl ?_
  refine lv_aload_n hx hb kd1_4 rfl (lv_at hl 0 rfl) ?_
  refine lv_bipush (v := 100) hx hb kd1_5 (by decide) ?_
  refine va_newa (atype := .int) (ty := .int) (a0 := (100, .inl (fun _ => 0))) hx hb (hts _ kq3) rfl hK hP hD hS hA (fun _ => rfl) (by decide) (by decide) (by decide) (Nat.le_of_ble_eq_true rfl) (Nat.le_of_ble_eq_true rfl) kd1_7 (fun q1 k2 H hK hP hD hS => ?_)
  have hP : va_P D jm_cl [(h0, .inr (1, [.null, .null])), (q1, .inl (k2, 100, .inl (fun _ => 0)))] H := hP
  have hD : va_D A [(h0, .inr (1, [.null, .null])), (q1, .inl (k2, 100, .inl (fun _ => 0)))] := hD
  have hK : va_K D jm_cl [(k2, .int)] s := hK
  refine W.widen (k := 1) (n := 100) (Nat.le_of_ble_eq_true rfl) (Nat.le_of_ble_eq_true rfl) ?_
  refine va_putF (D := D) (ci := 1) (v := .ref q1) (ty := jY1 0) (C := jR1) (T := jT1) (N := 2) hx hb hts (jm_cli (ci := 1) rfl) jY1 jYo1 jNm1 hown hK hP hD hS 0 rfl rfl 0 (by decide) (hts _ kq22) (fun _ h9 => h9) rfl hin rfl (jYo1 0 (by decide)) rfl rfl (Nat.le_of_ble_eq_true rfl) kd1_9 (fun H locs hP hD hS => ?_)
  have hP : va_P D jm_cl [(h0, .inr (1, [.ref q1, .null])), (q1, .inl (k2, 100, .inl (fun _ => 0)))] H := hP
  have hD : va_D A [(h0, .inr (1, [.ref q1, .null])), (q1, .inl (k2, 100, .inl (fun _ => 0)))] := hD
  refine lv_aload_n hx hb kd1_12 rfl (lv_at hl 0 rfl) ?_
  refine lv_bipush (v := 100) hx hb kd1_13 (by decide) ?_
  refine va_newa (atype := .int) (ty := .int) (a0 := (100, .inl (fun _ => 0))) hx hb (hts _ kq3) rfl hK hP hD hS hA (fun _ => rfl) (by decide) (by decide) (by decide) (Nat.le_of_ble_eq_true rfl) (Nat.le_of_ble_eq_true rfl) kd1_15 (fun q3 k4 H hK hP hD hS => ?_)
  have hP : va_P D jm_cl [(h0, .inr (1, [.ref q1, .null])), (q1, .inl (k2, 100, .inl (fun _ => 0))), (q3, .inl (k4, 100, .inl (fun _ => 0)))] H := hP
  have hD : va_D A [(h0, .inr (1, [.ref q1, .null])), (q1, .inl (k2, 100, .inl (fun _ => 0))), (q3, .inl (k4, 100, .inl (fun _ => 0)))] := hD
  have hK : va_K D jm_cl [(k2, .int), (k4, .int)] s := hK
  refine W.widen (k := 2) (n := 200) (Nat.le_of_ble_eq_true rfl) (Nat.le_of_ble_eq_true rfl) ?_
  refine va_putF (D := D) (ci := 1) (v := .ref q3) (ty := jY1 1) (C := jR1) (T := jT1) (N := 2) hx hb hts (jm_cli (ci := 1) rfl) jY1 jYo1 jNm1 hown hK hP hD hS 0 rfl rfl 1 (by decide) (hts _ kq23) (fun _ h9 => h9) rfl hin rfl (jYo1 1 (by decide)) rfl rfl (Nat.le_of_ble_eq_true rfl) kd1_17 (fun H locs hP hD hS => ?_)
  have hP : va_P D jm_cl [(h0, .inr (1, [.ref q1, .ref q3])), (q1, .inl (k2, 100, .inl (fun _ => 0))), (q3, .inl (k4, 100, .inl (fun _ => 0)))] H := hP
  have hD : va_D A [(h0, .inr (1, [.ref q1, .ref q3])), (q1, .inl (k2, 100, .inl (fun _ => 0))), (q3, .inl (k4, 100, .inl (fun _ => 0)))] := hD
  refine W.widen (k := 2) (n := 200) (Nat.le_of_ble_eq_true rfl) (Nat.le_of_ble_eq_true rfl) ?_
  exact W.vret hx hb hr (fun t ht hW => ⟨⟨((fun i => if i = 0 then q1 else if i = 1 then q3 else 0), (fun i => if i = 0 then k2 else if i = 1 then k4 else k2)), rfl, trivial, by rw [ht]; exact hP, va_K.moved hW.alike hK, hD⟩, hS.F ht⟩) hS.2.2 kd1_20
def kw_Grains (h0 : Nat) (u : (Nat → Nat) × (Nat → ClassId)) : va_W := [(h0, .inr (2, [.ref (u.1 0), .ref (u.1 1), .int 0])), ((u.1 0), .inl ((u.2 0), 12, .inl (fun _ => 0))), ((u.1 1), .inl ((u.2 1), 48, .inl (fun _ => 0)))]
def kt_Grains (u : (Nat → Nat) × (Nat → ClassId)) : List (ClassId × FieldType) := [(u.2 0, .int), (u.2 1, .int)]
set_option maxHeartbeats 4000000 in
set_option maxRecDepth 100000 in
theorem k_Grains (l : Launch) (D : va_G) (h0 sz : Nat) : Met l ky2 (cWs ky2 kc2 1) ({ frames := 1, cells := 2, slots := 60, locals := 12 }) (va_Pc [.ref h0] (fun U => U.heap.size = sz ∧ va_P D jm_cl [(h0, .inr (2, [.null, .null, .int 0]))] U.heap ∧ va_K D jm_cl [] U ∧ va_D (fun _ => True) [(h0, .inr (2, [.null, .null, .int 0]))])) (va_Qv (fun _ : (Nat → Nat) × (Nat → ClassId) => True) (fun u t => va_P D jm_cl (kw_Grains h0 u) t.heap ∧ va_K D jm_cl (kt_Grains u) t ∧ va_D (va_A [(h0, .inr (2, [.null, .null, .int 0]))] sz) (kw_Grains h0 u)) (va_A [(h0, .inr (2, [.null, .null, .int 0]))] sz)) 2 60 (va_A [(h0, .inr (2, [.null, .null, .int 0]))] sz) := by
  refine Met.ofW (cc := kc2) (maxL := 1) (ret := none) (by decide) rfl ?_
  intro p e s m args below meth c s₁ B hml hv
  obtain ⟨rfl, hsz, hP, hK, hD0⟩ := hv
  have hx := B.exec
  have hb := B.bytes
  have hr := B.returns
  have hts : ∀ w ∈ jm_tg, w.before _ s = true := fun w hw => atoms_spec (ws := cWs ky2 kc2 1) B.pre w (List.mem_cons_of_mem _ hw)
  have hown : s.vm.findClass jR2 = some m.cls := findClass_of_methodNamed B.named
  have hlocks := B.notSynchronized
  have hin : meth.name = "<init>" := (name_of_methodNamed B.named B.method).1
  subst hsz
  have hD := hD0.self (sz := s.heap.size)
  generalize hAe : va_A [(h0, .inr (2, [.null, .null, .int 0]))] s.heap.size = A at hD ⊢
  have hA : ∀ q : Nat, s.heap.size ≤ q → A q := fun q h => by rw [← hAe]; exact Or.inr h
  have hS : va_S A s.heap s.heap [] := va_S.rf
  have hl := lv_entry ([.ref h0]) (n := 1) (Nat.le_of_ble_eq_true rfl)
  rw [lg_entry_eq]
  generalize (lg_sl ([.ref h0]) ++ List.replicate (1 - (lg_sl ([.ref h0])).length) Slot.unset).toArray = ls at hl ⊢
  have hl : lv_has ls 1 [(0, .ref h0)] := hl
  refine lv_aload_n hx hb kd2_0 rfl (lv_at hl 0 rfl) ?_
  refine W.objInit hx hb hown (hts _ kq24) (hts _ kq1) (hts _ kq2) rfl (by rw [hml]; exact hl.1) rfl kd2_1 (Nat.le_of_ble_eq_true rfl) (Nat.le_of_ble_eq_true rfl) ?_
  refine W.eq (g2 := F0 m 4 ls []) rfl ?_
  refine lv_aload_n hx hb kd2_4 rfl (lv_at hl 0 rfl) ?_
  refine lv_bipush (v := 12) hx hb kd2_5 (by decide) ?_
  refine va_newa (atype := .int) (ty := .int) (a0 := (12, .inl (fun _ => 0))) hx hb (hts _ kq3) rfl hK hP hD hS hA (fun _ => rfl) (by decide) (by decide) (by decide) (Nat.le_of_ble_eq_true rfl) (Nat.le_of_ble_eq_true rfl) kd2_7 (fun q1 k2 H hK hP hD hS => ?_)
  have hP : va_P D jm_cl [(h0, .inr (2, [.null, .null, .int 0])), (q1, .inl (k2, 12, .inl (fun _ => 0)))] H := hP
  have hD : va_D A [(h0, .inr (2, [.null, .null, .int 0])), (q1, .inl (k2, 12, .inl (fun _ => 0)))] := hD
  have hK : va_K D jm_cl [(k2, .int)] s := hK
  refine W.widen (k := 1) (n := 12) (Nat.le_of_ble_eq_true rfl) (Nat.le_of_ble_eq_true rfl) ?_
  refine va_putF (D := D) (ci := 2) (v := .ref q1) (ty := jY2 0) (C := jR2) (T := jT2) (N := 3) hx hb hts (jm_cli (ci := 2) rfl) jY2 jYo2 jNm2 hown hK hP hD hS 0 rfl rfl 0 (by decide) (hts _ kq25) (fun _ h9 => h9) rfl hin rfl (jYo2 0 (by decide)) rfl rfl (Nat.le_of_ble_eq_true rfl) kd2_9 (fun H locs hP hD hS => ?_)
  have hP : va_P D jm_cl [(h0, .inr (2, [.ref q1, .null, .int 0])), (q1, .inl (k2, 12, .inl (fun _ => 0)))] H := hP
  have hD : va_D A [(h0, .inr (2, [.ref q1, .null, .int 0])), (q1, .inl (k2, 12, .inl (fun _ => 0)))] := hD
  refine lv_aload_n hx hb kd2_12 rfl (lv_at hl 0 rfl) ?_
  refine lv_bipush (v := 48) hx hb kd2_13 (by decide) ?_
  refine va_newa (atype := .int) (ty := .int) (a0 := (48, .inl (fun _ => 0))) hx hb (hts _ kq3) rfl hK hP hD hS hA (fun _ => rfl) (by decide) (by decide) (by decide) (Nat.le_of_ble_eq_true rfl) (Nat.le_of_ble_eq_true rfl) kd2_15 (fun q3 k4 H hK hP hD hS => ?_)
  have hP : va_P D jm_cl [(h0, .inr (2, [.ref q1, .null, .int 0])), (q1, .inl (k2, 12, .inl (fun _ => 0))), (q3, .inl (k4, 48, .inl (fun _ => 0)))] H := hP
  have hD : va_D A [(h0, .inr (2, [.ref q1, .null, .int 0])), (q1, .inl (k2, 12, .inl (fun _ => 0))), (q3, .inl (k4, 48, .inl (fun _ => 0)))] := hD
  have hK : va_K D jm_cl [(k2, .int), (k4, .int)] s := hK
  refine W.widen (k := 2) (n := 60) (Nat.le_of_ble_eq_true rfl) (Nat.le_of_ble_eq_true rfl) ?_
  refine va_putF (D := D) (ci := 2) (v := .ref q3) (ty := jY2 1) (C := jR2) (T := jT2) (N := 3) hx hb hts (jm_cli (ci := 2) rfl) jY2 jYo2 jNm2 hown hK hP hD hS 0 rfl rfl 1 (by decide) (hts _ kq26) (fun _ h9 => h9) rfl hin rfl (jYo2 1 (by decide)) rfl rfl (Nat.le_of_ble_eq_true rfl) kd2_17 (fun H locs hP hD hS => ?_)
  have hP : va_P D jm_cl [(h0, .inr (2, [.ref q1, .ref q3, .int 0])), (q1, .inl (k2, 12, .inl (fun _ => 0))), (q3, .inl (k4, 48, .inl (fun _ => 0)))] H := hP
  have hD : va_D A [(h0, .inr (2, [.ref q1, .ref q3, .int 0])), (q1, .inl (k2, 12, .inl (fun _ => 0))), (q3, .inl (k4, 48, .inl (fun _ => 0)))] := hD
  refine lv_aload_n hx hb kd2_20 rfl (lv_at hl 0 rfl) ?_
  refine lv_iconst (v := 0) hx hb kd2_21 (by decide) ?_
  refine va_put (D := D) (ci := 2) (v := .int 0) (ty := jY2 2) (C := jR2) (T := jT2) (N := 3) hx hb hts (jm_cli (ci := 2) rfl) jY2 jYo2 jNm2 hown hK hP hD hS 0 rfl rfl 2 (by decide) (hts _ kq27) (fun _ h9 => h9) rfl (jYo2 2 (by decide)) rfl rfl (Nat.le_of_ble_eq_true rfl) kd2_22 (fun H locs hP hD hS => ?_)
  have hP : va_P D jm_cl [(h0, .inr (2, [.ref q1, .ref q3, .int 0])), (q1, .inl (k2, 12, .inl (fun _ => 0))), (q3, .inl (k4, 48, .inl (fun _ => 0)))] H := hP
  have hD : va_D A [(h0, .inr (2, [.ref q1, .ref q3, .int 0])), (q1, .inl (k2, 12, .inl (fun _ => 0))), (q3, .inl (k4, 48, .inl (fun _ => 0)))] := hD
  refine W.widen (k := 2) (n := 60) (Nat.le_of_ble_eq_true rfl) (Nat.le_of_ble_eq_true rfl) ?_
  exact W.vret hx hb hr (fun t ht hW => ⟨⟨((fun i => if i = 0 then q1 else if i = 1 then q3 else 0), (fun i => if i = 0 then k2 else if i = 1 then k4 else k2)), rfl, trivial, by rw [ht]; exact hP, va_K.moved hW.alike hK, hD⟩, hS.F ht⟩) hS.2.2 kd2_25
def kw_Hearing (h0 : Nat) (u : (Nat → Nat) × (Nat → ClassId)) : va_W := [(h0, .inr (3, [.ref (u.1 0), .ref (u.1 1), .int 0, .int (-1), .int (-1), .int 0, .int (-1), .int 0])), ((u.1 0), .inl ((u.2 0), 12, .inl (fun _ => 0))), ((u.1 1), .inl ((u.2 1), 12, .inl (fun _ => 0)))]
def kt_Hearing (u : (Nat → Nat) × (Nat → ClassId)) : List (ClassId × FieldType) := [(u.2 0, .int), (u.2 1, .int)]
set_option maxHeartbeats 4000000 in
set_option maxRecDepth 100000 in
theorem k_Hearing (l : Launch) (D : va_G) (h0 sz : Nat) : Met l ky3 (cWs ky3 kc3 1) ({ frames := 1, cells := 2, slots := 24, locals := 12 }) (va_Pc [.ref h0] (fun U => U.heap.size = sz ∧ va_P D jm_cl [(h0, .inr (3, [.null, .null, .int 0, .int 0, .int 0, .int 0, .int 0, .int 0]))] U.heap ∧ va_K D jm_cl [] U ∧ va_D (fun _ => True) [(h0, .inr (3, [.null, .null, .int 0, .int 0, .int 0, .int 0, .int 0, .int 0]))])) (va_Qv (fun _ : (Nat → Nat) × (Nat → ClassId) => True) (fun u t => va_P D jm_cl (kw_Hearing h0 u) t.heap ∧ va_K D jm_cl (kt_Hearing u) t ∧ va_D (va_A [(h0, .inr (3, [.null, .null, .int 0, .int 0, .int 0, .int 0, .int 0, .int 0]))] sz) (kw_Hearing h0 u)) (va_A [(h0, .inr (3, [.null, .null, .int 0, .int 0, .int 0, .int 0, .int 0, .int 0]))] sz)) 2 24 (va_A [(h0, .inr (3, [.null, .null, .int 0, .int 0, .int 0, .int 0, .int 0, .int 0]))] sz) := by
  refine Met.ofW (cc := kc3) (maxL := 1) (ret := none) (by decide) rfl ?_
  intro p e s m args below meth c s₁ B hml hv
  obtain ⟨rfl, hsz, hP, hK, hD0⟩ := hv
  have hx := B.exec
  have hb := B.bytes
  have hr := B.returns
  have hts : ∀ w ∈ jm_tg, w.before _ s = true := fun w hw => atoms_spec (ws := cWs ky3 kc3 1) B.pre w (List.mem_cons_of_mem _ hw)
  have hown : s.vm.findClass jR3 = some m.cls := findClass_of_methodNamed B.named
  have hlocks := B.notSynchronized
  have hin : meth.name = "<init>" := (name_of_methodNamed B.named B.method).1
  subst hsz
  have hD := hD0.self (sz := s.heap.size)
  generalize hAe : va_A [(h0, .inr (3, [.null, .null, .int 0, .int 0, .int 0, .int 0, .int 0, .int 0]))] s.heap.size = A at hD ⊢
  have hA : ∀ q : Nat, s.heap.size ≤ q → A q := fun q h => by rw [← hAe]; exact Or.inr h
  have hS : va_S A s.heap s.heap [] := va_S.rf
  have hl := lv_entry ([.ref h0]) (n := 1) (Nat.le_of_ble_eq_true rfl)
  rw [lg_entry_eq]
  generalize (lg_sl ([.ref h0]) ++ List.replicate (1 - (lg_sl ([.ref h0])).length) Slot.unset).toArray = ls at hl ⊢
  have hl : lv_has ls 1 [(0, .ref h0)] := hl
  refine lv_aload_n hx hb kd3_0 rfl (lv_at hl 0 rfl) ?_
  refine W.objInit hx hb hown (hts _ kq28) (hts _ kq1) (hts _ kq2) rfl (by rw [hml]; exact hl.1) rfl kd3_1 (Nat.le_of_ble_eq_true rfl) (Nat.le_of_ble_eq_true rfl) ?_
  refine W.eq (g2 := F0 m 4 ls []) rfl ?_
  refine lv_aload_n hx hb kd3_4 rfl (lv_at hl 0 rfl) ?_
  refine lv_bipush (v := 12) hx hb kd3_5 (by decide) ?_
  refine va_newa (atype := .int) (ty := .int) (a0 := (12, .inl (fun _ => 0))) hx hb (hts _ kq3) rfl hK hP hD hS hA (fun _ => rfl) (by decide) (by decide) (by decide) (Nat.le_of_ble_eq_true rfl) (Nat.le_of_ble_eq_true rfl) kd3_7 (fun q1 k2 H hK hP hD hS => ?_)
  have hP : va_P D jm_cl [(h0, .inr (3, [.null, .null, .int 0, .int 0, .int 0, .int 0, .int 0, .int 0])), (q1, .inl (k2, 12, .inl (fun _ => 0)))] H := hP
  have hD : va_D A [(h0, .inr (3, [.null, .null, .int 0, .int 0, .int 0, .int 0, .int 0, .int 0])), (q1, .inl (k2, 12, .inl (fun _ => 0)))] := hD
  have hK : va_K D jm_cl [(k2, .int)] s := hK
  refine W.widen (k := 1) (n := 12) (Nat.le_of_ble_eq_true rfl) (Nat.le_of_ble_eq_true rfl) ?_
  refine va_putF (D := D) (ci := 3) (v := .ref q1) (ty := jY3 0) (C := jR3) (T := jT3) (N := 8) hx hb hts (jm_cli (ci := 3) rfl) jY3 jYo3 jNm3 hown hK hP hD hS 0 rfl rfl 0 (by decide) (hts _ kq29) (fun _ h9 => h9) rfl hin rfl (jYo3 0 (by decide)) rfl rfl (Nat.le_of_ble_eq_true rfl) kd3_9 (fun H locs hP hD hS => ?_)
  have hP : va_P D jm_cl [(h0, .inr (3, [.ref q1, .null, .int 0, .int 0, .int 0, .int 0, .int 0, .int 0])), (q1, .inl (k2, 12, .inl (fun _ => 0)))] H := hP
  have hD : va_D A [(h0, .inr (3, [.ref q1, .null, .int 0, .int 0, .int 0, .int 0, .int 0, .int 0])), (q1, .inl (k2, 12, .inl (fun _ => 0)))] := hD
  refine lv_aload_n hx hb kd3_12 rfl (lv_at hl 0 rfl) ?_
  refine lv_bipush (v := 12) hx hb kd3_13 (by decide) ?_
  refine va_newa (atype := .int) (ty := .int) (a0 := (12, .inl (fun _ => 0))) hx hb (hts _ kq3) rfl hK hP hD hS hA (fun _ => rfl) (by decide) (by decide) (by decide) (Nat.le_of_ble_eq_true rfl) (Nat.le_of_ble_eq_true rfl) kd3_15 (fun q3 k4 H hK hP hD hS => ?_)
  have hP : va_P D jm_cl [(h0, .inr (3, [.ref q1, .null, .int 0, .int 0, .int 0, .int 0, .int 0, .int 0])), (q1, .inl (k2, 12, .inl (fun _ => 0))), (q3, .inl (k4, 12, .inl (fun _ => 0)))] H := hP
  have hD : va_D A [(h0, .inr (3, [.ref q1, .null, .int 0, .int 0, .int 0, .int 0, .int 0, .int 0])), (q1, .inl (k2, 12, .inl (fun _ => 0))), (q3, .inl (k4, 12, .inl (fun _ => 0)))] := hD
  have hK : va_K D jm_cl [(k2, .int), (k4, .int)] s := hK
  refine W.widen (k := 2) (n := 24) (Nat.le_of_ble_eq_true rfl) (Nat.le_of_ble_eq_true rfl) ?_
  refine va_putF (D := D) (ci := 3) (v := .ref q3) (ty := jY3 1) (C := jR3) (T := jT3) (N := 8) hx hb hts (jm_cli (ci := 3) rfl) jY3 jYo3 jNm3 hown hK hP hD hS 0 rfl rfl 1 (by decide) (hts _ kq30) (fun _ h9 => h9) rfl hin rfl (jYo3 1 (by decide)) rfl rfl (Nat.le_of_ble_eq_true rfl) kd3_17 (fun H locs hP hD hS => ?_)
  have hP : va_P D jm_cl [(h0, .inr (3, [.ref q1, .ref q3, .int 0, .int 0, .int 0, .int 0, .int 0, .int 0])), (q1, .inl (k2, 12, .inl (fun _ => 0))), (q3, .inl (k4, 12, .inl (fun _ => 0)))] H := hP
  have hD : va_D A [(h0, .inr (3, [.ref q1, .ref q3, .int 0, .int 0, .int 0, .int 0, .int 0, .int 0])), (q1, .inl (k2, 12, .inl (fun _ => 0))), (q3, .inl (k4, 12, .inl (fun _ => 0)))] := hD
  refine lv_aload_n hx hb kd3_20 rfl (lv_at hl 0 rfl) ?_
  refine lv_iconst (v := 0) hx hb kd3_21 (by decide) ?_
  refine va_put (D := D) (ci := 3) (v := .int 0) (ty := jY3 2) (C := jR3) (T := jT3) (N := 8) hx hb hts (jm_cli (ci := 3) rfl) jY3 jYo3 jNm3 hown hK hP hD hS 0 rfl rfl 2 (by decide) (hts _ kq31) (fun _ h9 => h9) rfl (jYo3 2 (by decide)) rfl rfl (Nat.le_of_ble_eq_true rfl) kd3_22 (fun H locs hP hD hS => ?_)
  have hP : va_P D jm_cl [(h0, .inr (3, [.ref q1, .ref q3, .int 0, .int 0, .int 0, .int 0, .int 0, .int 0])), (q1, .inl (k2, 12, .inl (fun _ => 0))), (q3, .inl (k4, 12, .inl (fun _ => 0)))] H := hP
  have hD : va_D A [(h0, .inr (3, [.ref q1, .ref q3, .int 0, .int 0, .int 0, .int 0, .int 0, .int 0])), (q1, .inl (k2, 12, .inl (fun _ => 0))), (q3, .inl (k4, 12, .inl (fun _ => 0)))] := hD
  refine lv_aload_n hx hb kd3_25 rfl (lv_at hl 0 rfl) ?_
  refine lv_iconst (v := (-1)) hx hb kd3_26 (by decide) ?_
  refine va_put (D := D) (ci := 3) (v := .int (-1)) (ty := jY3 3) (C := jR3) (T := jT3) (N := 8) hx hb hts (jm_cli (ci := 3) rfl) jY3 jYo3 jNm3 hown hK hP hD hS 0 rfl rfl 3 (by decide) (hts _ kq32) (fun _ h9 => h9) rfl (jYo3 3 (by decide)) rfl rfl (Nat.le_of_ble_eq_true rfl) kd3_27 (fun H locs hP hD hS => ?_)
  have hP : va_P D jm_cl [(h0, .inr (3, [.ref q1, .ref q3, .int 0, .int (-1), .int 0, .int 0, .int 0, .int 0])), (q1, .inl (k2, 12, .inl (fun _ => 0))), (q3, .inl (k4, 12, .inl (fun _ => 0)))] H := hP
  have hD : va_D A [(h0, .inr (3, [.ref q1, .ref q3, .int 0, .int (-1), .int 0, .int 0, .int 0, .int 0])), (q1, .inl (k2, 12, .inl (fun _ => 0))), (q3, .inl (k4, 12, .inl (fun _ => 0)))] := hD
  refine lv_aload_n hx hb kd3_30 rfl (lv_at hl 0 rfl) ?_
  refine lv_iconst (v := (-1)) hx hb kd3_31 (by decide) ?_
  refine va_put (D := D) (ci := 3) (v := .int (-1)) (ty := jY3 4) (C := jR3) (T := jT3) (N := 8) hx hb hts (jm_cli (ci := 3) rfl) jY3 jYo3 jNm3 hown hK hP hD hS 0 rfl rfl 4 (by decide) (hts _ kq33) (fun _ h9 => h9) rfl (jYo3 4 (by decide)) rfl rfl (Nat.le_of_ble_eq_true rfl) kd3_32 (fun H locs hP hD hS => ?_)
  have hP : va_P D jm_cl [(h0, .inr (3, [.ref q1, .ref q3, .int 0, .int (-1), .int (-1), .int 0, .int 0, .int 0])), (q1, .inl (k2, 12, .inl (fun _ => 0))), (q3, .inl (k4, 12, .inl (fun _ => 0)))] H := hP
  have hD : va_D A [(h0, .inr (3, [.ref q1, .ref q3, .int 0, .int (-1), .int (-1), .int 0, .int 0, .int 0])), (q1, .inl (k2, 12, .inl (fun _ => 0))), (q3, .inl (k4, 12, .inl (fun _ => 0)))] := hD
  refine lv_aload_n hx hb kd3_35 rfl (lv_at hl 0 rfl) ?_
  refine lv_iconst (v := 0) hx hb kd3_36 (by decide) ?_
  refine va_put (D := D) (ci := 3) (v := .int 0) (ty := jY3 5) (C := jR3) (T := jT3) (N := 8) hx hb hts (jm_cli (ci := 3) rfl) jY3 jYo3 jNm3 hown hK hP hD hS 0 rfl rfl 5 (by decide) (hts _ kq34) (fun _ h9 => h9) rfl (jYo3 5 (by decide)) rfl rfl (Nat.le_of_ble_eq_true rfl) kd3_37 (fun H locs hP hD hS => ?_)
  have hP : va_P D jm_cl [(h0, .inr (3, [.ref q1, .ref q3, .int 0, .int (-1), .int (-1), .int 0, .int 0, .int 0])), (q1, .inl (k2, 12, .inl (fun _ => 0))), (q3, .inl (k4, 12, .inl (fun _ => 0)))] H := hP
  have hD : va_D A [(h0, .inr (3, [.ref q1, .ref q3, .int 0, .int (-1), .int (-1), .int 0, .int 0, .int 0])), (q1, .inl (k2, 12, .inl (fun _ => 0))), (q3, .inl (k4, 12, .inl (fun _ => 0)))] := hD
  refine lv_aload_n hx hb kd3_40 rfl (lv_at hl 0 rfl) ?_
  refine lv_iconst (v := (-1)) hx hb kd3_41 (by decide) ?_
  refine va_put (D := D) (ci := 3) (v := .int (-1)) (ty := jY3 6) (C := jR3) (T := jT3) (N := 8) hx hb hts (jm_cli (ci := 3) rfl) jY3 jYo3 jNm3 hown hK hP hD hS 0 rfl rfl 6 (by decide) (hts _ kq35) (fun _ h9 => h9) rfl (jYo3 6 (by decide)) rfl rfl (Nat.le_of_ble_eq_true rfl) kd3_42 (fun H locs hP hD hS => ?_)
  have hP : va_P D jm_cl [(h0, .inr (3, [.ref q1, .ref q3, .int 0, .int (-1), .int (-1), .int 0, .int (-1), .int 0])), (q1, .inl (k2, 12, .inl (fun _ => 0))), (q3, .inl (k4, 12, .inl (fun _ => 0)))] H := hP
  have hD : va_D A [(h0, .inr (3, [.ref q1, .ref q3, .int 0, .int (-1), .int (-1), .int 0, .int (-1), .int 0])), (q1, .inl (k2, 12, .inl (fun _ => 0))), (q3, .inl (k4, 12, .inl (fun _ => 0)))] := hD
  refine lv_aload_n hx hb kd3_45 rfl (lv_at hl 0 rfl) ?_
  refine lv_iconst (v := 0) hx hb kd3_46 (by decide) ?_
  refine va_put (D := D) (ci := 3) (v := .int 0) (ty := jY3 7) (C := jR3) (T := jT3) (N := 8) hx hb hts (jm_cli (ci := 3) rfl) jY3 jYo3 jNm3 hown hK hP hD hS 0 rfl rfl 7 (by decide) (hts _ kq36) (fun _ h9 => h9) rfl (jYo3 7 (by decide)) rfl rfl (Nat.le_of_ble_eq_true rfl) kd3_47 (fun H locs hP hD hS => ?_)
  have hP : va_P D jm_cl [(h0, .inr (3, [.ref q1, .ref q3, .int 0, .int (-1), .int (-1), .int 0, .int (-1), .int 0])), (q1, .inl (k2, 12, .inl (fun _ => 0))), (q3, .inl (k4, 12, .inl (fun _ => 0)))] H := hP
  have hD : va_D A [(h0, .inr (3, [.ref q1, .ref q3, .int 0, .int (-1), .int (-1), .int 0, .int (-1), .int 0])), (q1, .inl (k2, 12, .inl (fun _ => 0))), (q3, .inl (k4, 12, .inl (fun _ => 0)))] := hD
  refine W.widen (k := 2) (n := 24) (Nat.le_of_ble_eq_true rfl) (Nat.le_of_ble_eq_true rfl) ?_
  exact W.vret hx hb hr (fun t ht hW => ⟨⟨((fun i => if i = 0 then q1 else if i = 1 then q3 else 0), (fun i => if i = 0 then k2 else if i = 1 then k4 else k2)), rfl, trivial, by rw [ht]; exact hP, va_K.moved hW.alike hK, hD⟩, hS.F ht⟩) hS.2.2 kd3_50
def kw_Heating (h0 : Nat) (u : (Nat → Nat) × (Nat → ClassId)) : va_W := [(h0, .inr (4, [.ref (u.1 0), .ref (u.1 1), .ref (u.1 2), .int 0])), ((u.1 0), .inl ((u.2 0), 200, .inl (fun _ => 0))), ((u.1 1), .inl ((u.2 1), 200, .inl (fun _ => 0))), ((u.1 2), .inl ((u.2 2), 200, .inl (fun _ => 0)))]
def kt_Heating (u : (Nat → Nat) × (Nat → ClassId)) : List (ClassId × FieldType) := [(u.2 0, .int), (u.2 1, .int), (u.2 2, .boolean)]
set_option maxHeartbeats 4000000 in
set_option maxRecDepth 100000 in
theorem k_Heating (l : Launch) (D : va_G) (h0 sz : Nat) : Met l ky4 (cWs ky4 kc4 1) ({ frames := 1, cells := 3, slots := 600, locals := 12 }) (va_Pc [.ref h0] (fun U => U.heap.size = sz ∧ va_P D jm_cl [(h0, .inr (4, [.null, .null, .null, .int 0]))] U.heap ∧ va_K D jm_cl [] U ∧ va_D (fun _ => True) [(h0, .inr (4, [.null, .null, .null, .int 0]))])) (va_Qv (fun _ : (Nat → Nat) × (Nat → ClassId) => True) (fun u t => va_P D jm_cl (kw_Heating h0 u) t.heap ∧ va_K D jm_cl (kt_Heating u) t ∧ va_D (va_A [(h0, .inr (4, [.null, .null, .null, .int 0]))] sz) (kw_Heating h0 u)) (va_A [(h0, .inr (4, [.null, .null, .null, .int 0]))] sz)) 3 600 (va_A [(h0, .inr (4, [.null, .null, .null, .int 0]))] sz) := by
  refine Met.ofW (cc := kc4) (maxL := 1) (ret := none) (by decide) rfl ?_
  intro p e s m args below meth c s₁ B hml hv
  obtain ⟨rfl, hsz, hP, hK, hD0⟩ := hv
  have hx := B.exec
  have hb := B.bytes
  have hr := B.returns
  have hts : ∀ w ∈ jm_tg, w.before _ s = true := fun w hw => atoms_spec (ws := cWs ky4 kc4 1) B.pre w (List.mem_cons_of_mem _ hw)
  have hown : s.vm.findClass jR4 = some m.cls := findClass_of_methodNamed B.named
  have hlocks := B.notSynchronized
  have hin : meth.name = "<init>" := (name_of_methodNamed B.named B.method).1
  subst hsz
  have hD := hD0.self (sz := s.heap.size)
  generalize hAe : va_A [(h0, .inr (4, [.null, .null, .null, .int 0]))] s.heap.size = A at hD ⊢
  have hA : ∀ q : Nat, s.heap.size ≤ q → A q := fun q h => by rw [← hAe]; exact Or.inr h
  have hS : va_S A s.heap s.heap [] := va_S.rf
  have hl := lv_entry ([.ref h0]) (n := 1) (Nat.le_of_ble_eq_true rfl)
  rw [lg_entry_eq]
  generalize (lg_sl ([.ref h0]) ++ List.replicate (1 - (lg_sl ([.ref h0])).length) Slot.unset).toArray = ls at hl ⊢
  have hl : lv_has ls 1 [(0, .ref h0)] := hl
  refine lv_aload_n hx hb kd4_0 rfl (lv_at hl 0 rfl) ?_
  refine W.objInit hx hb hown (hts _ kq37) (hts _ kq1) (hts _ kq2) rfl (by rw [hml]; exact hl.1) rfl kd4_1 (Nat.le_of_ble_eq_true rfl) (Nat.le_of_ble_eq_true rfl) ?_
  refine W.eq (g2 := F0 m 4 ls []) rfl ?_
  refine lv_aload_n hx hb kd4_4 rfl (lv_at hl 0 rfl) ?_
  refine lv_sipush (v := 200) hx hb kd4_5 (by decide) ?_
  refine va_newa (atype := .int) (ty := .int) (a0 := (200, .inl (fun _ => 0))) hx hb (hts _ kq3) rfl hK hP hD hS hA (fun _ => rfl) (by decide) (by decide) (by decide) (Nat.le_of_ble_eq_true rfl) (Nat.le_of_ble_eq_true rfl) kd4_8 (fun q1 k2 H hK hP hD hS => ?_)
  have hP : va_P D jm_cl [(h0, .inr (4, [.null, .null, .null, .int 0])), (q1, .inl (k2, 200, .inl (fun _ => 0)))] H := hP
  have hD : va_D A [(h0, .inr (4, [.null, .null, .null, .int 0])), (q1, .inl (k2, 200, .inl (fun _ => 0)))] := hD
  have hK : va_K D jm_cl [(k2, .int)] s := hK
  refine W.widen (k := 1) (n := 200) (Nat.le_of_ble_eq_true rfl) (Nat.le_of_ble_eq_true rfl) ?_
  refine va_putF (D := D) (ci := 4) (v := .ref q1) (ty := jY4 0) (C := jR4) (T := jT4) (N := 4) hx hb hts (jm_cli (ci := 4) rfl) jY4 jYo4 jNm4 hown hK hP hD hS 0 rfl rfl 0 (by decide) (hts _ kq38) (fun _ h9 => h9) rfl hin rfl (jYo4 0 (by decide)) rfl rfl (Nat.le_of_ble_eq_true rfl) kd4_10 (fun H locs hP hD hS => ?_)
  have hP : va_P D jm_cl [(h0, .inr (4, [.ref q1, .null, .null, .int 0])), (q1, .inl (k2, 200, .inl (fun _ => 0)))] H := hP
  have hD : va_D A [(h0, .inr (4, [.ref q1, .null, .null, .int 0])), (q1, .inl (k2, 200, .inl (fun _ => 0)))] := hD
  refine lv_aload_n hx hb kd4_13 rfl (lv_at hl 0 rfl) ?_
  refine lv_sipush (v := 200) hx hb kd4_14 (by decide) ?_
  refine va_newa (atype := .int) (ty := .int) (a0 := (200, .inl (fun _ => 0))) hx hb (hts _ kq3) rfl hK hP hD hS hA (fun _ => rfl) (by decide) (by decide) (by decide) (Nat.le_of_ble_eq_true rfl) (Nat.le_of_ble_eq_true rfl) kd4_17 (fun q3 k4 H hK hP hD hS => ?_)
  have hP : va_P D jm_cl [(h0, .inr (4, [.ref q1, .null, .null, .int 0])), (q1, .inl (k2, 200, .inl (fun _ => 0))), (q3, .inl (k4, 200, .inl (fun _ => 0)))] H := hP
  have hD : va_D A [(h0, .inr (4, [.ref q1, .null, .null, .int 0])), (q1, .inl (k2, 200, .inl (fun _ => 0))), (q3, .inl (k4, 200, .inl (fun _ => 0)))] := hD
  have hK : va_K D jm_cl [(k2, .int), (k4, .int)] s := hK
  refine W.widen (k := 2) (n := 400) (Nat.le_of_ble_eq_true rfl) (Nat.le_of_ble_eq_true rfl) ?_
  refine va_putF (D := D) (ci := 4) (v := .ref q3) (ty := jY4 1) (C := jR4) (T := jT4) (N := 4) hx hb hts (jm_cli (ci := 4) rfl) jY4 jYo4 jNm4 hown hK hP hD hS 0 rfl rfl 1 (by decide) (hts _ kq39) (fun _ h9 => h9) rfl hin rfl (jYo4 1 (by decide)) rfl rfl (Nat.le_of_ble_eq_true rfl) kd4_19 (fun H locs hP hD hS => ?_)
  have hP : va_P D jm_cl [(h0, .inr (4, [.ref q1, .ref q3, .null, .int 0])), (q1, .inl (k2, 200, .inl (fun _ => 0))), (q3, .inl (k4, 200, .inl (fun _ => 0)))] H := hP
  have hD : va_D A [(h0, .inr (4, [.ref q1, .ref q3, .null, .int 0])), (q1, .inl (k2, 200, .inl (fun _ => 0))), (q3, .inl (k4, 200, .inl (fun _ => 0)))] := hD
  refine lv_aload_n hx hb kd4_22 rfl (lv_at hl 0 rfl) ?_
  refine lv_sipush (v := 200) hx hb kd4_23 (by decide) ?_
  refine va_newa (atype := .boolean) (ty := .boolean) (a0 := (200, .inl (fun _ => 0))) hx hb (hts _ kq40) rfl hK hP hD hS hA (fun _ => rfl) (by decide) (by decide) (by decide) (Nat.le_of_ble_eq_true rfl) (Nat.le_of_ble_eq_true rfl) kd4_26 (fun q5 k6 H hK hP hD hS => ?_)
  have hP : va_P D jm_cl [(h0, .inr (4, [.ref q1, .ref q3, .null, .int 0])), (q1, .inl (k2, 200, .inl (fun _ => 0))), (q3, .inl (k4, 200, .inl (fun _ => 0))), (q5, .inl (k6, 200, .inl (fun _ => 0)))] H := hP
  have hD : va_D A [(h0, .inr (4, [.ref q1, .ref q3, .null, .int 0])), (q1, .inl (k2, 200, .inl (fun _ => 0))), (q3, .inl (k4, 200, .inl (fun _ => 0))), (q5, .inl (k6, 200, .inl (fun _ => 0)))] := hD
  have hK : va_K D jm_cl [(k2, .int), (k4, .int), (k6, .boolean)] s := hK
  refine W.widen (k := 3) (n := 600) (Nat.le_of_ble_eq_true rfl) (Nat.le_of_ble_eq_true rfl) ?_
  refine va_putF (D := D) (ci := 4) (v := .ref q5) (ty := jY4 2) (C := jR4) (T := jT4) (N := 4) hx hb hts (jm_cli (ci := 4) rfl) jY4 jYo4 jNm4 hown hK hP hD hS 0 rfl rfl 2 (by decide) (hts _ kq41) (fun _ h9 => h9) rfl hin rfl (jYo4 2 (by decide)) rfl rfl (Nat.le_of_ble_eq_true rfl) kd4_28 (fun H locs hP hD hS => ?_)
  have hP : va_P D jm_cl [(h0, .inr (4, [.ref q1, .ref q3, .ref q5, .int 0])), (q1, .inl (k2, 200, .inl (fun _ => 0))), (q3, .inl (k4, 200, .inl (fun _ => 0))), (q5, .inl (k6, 200, .inl (fun _ => 0)))] H := hP
  have hD : va_D A [(h0, .inr (4, [.ref q1, .ref q3, .ref q5, .int 0])), (q1, .inl (k2, 200, .inl (fun _ => 0))), (q3, .inl (k4, 200, .inl (fun _ => 0))), (q5, .inl (k6, 200, .inl (fun _ => 0)))] := hD
  refine lv_aload_n hx hb kd4_31 rfl (lv_at hl 0 rfl) ?_
  refine lv_iconst (v := 0) hx hb kd4_32 (by decide) ?_
  refine va_put (D := D) (ci := 4) (v := .int 0) (ty := jY4 3) (C := jR4) (T := jT4) (N := 4) hx hb hts (jm_cli (ci := 4) rfl) jY4 jYo4 jNm4 hown hK hP hD hS 0 rfl rfl 3 (by decide) (hts _ kq42) (fun _ h9 => h9) rfl (jYo4 3 (by decide)) rfl rfl (Nat.le_of_ble_eq_true rfl) kd4_33 (fun H locs hP hD hS => ?_)
  have hP : va_P D jm_cl [(h0, .inr (4, [.ref q1, .ref q3, .ref q5, .int 0])), (q1, .inl (k2, 200, .inl (fun _ => 0))), (q3, .inl (k4, 200, .inl (fun _ => 0))), (q5, .inl (k6, 200, .inl (fun _ => 0)))] H := hP
  have hD : va_D A [(h0, .inr (4, [.ref q1, .ref q3, .ref q5, .int 0])), (q1, .inl (k2, 200, .inl (fun _ => 0))), (q3, .inl (k4, 200, .inl (fun _ => 0))), (q5, .inl (k6, 200, .inl (fun _ => 0)))] := hD
  refine W.widen (k := 3) (n := 600) (Nat.le_of_ble_eq_true rfl) (Nat.le_of_ble_eq_true rfl) ?_
  exact W.vret hx hb hr (fun t ht hW => ⟨⟨((fun i => if i = 0 then q1 else if i = 1 then q3 else if i = 2 then q5 else 0), (fun i => if i = 0 then k2 else if i = 1 then k4 else if i = 2 then k6 else k2)), rfl, trivial, by rw [ht]; exact hP, va_K.moved hW.alike hK, hD⟩, hS.F ht⟩) hS.2.2 kd4_36
def kw_Rule (h0 : Nat) (u : (Nat → Nat) × (Nat → ClassId)) : va_W := [(h0, .inr (5, [.int 1000, .int 1000, .int 1000]))]
def kt_Rule (u : (Nat → Nat) × (Nat → ClassId)) : List (ClassId × FieldType) := []
set_option maxHeartbeats 4000000 in
set_option maxRecDepth 100000 in
theorem k_Rule (l : Launch) (D : va_G) (h0 sz : Nat) : Met l ky5 (cWs ky5 kc5 1) ({ frames := 1, cells := 0, slots := 0, locals := 12 }) (va_Pc [.ref h0] (fun U => U.heap.size = sz ∧ va_P D jm_cl [(h0, .inr (5, [.int 0, .int 0, .int 0]))] U.heap ∧ va_K D jm_cl [] U ∧ va_D (fun _ => True) [(h0, .inr (5, [.int 0, .int 0, .int 0]))])) (va_Qv (fun _ : (Nat → Nat) × (Nat → ClassId) => True) (fun u t => va_P D jm_cl (kw_Rule h0 u) t.heap ∧ va_K D jm_cl (kt_Rule u) t ∧ va_D (va_A [(h0, .inr (5, [.int 0, .int 0, .int 0]))] sz) (kw_Rule h0 u)) (va_A [(h0, .inr (5, [.int 0, .int 0, .int 0]))] sz)) 0 0 (va_A [(h0, .inr (5, [.int 0, .int 0, .int 0]))] sz) := by
  refine Met.ofW (cc := kc5) (maxL := 1) (ret := none) (by decide) rfl ?_
  intro p e s m args below meth c s₁ B hml hv
  obtain ⟨rfl, hsz, hP, hK, hD0⟩ := hv
  have hx := B.exec
  have hb := B.bytes
  have hr := B.returns
  have hts : ∀ w ∈ jm_tg, w.before _ s = true := fun w hw => atoms_spec (ws := cWs ky5 kc5 1) B.pre w (List.mem_cons_of_mem _ hw)
  have hown : s.vm.findClass jR5 = some m.cls := findClass_of_methodNamed B.named
  have hlocks := B.notSynchronized
  have hin : meth.name = "<init>" := (name_of_methodNamed B.named B.method).1
  subst hsz
  have hD := hD0.self (sz := s.heap.size)
  generalize hAe : va_A [(h0, .inr (5, [.int 0, .int 0, .int 0]))] s.heap.size = A at hD ⊢
  have hA : ∀ q : Nat, s.heap.size ≤ q → A q := fun q h => by rw [← hAe]; exact Or.inr h
  have hS : va_S A s.heap s.heap [] := va_S.rf
  have hl := lv_entry ([.ref h0]) (n := 1) (Nat.le_of_ble_eq_true rfl)
  rw [lg_entry_eq]
  generalize (lg_sl ([.ref h0]) ++ List.replicate (1 - (lg_sl ([.ref h0])).length) Slot.unset).toArray = ls at hl ⊢
  have hl : lv_has ls 1 [(0, .ref h0)] := hl
  refine lv_aload_n hx hb kd5_0 rfl (lv_at hl 0 rfl) ?_
  refine W.objInit hx hb hown (hts _ kq43) (hts _ kq1) (hts _ kq2) rfl (by rw [hml]; exact hl.1) rfl kd5_1 (Nat.le_of_ble_eq_true rfl) (Nat.le_of_ble_eq_true rfl) ?_
  refine W.eq (g2 := F0 m 4 ls []) rfl ?_
  refine lv_aload_n hx hb kd5_4 rfl (lv_at hl 0 rfl) ?_
  refine lv_sipush (v := 1000) hx hb kd5_5 (by decide) ?_
  refine va_put (D := D) (ci := 5) (v := .int 1000) (ty := jY5 0) (C := jR5) (T := jT5) (N := 3) hx hb hts (jm_cli (ci := 5) rfl) jY5 jYo5 jNm5 hown hK hP hD hS 0 rfl rfl 0 (by decide) (hts _ kq44) (fun _ h9 => h9) rfl (jYo5 0 (by decide)) rfl rfl (Nat.le_of_ble_eq_true rfl) kd5_8 (fun H locs hP hD hS => ?_)
  have hP : va_P D jm_cl [(h0, .inr (5, [.int 1000, .int 0, .int 0]))] H := hP
  have hD : va_D A [(h0, .inr (5, [.int 1000, .int 0, .int 0]))] := hD
  refine lv_aload_n hx hb kd5_11 rfl (lv_at hl 0 rfl) ?_
  refine lv_sipush (v := 1000) hx hb kd5_12 (by decide) ?_
  refine va_put (D := D) (ci := 5) (v := .int 1000) (ty := jY5 1) (C := jR5) (T := jT5) (N := 3) hx hb hts (jm_cli (ci := 5) rfl) jY5 jYo5 jNm5 hown hK hP hD hS 0 rfl rfl 1 (by decide) (hts _ kq45) (fun _ h9 => h9) rfl (jYo5 1 (by decide)) rfl rfl (Nat.le_of_ble_eq_true rfl) kd5_15 (fun H locs hP hD hS => ?_)
  have hP : va_P D jm_cl [(h0, .inr (5, [.int 1000, .int 1000, .int 0]))] H := hP
  have hD : va_D A [(h0, .inr (5, [.int 1000, .int 1000, .int 0]))] := hD
  refine lv_aload_n hx hb kd5_18 rfl (lv_at hl 0 rfl) ?_
  refine lv_sipush (v := 1000) hx hb kd5_19 (by decide) ?_
  refine va_put (D := D) (ci := 5) (v := .int 1000) (ty := jY5 2) (C := jR5) (T := jT5) (N := 3) hx hb hts (jm_cli (ci := 5) rfl) jY5 jYo5 jNm5 hown hK hP hD hS 0 rfl rfl 2 (by decide) (hts _ kq46) (fun _ h9 => h9) rfl (jYo5 2 (by decide)) rfl rfl (Nat.le_of_ble_eq_true rfl) kd5_22 (fun H locs hP hD hS => ?_)
  have hP : va_P D jm_cl [(h0, .inr (5, [.int 1000, .int 1000, .int 1000]))] H := hP
  have hD : va_D A [(h0, .inr (5, [.int 1000, .int 1000, .int 1000]))] := hD
  refine W.widen (k := 0) (n := 0) (Nat.le_of_ble_eq_true rfl) (Nat.le_of_ble_eq_true rfl) ?_
  exact W.vret hx hb hr (fun t ht hW => ⟨⟨((fun i => 0), (fun i => m.cls)), rfl, trivial, by rw [ht]; exact hP, va_K.moved hW.alike hK, hD⟩, hS.F ht⟩) hS.2.2 kd5_25
def kw_Sheet (h0 : Nat) (u : (Nat → Nat) × (Nat → ClassId)) : va_W := [(h0, .inr (6, [.ref (u.1 0), .int (-1), .int 0])), ((u.1 0), .inl ((u.2 0), 60, .inl (fun _ => 0)))]
def kt_Sheet (u : (Nat → Nat) × (Nat → ClassId)) : List (ClassId × FieldType) := [(u.2 0, .int)]
set_option maxHeartbeats 4000000 in
set_option maxRecDepth 100000 in
theorem k_Sheet (l : Launch) (D : va_G) (h0 sz : Nat) : Met l ky6 (cWs ky6 kc6 1) ({ frames := 1, cells := 1, slots := 60, locals := 12 }) (va_Pc [.ref h0] (fun U => U.heap.size = sz ∧ va_P D jm_cl [(h0, .inr (6, [.null, .int 0, .int 0]))] U.heap ∧ va_K D jm_cl [] U ∧ va_D (fun _ => True) [(h0, .inr (6, [.null, .int 0, .int 0]))])) (va_Qv (fun _ : (Nat → Nat) × (Nat → ClassId) => True) (fun u t => va_P D jm_cl (kw_Sheet h0 u) t.heap ∧ va_K D jm_cl (kt_Sheet u) t ∧ va_D (va_A [(h0, .inr (6, [.null, .int 0, .int 0]))] sz) (kw_Sheet h0 u)) (va_A [(h0, .inr (6, [.null, .int 0, .int 0]))] sz)) 1 60 (va_A [(h0, .inr (6, [.null, .int 0, .int 0]))] sz) := by
  refine Met.ofW (cc := kc6) (maxL := 1) (ret := none) (by decide) rfl ?_
  intro p e s m args below meth c s₁ B hml hv
  obtain ⟨rfl, hsz, hP, hK, hD0⟩ := hv
  have hx := B.exec
  have hb := B.bytes
  have hr := B.returns
  have hts : ∀ w ∈ jm_tg, w.before _ s = true := fun w hw => atoms_spec (ws := cWs ky6 kc6 1) B.pre w (List.mem_cons_of_mem _ hw)
  have hown : s.vm.findClass jR6 = some m.cls := findClass_of_methodNamed B.named
  have hlocks := B.notSynchronized
  have hin : meth.name = "<init>" := (name_of_methodNamed B.named B.method).1
  subst hsz
  have hD := hD0.self (sz := s.heap.size)
  generalize hAe : va_A [(h0, .inr (6, [.null, .int 0, .int 0]))] s.heap.size = A at hD ⊢
  have hA : ∀ q : Nat, s.heap.size ≤ q → A q := fun q h => by rw [← hAe]; exact Or.inr h
  have hS : va_S A s.heap s.heap [] := va_S.rf
  have hl := lv_entry ([.ref h0]) (n := 1) (Nat.le_of_ble_eq_true rfl)
  rw [lg_entry_eq]
  generalize (lg_sl ([.ref h0]) ++ List.replicate (1 - (lg_sl ([.ref h0])).length) Slot.unset).toArray = ls at hl ⊢
  have hl : lv_has ls 1 [(0, .ref h0)] := hl
  refine lv_aload_n hx hb kd6_0 rfl (lv_at hl 0 rfl) ?_
  refine W.objInit hx hb hown (hts _ kq47) (hts _ kq1) (hts _ kq2) rfl (by rw [hml]; exact hl.1) rfl kd6_1 (Nat.le_of_ble_eq_true rfl) (Nat.le_of_ble_eq_true rfl) ?_
  refine W.eq (g2 := F0 m 4 ls []) rfl ?_
  refine lv_aload_n hx hb kd6_4 rfl (lv_at hl 0 rfl) ?_
  refine lv_bipush (v := 60) hx hb kd6_5 (by decide) ?_
  refine va_newa (atype := .int) (ty := .int) (a0 := (60, .inl (fun _ => 0))) hx hb (hts _ kq3) rfl hK hP hD hS hA (fun _ => rfl) (by decide) (by decide) (by decide) (Nat.le_of_ble_eq_true rfl) (Nat.le_of_ble_eq_true rfl) kd6_7 (fun q1 k2 H hK hP hD hS => ?_)
  have hP : va_P D jm_cl [(h0, .inr (6, [.null, .int 0, .int 0])), (q1, .inl (k2, 60, .inl (fun _ => 0)))] H := hP
  have hD : va_D A [(h0, .inr (6, [.null, .int 0, .int 0])), (q1, .inl (k2, 60, .inl (fun _ => 0)))] := hD
  have hK : va_K D jm_cl [(k2, .int)] s := hK
  refine W.widen (k := 1) (n := 60) (Nat.le_of_ble_eq_true rfl) (Nat.le_of_ble_eq_true rfl) ?_
  refine va_putF (D := D) (ci := 6) (v := .ref q1) (ty := jY6 0) (C := jR6) (T := jT6) (N := 3) hx hb hts (jm_cli (ci := 6) rfl) jY6 jYo6 jNm6 hown hK hP hD hS 0 rfl rfl 0 (by decide) (hts _ kq48) (fun _ h9 => h9) rfl hin rfl (jYo6 0 (by decide)) rfl rfl (Nat.le_of_ble_eq_true rfl) kd6_9 (fun H locs hP hD hS => ?_)
  have hP : va_P D jm_cl [(h0, .inr (6, [.ref q1, .int 0, .int 0])), (q1, .inl (k2, 60, .inl (fun _ => 0)))] H := hP
  have hD : va_D A [(h0, .inr (6, [.ref q1, .int 0, .int 0])), (q1, .inl (k2, 60, .inl (fun _ => 0)))] := hD
  refine lv_aload_n hx hb kd6_12 rfl (lv_at hl 0 rfl) ?_
  refine lv_iconst (v := (-1)) hx hb kd6_13 (by decide) ?_
  refine va_put (D := D) (ci := 6) (v := .int (-1)) (ty := jY6 1) (C := jR6) (T := jT6) (N := 3) hx hb hts (jm_cli (ci := 6) rfl) jY6 jYo6 jNm6 hown hK hP hD hS 0 rfl rfl 1 (by decide) (hts _ kq49) (fun _ h9 => h9) rfl (jYo6 1 (by decide)) rfl rfl (Nat.le_of_ble_eq_true rfl) kd6_14 (fun H locs hP hD hS => ?_)
  have hP : va_P D jm_cl [(h0, .inr (6, [.ref q1, .int (-1), .int 0])), (q1, .inl (k2, 60, .inl (fun _ => 0)))] H := hP
  have hD : va_D A [(h0, .inr (6, [.ref q1, .int (-1), .int 0])), (q1, .inl (k2, 60, .inl (fun _ => 0)))] := hD
  refine lv_aload_n hx hb kd6_17 rfl (lv_at hl 0 rfl) ?_
  refine lv_iconst (v := 0) hx hb kd6_18 (by decide) ?_
  refine va_put (D := D) (ci := 6) (v := .int 0) (ty := jY6 2) (C := jR6) (T := jT6) (N := 3) hx hb hts (jm_cli (ci := 6) rfl) jY6 jYo6 jNm6 hown hK hP hD hS 0 rfl rfl 2 (by decide) (hts _ kq50) (fun _ h9 => h9) rfl (jYo6 2 (by decide)) rfl rfl (Nat.le_of_ble_eq_true rfl) kd6_19 (fun H locs hP hD hS => ?_)
  have hP : va_P D jm_cl [(h0, .inr (6, [.ref q1, .int (-1), .int 0])), (q1, .inl (k2, 60, .inl (fun _ => 0)))] H := hP
  have hD : va_D A [(h0, .inr (6, [.ref q1, .int (-1), .int 0])), (q1, .inl (k2, 60, .inl (fun _ => 0)))] := hD
  refine W.widen (k := 1) (n := 60) (Nat.le_of_ble_eq_true rfl) (Nat.le_of_ble_eq_true rfl) ?_
  exact W.vret hx hb hr (fun t ht hW => ⟨⟨((fun i => if i = 0 then q1 else 0), (fun i => if i = 0 then k2 else k2)), rfl, trivial, by rw [ht]; exact hP, va_K.moved hW.alike hK, hD⟩, hS.F ht⟩) hS.2.2 kd6_22
def kw_Text60 (h0 : Nat) (u : (Nat → Nat) × (Nat → ClassId)) : va_W := [(h0, .inr (7, [.ref (u.1 0), .int 0, .int 0, .int (-1)])), ((u.1 0), .inl ((u.2 0), 60, .inl (fun _ => 0)))]
def kt_Text60 (u : (Nat → Nat) × (Nat → ClassId)) : List (ClassId × FieldType) := [(u.2 0, .int)]
set_option maxHeartbeats 4000000 in
set_option maxRecDepth 100000 in
theorem k_Text60 (l : Launch) (D : va_G) (h0 sz : Nat) : Met l ky7 (cWs ky7 kc7 2) ({ frames := 1, cells := 1, slots := 60, locals := 12 }) (va_Pc [.ref h0, .int 60] (fun U => U.heap.size = sz ∧ va_P D jm_cl [(h0, .inr (7, [.null, .int 0, .int 0, .int 0]))] U.heap ∧ va_K D jm_cl [] U ∧ va_D (fun _ => True) [(h0, .inr (7, [.null, .int 0, .int 0, .int 0]))])) (va_Qv (fun _ : (Nat → Nat) × (Nat → ClassId) => True) (fun u t => va_P D jm_cl (kw_Text60 h0 u) t.heap ∧ va_K D jm_cl (kt_Text60 u) t ∧ va_D (va_A [(h0, .inr (7, [.null, .int 0, .int 0, .int 0]))] sz) (kw_Text60 h0 u)) (va_A [(h0, .inr (7, [.null, .int 0, .int 0, .int 0]))] sz)) 1 60 (va_A [(h0, .inr (7, [.null, .int 0, .int 0, .int 0]))] sz) := by
  refine Met.ofW (cc := kc7) (maxL := 2) (ret := none) (by decide) rfl ?_
  intro p e s m args below meth c s₁ B hml hv
  obtain ⟨rfl, hsz, hP, hK, hD0⟩ := hv
  have hx := B.exec
  have hb := B.bytes
  have hr := B.returns
  have hts : ∀ w ∈ jm_tg, w.before _ s = true := fun w hw => atoms_spec (ws := cWs ky7 kc7 2) B.pre w (List.mem_cons_of_mem _ hw)
  have hown : s.vm.findClass jR7 = some m.cls := findClass_of_methodNamed B.named
  have hlocks := B.notSynchronized
  have hin : meth.name = "<init>" := (name_of_methodNamed B.named B.method).1
  subst hsz
  have hD := hD0.self (sz := s.heap.size)
  generalize hAe : va_A [(h0, .inr (7, [.null, .int 0, .int 0, .int 0]))] s.heap.size = A at hD ⊢
  have hA : ∀ q : Nat, s.heap.size ≤ q → A q := fun q h => by rw [← hAe]; exact Or.inr h
  have hS : va_S A s.heap s.heap [] := va_S.rf
  have hl := lv_entry ([.ref h0, .int 60]) (n := 2) (Nat.le_of_ble_eq_true rfl)
  rw [lg_entry_eq]
  generalize (lg_sl ([.ref h0, .int 60]) ++ List.replicate (2 - (lg_sl ([.ref h0, .int 60])).length) Slot.unset).toArray = ls at hl ⊢
  have hl : lv_has ls 2 [(0, .ref h0), (1, .int 60)] := hl
  refine lv_aload_n hx hb kd7_0 rfl (lv_at hl 0 rfl) ?_
  refine W.objInit hx hb hown (hts _ kq51) (hts _ kq1) (hts _ kq2) rfl (by rw [hml]; exact hl.1) rfl kd7_1 (Nat.le_of_ble_eq_true rfl) (Nat.le_of_ble_eq_true rfl) ?_
  refine W.eq (g2 := F0 m 4 ls []) rfl ?_
  refine lv_aload_n hx hb kd7_4 rfl (lv_at hl 0 rfl) ?_
  refine lv_iconst (v := 0) hx hb kd7_5 (by decide) ?_
  refine va_put (D := D) (ci := 7) (v := .int 0) (ty := jY7 1) (C := jR7) (T := jT7) (N := 4) hx hb hts (jm_cli (ci := 7) rfl) jY7 jYo7 jNm7 hown hK hP hD hS 0 rfl rfl 1 (by decide) (hts _ kq52) (fun _ h9 => h9) rfl (jYo7 1 (by decide)) rfl rfl (Nat.le_of_ble_eq_true rfl) kd7_6 (fun H locs hP hD hS => ?_)
  have hP : va_P D jm_cl [(h0, .inr (7, [.null, .int 0, .int 0, .int 0]))] H := hP
  have hD : va_D A [(h0, .inr (7, [.null, .int 0, .int 0, .int 0]))] := hD
  refine lv_aload_n hx hb kd7_9 rfl (lv_at hl 0 rfl) ?_
  refine lv_iconst (v := 0) hx hb kd7_10 (by decide) ?_
  refine va_put (D := D) (ci := 7) (v := .int 0) (ty := jY7 2) (C := jR7) (T := jT7) (N := 4) hx hb hts (jm_cli (ci := 7) rfl) jY7 jYo7 jNm7 hown hK hP hD hS 0 rfl rfl 2 (by decide) (hts _ kq53) (fun _ h9 => h9) rfl (jYo7 2 (by decide)) rfl rfl (Nat.le_of_ble_eq_true rfl) kd7_11 (fun H locs hP hD hS => ?_)
  have hP : va_P D jm_cl [(h0, .inr (7, [.null, .int 0, .int 0, .int 0]))] H := hP
  have hD : va_D A [(h0, .inr (7, [.null, .int 0, .int 0, .int 0]))] := hD
  refine lv_aload_n hx hb kd7_14 rfl (lv_at hl 0 rfl) ?_
  refine lv_iconst (v := (-1)) hx hb kd7_15 (by decide) ?_
  refine va_put (D := D) (ci := 7) (v := .int (-1)) (ty := jY7 3) (C := jR7) (T := jT7) (N := 4) hx hb hts (jm_cli (ci := 7) rfl) jY7 jYo7 jNm7 hown hK hP hD hS 0 rfl rfl 3 (by decide) (hts _ kq54) (fun _ h9 => h9) rfl (jYo7 3 (by decide)) rfl rfl (Nat.le_of_ble_eq_true rfl) kd7_16 (fun H locs hP hD hS => ?_)
  have hP : va_P D jm_cl [(h0, .inr (7, [.null, .int 0, .int 0, .int (-1)]))] H := hP
  have hD : va_D A [(h0, .inr (7, [.null, .int 0, .int 0, .int (-1)]))] := hD
  refine lv_aload_n hx hb kd7_19 rfl (lv_at hl 0 rfl) ?_
  refine lv_iload_n hx hb kd7_20 rfl (lv_at hl 1 rfl) ?_
  refine va_newa (atype := .int) (ty := .int) (a0 := (60, .inl (fun _ => 0))) hx hb (hts _ kq3) rfl hK hP hD hS hA (fun _ => rfl) (by decide) (by decide) (by decide) (Nat.le_of_ble_eq_true rfl) (Nat.le_of_ble_eq_true rfl) kd7_21 (fun q1 k2 H hK hP hD hS => ?_)
  have hP : va_P D jm_cl [(h0, .inr (7, [.null, .int 0, .int 0, .int (-1)])), (q1, .inl (k2, 60, .inl (fun _ => 0)))] H := hP
  have hD : va_D A [(h0, .inr (7, [.null, .int 0, .int 0, .int (-1)])), (q1, .inl (k2, 60, .inl (fun _ => 0)))] := hD
  have hK : va_K D jm_cl [(k2, .int)] s := hK
  refine W.widen (k := 1) (n := 60) (Nat.le_of_ble_eq_true rfl) (Nat.le_of_ble_eq_true rfl) ?_
  refine va_putF (D := D) (ci := 7) (v := .ref q1) (ty := jY7 0) (C := jR7) (T := jT7) (N := 4) hx hb hts (jm_cli (ci := 7) rfl) jY7 jYo7 jNm7 hown hK hP hD hS 0 rfl rfl 0 (by decide) (hts _ kq55) (fun _ h9 => h9) rfl hin rfl (jYo7 0 (by decide)) rfl rfl (Nat.le_of_ble_eq_true rfl) kd7_23 (fun H locs hP hD hS => ?_)
  have hP : va_P D jm_cl [(h0, .inr (7, [.ref q1, .int 0, .int 0, .int (-1)])), (q1, .inl (k2, 60, .inl (fun _ => 0)))] H := hP
  have hD : va_D A [(h0, .inr (7, [.ref q1, .int 0, .int 0, .int (-1)])), (q1, .inl (k2, 60, .inl (fun _ => 0)))] := hD
  refine W.widen (k := 1) (n := 60) (Nat.le_of_ble_eq_true rfl) (Nat.le_of_ble_eq_true rfl) ?_
  exact W.vret hx hb hr (fun t ht hW => ⟨⟨((fun i => if i = 0 then q1 else 0), (fun i => if i = 0 then k2 else k2)), rfl, trivial, by rw [ht]; exact hP, va_K.moved hW.alike hK, hD⟩, hS.F ht⟩) hS.2.2 kd7_26
def kw_Text30 (h0 : Nat) (u : (Nat → Nat) × (Nat → ClassId)) : va_W := [(h0, .inr (7, [.ref (u.1 0), .int 0, .int 0, .int (-1)])), ((u.1 0), .inl ((u.2 0), 30, .inl (fun _ => 0)))]
def kt_Text30 (u : (Nat → Nat) × (Nat → ClassId)) : List (ClassId × FieldType) := [(u.2 0, .int)]
set_option maxHeartbeats 4000000 in
set_option maxRecDepth 100000 in
theorem k_Text30 (l : Launch) (D : va_G) (h0 sz : Nat) : Met l ky7 (cWs ky7 kc7 2) ({ frames := 1, cells := 1, slots := 30, locals := 12 }) (va_Pc [.ref h0, .int 30] (fun U => U.heap.size = sz ∧ va_P D jm_cl [(h0, .inr (7, [.null, .int 0, .int 0, .int 0]))] U.heap ∧ va_K D jm_cl [] U ∧ va_D (fun _ => True) [(h0, .inr (7, [.null, .int 0, .int 0, .int 0]))])) (va_Qv (fun _ : (Nat → Nat) × (Nat → ClassId) => True) (fun u t => va_P D jm_cl (kw_Text30 h0 u) t.heap ∧ va_K D jm_cl (kt_Text30 u) t ∧ va_D (va_A [(h0, .inr (7, [.null, .int 0, .int 0, .int 0]))] sz) (kw_Text30 h0 u)) (va_A [(h0, .inr (7, [.null, .int 0, .int 0, .int 0]))] sz)) 1 30 (va_A [(h0, .inr (7, [.null, .int 0, .int 0, .int 0]))] sz) := by
  refine Met.ofW (cc := kc7) (maxL := 2) (ret := none) (by decide) rfl ?_
  intro p e s m args below meth c s₁ B hml hv
  obtain ⟨rfl, hsz, hP, hK, hD0⟩ := hv
  have hx := B.exec
  have hb := B.bytes
  have hr := B.returns
  have hts : ∀ w ∈ jm_tg, w.before _ s = true := fun w hw => atoms_spec (ws := cWs ky7 kc7 2) B.pre w (List.mem_cons_of_mem _ hw)
  have hown : s.vm.findClass jR7 = some m.cls := findClass_of_methodNamed B.named
  have hlocks := B.notSynchronized
  have hin : meth.name = "<init>" := (name_of_methodNamed B.named B.method).1
  subst hsz
  have hD := hD0.self (sz := s.heap.size)
  generalize hAe : va_A [(h0, .inr (7, [.null, .int 0, .int 0, .int 0]))] s.heap.size = A at hD ⊢
  have hA : ∀ q : Nat, s.heap.size ≤ q → A q := fun q h => by rw [← hAe]; exact Or.inr h
  have hS : va_S A s.heap s.heap [] := va_S.rf
  have hl := lv_entry ([.ref h0, .int 30]) (n := 2) (Nat.le_of_ble_eq_true rfl)
  rw [lg_entry_eq]
  generalize (lg_sl ([.ref h0, .int 30]) ++ List.replicate (2 - (lg_sl ([.ref h0, .int 30])).length) Slot.unset).toArray = ls at hl ⊢
  have hl : lv_has ls 2 [(0, .ref h0), (1, .int 30)] := hl
  refine lv_aload_n hx hb kd7_0 rfl (lv_at hl 0 rfl) ?_
  refine W.objInit hx hb hown (hts _ kq51) (hts _ kq1) (hts _ kq2) rfl (by rw [hml]; exact hl.1) rfl kd7_1 (Nat.le_of_ble_eq_true rfl) (Nat.le_of_ble_eq_true rfl) ?_
  refine W.eq (g2 := F0 m 4 ls []) rfl ?_
  refine lv_aload_n hx hb kd7_4 rfl (lv_at hl 0 rfl) ?_
  refine lv_iconst (v := 0) hx hb kd7_5 (by decide) ?_
  refine va_put (D := D) (ci := 7) (v := .int 0) (ty := jY7 1) (C := jR7) (T := jT7) (N := 4) hx hb hts (jm_cli (ci := 7) rfl) jY7 jYo7 jNm7 hown hK hP hD hS 0 rfl rfl 1 (by decide) (hts _ kq52) (fun _ h9 => h9) rfl (jYo7 1 (by decide)) rfl rfl (Nat.le_of_ble_eq_true rfl) kd7_6 (fun H locs hP hD hS => ?_)
  have hP : va_P D jm_cl [(h0, .inr (7, [.null, .int 0, .int 0, .int 0]))] H := hP
  have hD : va_D A [(h0, .inr (7, [.null, .int 0, .int 0, .int 0]))] := hD
  refine lv_aload_n hx hb kd7_9 rfl (lv_at hl 0 rfl) ?_
  refine lv_iconst (v := 0) hx hb kd7_10 (by decide) ?_
  refine va_put (D := D) (ci := 7) (v := .int 0) (ty := jY7 2) (C := jR7) (T := jT7) (N := 4) hx hb hts (jm_cli (ci := 7) rfl) jY7 jYo7 jNm7 hown hK hP hD hS 0 rfl rfl 2 (by decide) (hts _ kq53) (fun _ h9 => h9) rfl (jYo7 2 (by decide)) rfl rfl (Nat.le_of_ble_eq_true rfl) kd7_11 (fun H locs hP hD hS => ?_)
  have hP : va_P D jm_cl [(h0, .inr (7, [.null, .int 0, .int 0, .int 0]))] H := hP
  have hD : va_D A [(h0, .inr (7, [.null, .int 0, .int 0, .int 0]))] := hD
  refine lv_aload_n hx hb kd7_14 rfl (lv_at hl 0 rfl) ?_
  refine lv_iconst (v := (-1)) hx hb kd7_15 (by decide) ?_
  refine va_put (D := D) (ci := 7) (v := .int (-1)) (ty := jY7 3) (C := jR7) (T := jT7) (N := 4) hx hb hts (jm_cli (ci := 7) rfl) jY7 jYo7 jNm7 hown hK hP hD hS 0 rfl rfl 3 (by decide) (hts _ kq54) (fun _ h9 => h9) rfl (jYo7 3 (by decide)) rfl rfl (Nat.le_of_ble_eq_true rfl) kd7_16 (fun H locs hP hD hS => ?_)
  have hP : va_P D jm_cl [(h0, .inr (7, [.null, .int 0, .int 0, .int (-1)]))] H := hP
  have hD : va_D A [(h0, .inr (7, [.null, .int 0, .int 0, .int (-1)]))] := hD
  refine lv_aload_n hx hb kd7_19 rfl (lv_at hl 0 rfl) ?_
  refine lv_iload_n hx hb kd7_20 rfl (lv_at hl 1 rfl) ?_
  refine va_newa (atype := .int) (ty := .int) (a0 := (30, .inl (fun _ => 0))) hx hb (hts _ kq3) rfl hK hP hD hS hA (fun _ => rfl) (by decide) (by decide) (by decide) (Nat.le_of_ble_eq_true rfl) (Nat.le_of_ble_eq_true rfl) kd7_21 (fun q1 k2 H hK hP hD hS => ?_)
  have hP : va_P D jm_cl [(h0, .inr (7, [.null, .int 0, .int 0, .int (-1)])), (q1, .inl (k2, 30, .inl (fun _ => 0)))] H := hP
  have hD : va_D A [(h0, .inr (7, [.null, .int 0, .int 0, .int (-1)])), (q1, .inl (k2, 30, .inl (fun _ => 0)))] := hD
  have hK : va_K D jm_cl [(k2, .int)] s := hK
  refine W.widen (k := 1) (n := 30) (Nat.le_of_ble_eq_true rfl) (Nat.le_of_ble_eq_true rfl) ?_
  refine va_putF (D := D) (ci := 7) (v := .ref q1) (ty := jY7 0) (C := jR7) (T := jT7) (N := 4) hx hb hts (jm_cli (ci := 7) rfl) jY7 jYo7 jNm7 hown hK hP hD hS 0 rfl rfl 0 (by decide) (hts _ kq55) (fun _ h9 => h9) rfl hin rfl (jYo7 0 (by decide)) rfl rfl (Nat.le_of_ble_eq_true rfl) kd7_23 (fun H locs hP hD hS => ?_)
  have hP : va_P D jm_cl [(h0, .inr (7, [.ref q1, .int 0, .int 0, .int (-1)])), (q1, .inl (k2, 30, .inl (fun _ => 0)))] H := hP
  have hD : va_D A [(h0, .inr (7, [.ref q1, .int 0, .int 0, .int (-1)])), (q1, .inl (k2, 30, .inl (fun _ => 0)))] := hD
  refine W.widen (k := 1) (n := 30) (Nat.le_of_ble_eq_true rfl) (Nat.le_of_ble_eq_true rfl) ?_
  exact W.vret hx hb hr (fun t ht hW => ⟨⟨((fun i => if i = 0 then q1 else 0), (fun i => if i = 0 then k2 else k2)), rfl, trivial, by rw [ht]; exact hP, va_K.moved hW.alike hK, hD⟩, hS.F ht⟩) hS.2.2 kd7_26
