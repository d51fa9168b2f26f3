theorem DJ0_length_8abf5_0 : Dal prog_15_method_54_code 0 0 1 := Or.inr ⟨0, by decide +kernel, rfl, rfl⟩
theorem DJ0_length_8abf5_1 : Dn prog_15_method_54_code 1 (.getfield 9) 3 4 := ⟨by decide +kernel, rfl⟩
theorem DJ0_length_8abf5_4 : Dn prog_15_method_54_code 4 (.arraylength) 1 5 := ⟨by decide +kernel, rfl⟩
theorem DJ0_length_8abf5_5 : Dal prog_15_method_54_code 5 0 6 := Or.inr ⟨0, by decide +kernel, rfl, rfl⟩
theorem DJ0_length_8abf5_6 : Dn prog_15_method_54_code 6 (.invokevirtual 335) 3 9 := ⟨by decide +kernel, rfl⟩
theorem DJ0_length_8abf5_9 : Dn prog_15_method_54_code 9 (.ishr) 1 10 := ⟨by decide +kernel, rfl⟩
theorem DJ0_length_8abf5_10 : Dn prog_15_method_54_code 10 (.ireturn) 1 11 := ⟨by decide +kernel, rfl⟩
set_option maxRecDepth 100000 in
theorem jf_RJ0_9 : Cond.fieldLink RJ0 9 "java/lang/String" "value" "[B" ∈ TB := TB_in (tb10_in 47 rfl) rfl
set_option maxRecDepth 100000 in
theorem ml_RJ0_335 : Cond.methodLink RJ0 335 yJ0_coder_7d493 ∈ TB := TB_in (tb2_in 91 rfl) rfl
theorem DJ0_charAt_5068e_0 : Dal prog_15_method_56_code 0 0 1 := Or.inr ⟨0, by decide +kernel, rfl, rfl⟩
theorem DJ0_charAt_5068e_1 : Dn prog_15_method_56_code 1 (.invokevirtual 492) 3 4 := ⟨by decide +kernel, rfl⟩
theorem DJ0_charAt_5068e_4 : Db prog_15_method_56_code 4 (.ifCond .eq 12) 12 7 16 := ⟨by decide +kernel, rfl, by decide⟩
theorem DJ0_charAt_5068e_7 : Dal prog_15_method_56_code 7 0 8 := Or.inr ⟨0, by decide +kernel, rfl, rfl⟩
theorem DJ0_charAt_5068e_8 : Dn prog_15_method_56_code 8 (.getfield 9) 3 11 := ⟨by decide +kernel, rfl⟩
theorem DJ0_charAt_5068e_11 : Dil prog_15_method_56_code 11 1 12 := Or.inr ⟨1, by decide +kernel, rfl, rfl⟩
theorem DJ0_charAt_5068e_12 : Dn prog_15_method_56_code 12 (.invokestatic 495) 3 15 := ⟨by decide +kernel, rfl⟩
theorem DJ0_charAt_5068e_15 : Dn prog_15_method_56_code 15 (.ireturn) 1 16 := ⟨by decide +kernel, rfl⟩
theorem DJ0_charAt_5068e_16 : Dal prog_15_method_56_code 16 0 17 := Or.inr ⟨0, by decide +kernel, rfl, rfl⟩
theorem DJ0_charAt_5068e_17 : Dn prog_15_method_56_code 17 (.getfield 9) 3 20 := ⟨by decide +kernel, rfl⟩
theorem DJ0_charAt_5068e_20 : Dil prog_15_method_56_code 20 1 21 := Or.inr ⟨1, by decide +kernel, rfl, rfl⟩
theorem DJ0_charAt_5068e_21 : Dn prog_15_method_56_code 21 (.invokestatic 498) 3 24 := ⟨by decide +kernel, rfl⟩
theorem DJ0_charAt_5068e_24 : Dn prog_15_method_56_code 24 (.ireturn) 1 25 := ⟨by decide +kernel, rfl⟩
set_option maxRecDepth 100000 in
theorem ml_RJ0_492 : Cond.methodLink RJ0 492 yJ0_isLatin1_aae02 ∈ TB := TB_in (tb2_in 101 rfl) rfl
set_option maxRecDepth 100000 in
theorem ml_RJ0_495 : Cond.methodLink RJ0 495 yJ1_charAt_3b067 ∈ TB := TB_in (tb2_in 105 rfl) rfl
theorem DJ0_coder_7d493_0 : Dn prog_15_method_152_code 0 (.getstatic 38) 3 3 := ⟨by decide +kernel, rfl⟩
theorem DJ0_coder_7d493_3 : Db prog_15_method_152_code 3 (.ifCond .eq 10) 10 6 13 := ⟨by decide +kernel, rfl, by decide⟩
theorem DJ0_coder_7d493_6 : Dal prog_15_method_152_code 6 0 7 := Or.inr ⟨0, by decide +kernel, rfl, rfl⟩
theorem DJ0_coder_7d493_7 : Dn prog_15_method_152_code 7 (.getfield 15) 3 10 := ⟨by decide +kernel, rfl⟩
theorem DJ0_coder_7d493_10 : Db prog_15_method_152_code 10 (.goto 4) 4 13 14 := ⟨by decide +kernel, rfl, by decide⟩
theorem DJ0_coder_7d493_13 : DI prog_15_method_152_code 13 1 14 := Or.inl ⟨1, by decide +kernel, by decide, rfl⟩
theorem DJ0_coder_7d493_14 : Dn prog_15_method_152_code 14 (.ireturn) 1 15 := ⟨by decide +kernel, rfl⟩
set_option maxRecDepth 100000 in
theorem jf_RJ0_38 : Cond.fieldLink RJ0 38 "java/lang/String" "COMPACT_STRINGS" "Z" ∈ TB := TB_in (tb2_in 95 rfl) rfl
set_option maxRecDepth 100000 in
theorem jf_RJ0_15 : Cond.fieldLink RJ0 15 "java/lang/String" "coder" "B" ∈ TB := TB_in (tb10_in 48 rfl) rfl
theorem DJ0_isLatin1_aae02_0 : Dn prog_15_method_154_code 0 (.getstatic 38) 3 3 := ⟨by decide +kernel, rfl⟩
theorem DJ0_isLatin1_aae02_3 : Db prog_15_method_154_code 3 (.ifCond .eq 14) 14 6 17 := ⟨by decide +kernel, rfl, by decide⟩
theorem DJ0_isLatin1_aae02_6 : Dal prog_15_method_154_code 6 0 7 := Or.inr ⟨0, by decide +kernel, rfl, rfl⟩
theorem DJ0_isLatin1_aae02_7 : Dn prog_15_method_154_code 7 (.getfield 15) 3 10 := ⟨by decide +kernel, rfl⟩
theorem DJ0_isLatin1_aae02_10 : Db prog_15_method_154_code 10 (.ifCond .ne 7) 7 13 17 := ⟨by decide +kernel, rfl, by decide⟩
theorem DJ0_isLatin1_aae02_13 : DI prog_15_method_154_code 13 1 14 := Or.inl ⟨1, by decide +kernel, by decide, rfl⟩
theorem DJ0_isLatin1_aae02_14 : Db prog_15_method_154_code 14 (.goto 4) 4 17 18 := ⟨by decide +kernel, rfl, by decide⟩
theorem DJ0_isLatin1_aae02_17 : DI prog_15_method_154_code 17 0 18 := Or.inl ⟨0, by decide +kernel, by decide, rfl⟩
theorem DJ0_isLatin1_aae02_18 : Dn prog_15_method_154_code 18 (.ireturn) 1 19 := ⟨by decide +kernel, rfl⟩
theorem DJ0_checkIndex_df160_0 : Dil prog_15_method_155_code 0 0 1 := Or.inr ⟨0, by decide +kernel, rfl, rfl⟩
theorem DJ0_checkIndex_df160_1 : Dil prog_15_method_155_code 1 1 2 := Or.inr ⟨1, by decide +kernel, rfl, rfl⟩
theorem DJ0_checkIndex_df160_2 : Dn prog_15_method_155_code 2 (.getstatic 1053) 3 5 := ⟨by decide +kernel, rfl⟩
theorem DJ0_checkIndex_df160_5 : Dn prog_15_method_155_code 5 (.invokestatic 1059) 3 8 := ⟨by decide +kernel, rfl⟩
theorem DJ0_checkIndex_df160_8 : Dn prog_15_method_155_code 8 (.pop) 1 9 := ⟨by decide +kernel, rfl⟩
theorem DJ0_checkIndex_df160_9 : Dn prog_15_method_155_code 9 (.return_) 1 10 := ⟨by decide +kernel, rfl⟩
set_option maxRecDepth 100000 in
theorem jf_RJ0_1053 : Cond.fieldLink RJ0 1053 "jdk/internal/util/Preconditions" "SIOOBE_FORMATTER" "Ljava/util/function/BiFunction;" ∈ TB := TB_in (tb2_in 111 rfl) rfl
set_option maxRecDepth 100000 in
theorem ml_RJ0_1059 : Cond.methodLink RJ0 1059 yJ3_checkIndex_8e157 ∈ TB := TB_in (tb2_in 113 rfl) rfl
theorem DJ1_charAt_3b067_0 : Dil prog_16_method_2_code 0 1 1 := Or.inr ⟨1, by decide +kernel, rfl, rfl⟩
theorem DJ1_charAt_3b067_1 : Dal prog_16_method_2_code 1 0 2 := Or.inr ⟨0, by decide +kernel, rfl, rfl⟩
theorem DJ1_charAt_3b067_2 : Dn prog_16_method_2_code 2 (.arraylength) 1 3 := ⟨by decide +kernel, rfl⟩
theorem DJ1_charAt_3b067_3 : Dn prog_16_method_2_code 3 (.invokestatic 9) 3 6 := ⟨by decide +kernel, rfl⟩
theorem DJ1_charAt_3b067_6 : Dal prog_16_method_2_code 6 0 7 := Or.inr ⟨0, by decide +kernel, rfl, rfl⟩
theorem DJ1_charAt_3b067_7 : Dil prog_16_method_2_code 7 1 8 := Or.inr ⟨1, by decide +kernel, rfl, rfl⟩
theorem DJ1_charAt_3b067_8 : Dn prog_16_method_2_code 8 (.baload) 1 9 := ⟨by decide +kernel, rfl⟩
theorem DJ1_charAt_3b067_9 : DI prog_16_method_2_code 9 255 12 := Or.inr (Or.inr ⟨255, by decide +kernel, by decide, rfl⟩)
theorem DJ1_charAt_3b067_12 : Dn prog_16_method_2_code 12 (.iand) 1 13 := ⟨by decide +kernel, rfl⟩
theorem DJ1_charAt_3b067_13 : Dn prog_16_method_2_code 13 (.i2c) 1 14 := ⟨by decide +kernel, rfl⟩
theorem DJ1_charAt_3b067_14 : Dn prog_16_method_2_code 14 (.ireturn) 1 15 := ⟨by decide +kernel, rfl⟩
set_option maxRecDepth 100000 in
theorem ml_RJ1_9 : Cond.methodLink RJ1 9 yJ0_checkIndex_df160 ∈ TB := TB_in (tb2_in 108 rfl) rfl
theorem DJ3_checkIndex_8e157_0 : Dil prog_19_method_11_code 0 0 1 := Or.inr ⟨0, by decide +kernel, rfl, rfl⟩
theorem DJ3_checkIndex_8e157_1 : Db prog_19_method_11_code 1 (.ifCond .lt 8) 8 4 9 := ⟨by decide +kernel, rfl, by decide⟩
theorem DJ3_checkIndex_8e157_4 : Dil prog_19_method_11_code 4 0 5 := Or.inr ⟨0, by decide +kernel, rfl, rfl⟩
theorem DJ3_checkIndex_8e157_5 : Dil prog_19_method_11_code 5 1 6 := Or.inr ⟨1, by decide +kernel, rfl, rfl⟩
theorem DJ3_checkIndex_8e157_6 : Db prog_19_method_11_code 6 (.if_icmp .lt 10) 10 9 16 := ⟨by decide +kernel, rfl, by decide⟩
theorem DJ3_checkIndex_8e157_9 : Dal prog_19_method_11_code 9 2 10 := Or.inr ⟨2, by decide +kernel, rfl, rfl⟩
theorem DJ3_checkIndex_8e157_10 : Dil prog_19_method_11_code 10 0 11 := Or.inr ⟨0, by decide +kernel, rfl, rfl⟩
theorem DJ3_checkIndex_8e157_11 : Dil prog_19_method_11_code 11 1 12 := Or.inr ⟨1, by decide +kernel, rfl, rfl⟩
theorem DJ3_checkIndex_8e157_12 : Dn prog_19_method_11_code 12 (.invokestatic 95) 3 15 := ⟨by decide +kernel, rfl⟩
theorem DJ3_checkIndex_8e157_15 : Dn prog_19_method_11_code 15 (.athrow) 1 16 := ⟨by decide +kernel, rfl⟩
theorem DJ3_checkIndex_8e157_16 : Dil prog_19_method_11_code 16 0 17 := Or.inr ⟨0, by decide +kernel, rfl, rfl⟩
theorem DJ3_checkIndex_8e157_17 : Dn prog_19_method_11_code 17 (.ireturn) 1 18 := ⟨by decide +kernel, rfl⟩
set_option maxRecDepth 100000 in
theorem kztJ0_coder_7d493 : KZt MJ0_coder_7d493 0 := ⟨⟨TB_in (tb2_in 94 rfl) rfl, TB_in (tb1_in 8 rfl) rfl, by decide +kernel, by decide +kernel, by decide +kernel⟩, TB_in (tb2_in 92 rfl) rfl, TB_in (tb2_in 93 rfl) rfl, rfl⟩
set_option maxRecDepth 100000 in
theorem kztJ0_isLatin1_aae02 : KZt MJ0_isLatin1_aae02 0 := ⟨⟨TB_in (tb2_in 104 rfl) rfl, TB_in (tb1_in 8 rfl) rfl, by decide +kernel, by decide +kernel, by decide +kernel⟩, TB_in (tb2_in 102 rfl) rfl, TB_in (tb2_in 103 rfl) rfl, rfl⟩
set_option maxRecDepth 100000 in
theorem kzsJ0_checkIndex_df160 : KZs MJ0_checkIndex_df160 2 := ⟨⟨TB_in (tb2_in 110 rfl) rfl, TB_in (tb1_in 8 rfl) rfl, by decide +kernel, by decide +kernel, by decide +kernel⟩, TB_in (tb2_in 109 rfl) rfl⟩
set_option maxRecDepth 100000 in
theorem kzsJ1_charAt_3b067 : KZs MJ1_charAt_3b067 2 := ⟨⟨TB_in (tb2_in 107 rfl) rfl, TB_in (tb1_in 9 rfl) rfl, by decide +kernel, by decide +kernel, by decide +kernel⟩, TB_in (tb2_in 106 rfl) rfl⟩
set_option maxRecDepth 100000 in
theorem kzsJ3_checkIndex_8e157 : KZs MJ3_checkIndex_8e157 3 := ⟨⟨TB_in (tb2_in 115 rfl) rfl, TB_in (tb1_in 10 rfl) rfl, by decide +kernel, by decide +kernel, by decide +kernel⟩, TB_in (tb2_in 114 rfl) rfl⟩
