/-! the makings (by program) -/
def μX2_init : Mt := (yX2_init, cX2_init, 1, none)
theorem mf_X2_init : MF μX2_init 0 := ⟨by decide +kernel, gm 157 (by decide +kernel) rfl, gm 118 (by decide +kernel) rfl, ⟨by decide +kernel, by decide +kernel⟩, by decide +kernel, by decide⟩
theorem ii_X2_init : Cond.instanceMethod μX2_init.1 ∈ gtb := gm 156 (by decide +kernel) rfl
theorem dX2_init_0 : decode μX2_init.2.1 0 = .ok (.aload_n 0, 1) := by decide +kernel
theorem dX2_init_1 : decode μX2_init.2.1 1 = .ok (.invokespecial 3, 3) := by decide +kernel
theorem dX2_init_4 : decode μX2_init.2.1 4 = .ok (.aload_n 0, 1) := by decide +kernel
theorem dX2_init_5 : decode μX2_init.2.1 5 = .ok (.iconst 0, 1) := by decide +kernel
theorem dX2_init_6 : decode μX2_init.2.1 6 = .ok (.putfield 9, 3) := by decide +kernel
theorem dX2_init_9 : decode μX2_init.2.1 9 = .ok (.aload_n 0, 1) := by decide +kernel
theorem dX2_init_10 : decode μX2_init.2.1 10 = .ok (.iconst 0, 1) := by decide +kernel
theorem dX2_init_11 : decode μX2_init.2.1 11 = .ok (.putfield 15, 3) := by decide +kernel
theorem dX2_init_14 : decode μX2_init.2.1 14 = .ok (.aload_n 0, 1) := by decide +kernel
theorem dX2_init_15 : decode μX2_init.2.1 15 = .ok (.iconst 0, 1) := by decide +kernel
theorem dX2_init_16 : decode μX2_init.2.1 16 = .ok (.putfield 18, 3) := by decide +kernel
theorem dX2_init_19 : decode μX2_init.2.1 19 = .ok (.aload_n 0, 1) := by decide +kernel
theorem dX2_init_20 : decode μX2_init.2.1 20 = .ok (.iconst 0, 1) := by decide +kernel
theorem dX2_init_21 : decode μX2_init.2.1 21 = .ok (.putfield 21, 3) := by decide +kernel
theorem dX2_init_24 : decode μX2_init.2.1 24 = .ok (.aload_n 0, 1) := by decide +kernel
theorem dX2_init_25 : decode μX2_init.2.1 25 = .ok (.iconst 0, 1) := by decide +kernel
theorem dX2_init_26 : decode μX2_init.2.1 26 = .ok (.putfield 24, 3) := by decide +kernel
theorem dX2_init_29 : decode μX2_init.2.1 29 = .ok (.aload_n 0, 1) := by decide +kernel
theorem dX2_init_30 : decode μX2_init.2.1 30 = .ok (.bipush 8, 2) := by decide +kernel
theorem dX2_init_32 : decode μX2_init.2.1 32 = .ok (.newarray .int, 2) := by decide +kernel
theorem dX2_init_34 : decode μX2_init.2.1 34 = .ok (.putfield 27, 3) := by decide +kernel
theorem dX2_init_37 : decode μX2_init.2.1 37 = .ok (.aload_n 0, 1) := by decide +kernel
theorem dX2_init_38 : decode μX2_init.2.1 38 = .ok (.bipush 12, 2) := by decide +kernel
theorem dX2_init_40 : decode μX2_init.2.1 40 = .ok (.newarray .int, 2) := by decide +kernel
theorem dX2_init_42 : decode μX2_init.2.1 42 = .ok (.putfield 31, 3) := by decide +kernel
theorem dX2_init_45 : decode μX2_init.2.1 45 = .ok (.aload_n 0, 1) := by decide +kernel
theorem dX2_init_46 : decode μX2_init.2.1 46 = .ok (.bipush 8, 2) := by decide +kernel
theorem dX2_init_48 : decode μX2_init.2.1 48 = .ok (.newarray .int, 2) := by decide +kernel
theorem dX2_init_50 : decode μX2_init.2.1 50 = .ok (.putfield 34, 3) := by decide +kernel
theorem dX2_init_53 : decode μX2_init.2.1 53 = .ok (.aload_n 0, 1) := by decide +kernel
theorem dX2_init_54 : decode μX2_init.2.1 54 = .ok (.bipush 8, 2) := by decide +kernel
theorem dX2_init_56 : decode μX2_init.2.1 56 = .ok (.newarray .int, 2) := by decide +kernel
theorem dX2_init_58 : decode μX2_init.2.1 58 = .ok (.putfield 37, 3) := by decide +kernel
theorem dX2_init_61 : decode μX2_init.2.1 61 = .ok (.aload_n 0, 1) := by decide +kernel
theorem dX2_init_62 : decode μX2_init.2.1 62 = .ok (.bipush 8, 2) := by decide +kernel
theorem dX2_init_64 : decode μX2_init.2.1 64 = .ok (.newarray .int, 2) := by decide +kernel
theorem dX2_init_66 : decode μX2_init.2.1 66 = .ok (.putfield 40, 3) := by decide +kernel
theorem dX2_init_69 : decode μX2_init.2.1 69 = .ok (.return_, 1) := by decide +kernel
def μX1_init : Mt := (yX1_init, cX1_init, 1, none)
theorem mf_X1_init : MF μX1_init 0 := ⟨by decide +kernel, gm 217 (by decide +kernel) rfl, gm 119 (by decide +kernel) rfl, ⟨by decide +kernel, by decide +kernel⟩, by decide +kernel, by decide⟩
theorem ii_X1_init : Cond.instanceMethod μX1_init.1 ∈ gtb := gm 216 (by decide +kernel) rfl
theorem dX1_init_0 : decode μX1_init.2.1 0 = .ok (.aload_n 0, 1) := by decide +kernel
theorem dX1_init_1 : decode μX1_init.2.1 1 = .ok (.invokespecial 3, 3) := by decide +kernel
theorem dX1_init_4 : decode μX1_init.2.1 4 = .ok (.aload_n 0, 1) := by decide +kernel
theorem dX1_init_5 : decode μX1_init.2.1 5 = .ok (.sipush 270, 3) := by decide +kernel
theorem dX1_init_8 : decode μX1_init.2.1 8 = .ok (.newarray .int, 2) := by decide +kernel
theorem dX1_init_10 : decode μX1_init.2.1 10 = .ok (.putfield 9, 3) := by decide +kernel
theorem dX1_init_13 : decode μX1_init.2.1 13 = .ok (.aload_n 0, 1) := by decide +kernel
theorem dX1_init_14 : decode μX1_init.2.1 14 = .ok (.bipush 31, 2) := by decide +kernel
theorem dX1_init_16 : decode μX1_init.2.1 16 = .ok (.newarray .int, 2) := by decide +kernel
theorem dX1_init_18 : decode μX1_init.2.1 18 = .ok (.putfield 15, 3) := by decide +kernel
theorem dX1_init_21 : decode μX1_init.2.1 21 = .ok (.aload_n 0, 1) := by decide +kernel
theorem dX1_init_22 : decode μX1_init.2.1 22 = .ok (.bipush 6, 2) := by decide +kernel
theorem dX1_init_24 : decode μX1_init.2.1 24 = .ok (.newarray .int, 2) := by decide +kernel
theorem dX1_init_26 : decode μX1_init.2.1 26 = .ok (.putfield 18, 3) := by decide +kernel
theorem dX1_init_29 : decode μX1_init.2.1 29 = .ok (.aload_n 0, 1) := by decide +kernel
theorem dX1_init_30 : decode μX1_init.2.1 30 = .ok (.iconst 0, 1) := by decide +kernel
theorem dX1_init_31 : decode μX1_init.2.1 31 = .ok (.putfield 21, 3) := by decide +kernel
theorem dX1_init_34 : decode μX1_init.2.1 34 = .ok (.aload_n 0, 1) := by decide +kernel
theorem dX1_init_35 : decode μX1_init.2.1 35 = .ok (.iconst 0, 1) := by decide +kernel
theorem dX1_init_36 : decode μX1_init.2.1 36 = .ok (.putfield 25, 3) := by decide +kernel
theorem dX1_init_39 : decode μX1_init.2.1 39 = .ok (.return_, 1) := by decide +kernel
def μX7_init : Mt := (yX7_init, cX7_init, 1, none)
theorem mf_X7_init : MF μX7_init 0 := ⟨by decide +kernel, gm 151 (by decide +kernel) rfl, gm 117 (by decide +kernel) rfl, ⟨by decide +kernel, by decide +kernel⟩, by decide +kernel, by decide⟩
theorem ii_X7_init : Cond.instanceMethod μX7_init.1 ∈ gtb := gm 150 (by decide +kernel) rfl
theorem dX7_init_0 : decode μX7_init.2.1 0 = .ok (.aload_n 0, 1) := by decide +kernel
theorem dX7_init_1 : decode μX7_init.2.1 1 = .ok (.invokespecial 3, 3) := by decide +kernel
theorem dX7_init_4 : decode μX7_init.2.1 4 = .ok (.aload_n 0, 1) := by decide +kernel
theorem dX7_init_5 : decode μX7_init.2.1 5 = .ok (.new 9, 3) := by decide +kernel
theorem dX7_init_8 : decode μX7_init.2.1 8 = .ok (.dup, 1) := by decide +kernel
theorem dX7_init_9 : decode μX7_init.2.1 9 = .ok (.invokespecial 11, 3) := by decide +kernel
theorem dX7_init_12 : decode μX7_init.2.1 12 = .ok (.putfield 12, 3) := by decide +kernel
theorem dX7_init_15 : decode μX7_init.2.1 15 = .ok (.aload_n 0, 1) := by decide +kernel
theorem dX7_init_16 : decode μX7_init.2.1 16 = .ok (.new 18, 3) := by decide +kernel
theorem dX7_init_19 : decode μX7_init.2.1 19 = .ok (.dup, 1) := by decide +kernel
theorem dX7_init_20 : decode μX7_init.2.1 20 = .ok (.invokespecial 20, 3) := by decide +kernel
theorem dX7_init_23 : decode μX7_init.2.1 23 = .ok (.putfield 21, 3) := by decide +kernel
theorem dX7_init_26 : decode μX7_init.2.1 26 = .ok (.aload_n 0, 1) := by decide +kernel
theorem dX7_init_27 : decode μX7_init.2.1 27 = .ok (.bipush 8, 2) := by decide +kernel
theorem dX7_init_29 : decode μX7_init.2.1 29 = .ok (.newarray .long, 2) := by decide +kernel
theorem dX7_init_31 : decode μX7_init.2.1 31 = .ok (.putfield 25, 3) := by decide +kernel
theorem dX7_init_34 : decode μX7_init.2.1 34 = .ok (.aload_n 0, 1) := by decide +kernel
theorem dX7_init_35 : decode μX7_init.2.1 35 = .ok (.iconst 0, 1) := by decide +kernel
theorem dX7_init_36 : decode μX7_init.2.1 36 = .ok (.putfield 29, 3) := by decide +kernel
theorem dX7_init_39 : decode μX7_init.2.1 39 = .ok (.aload_n 0, 1) := by decide +kernel
theorem dX7_init_40 : decode μX7_init.2.1 40 = .ok (.iconst 0, 1) := by decide +kernel
theorem dX7_init_41 : decode μX7_init.2.1 41 = .ok (.putfield 33, 3) := by decide +kernel
theorem dX7_init_44 : decode μX7_init.2.1 44 = .ok (.aload_n 0, 1) := by decide +kernel
theorem dX7_init_45 : decode μX7_init.2.1 45 = .ok (.iconst 0, 1) := by decide +kernel
theorem dX7_init_46 : decode μX7_init.2.1 46 = .ok (.putfield 36, 3) := by decide +kernel
theorem dX7_init_49 : decode μX7_init.2.1 49 = .ok (.aload_n 0, 1) := by decide +kernel
theorem dX7_init_50 : decode μX7_init.2.1 50 = .ok (.iconst 0, 1) := by decide +kernel
theorem dX7_init_51 : decode μX7_init.2.1 51 = .ok (.putfield 40, 3) := by decide +kernel
theorem dX7_init_54 : decode μX7_init.2.1 54 = .ok (.aload_n 0, 1) := by decide +kernel
theorem dX7_init_55 : decode μX7_init.2.1 55 = .ok (.iconst 0, 1) := by decide +kernel
theorem dX7_init_56 : decode μX7_init.2.1 56 = .ok (.putfield 43, 3) := by decide +kernel
theorem dX7_init_59 : decode μX7_init.2.1 59 = .ok (.return_, 1) := by decide +kernel
def μX6_init : Mt := (yX6_init, cX6_init, 1, none)
theorem mf_X6_init : MF μX6_init 0 := ⟨by decide +kernel, gm 145 (by decide +kernel) rfl, gm 116 (by decide +kernel) rfl, ⟨by decide +kernel, by decide +kernel⟩, by decide +kernel, by decide⟩
theorem ii_X6_init : Cond.instanceMethod μX6_init.1 ∈ gtb := gm 144 (by decide +kernel) rfl
theorem dX6_init_0 : decode μX6_init.2.1 0 = .ok (.aload_n 0, 1) := by decide +kernel
theorem dX6_init_1 : decode μX6_init.2.1 1 = .ok (.invokespecial 3, 3) := by decide +kernel
theorem dX6_init_4 : decode μX6_init.2.1 4 = .ok (.aload_n 0, 1) := by decide +kernel
theorem dX6_init_5 : decode μX6_init.2.1 5 = .ok (.iconst 0, 1) := by decide +kernel
theorem dX6_init_6 : decode μX6_init.2.1 6 = .ok (.putfield 9, 3) := by decide +kernel
theorem dX6_init_9 : decode μX6_init.2.1 9 = .ok (.aload_n 0, 1) := by decide +kernel
theorem dX6_init_10 : decode μX6_init.2.1 10 = .ok (.iconst (-1), 1) := by decide +kernel
theorem dX6_init_11 : decode μX6_init.2.1 11 = .ok (.putfield 15, 3) := by decide +kernel
theorem dX6_init_14 : decode μX6_init.2.1 14 = .ok (.aload_n 0, 1) := by decide +kernel
theorem dX6_init_15 : decode μX6_init.2.1 15 = .ok (.iconst 0, 1) := by decide +kernel
theorem dX6_init_16 : decode μX6_init.2.1 16 = .ok (.putfield 18, 3) := by decide +kernel
theorem dX6_init_19 : decode μX6_init.2.1 19 = .ok (.aload_n 0, 1) := by decide +kernel
theorem dX6_init_20 : decode μX6_init.2.1 20 = .ok (.new 21, 3) := by decide +kernel
theorem dX6_init_23 : decode μX6_init.2.1 23 = .ok (.dup, 1) := by decide +kernel
theorem dX6_init_24 : decode μX6_init.2.1 24 = .ok (.invokespecial 23, 3) := by decide +kernel
theorem dX6_init_27 : decode μX6_init.2.1 27 = .ok (.putfield 24, 3) := by decide +kernel
theorem dX6_init_30 : decode μX6_init.2.1 30 = .ok (.aload_n 0, 1) := by decide +kernel
theorem dX6_init_31 : decode μX6_init.2.1 31 = .ok (.sipush 1600, 3) := by decide +kernel
theorem dX6_init_34 : decode μX6_init.2.1 34 = .ok (.newarray .byte, 2) := by decide +kernel
theorem dX6_init_36 : decode μX6_init.2.1 36 = .ok (.putfield 28, 3) := by decide +kernel
theorem dX6_init_39 : decode μX6_init.2.1 39 = .ok (.aload_n 0, 1) := by decide +kernel
theorem dX6_init_40 : decode μX6_init.2.1 40 = .ok (.iconst 0, 1) := by decide +kernel
theorem dX6_init_41 : decode μX6_init.2.1 41 = .ok (.putfield 32, 3) := by decide +kernel
theorem dX6_init_44 : decode μX6_init.2.1 44 = .ok (.aload_n 0, 1) := by decide +kernel
theorem dX6_init_45 : decode μX6_init.2.1 45 = .ok (.iconst 0, 1) := by decide +kernel
theorem dX6_init_46 : decode μX6_init.2.1 46 = .ok (.putfield 35, 3) := by decide +kernel
theorem dX6_init_49 : decode μX6_init.2.1 49 = .ok (.aload_n 0, 1) := by decide +kernel
theorem dX6_init_50 : decode μX6_init.2.1 50 = .ok (.iconst 0, 1) := by decide +kernel
theorem dX6_init_51 : decode μX6_init.2.1 51 = .ok (.putfield 38, 3) := by decide +kernel
theorem dX6_init_54 : decode μX6_init.2.1 54 = .ok (.aload_n 0, 1) := by decide +kernel
theorem dX6_init_55 : decode μX6_init.2.1 55 = .ok (.iconst 0, 1) := by decide +kernel
theorem dX6_init_56 : decode μX6_init.2.1 56 = .ok (.putfield 41, 3) := by decide +kernel
theorem dX6_init_59 : decode μX6_init.2.1 59 = .ok (.aload_n 0, 1) := by decide +kernel
theorem dX6_init_60 : decode μX6_init.2.1 60 = .ok (.iconst 0, 1) := by decide +kernel
theorem dX6_init_61 : decode μX6_init.2.1 61 = .ok (.putfield 44, 3) := by decide +kernel
theorem dX6_init_64 : decode μX6_init.2.1 64 = .ok (.aload_n 0, 1) := by decide +kernel
theorem dX6_init_65 : decode μX6_init.2.1 65 = .ok (.iconst (-1), 1) := by decide +kernel
theorem dX6_init_66 : decode μX6_init.2.1 66 = .ok (.putfield 47, 3) := by decide +kernel
theorem dX6_init_69 : decode μX6_init.2.1 69 = .ok (.aload_n 0, 1) := by decide +kernel
theorem dX6_init_70 : decode μX6_init.2.1 70 = .ok (.lconst 0, 1) := by decide +kernel
theorem dX6_init_71 : decode μX6_init.2.1 71 = .ok (.putfield 50, 3) := by decide +kernel
theorem dX6_init_74 : decode μX6_init.2.1 74 = .ok (.return_, 1) := by decide +kernel
def μX3_init : Mt := (yX3_init, cX3_init, 1, none)
theorem mf_X3_init : MF μX3_init 0 := ⟨by decide +kernel, gm 325 (by decide +kernel) rfl, gm 120 (by decide +kernel) rfl, ⟨by decide +kernel, by decide +kernel⟩, by decide +kernel, by decide⟩
theorem ii_X3_init : Cond.instanceMethod μX3_init.1 ∈ gtb := gm 324 (by decide +kernel) rfl
theorem dX3_init_0 : decode μX3_init.2.1 0 = .ok (.aload_n 0, 1) := by decide +kernel
theorem dX3_init_1 : decode μX3_init.2.1 1 = .ok (.invokespecial 3, 3) := by decide +kernel
theorem dX3_init_4 : decode μX3_init.2.1 4 = .ok (.aload_n 0, 1) := by decide +kernel
theorem dX3_init_5 : decode μX3_init.2.1 5 = .ok (.iconst 0, 1) := by decide +kernel
theorem dX3_init_6 : decode μX3_init.2.1 6 = .ok (.putfield 9, 3) := by decide +kernel
theorem dX3_init_9 : decode μX3_init.2.1 9 = .ok (.aload_n 0, 1) := by decide +kernel
theorem dX3_init_10 : decode μX3_init.2.1 10 = .ok (.iconst 0, 1) := by decide +kernel
theorem dX3_init_11 : decode μX3_init.2.1 11 = .ok (.putfield 15, 3) := by decide +kernel
theorem dX3_init_14 : decode μX3_init.2.1 14 = .ok (.aload_n 0, 1) := by decide +kernel
theorem dX3_init_15 : decode μX3_init.2.1 15 = .ok (.sipush 984, 3) := by decide +kernel
theorem dX3_init_18 : decode μX3_init.2.1 18 = .ok (.newarray .int, 2) := by decide +kernel
theorem dX3_init_20 : decode μX3_init.2.1 20 = .ok (.putfield 20, 3) := by decide +kernel
theorem dX3_init_23 : decode μX3_init.2.1 23 = .ok (.aload_n 0, 1) := by decide +kernel
theorem dX3_init_24 : decode μX3_init.2.1 24 = .ok (.iconst 0, 1) := by decide +kernel
theorem dX3_init_25 : decode μX3_init.2.1 25 = .ok (.putfield 24, 3) := by decide +kernel
theorem dX3_init_28 : decode μX3_init.2.1 28 = .ok (.return_, 1) := by decide +kernel
def μX5_init : Mt := (yX5_init, cX5_init, 1, none)
theorem mf_X5_init : MF μX5_init 0 := ⟨by decide +kernel, gm 346 (by decide +kernel) rfl, gm 121 (by decide +kernel) rfl, ⟨by decide +kernel, by decide +kernel⟩, by decide +kernel, by decide⟩
theorem ii_X5_init : Cond.instanceMethod μX5_init.1 ∈ gtb := gm 345 (by decide +kernel) rfl
theorem dX5_init_0 : decode μX5_init.2.1 0 = .ok (.aload_n 0, 1) := by decide +kernel
theorem dX5_init_1 : decode μX5_init.2.1 1 = .ok (.invokespecial 3, 3) := by decide +kernel
theorem dX5_init_4 : decode μX5_init.2.1 4 = .ok (.aload_n 0, 1) := by decide +kernel
theorem dX5_init_5 : decode μX5_init.2.1 5 = .ok (.bipush 8, 2) := by decide +kernel
theorem dX5_init_7 : decode μX5_init.2.1 7 = .ok (.newarray .int, 2) := by decide +kernel
theorem dX5_init_9 : decode μX5_init.2.1 9 = .ok (.putfield 9, 3) := by decide +kernel
theorem dX5_init_12 : decode μX5_init.2.1 12 = .ok (.aload_n 0, 1) := by decide +kernel
theorem dX5_init_13 : decode μX5_init.2.1 13 = .ok (.bipush 8, 2) := by decide +kernel
theorem dX5_init_15 : decode μX5_init.2.1 15 = .ok (.newarray .int, 2) := by decide +kernel
theorem dX5_init_17 : decode μX5_init.2.1 17 = .ok (.putfield 15, 3) := by decide +kernel
theorem dX5_init_20 : decode μX5_init.2.1 20 = .ok (.aload_n 0, 1) := by decide +kernel
theorem dX5_init_21 : decode μX5_init.2.1 21 = .ok (.iconst 0, 1) := by decide +kernel
theorem dX5_init_22 : decode μX5_init.2.1 22 = .ok (.putfield 18, 3) := by decide +kernel
theorem dX5_init_25 : decode μX5_init.2.1 25 = .ok (.return_, 1) := by decide +kernel
def μX0_init : Mt := (yX0_init, cX0_init, 1, none)
theorem mf_X0_init : MF μX0_init 0 := ⟨by decide +kernel, gm 363 (by decide +kernel) rfl, gm 122 (by decide +kernel) rfl, ⟨by decide +kernel, by decide +kernel⟩, by decide +kernel, by decide⟩
theorem ii_X0_init : Cond.instanceMethod μX0_init.1 ∈ gtb := gm 362 (by decide +kernel) rfl
theorem dX0_init_0 : decode μX0_init.2.1 0 = .ok (.aload_n 0, 1) := by decide +kernel
theorem dX0_init_1 : decode μX0_init.2.1 1 = .ok (.invokespecial 3, 3) := by decide +kernel
theorem dX0_init_4 : decode μX0_init.2.1 4 = .ok (.aload_n 0, 1) := by decide +kernel
theorem dX0_init_5 : decode μX0_init.2.1 5 = .ok (.iconst (-1), 1) := by decide +kernel
theorem dX0_init_6 : decode μX0_init.2.1 6 = .ok (.putfield 9, 3) := by decide +kernel
theorem dX0_init_9 : decode μX0_init.2.1 9 = .ok (.aload_n 0, 1) := by decide +kernel
theorem dX0_init_10 : decode μX0_init.2.1 10 = .ok (.iconst (-1), 1) := by decide +kernel
theorem dX0_init_11 : decode μX0_init.2.1 11 = .ok (.putfield 15, 3) := by decide +kernel
theorem dX0_init_14 : decode μX0_init.2.1 14 = .ok (.aload_n 0, 1) := by decide +kernel
theorem dX0_init_15 : decode μX0_init.2.1 15 = .ok (.bipush 81, 2) := by decide +kernel
theorem dX0_init_17 : decode μX0_init.2.1 17 = .ok (.newarray .int, 2) := by decide +kernel
theorem dX0_init_19 : decode μX0_init.2.1 19 = .ok (.putfield 18, 3) := by decide +kernel
theorem dX0_init_22 : decode μX0_init.2.1 22 = .ok (.aload_n 0, 1) := by decide +kernel
theorem dX0_init_23 : decode μX0_init.2.1 23 = .ok (.bipush 81, 2) := by decide +kernel
theorem dX0_init_25 : decode μX0_init.2.1 25 = .ok (.newarray .int, 2) := by decide +kernel
theorem dX0_init_27 : decode μX0_init.2.1 27 = .ok (.putfield 22, 3) := by decide +kernel
theorem dX0_init_30 : decode μX0_init.2.1 30 = .ok (.aload_n 0, 1) := by decide +kernel
theorem dX0_init_31 : decode μX0_init.2.1 31 = .ok (.iconst 0, 1) := by decide +kernel
theorem dX0_init_32 : decode μX0_init.2.1 32 = .ok (.putfield 25, 3) := by decide +kernel
theorem dX0_init_35 : decode μX0_init.2.1 35 = .ok (.aload_n 0, 1) := by decide +kernel
theorem dX0_init_36 : decode μX0_init.2.1 36 = .ok (.iconst 0, 1) := by decide +kernel
theorem dX0_init_37 : decode μX0_init.2.1 37 = .ok (.putfield 28, 3) := by decide +kernel
theorem dX0_init_40 : decode μX0_init.2.1 40 = .ok (.return_, 1) := by decide +kernel
def μX4_init : Mt := (yX4_init, cX4_init, 1, none)
theorem mf_X4_init : MF μX4_init 0 := ⟨by decide +kernel, gm 390 (by decide +kernel) rfl, gm 123 (by decide +kernel) rfl, ⟨by decide +kernel, by decide +kernel⟩, by decide +kernel, by decide⟩
theorem ii_X4_init : Cond.instanceMethod μX4_init.1 ∈ gtb := gm 389 (by decide +kernel) rfl
theorem dX4_init_0 : decode μX4_init.2.1 0 = .ok (.aload_n 0, 1) := by decide +kernel
theorem dX4_init_1 : decode μX4_init.2.1 1 = .ok (.invokespecial 3, 3) := by decide +kernel
theorem dX4_init_4 : decode μX4_init.2.1 4 = .ok (.aload_n 0, 1) := by decide +kernel
theorem dX4_init_5 : decode μX4_init.2.1 5 = .ok (.iconst 0, 1) := by decide +kernel
theorem dX4_init_6 : decode μX4_init.2.1 6 = .ok (.putfield 9, 3) := by decide +kernel
theorem dX4_init_9 : decode μX4_init.2.1 9 = .ok (.aload_n 0, 1) := by decide +kernel
theorem dX4_init_10 : decode μX4_init.2.1 10 = .ok (.bipush 30, 2) := by decide +kernel
theorem dX4_init_12 : decode μX4_init.2.1 12 = .ok (.newarray .int, 2) := by decide +kernel
theorem dX4_init_14 : decode μX4_init.2.1 14 = .ok (.putfield 15, 3) := by decide +kernel
theorem dX4_init_17 : decode μX4_init.2.1 17 = .ok (.aload_n 0, 1) := by decide +kernel
theorem dX4_init_18 : decode μX4_init.2.1 18 = .ok (.bipush 30, 2) := by decide +kernel
theorem dX4_init_20 : decode μX4_init.2.1 20 = .ok (.newarray .int, 2) := by decide +kernel
theorem dX4_init_22 : decode μX4_init.2.1 22 = .ok (.putfield 19, 3) := by decide +kernel
theorem dX4_init_25 : decode μX4_init.2.1 25 = .ok (.aload_n 0, 1) := by decide +kernel
theorem dX4_init_26 : decode μX4_init.2.1 26 = .ok (.bipush 30, 2) := by decide +kernel
theorem dX4_init_28 : decode μX4_init.2.1 28 = .ok (.newarray .boolean, 2) := by decide +kernel
theorem dX4_init_30 : decode μX4_init.2.1 30 = .ok (.putfield 22, 3) := by decide +kernel
theorem dX4_init_33 : decode μX4_init.2.1 33 = .ok (.aload_n 0, 1) := by decide +kernel
theorem dX4_init_34 : decode μX4_init.2.1 34 = .ok (.bipush 30, 2) := by decide +kernel
theorem dX4_init_36 : decode μX4_init.2.1 36 = .ok (.newarray .int, 2) := by decide +kernel
theorem dX4_init_38 : decode μX4_init.2.1 38 = .ok (.putfield 26, 3) := by decide +kernel
theorem dX4_init_41 : decode μX4_init.2.1 41 = .ok (.aload_n 0, 1) := by decide +kernel
theorem dX4_init_42 : decode μX4_init.2.1 42 = .ok (.bipush 30, 2) := by decide +kernel
theorem dX4_init_44 : decode μX4_init.2.1 44 = .ok (.newarray .int, 2) := by decide +kernel
theorem dX4_init_46 : decode μX4_init.2.1 46 = .ok (.putfield 29, 3) := by decide +kernel
theorem dX4_init_49 : decode μX4_init.2.1 49 = .ok (.aload_n 0, 1) := by decide +kernel
theorem dX4_init_50 : decode μX4_init.2.1 50 = .ok (.sipush 403, 3) := by decide +kernel
theorem dX4_init_53 : decode μX4_init.2.1 53 = .ok (.newarray .int, 2) := by decide +kernel
theorem dX4_init_55 : decode μX4_init.2.1 55 = .ok (.putfield 32, 3) := by decide +kernel
theorem dX4_init_58 : decode μX4_init.2.1 58 = .ok (.aload_n 0, 1) := by decide +kernel
theorem dX4_init_59 : decode μX4_init.2.1 59 = .ok (.iconst 0, 1) := by decide +kernel
theorem dX4_init_60 : decode μX4_init.2.1 60 = .ok (.putfield 35, 3) := by decide +kernel
theorem dX4_init_63 : decode μX4_init.2.1 63 = .ok (.aload_n 0, 1) := by decide +kernel
theorem dX4_init_64 : decode μX4_init.2.1 64 = .ok (.bipush 31, 2) := by decide +kernel
theorem dX4_init_66 : decode μX4_init.2.1 66 = .ok (.newarray .boolean, 2) := by decide +kernel
theorem dX4_init_68 : decode μX4_init.2.1 68 = .ok (.putfield 39, 3) := by decide +kernel
theorem dX4_init_71 : decode μX4_init.2.1 71 = .ok (.aload_n 0, 1) := by decide +kernel
theorem dX4_init_72 : decode μX4_init.2.1 72 = .ok (.bipush 9, 2) := by decide +kernel
theorem dX4_init_74 : decode μX4_init.2.1 74 = .ok (.newarray .int, 2) := by decide +kernel
theorem dX4_init_76 : decode μX4_init.2.1 76 = .ok (.putfield 42, 3) := by decide +kernel
theorem dX4_init_79 : decode μX4_init.2.1 79 = .ok (.return_, 1) := by decide +kernel
def μX8_init : Mt := (yX8_init, cX8_init, 1, none)
theorem mf_X8_init : MF μX8_init 0 := ⟨by decide +kernel, gm 137 (by decide +kernel) rfl, gm 115 (by decide +kernel) rfl, ⟨by decide +kernel, by decide +kernel⟩, by decide +kernel, by decide⟩
theorem ii_X8_init : Cond.instanceMethod μX8_init.1 ∈ gtb := gm 136 (by decide +kernel) rfl
theorem dX8_init_0 : decode μX8_init.2.1 0 = .ok (.aload_n 0, 1) := by decide +kernel
theorem dX8_init_1 : decode μX8_init.2.1 1 = .ok (.invokespecial 1, 3) := by decide +kernel
theorem dX8_init_4 : decode μX8_init.2.1 4 = .ok (.aload_n 0, 1) := by decide +kernel
theorem dX8_init_5 : decode μX8_init.2.1 5 = .ok (.new 7, 3) := by decide +kernel
theorem dX8_init_8 : decode μX8_init.2.1 8 = .ok (.dup, 1) := by decide +kernel
theorem dX8_init_9 : decode μX8_init.2.1 9 = .ok (.invokespecial 9, 3) := by decide +kernel
theorem dX8_init_12 : decode μX8_init.2.1 12 = .ok (.putfield 10, 3) := by decide +kernel
theorem dX8_init_15 : decode μX8_init.2.1 15 = .ok (.aload_n 0, 1) := by decide +kernel
theorem dX8_init_16 : decode μX8_init.2.1 16 = .ok (.new 16, 3) := by decide +kernel
theorem dX8_init_19 : decode μX8_init.2.1 19 = .ok (.dup, 1) := by decide +kernel
theorem dX8_init_20 : decode μX8_init.2.1 20 = .ok (.invokespecial 18, 3) := by decide +kernel
theorem dX8_init_23 : decode μX8_init.2.1 23 = .ok (.putfield 19, 3) := by decide +kernel
theorem dX8_init_26 : decode μX8_init.2.1 26 = .ok (.aload_n 0, 1) := by decide +kernel
theorem dX8_init_27 : decode μX8_init.2.1 27 = .ok (.new 23, 3) := by decide +kernel
theorem dX8_init_30 : decode μX8_init.2.1 30 = .ok (.dup, 1) := by decide +kernel
theorem dX8_init_31 : decode μX8_init.2.1 31 = .ok (.invokespecial 25, 3) := by decide +kernel
theorem dX8_init_34 : decode μX8_init.2.1 34 = .ok (.putfield 26, 3) := by decide +kernel
theorem dX8_init_37 : decode μX8_init.2.1 37 = .ok (.aload_n 0, 1) := by decide +kernel
theorem dX8_init_38 : decode μX8_init.2.1 38 = .ok (.new 23, 3) := by decide +kernel
theorem dX8_init_41 : decode μX8_init.2.1 41 = .ok (.dup, 1) := by decide +kernel
theorem dX8_init_42 : decode μX8_init.2.1 42 = .ok (.invokespecial 25, 3) := by decide +kernel
theorem dX8_init_45 : decode μX8_init.2.1 45 = .ok (.putfield 30, 3) := by decide +kernel
theorem dX8_init_48 : decode μX8_init.2.1 48 = .ok (.aload_n 0, 1) := by decide +kernel
theorem dX8_init_49 : decode μX8_init.2.1 49 = .ok (.new 33, 3) := by decide +kernel
theorem dX8_init_52 : decode μX8_init.2.1 52 = .ok (.dup, 1) := by decide +kernel
theorem dX8_init_53 : decode μX8_init.2.1 53 = .ok (.invokespecial 35, 3) := by decide +kernel
theorem dX8_init_56 : decode μX8_init.2.1 56 = .ok (.putfield 36, 3) := by decide +kernel
theorem dX8_init_59 : decode μX8_init.2.1 59 = .ok (.aload_n 0, 1) := by decide +kernel
theorem dX8_init_60 : decode μX8_init.2.1 60 = .ok (.bipush 72, 2) := by decide +kernel
theorem dX8_init_62 : decode μX8_init.2.1 62 = .ok (.newarray .int, 2) := by decide +kernel
theorem dX8_init_64 : decode μX8_init.2.1 64 = .ok (.putfield 40, 3) := by decide +kernel
theorem dX8_init_67 : decode μX8_init.2.1 67 = .ok (.aload_n 0, 1) := by decide +kernel
theorem dX8_init_68 : decode μX8_init.2.1 68 = .ok (.iconst 0, 1) := by decide +kernel
theorem dX8_init_69 : decode μX8_init.2.1 69 = .ok (.putfield 44, 3) := by decide +kernel
theorem dX8_init_72 : decode μX8_init.2.1 72 = .ok (.aload_n 0, 1) := by decide +kernel
theorem dX8_init_73 : decode μX8_init.2.1 73 = .ok (.new 48, 3) := by decide +kernel
theorem dX8_init_76 : decode μX8_init.2.1 76 = .ok (.dup, 1) := by decide +kernel
theorem dX8_init_77 : decode μX8_init.2.1 77 = .ok (.invokespecial 50, 3) := by decide +kernel
theorem dX8_init_80 : decode μX8_init.2.1 80 = .ok (.putfield 51, 3) := by decide +kernel
theorem dX8_init_83 : decode μX8_init.2.1 83 = .ok (.aload_n 0, 1) := by decide +kernel
theorem dX8_init_84 : decode μX8_init.2.1 84 = .ok (.new 55, 3) := by decide +kernel
theorem dX8_init_87 : decode μX8_init.2.1 87 = .ok (.dup, 1) := by decide +kernel
theorem dX8_init_88 : decode μX8_init.2.1 88 = .ok (.invokespecial 57, 3) := by decide +kernel
theorem dX8_init_91 : decode μX8_init.2.1 91 = .ok (.putfield 58, 3) := by decide +kernel
theorem dX8_init_94 : decode μX8_init.2.1 94 = .ok (.aload_n 0, 1) := by decide +kernel
theorem dX8_init_95 : decode μX8_init.2.1 95 = .ok (.new 62, 3) := by decide +kernel
theorem dX8_init_98 : decode μX8_init.2.1 98 = .ok (.dup, 1) := by decide +kernel
theorem dX8_init_99 : decode μX8_init.2.1 99 = .ok (.invokespecial 64, 3) := by decide +kernel
theorem dX8_init_102 : decode μX8_init.2.1 102 = .ok (.putfield 65, 3) := by decide +kernel
theorem dX8_init_105 : decode μX8_init.2.1 105 = .ok (.aload_n 0, 1) := by decide +kernel
theorem dX8_init_106 : decode μX8_init.2.1 106 = .ok (.iconst 0, 1) := by decide +kernel
theorem dX8_init_107 : decode μX8_init.2.1 107 = .ok (.putfield 69, 3) := by decide +kernel
theorem dX8_init_110 : decode μX8_init.2.1 110 = .ok (.aload_n 0, 1) := by decide +kernel
theorem dX8_init_111 : decode μX8_init.2.1 111 = .ok (.bipush 8, 2) := by decide +kernel
theorem dX8_init_113 : decode μX8_init.2.1 113 = .ok (.newarray .int, 2) := by decide +kernel
theorem dX8_init_115 : decode μX8_init.2.1 115 = .ok (.putfield 72, 3) := by decide +kernel
theorem dX8_init_118 : decode μX8_init.2.1 118 = .ok (.aload_n 0, 1) := by decide +kernel
theorem dX8_init_119 : decode μX8_init.2.1 119 = .ok (.iconst 0, 1) := by decide +kernel
theorem dX8_init_120 : decode μX8_init.2.1 120 = .ok (.putfield 75, 3) := by decide +kernel
theorem dX8_init_123 : decode μX8_init.2.1 123 = .ok (.return_, 1) := by decide +kernel
def μX9_init : Mt := (yX9_init, cX9_init, 1, none)
theorem mf_X9_init : MF μX9_init 0 := ⟨by decide +kernel, gm 1168 (by decide +kernel) rfl, gm 124 (by decide +kernel) rfl, ⟨by decide +kernel, by decide +kernel⟩, by decide +kernel, by decide⟩
theorem ii_X9_init : Cond.instanceMethod μX9_init.1 ∈ gtb := gm 1167 (by decide +kernel) rfl
theorem dX9_init_0 : decode μX9_init.2.1 0 = .ok (.aload_n 0, 1) := by decide +kernel
theorem dX9_init_1 : decode μX9_init.2.1 1 = .ok (.invokespecial 1, 3) := by decide +kernel
theorem dX9_init_4 : decode μX9_init.2.1 4 = .ok (.aload_n 0, 1) := by decide +kernel
theorem dX9_init_5 : decode μX9_init.2.1 5 = .ok (.sipush 1600, 3) := by decide +kernel
theorem dX9_init_8 : decode μX9_init.2.1 8 = .ok (.newarray .int, 2) := by decide +kernel
theorem dX9_init_10 : decode μX9_init.2.1 10 = .ok (.putfield 7, 3) := by decide +kernel
theorem dX9_init_13 : decode μX9_init.2.1 13 = .ok (.aload_n 0, 1) := by decide +kernel
theorem dX9_init_14 : decode μX9_init.2.1 14 = .ok (.iconst (-1), 1) := by decide +kernel
theorem dX9_init_15 : decode μX9_init.2.1 15 = .ok (.putfield 13, 3) := by decide +kernel
theorem dX9_init_18 : decode μX9_init.2.1 18 = .ok (.aload_n 0, 1) := by decide +kernel
theorem dX9_init_19 : decode μX9_init.2.1 19 = .ok (.bipush 8, 2) := by decide +kernel
theorem dX9_init_21 : decode μX9_init.2.1 21 = .ok (.newarray .long, 2) := by decide +kernel
theorem dX9_init_23 : decode μX9_init.2.1 23 = .ok (.putfield 17, 3) := by decide +kernel
theorem dX9_init_26 : decode μX9_init.2.1 26 = .ok (.aload_n 0, 1) := by decide +kernel
theorem dX9_init_27 : decode μX9_init.2.1 27 = .ok (.sipush 320, 3) := by decide +kernel
theorem dX9_init_30 : decode μX9_init.2.1 30 = .ok (.newarray .int, 2) := by decide +kernel
theorem dX9_init_32 : decode μX9_init.2.1 32 = .ok (.putfield 21, 3) := by decide +kernel
theorem dX9_init_35 : decode μX9_init.2.1 35 = .ok (.aload_n 0, 1) := by decide +kernel
theorem dX9_init_36 : decode μX9_init.2.1 36 = .ok (.sipush 320, 3) := by decide +kernel
theorem dX9_init_39 : decode μX9_init.2.1 39 = .ok (.newarray .int, 2) := by decide +kernel
theorem dX9_init_41 : decode μX9_init.2.1 41 = .ok (.putfield 24, 3) := by decide +kernel
theorem dX9_init_44 : decode μX9_init.2.1 44 = .ok (.aload_n 0, 1) := by decide +kernel
theorem dX9_init_45 : decode μX9_init.2.1 45 = .ok (.sipush 320, 3) := by decide +kernel
theorem dX9_init_48 : decode μX9_init.2.1 48 = .ok (.newarray .int, 2) := by decide +kernel
theorem dX9_init_50 : decode μX9_init.2.1 50 = .ok (.putfield 27, 3) := by decide +kernel
theorem dX9_init_53 : decode μX9_init.2.1 53 = .ok (.aload_n 0, 1) := by decide +kernel
theorem dX9_init_54 : decode μX9_init.2.1 54 = .ok (.sipush 320, 3) := by decide +kernel
theorem dX9_init_57 : decode μX9_init.2.1 57 = .ok (.newarray .int, 2) := by decide +kernel
theorem dX9_init_59 : decode μX9_init.2.1 59 = .ok (.putfield 30, 3) := by decide +kernel
theorem dX9_init_62 : decode μX9_init.2.1 62 = .ok (.aload_n 0, 1) := by decide +kernel
theorem dX9_init_63 : decode μX9_init.2.1 63 = .ok (.sipush 160, 3) := by decide +kernel
theorem dX9_init_66 : decode μX9_init.2.1 66 = .ok (.newarray .int, 2) := by decide +kernel
theorem dX9_init_68 : decode μX9_init.2.1 68 = .ok (.putfield 33, 3) := by decide +kernel
theorem dX9_init_71 : decode μX9_init.2.1 71 = .ok (.aload_n 0, 1) := by decide +kernel
theorem dX9_init_72 : decode μX9_init.2.1 72 = .ok (.bipush 64, 2) := by decide +kernel
theorem dX9_init_74 : decode μX9_init.2.1 74 = .ok (.newarray .int, 2) := by decide +kernel
theorem dX9_init_76 : decode μX9_init.2.1 76 = .ok (.putfield 36, 3) := by decide +kernel
theorem dX9_init_79 : decode μX9_init.2.1 79 = .ok (.aload_n 0, 1) := by decide +kernel
theorem dX9_init_80 : decode μX9_init.2.1 80 = .ok (.iconst 5, 1) := by decide +kernel
theorem dX9_init_81 : decode μX9_init.2.1 81 = .ok (.newarray .int, 2) := by decide +kernel
theorem dX9_init_83 : decode μX9_init.2.1 83 = .ok (.putfield 39, 3) := by decide +kernel
theorem dX9_init_86 : decode μX9_init.2.1 86 = .ok (.aload_n 0, 1) := by decide +kernel
theorem dX9_init_87 : decode μX9_init.2.1 87 = .ok (.bipush 24, 2) := by decide +kernel
theorem dX9_init_89 : decode μX9_init.2.1 89 = .ok (.newarray .int, 2) := by decide +kernel
theorem dX9_init_91 : decode μX9_init.2.1 91 = .ok (.putfield 42, 3) := by decide +kernel
theorem dX9_init_94 : decode μX9_init.2.1 94 = .ok (.aload_n 0, 1) := by decide +kernel
theorem dX9_init_95 : decode μX9_init.2.1 95 = .ok (.bipush 24, 2) := by decide +kernel
theorem dX9_init_97 : decode μX9_init.2.1 97 = .ok (.newarray .int, 2) := by decide +kernel
theorem dX9_init_99 : decode μX9_init.2.1 99 = .ok (.putfield 45, 3) := by decide +kernel
theorem dX9_init_102 : decode μX9_init.2.1 102 = .ok (.aload_n 0, 1) := by decide +kernel
theorem dX9_init_103 : decode μX9_init.2.1 103 = .ok (.bipush 24, 2) := by decide +kernel
theorem dX9_init_105 : decode μX9_init.2.1 105 = .ok (.newarray .int, 2) := by decide +kernel
theorem dX9_init_107 : decode μX9_init.2.1 107 = .ok (.putfield 48, 3) := by decide +kernel
theorem dX9_init_110 : decode μX9_init.2.1 110 = .ok (.aload_n 0, 1) := by decide +kernel
theorem dX9_init_111 : decode μX9_init.2.1 111 = .ok (.bipush 8, 2) := by decide +kernel
theorem dX9_init_113 : decode μX9_init.2.1 113 = .ok (.newarray .int, 2) := by decide +kernel
theorem dX9_init_115 : decode μX9_init.2.1 115 = .ok (.putfield 51, 3) := by decide +kernel
theorem dX9_init_118 : decode μX9_init.2.1 118 = .ok (.aload_n 0, 1) := by decide +kernel
theorem dX9_init_119 : decode μX9_init.2.1 119 = .ok (.sipush 960, 3) := by decide +kernel
theorem dX9_init_122 : decode μX9_init.2.1 122 = .ok (.newarray .int, 2) := by decide +kernel
theorem dX9_init_124 : decode μX9_init.2.1 124 = .ok (.putfield 54, 3) := by decide +kernel
theorem dX9_init_127 : decode μX9_init.2.1 127 = .ok (.aload_n 0, 1) := by decide +kernel
theorem dX9_init_128 : decode μX9_init.2.1 128 = .ok (.bipush 8, 2) := by decide +kernel
theorem dX9_init_130 : decode μX9_init.2.1 130 = .ok (.newarray .int, 2) := by decide +kernel
theorem dX9_init_132 : decode μX9_init.2.1 132 = .ok (.putfield 57, 3) := by decide +kernel
theorem dX9_init_135 : decode μX9_init.2.1 135 = .ok (.aload_n 0, 1) := by decide +kernel
theorem dX9_init_136 : decode μX9_init.2.1 136 = .ok (.bipush 8, 2) := by decide +kernel
theorem dX9_init_138 : decode μX9_init.2.1 138 = .ok (.newarray .int, 2) := by decide +kernel
theorem dX9_init_140 : decode μX9_init.2.1 140 = .ok (.putfield 60, 3) := by decide +kernel
theorem dX9_init_143 : decode μX9_init.2.1 143 = .ok (.aload_n 0, 1) := by decide +kernel
theorem dX9_init_144 : decode μX9_init.2.1 144 = .ok (.bipush 8, 2) := by decide +kernel
theorem dX9_init_146 : decode μX9_init.2.1 146 = .ok (.newarray .int, 2) := by decide +kernel
theorem dX9_init_148 : decode μX9_init.2.1 148 = .ok (.putfield 63, 3) := by decide +kernel
theorem dX9_init_151 : decode μX9_init.2.1 151 = .ok (.aload_n 0, 1) := by decide +kernel
theorem dX9_init_152 : decode μX9_init.2.1 152 = .ok (.bipush 81, 2) := by decide +kernel
theorem dX9_init_154 : decode μX9_init.2.1 154 = .ok (.newarray .int, 2) := by decide +kernel
theorem dX9_init_156 : decode μX9_init.2.1 156 = .ok (.putfield 66, 3) := by decide +kernel
theorem dX9_init_159 : decode μX9_init.2.1 159 = .ok (.aload_n 0, 1) := by decide +kernel
theorem dX9_init_160 : decode μX9_init.2.1 160 = .ok (.bipush 81, 2) := by decide +kernel
theorem dX9_init_162 : decode μX9_init.2.1 162 = .ok (.newarray .int, 2) := by decide +kernel
theorem dX9_init_164 : decode μX9_init.2.1 164 = .ok (.putfield 69, 3) := by decide +kernel
theorem dX9_init_167 : decode μX9_init.2.1 167 = .ok (.aload_n 0, 1) := by decide +kernel
theorem dX9_init_168 : decode μX9_init.2.1 168 = .ok (.bipush 30, 2) := by decide +kernel
theorem dX9_init_170 : decode μX9_init.2.1 170 = .ok (.newarray .int, 2) := by decide +kernel
theorem dX9_init_172 : decode μX9_init.2.1 172 = .ok (.putfield 72, 3) := by decide +kernel
theorem dX9_init_175 : decode μX9_init.2.1 175 = .ok (.aload_n 0, 1) := by decide +kernel
theorem dX9_init_176 : decode μX9_init.2.1 176 = .ok (.bipush 30, 2) := by decide +kernel
theorem dX9_init_178 : decode μX9_init.2.1 178 = .ok (.newarray .int, 2) := by decide +kernel
theorem dX9_init_180 : decode μX9_init.2.1 180 = .ok (.putfield 75, 3) := by decide +kernel
theorem dX9_init_183 : decode μX9_init.2.1 183 = .ok (.aload_n 0, 1) := by decide +kernel
theorem dX9_init_184 : decode μX9_init.2.1 184 = .ok (.bipush 30, 2) := by decide +kernel
theorem dX9_init_186 : decode μX9_init.2.1 186 = .ok (.newarray .int, 2) := by decide +kernel
theorem dX9_init_188 : decode μX9_init.2.1 188 = .ok (.putfield 78, 3) := by decide +kernel
theorem dX9_init_191 : decode μX9_init.2.1 191 = .ok (.aload_n 0, 1) := by decide +kernel
theorem dX9_init_192 : decode μX9_init.2.1 192 = .ok (.bipush 30, 2) := by decide +kernel
theorem dX9_init_194 : decode μX9_init.2.1 194 = .ok (.newarray .int, 2) := by decide +kernel
theorem dX9_init_196 : decode μX9_init.2.1 196 = .ok (.putfield 81, 3) := by decide +kernel
theorem dX9_init_199 : decode μX9_init.2.1 199 = .ok (.aload_n 0, 1) := by decide +kernel
theorem dX9_init_200 : decode μX9_init.2.1 200 = .ok (.bipush 30, 2) := by decide +kernel
theorem dX9_init_202 : decode μX9_init.2.1 202 = .ok (.newarray .boolean, 2) := by decide +kernel
theorem dX9_init_204 : decode μX9_init.2.1 204 = .ok (.putfield 84, 3) := by decide +kernel
theorem dX9_init_207 : decode μX9_init.2.1 207 = .ok (.aload_n 0, 1) := by decide +kernel
theorem dX9_init_208 : decode μX9_init.2.1 208 = .ok (.sipush 403, 3) := by decide +kernel
theorem dX9_init_211 : decode μX9_init.2.1 211 = .ok (.newarray .int, 2) := by decide +kernel
theorem dX9_init_213 : decode μX9_init.2.1 213 = .ok (.putfield 88, 3) := by decide +kernel
theorem dX9_init_216 : decode μX9_init.2.1 216 = .ok (.aload_n 0, 1) := by decide +kernel
theorem dX9_init_217 : decode μX9_init.2.1 217 = .ok (.bipush 13, 2) := by decide +kernel
theorem dX9_init_219 : decode μX9_init.2.1 219 = .ok (.newarray .int, 2) := by decide +kernel
theorem dX9_init_221 : decode μX9_init.2.1 221 = .ok (.putfield 91, 3) := by decide +kernel
theorem dX9_init_224 : decode μX9_init.2.1 224 = .ok (.aload_n 0, 1) := by decide +kernel
theorem dX9_init_225 : decode μX9_init.2.1 225 = .ok (.bipush 31, 2) := by decide +kernel
theorem dX9_init_227 : decode μX9_init.2.1 227 = .ok (.newarray .boolean, 2) := by decide +kernel
theorem dX9_init_229 : decode μX9_init.2.1 229 = .ok (.putfield 94, 3) := by decide +kernel
theorem dX9_init_232 : decode μX9_init.2.1 232 = .ok (.aload_n 0, 1) := by decide +kernel
theorem dX9_init_233 : decode μX9_init.2.1 233 = .ok (.iconst 3, 1) := by decide +kernel
theorem dX9_init_234 : decode μX9_init.2.1 234 = .ok (.newarray .boolean, 2) := by decide +kernel
theorem dX9_init_236 : decode μX9_init.2.1 236 = .ok (.putfield 97, 3) := by decide +kernel
theorem dX9_init_239 : decode μX9_init.2.1 239 = .ok (.aload_n 0, 1) := by decide +kernel
theorem dX9_init_240 : decode μX9_init.2.1 240 = .ok (.bipush 72, 2) := by decide +kernel
theorem dX9_init_242 : decode μX9_init.2.1 242 = .ok (.newarray .int, 2) := by decide +kernel
theorem dX9_init_244 : decode μX9_init.2.1 244 = .ok (.putfield 100, 3) := by decide +kernel
theorem dX9_init_247 : decode μX9_init.2.1 247 = .ok (.return_, 1) := by decide +kernel
theorem io_obj : Cond.instanceMethod objectInit ∈ gtb := gm 139 (by decide +kernel) rfl
theorem co_obj : Cond.code objectInit ⟨#[0xb1]⟩ 1 none ∈ gtb := gm 140 (by decide +kernel) rfl
theorem it_X8 : Cond.instantiable RX8 13 ∈ gtb := gm 134 (by decide +kernel) rfl
theorem iz_X8 : Cond.initialized RX8 ∈ gtb := gm 115 (by decide +kernel) rfl
theorem df_X8 : ∀ j, j < 13 → defaultValue (tyX8 j) = dfv 8 j := by
  intro j hj
  have : j = 0 ∨ j = 1 ∨ j = 2 ∨ j = 3 ∨ j = 4 ∨ j = 5 ∨ j = 6 ∨ j = 7 ∨ j = 8 ∨ j = 9 ∨ j = 10 ∨ j = 11 ∨ j = 12 := by omega
  rcases this with rfl | rfl | rfl | rfl | rfl | rfl | rfl | rfl | rfl | rfl | rfl | rfl | rfl <;> rfl
theorem lo_X8_1 : Cond.methodLink μX8_init.1.cls 1 objectInit ∈ gtb := gm 138 (by decide +kernel) rfl
theorem cl_X8_7 : Cond.classLink μX8_init.1.cls 7 RX6 ∈ gtb := gm 141 (by decide +kernel) rfl
theorem it_X6 : Cond.instantiable RX6 12 ∈ gtb := gm 142 (by decide +kernel) rfl
theorem iz_X6 : Cond.initialized RX6 ∈ gtb := gm 116 (by decide +kernel) rfl
theorem df_X6 : ∀ j, j < 12 → defaultValue (tyX6 j) = dfv 6 j := by
  intro j hj
  have : j = 0 ∨ j = 1 ∨ j = 2 ∨ j = 3 ∨ j = 4 ∨ j = 5 ∨ j = 6 ∨ j = 7 ∨ j = 8 ∨ j = 9 ∨ j = 10 ∨ j = 11 := by omega
  rcases this with rfl | rfl | rfl | rfl | rfl | rfl | rfl | rfl | rfl | rfl | rfl | rfl <;> rfl
theorem lo_X6_3 : Cond.methodLink μX6_init.1.cls 3 objectInit ∈ gtb := gm 146 (by decide +kernel) rfl
theorem pg_X6_9 : PG μX6_init 9 6 0 .int := ⟨_, _, _, tyX6, rfl, in_X6, rfl, by decide, gm 275 (by decide +kernel) rfl, rfl, tyX6_ok, nmX6, Or.inl rfl, rfl⟩
theorem pg_X6_15 : PG μX6_init 15 6 1 .int := ⟨_, _, _, tyX6, rfl, in_X6, rfl, by decide, gm 277 (by decide +kernel) rfl, rfl, tyX6_ok, nmX6, Or.inl rfl, rfl⟩
theorem pg_X6_18 : PG μX6_init 18 6 2 .int := ⟨_, _, _, tyX6, rfl, in_X6, rfl, by decide, gm 279 (by decide +kernel) rfl, rfl, tyX6_ok, nmX6, Or.inl rfl, rfl⟩
theorem cl_X6_21 : Cond.classLink μX6_init.1.cls 21 RX7 ∈ gtb := gm 147 (by decide +kernel) rfl
theorem it_X7 : Cond.instantiable RX7 8 ∈ gtb := gm 148 (by decide +kernel) rfl
theorem iz_X7 : Cond.initialized RX7 ∈ gtb := gm 117 (by decide +kernel) rfl
theorem df_X7 : ∀ j, j < 8 → defaultValue (tyX7 j) = dfv 7 j := by
  intro j hj
  have : j = 0 ∨ j = 1 ∨ j = 2 ∨ j = 3 ∨ j = 4 ∨ j = 5 ∨ j = 6 ∨ j = 7 := by omega
  rcases this with rfl | rfl | rfl | rfl | rfl | rfl | rfl | rfl <;> rfl
theorem lo_X7_3 : Cond.methodLink μX7_init.1.cls 3 objectInit ∈ gtb := gm 152 (by decide +kernel) rfl
theorem cl_X7_9 : Cond.classLink μX7_init.1.cls 9 RX2 ∈ gtb := gm 153 (by decide +kernel) rfl
theorem it_X2 : Cond.instantiable RX2 10 ∈ gtb := gm 154 (by decide +kernel) rfl
theorem iz_X2 : Cond.initialized RX2 ∈ gtb := gm 118 (by decide +kernel) rfl
theorem df_X2 : ∀ j, j < 10 → defaultValue (tyX2 j) = dfv 2 j := by
  intro j hj
  have : j = 0 ∨ j = 1 ∨ j = 2 ∨ j = 3 ∨ j = 4 ∨ j = 5 ∨ j = 6 ∨ j = 7 ∨ j = 8 ∨ j = 9 := by omega
  rcases this with rfl | rfl | rfl | rfl | rfl | rfl | rfl | rfl | rfl | rfl <;> rfl
theorem lo_X2_3 : Cond.methodLink μX2_init.1.cls 3 objectInit ∈ gtb := gm 158 (by decide +kernel) rfl
theorem pg_X2_9 : PG μX2_init 9 2 0 .int := ⟨_, _, _, tyX2, rfl, in_X2, rfl, by decide, gm 159 (by decide +kernel) rfl, rfl, tyX2_ok, nmX2, Or.inl rfl, rfl⟩
theorem pg_X2_15 : PG μX2_init 15 2 1 .int := ⟨_, _, _, tyX2, rfl, in_X2, rfl, by decide, gm 166 (by decide +kernel) rfl, rfl, tyX2_ok, nmX2, Or.inl rfl, rfl⟩
theorem pg_X2_18 : PG μX2_init 18 2 2 .int := ⟨_, _, _, tyX2, rfl, in_X2, rfl, by decide, gm 169 (by decide +kernel) rfl, rfl, tyX2_ok, nmX2, Or.inl rfl, rfl⟩
theorem pg_X2_21 : PG μX2_init 21 2 3 .int := ⟨_, _, _, tyX2, rfl, in_X2, rfl, by decide, gm 171 (by decide +kernel) rfl, rfl, tyX2_ok, nmX2, Or.inl rfl, rfl⟩
theorem pg_X2_24 : PG μX2_init 24 2 4 .int := ⟨_, _, _, tyX2, rfl, in_X2, rfl, by decide, gm 174 (by decide +kernel) rfl, rfl, tyX2_ok, nmX2, Or.inl rfl, rfl⟩
theorem ac_int : Cond.arrayClass .int ∈ gtb := gm 212 (by decide +kernel) rfl
theorem pg_X2_27 : PG μX2_init 27 2 5 (.array .int) := ⟨_, _, _, tyX2, rfl, in_X2, rfl, by decide, gm 177 (by decide +kernel) rfl, rfl, tyX2_ok, nmX2, Or.inr ⟨rfl, rfl, rfl⟩, rfl⟩
theorem pg_X2_31 : PG μX2_init 31 2 6 (.array .int) := ⟨_, _, _, tyX2, rfl, in_X2, rfl, by decide, gm 180 (by decide +kernel) rfl, rfl, tyX2_ok, nmX2, Or.inr ⟨rfl, rfl, rfl⟩, rfl⟩
theorem pg_X2_34 : PG μX2_init 34 2 7 (.array .int) := ⟨_, _, _, tyX2, rfl, in_X2, rfl, by decide, gm 183 (by decide +kernel) rfl, rfl, tyX2_ok, nmX2, Or.inr ⟨rfl, rfl, rfl⟩, rfl⟩
theorem pg_X2_37 : PG μX2_init 37 2 8 (.array .int) := ⟨_, _, _, tyX2, rfl, in_X2, rfl, by decide, gm 186 (by decide +kernel) rfl, rfl, tyX2_ok, nmX2, Or.inr ⟨rfl, rfl, rfl⟩, rfl⟩
theorem pg_X2_40 : PG μX2_init 40 2 9 (.array .int) := ⟨_, _, _, tyX2, rfl, in_X2, rfl, by decide, gm 190 (by decide +kernel) rfl, rfl, tyX2_ok, nmX2, Or.inr ⟨rfl, rfl, rfl⟩, rfl⟩
theorem li_X7_11 : Cond.methodLink μX7_init.1.cls 11 μX2_init.1 ∈ gtb ∨ (μX7_init.1.cls, 11, μX2_init.1) ∈ nst := Or.inr (List.mem_of_getElem? (i := 8) rfl)
theorem pg_X7_12 : PG μX7_init 12 7 0 (.object "FrothShire$Froth") := ⟨_, _, _, tyX7, rfl, in_X7, rfl, by decide, gm 237 (by decide +kernel) rfl, rfl, tyX7_ok, nmX7, Or.inr ⟨rfl, rfl, rfl⟩, rfl⟩
theorem cl_X7_18 : Cond.classLink μX7_init.1.cls 18 RX1 ∈ gtb := gm 213 (by decide +kernel) rfl
theorem it_X1 : Cond.instantiable RX1 5 ∈ gtb := gm 214 (by decide +kernel) rfl
theorem iz_X1 : Cond.initialized RX1 ∈ gtb := gm 119 (by decide +kernel) rfl
theorem df_X1 : ∀ j, j < 5 → defaultValue (tyX1 j) = dfv 1 j := by
  intro j hj
  have : j = 0 ∨ j = 1 ∨ j = 2 ∨ j = 3 ∨ j = 4 := by omega
  rcases this with rfl | rfl | rfl | rfl | rfl <;> rfl
theorem lo_X1_3 : Cond.methodLink μX1_init.1.cls 3 objectInit ∈ gtb := gm 218 (by decide +kernel) rfl
theorem pg_X1_9 : PG μX1_init 9 1 0 (.array .int) := ⟨_, _, _, tyX1, rfl, in_X1, rfl, by decide, gm 219 (by decide +kernel) rfl, rfl, tyX1_ok, nmX1, Or.inr ⟨rfl, rfl, rfl⟩, rfl⟩
theorem pg_X1_15 : PG μX1_init 15 1 1 (.array .int) := ⟨_, _, _, tyX1, rfl, in_X1, rfl, by decide, gm 220 (by decide +kernel) rfl, rfl, tyX1_ok, nmX1, Or.inr ⟨rfl, rfl, rfl⟩, rfl⟩
theorem pg_X1_18 : PG μX1_init 18 1 2 (.array .int) := ⟨_, _, _, tyX1, rfl, in_X1, rfl, by decide, gm 221 (by decide +kernel) rfl, rfl, tyX1_ok, nmX1, Or.inr ⟨rfl, rfl, rfl⟩, rfl⟩
theorem pg_X1_21 : PG μX1_init 21 1 3 .int := ⟨_, _, _, tyX1, rfl, in_X1, rfl, by decide, gm 222 (by decide +kernel) rfl, rfl, tyX1_ok, nmX1, Or.inl rfl, rfl⟩
theorem pg_X1_25 : PG μX1_init 25 1 4 .int := ⟨_, _, _, tyX1, rfl, in_X1, rfl, by decide, gm 223 (by decide +kernel) rfl, rfl, tyX1_ok, nmX1, Or.inl rfl, rfl⟩
theorem li_X7_20 : Cond.methodLink μX7_init.1.cls 20 μX1_init.1 ∈ gtb ∨ (μX7_init.1.cls, 20, μX1_init.1) ∈ nst := Or.inr (List.mem_of_getElem? (i := 9) rfl)
theorem pg_X7_21 : PG μX7_init 21 7 1 (.object "FrothShire$Formula") := ⟨_, _, _, tyX7, rfl, in_X7, rfl, by decide, gm 241 (by decide +kernel) rfl, rfl, tyX7_ok, nmX7, Or.inr ⟨rfl, rfl, rfl⟩, rfl⟩
theorem ac_long : Cond.arrayClass .long ∈ gtb := gm 274 (by decide +kernel) rfl
theorem pg_X7_25 : PG μX7_init 25 7 2 (.array .long) := ⟨_, _, _, tyX7, rfl, in_X7, rfl, by decide, gm 245 (by decide +kernel) rfl, rfl, tyX7_ok, nmX7, Or.inr ⟨rfl, rfl, rfl⟩, rfl⟩
theorem pg_X7_29 : PG μX7_init 29 7 3 .int := ⟨_, _, _, tyX7, rfl, in_X7, rfl, by decide, gm 246 (by decide +kernel) rfl, rfl, tyX7_ok, nmX7, Or.inl rfl, rfl⟩
theorem pg_X7_33 : PG μX7_init 33 7 4 .int := ⟨_, _, _, tyX7, rfl, in_X7, rfl, by decide, gm 249 (by decide +kernel) rfl, rfl, tyX7_ok, nmX7, Or.inl rfl, rfl⟩
theorem pg_X7_36 : PG μX7_init 36 7 5 .boolean := ⟨_, _, _, tyX7, rfl, in_X7, rfl, by decide, gm 251 (by decide +kernel) rfl, rfl, tyX7_ok, nmX7, Or.inl rfl, rfl⟩
theorem pg_X7_40 : PG μX7_init 40 7 6 .boolean := ⟨_, _, _, tyX7, rfl, in_X7, rfl, by decide, gm 253 (by decide +kernel) rfl, rfl, tyX7_ok, nmX7, Or.inl rfl, rfl⟩
theorem pg_X7_43 : PG μX7_init 43 7 7 .boolean := ⟨_, _, _, tyX7, rfl, in_X7, rfl, by decide, gm 255 (by decide +kernel) rfl, rfl, tyX7_ok, nmX7, Or.inl rfl, rfl⟩
theorem li_X6_23 : Cond.methodLink μX6_init.1.cls 23 μX7_init.1 ∈ gtb ∨ (μX6_init.1.cls, 23, μX7_init.1) ∈ nst := Or.inr (List.mem_of_getElem? (i := 7) rfl)
theorem pg_X6_24 : PG μX6_init 24 6 3 (.object "FrothShire$Telling") := ⟨_, _, _, tyX6, rfl, in_X6, rfl, by decide, gm 281 (by decide +kernel) rfl, rfl, tyX6_ok, nmX6, Or.inl rfl, rfl⟩
theorem ac_byte : Cond.arrayClass .byte ∈ gtb := gm 316 (by decide +kernel) rfl
theorem pg_X6_28 : PG μX6_init 28 6 4 (.array .byte) := ⟨_, _, _, tyX6, rfl, in_X6, rfl, by decide, gm 283 (by decide +kernel) rfl, rfl, tyX6_ok, nmX6, Or.inr ⟨rfl, rfl, rfl⟩, rfl⟩
theorem pg_X6_32 : PG μX6_init 32 6 5 .int := ⟨_, _, _, tyX6, rfl, in_X6, rfl, by decide, gm 284 (by decide +kernel) rfl, rfl, tyX6_ok, nmX6, Or.inl rfl, rfl⟩
theorem pg_X6_35 : PG μX6_init 35 6 6 .int := ⟨_, _, _, tyX6, rfl, in_X6, rfl, by decide, gm 285 (by decide +kernel) rfl, rfl, tyX6_ok, nmX6, Or.inl rfl, rfl⟩
theorem pg_X6_38 : PG μX6_init 38 6 7 .int := ⟨_, _, _, tyX6, rfl, in_X6, rfl, by decide, gm 286 (by decide +kernel) rfl, rfl, tyX6_ok, nmX6, Or.inl rfl, rfl⟩
theorem pg_X6_41 : PG μX6_init 41 6 8 .int := ⟨_, _, _, tyX6, rfl, in_X6, rfl, by decide, gm 287 (by decide +kernel) rfl, rfl, tyX6_ok, nmX6, Or.inl rfl, rfl⟩
theorem pg_X6_44 : PG μX6_init 44 6 9 .int := ⟨_, _, _, tyX6, rfl, in_X6, rfl, by decide, gm 288 (by decide +kernel) rfl, rfl, tyX6_ok, nmX6, Or.inl rfl, rfl⟩
theorem pg_X6_47 : PG μX6_init 47 6 10 .int := ⟨_, _, _, tyX6, rfl, in_X6, rfl, by decide, gm 289 (by decide +kernel) rfl, rfl, tyX6_ok, nmX6, Or.inl rfl, rfl⟩
theorem pg_X6_50 : PG μX6_init 50 6 11 .long := ⟨_, _, _, tyX6, rfl, in_X6, rfl, by decide, gm 290 (by decide +kernel) rfl, rfl, tyX6_ok, nmX6, Or.inl rfl, rfl⟩
theorem li_X8_9 : Cond.methodLink μX8_init.1.cls 9 μX6_init.1 ∈ gtb ∨ (μX8_init.1.cls, 9, μX6_init.1) ∈ nst := Or.inr (List.mem_of_getElem? (i := 0) rfl)
theorem pg_X8_10 : PG μX8_init 10 8 0 (.object "FrothShire$Reader") := ⟨_, _, _, tyX8, rfl, in_X8, rfl, by decide, gm 425 (by decide +kernel) rfl, rfl, tyX8_ok, nmX8, Or.inr ⟨rfl, rfl, rfl⟩, rfl⟩
theorem cl_X8_16 : Cond.classLink μX8_init.1.cls 16 RX7 ∈ gtb := gm 317 (by decide +kernel) rfl
theorem li_X8_18 : Cond.methodLink μX8_init.1.cls 18 μX7_init.1 ∈ gtb ∨ (μX8_init.1.cls, 18, μX7_init.1) ∈ nst := Or.inr (List.mem_of_getElem? (i := 1) rfl)
theorem pg_X8_19 : PG μX8_init 19 8 1 (.object "FrothShire$Telling") := ⟨_, _, _, tyX8, rfl, in_X8, rfl, by decide, gm 426 (by decide +kernel) rfl, rfl, tyX8_ok, nmX8, Or.inl rfl, rfl⟩
theorem cl_X8_23 : Cond.classLink μX8_init.1.cls 23 RX2 ∈ gtb := gm 319 (by decide +kernel) rfl
theorem li_X8_25 : Cond.methodLink μX8_init.1.cls 25 μX2_init.1 ∈ gtb ∨ (μX8_init.1.cls, 25, μX2_init.1) ∈ nst := Or.inr (List.mem_of_getElem? (i := 2) rfl)
theorem pg_X8_26 : PG μX8_init 26 8 2 (.object "FrothShire$Froth") := ⟨_, _, _, tyX8, rfl, in_X8, rfl, by decide, gm 427 (by decide +kernel) rfl, rfl, tyX8_ok, nmX8, Or.inr ⟨rfl, rfl, rfl⟩, rfl⟩
theorem pg_X8_30 : PG μX8_init 30 8 3 (.object "FrothShire$Froth") := ⟨_, _, _, tyX8, rfl, in_X8, rfl, by decide, gm 428 (by decide +kernel) rfl, rfl, tyX8_ok, nmX8, Or.inr ⟨rfl, rfl, rfl⟩, rfl⟩
theorem cl_X8_33 : Cond.classLink μX8_init.1.cls 33 RX3 ∈ gtb := gm 321 (by decide +kernel) rfl
theorem it_X3 : Cond.instantiable RX3 4 ∈ gtb := gm 322 (by decide +kernel) rfl
theorem iz_X3 : Cond.initialized RX3 ∈ gtb := gm 120 (by decide +kernel) rfl
theorem df_X3 : ∀ j, j < 4 → defaultValue (tyX3 j) = dfv 3 j := by
  intro j hj
  have : j = 0 ∨ j = 1 ∨ j = 2 ∨ j = 3 := by omega
  rcases this with rfl | rfl | rfl | rfl <;> rfl
theorem lo_X3_3 : Cond.methodLink μX3_init.1.cls 3 objectInit ∈ gtb := gm 326 (by decide +kernel) rfl
theorem pg_X3_9 : PG μX3_init 9 3 0 .int := ⟨_, _, _, tyX3, rfl, in_X3, rfl, by decide, gm 327 (by decide +kernel) rfl, rfl, tyX3_ok, nmX3, Or.inl rfl, rfl⟩
theorem pg_X3_15 : PG μX3_init 15 3 1 .int := ⟨_, _, _, tyX3, rfl, in_X3, rfl, by decide, gm 329 (by decide +kernel) rfl, rfl, tyX3_ok, nmX3, Or.inl rfl, rfl⟩
theorem pg_X3_20 : PG μX3_init 20 3 2 (.array .int) := ⟨_, _, _, tyX3, rfl, in_X3, rfl, by decide, gm 331 (by decide +kernel) rfl, rfl, tyX3_ok, nmX3, Or.inr ⟨rfl, rfl, rfl⟩, rfl⟩
theorem pg_X3_24 : PG μX3_init 24 3 3 .int := ⟨_, _, _, tyX3, rfl, in_X3, rfl, by decide, gm 332 (by decide +kernel) rfl, rfl, tyX3_ok, nmX3, Or.inl rfl, rfl⟩
theorem li_X8_35 : Cond.methodLink μX8_init.1.cls 35 μX3_init.1 ∈ gtb ∨ (μX8_init.1.cls, 35, μX3_init.1) ∈ nst := Or.inr (List.mem_of_getElem? (i := 3) rfl)
theorem pg_X8_36 : PG μX8_init 36 8 4 (.object "FrothShire$History") := ⟨_, _, _, tyX8, rfl, in_X8, rfl, by decide, gm 429 (by decide +kernel) rfl, rfl, tyX8_ok, nmX8, Or.inr ⟨rfl, rfl, rfl⟩, rfl⟩
theorem pg_X8_40 : PG μX8_init 40 8 5 (.array .int) := ⟨_, _, _, tyX8, rfl, in_X8, rfl, by decide, gm 430 (by decide +kernel) rfl, rfl, tyX8_ok, nmX8, Or.inr ⟨rfl, rfl, rfl⟩, rfl⟩
theorem pg_X8_44 : PG μX8_init 44 8 6 .int := ⟨_, _, _, tyX8, rfl, in_X8, rfl, by decide, gm 431 (by decide +kernel) rfl, rfl, tyX8_ok, nmX8, Or.inl rfl, rfl⟩
theorem cl_X8_48 : Cond.classLink μX8_init.1.cls 48 RX5 ∈ gtb := gm 342 (by decide +kernel) rfl
theorem it_X5 : Cond.instantiable RX5 3 ∈ gtb := gm 343 (by decide +kernel) rfl
theorem iz_X5 : Cond.initialized RX5 ∈ gtb := gm 121 (by decide +kernel) rfl
theorem df_X5 : ∀ j, j < 3 → defaultValue (tyX5 j) = dfv 5 j := by
  intro j hj
  have : j = 0 ∨ j = 1 ∨ j = 2 := by omega
  rcases this with rfl | rfl | rfl <;> rfl
theorem lo_X5_3 : Cond.methodLink μX5_init.1.cls 3 objectInit ∈ gtb := gm 347 (by decide +kernel) rfl
theorem pg_X5_9 : PG μX5_init 9 5 0 (.array .int) := ⟨_, _, _, tyX5, rfl, in_X5, rfl, by decide, gm 348 (by decide +kernel) rfl, rfl, tyX5_ok, nmX5, Or.inr ⟨rfl, rfl, rfl⟩, rfl⟩
theorem pg_X5_15 : PG μX5_init 15 5 1 (.array .int) := ⟨_, _, _, tyX5, rfl, in_X5, rfl, by decide, gm 350 (by decide +kernel) rfl, rfl, tyX5_ok, nmX5, Or.inr ⟨rfl, rfl, rfl⟩, rfl⟩
theorem pg_X5_18 : PG μX5_init 18 5 2 .int := ⟨_, _, _, tyX5, rfl, in_X5, rfl, by decide, gm 351 (by decide +kernel) rfl, rfl, tyX5_ok, nmX5, Or.inl rfl, rfl⟩
theorem li_X8_50 : Cond.methodLink μX8_init.1.cls 50 μX5_init.1 ∈ gtb ∨ (μX8_init.1.cls, 50, μX5_init.1) ∈ nst := Or.inr (List.mem_of_getElem? (i := 4) rfl)
theorem pg_X8_51 : PG μX8_init 51 8 7 (.object "FrothShire$Puzzles") := ⟨_, _, _, tyX8, rfl, in_X8, rfl, by decide, gm 432 (by decide +kernel) rfl, rfl, tyX8_ok, nmX8, Or.inr ⟨rfl, rfl, rfl⟩, rfl⟩
theorem cl_X8_55 : Cond.classLink μX8_init.1.cls 55 RX0 ∈ gtb := gm 359 (by decide +kernel) rfl
theorem it_X0 : Cond.instantiable RX0 6 ∈ gtb := gm 360 (by decide +kernel) rfl
theorem iz_X0 : Cond.initialized RX0 ∈ gtb := gm 122 (by decide +kernel) rfl
theorem df_X0 : ∀ j, j < 6 → defaultValue (tyX0 j) = dfv 0 j := by
  intro j hj
  have : j = 0 ∨ j = 1 ∨ j = 2 ∨ j = 3 ∨ j = 4 ∨ j = 5 := by omega
  rcases this with rfl | rfl | rfl | rfl | rfl | rfl <;> rfl
theorem lo_X0_3 : Cond.methodLink μX0_init.1.cls 3 objectInit ∈ gtb := gm 364 (by decide +kernel) rfl
theorem pg_X0_9 : PG μX0_init 9 0 0 .int := ⟨_, _, _, tyX0, rfl, in_X0, rfl, by decide, gm 365 (by decide +kernel) rfl, rfl, tyX0_ok, nmX0, Or.inl rfl, rfl⟩
theorem pg_X0_15 : PG μX0_init 15 0 1 .int := ⟨_, _, _, tyX0, rfl, in_X0, rfl, by decide, gm 367 (by decide +kernel) rfl, rfl, tyX0_ok, nmX0, Or.inl rfl, rfl⟩
theorem pg_X0_18 : PG μX0_init 18 0 2 (.array .int) := ⟨_, _, _, tyX0, rfl, in_X0, rfl, by decide, gm 369 (by decide +kernel) rfl, rfl, tyX0_ok, nmX0, Or.inr ⟨rfl, rfl, rfl⟩, rfl⟩
theorem pg_X0_22 : PG μX0_init 22 0 3 (.array .int) := ⟨_, _, _, tyX0, rfl, in_X0, rfl, by decide, gm 370 (by decide +kernel) rfl, rfl, tyX0_ok, nmX0, Or.inr ⟨rfl, rfl, rfl⟩, rfl⟩
theorem pg_X0_25 : PG μX0_init 25 0 4 .int := ⟨_, _, _, tyX0, rfl, in_X0, rfl, by decide, gm 371 (by decide +kernel) rfl, rfl, tyX0_ok, nmX0, Or.inl rfl, rfl⟩
theorem pg_X0_28 : PG μX0_init 28 0 5 .int := ⟨_, _, _, tyX0, rfl, in_X0, rfl, by decide, gm 372 (by decide +kernel) rfl, rfl, tyX0_ok, nmX0, Or.inl rfl, rfl⟩
theorem li_X8_57 : Cond.methodLink μX8_init.1.cls 57 μX0_init.1 ∈ gtb ∨ (μX8_init.1.cls, 57, μX0_init.1) ∈ nst := Or.inr (List.mem_of_getElem? (i := 5) rfl)
theorem pg_X8_58 : PG μX8_init 58 8 8 (.object "FrothShire$Duel") := ⟨_, _, _, tyX8, rfl, in_X8, rfl, by decide, gm 433 (by decide +kernel) rfl, rfl, tyX8_ok, nmX8, Or.inr ⟨rfl, rfl, rfl⟩, rfl⟩
theorem cl_X8_62 : Cond.classLink μX8_init.1.cls 62 RX4 ∈ gtb := gm 386 (by decide +kernel) rfl
theorem it_X4 : Cond.instantiable RX4 10 ∈ gtb := gm 387 (by decide +kernel) rfl
theorem iz_X4 : Cond.initialized RX4 ∈ gtb := gm 123 (by decide +kernel) rfl
theorem df_X4 : ∀ j, j < 10 → defaultValue (tyX4 j) = dfv 4 j := by
  intro j hj
  have : j = 0 ∨ j = 1 ∨ j = 2 ∨ j = 3 ∨ j = 4 ∨ j = 5 ∨ j = 6 ∨ j = 7 ∨ j = 8 ∨ j = 9 := by omega
  rcases this with rfl | rfl | rfl | rfl | rfl | rfl | rfl | rfl | rfl | rfl <;> rfl
theorem lo_X4_3 : Cond.methodLink μX4_init.1.cls 3 objectInit ∈ gtb := gm 391 (by decide +kernel) rfl
theorem pg_X4_9 : PG μX4_init 9 4 0 .int := ⟨_, _, _, tyX4, rfl, in_X4, rfl, by decide, gm 392 (by decide +kernel) rfl, rfl, tyX4_ok, nmX4, Or.inl rfl, rfl⟩
theorem pg_X4_15 : PG μX4_init 15 4 1 (.array .int) := ⟨_, _, _, tyX4, rfl, in_X4, rfl, by decide, gm 394 (by decide +kernel) rfl, rfl, tyX4_ok, nmX4, Or.inr ⟨rfl, rfl, rfl⟩, rfl⟩
theorem pg_X4_19 : PG μX4_init 19 4 2 (.array .int) := ⟨_, _, _, tyX4, rfl, in_X4, rfl, by decide, gm 395 (by decide +kernel) rfl, rfl, tyX4_ok, nmX4, Or.inr ⟨rfl, rfl, rfl⟩, rfl⟩
theorem ac_boolean : Cond.arrayClass .boolean ∈ gtb := gm 424 (by decide +kernel) rfl
theorem pg_X4_22 : PG μX4_init 22 4 3 (.array .boolean) := ⟨_, _, _, tyX4, rfl, in_X4, rfl, by decide, gm 396 (by decide +kernel) rfl, rfl, tyX4_ok, nmX4, Or.inr ⟨rfl, rfl, rfl⟩, rfl⟩
theorem pg_X4_26 : PG μX4_init 26 4 4 (.array .int) := ⟨_, _, _, tyX4, rfl, in_X4, rfl, by decide, gm 397 (by decide +kernel) rfl, rfl, tyX4_ok, nmX4, Or.inr ⟨rfl, rfl, rfl⟩, rfl⟩
theorem pg_X4_29 : PG μX4_init 29 4 5 (.array .int) := ⟨_, _, _, tyX4, rfl, in_X4, rfl, by decide, gm 398 (by decide +kernel) rfl, rfl, tyX4_ok, nmX4, Or.inr ⟨rfl, rfl, rfl⟩, rfl⟩
theorem pg_X4_32 : PG μX4_init 32 4 6 (.array .int) := ⟨_, _, _, tyX4, rfl, in_X4, rfl, by decide, gm 399 (by decide +kernel) rfl, rfl, tyX4_ok, nmX4, Or.inr ⟨rfl, rfl, rfl⟩, rfl⟩
theorem pg_X4_35 : PG μX4_init 35 4 7 .boolean := ⟨_, _, _, tyX4, rfl, in_X4, rfl, by decide, gm 400 (by decide +kernel) rfl, rfl, tyX4_ok, nmX4, Or.inl rfl, rfl⟩
theorem pg_X4_39 : PG μX4_init 39 4 8 (.array .boolean) := ⟨_, _, _, tyX4, rfl, in_X4, rfl, by decide, gm 401 (by decide +kernel) rfl, rfl, tyX4_ok, nmX4, Or.inr ⟨rfl, rfl, rfl⟩, rfl⟩
theorem pg_X4_42 : PG μX4_init 42 4 9 (.array .int) := ⟨_, _, _, tyX4, rfl, in_X4, rfl, by decide, gm 402 (by decide +kernel) rfl, rfl, tyX4_ok, nmX4, Or.inr ⟨rfl, rfl, rfl⟩, rfl⟩
theorem li_X8_64 : Cond.methodLink μX8_init.1.cls 64 μX4_init.1 ∈ gtb ∨ (μX8_init.1.cls, 64, μX4_init.1) ∈ nst := Or.inr (List.mem_of_getElem? (i := 6) rfl)
theorem pg_X8_65 : PG μX8_init 65 8 9 (.object "FrothShire$Memory") := ⟨_, _, _, tyX8, rfl, in_X8, rfl, by decide, gm 434 (by decide +kernel) rfl, rfl, tyX8_ok, nmX8, Or.inr ⟨rfl, rfl, rfl⟩, rfl⟩
theorem pg_X8_69 : PG μX8_init 69 8 10 .int := ⟨_, _, _, tyX8, rfl, in_X8, rfl, by decide, gm 435 (by decide +kernel) rfl, rfl, tyX8_ok, nmX8, Or.inl rfl, rfl⟩
theorem pg_X8_72 : PG μX8_init 72 8 11 (.array .int) := ⟨_, _, _, tyX8, rfl, in_X8, rfl, by decide, gm 436 (by decide +kernel) rfl, rfl, tyX8_ok, nmX8, Or.inr ⟨rfl, rfl, rfl⟩, rfl⟩
theorem pg_X8_75 : PG μX8_init 75 8 12 .int := ⟨_, _, _, tyX8, rfl, in_X8, rfl, by decide, gm 437 (by decide +kernel) rfl, rfl, tyX8_ok, nmX8, Or.inl rfl, rfl⟩
theorem it_X9 : Cond.instantiable RX9 62 ∈ gtb := gm 1165 (by decide +kernel) rfl
theorem iz_X9 : Cond.initialized RX9 ∈ gtb := gm 124 (by decide +kernel) rfl
theorem df_X9 : ∀ j, j < 62 → defaultValue (tyX9 j) = dfv 9 j := by
  intro j hj
  have : j = 0 ∨ j = 1 ∨ j = 2 ∨ j = 3 ∨ j = 4 ∨ j = 5 ∨ j = 6 ∨ j = 7 ∨ j = 8 ∨ j = 9 ∨ j = 10 ∨ j = 11 ∨ j = 12 ∨ j = 13 ∨ j = 14 ∨ j = 15 ∨ j = 16 ∨ j = 17 ∨ j = 18 ∨ j = 19 ∨ j = 20 ∨ j = 21 ∨ j = 22 ∨ j = 23 ∨ j = 24 ∨ j = 25 ∨ j = 26 ∨ j = 27 ∨ j = 28 ∨ j = 29 ∨ j = 30 ∨ j = 31 ∨ j = 32 ∨ j = 33 ∨ j = 34 ∨ j = 35 ∨ j = 36 ∨ j = 37 ∨ j = 38 ∨ j = 39 ∨ j = 40 ∨ j = 41 ∨ j = 42 ∨ j = 43 ∨ j = 44 ∨ j = 45 ∨ j = 46 ∨ j = 47 ∨ j = 48 ∨ j = 49 ∨ j = 50 ∨ j = 51 ∨ j = 52 ∨ j = 53 ∨ j = 54 ∨ j = 55 ∨ j = 56 ∨ j = 57 ∨ j = 58 ∨ j = 59 ∨ j = 60 ∨ j = 61 := by omega
  rcases this with rfl | rfl | rfl | rfl | rfl | rfl | rfl | rfl | rfl | rfl | rfl | rfl | rfl | rfl | rfl | rfl | rfl | rfl | rfl | rfl | rfl | rfl | rfl | rfl | rfl | rfl | rfl | rfl | rfl | rfl | rfl | rfl | rfl | rfl | rfl | rfl | rfl | rfl | rfl | rfl | rfl | rfl | rfl | rfl | rfl | rfl | rfl | rfl | rfl | rfl | rfl | rfl | rfl | rfl | rfl | rfl | rfl | rfl | rfl | rfl | rfl | rfl <;> rfl
theorem lo_X9_1 : Cond.methodLink μX9_init.1.cls 1 objectInit ∈ gtb := gm 1169 (by decide +kernel) rfl
theorem pg_X9_7 : PG μX9_init 7 9 0 (.array .int) := ⟨_, _, _, tyX9, rfl, in_X9, rfl, by decide, gm 1170 (by decide +kernel) rfl, rfl, tyX9_ok, nmX9, Or.inr ⟨rfl, rfl, rfl⟩, rfl⟩
theorem pg_X9_13 : PG μX9_init 13 9 3 .int := ⟨_, _, _, tyX9, rfl, in_X9, rfl, by decide, gm 1173 (by decide +kernel) rfl, rfl, tyX9_ok, nmX9, Or.inl rfl, rfl⟩
theorem pg_X9_17 : PG μX9_init 17 9 10 (.array .long) := ⟨_, _, _, tyX9, rfl, in_X9, rfl, by decide, gm 1180 (by decide +kernel) rfl, rfl, tyX9_ok, nmX9, Or.inr ⟨rfl, rfl, rfl⟩, rfl⟩
theorem pg_X9_21 : PG μX9_init 21 9 11 (.array .int) := ⟨_, _, _, tyX9, rfl, in_X9, rfl, by decide, gm 1181 (by decide +kernel) rfl, rfl, tyX9_ok, nmX9, Or.inr ⟨rfl, rfl, rfl⟩, rfl⟩
theorem pg_X9_24 : PG μX9_init 24 9 12 (.array .int) := ⟨_, _, _, tyX9, rfl, in_X9, rfl, by decide, gm 1182 (by decide +kernel) rfl, rfl, tyX9_ok, nmX9, Or.inr ⟨rfl, rfl, rfl⟩, rfl⟩
theorem pg_X9_27 : PG μX9_init 27 9 13 (.array .int) := ⟨_, _, _, tyX9, rfl, in_X9, rfl, by decide, gm 1183 (by decide +kernel) rfl, rfl, tyX9_ok, nmX9, Or.inr ⟨rfl, rfl, rfl⟩, rfl⟩
theorem pg_X9_30 : PG μX9_init 30 9 14 (.array .int) := ⟨_, _, _, tyX9, rfl, in_X9, rfl, by decide, gm 1184 (by decide +kernel) rfl, rfl, tyX9_ok, nmX9, Or.inr ⟨rfl, rfl, rfl⟩, rfl⟩
theorem pg_X9_33 : PG μX9_init 33 9 15 (.array .int) := ⟨_, _, _, tyX9, rfl, in_X9, rfl, by decide, gm 1185 (by decide +kernel) rfl, rfl, tyX9_ok, nmX9, Or.inr ⟨rfl, rfl, rfl⟩, rfl⟩
theorem pg_X9_36 : PG μX9_init 36 9 16 (.array .int) := ⟨_, _, _, tyX9, rfl, in_X9, rfl, by decide, gm 1186 (by decide +kernel) rfl, rfl, tyX9_ok, nmX9, Or.inr ⟨rfl, rfl, rfl⟩, rfl⟩
theorem pg_X9_39 : PG μX9_init 39 9 26 (.array .int) := ⟨_, _, _, tyX9, rfl, in_X9, rfl, by decide, gm 1196 (by decide +kernel) rfl, rfl, tyX9_ok, nmX9, Or.inr ⟨rfl, rfl, rfl⟩, rfl⟩
theorem pg_X9_42 : PG μX9_init 42 9 27 (.array .int) := ⟨_, _, _, tyX9, rfl, in_X9, rfl, by decide, gm 1197 (by decide +kernel) rfl, rfl, tyX9_ok, nmX9, Or.inr ⟨rfl, rfl, rfl⟩, rfl⟩
theorem pg_X9_45 : PG μX9_init 45 9 28 (.array .int) := ⟨_, _, _, tyX9, rfl, in_X9, rfl, by decide, gm 1198 (by decide +kernel) rfl, rfl, tyX9_ok, nmX9, Or.inr ⟨rfl, rfl, rfl⟩, rfl⟩
theorem pg_X9_48 : PG μX9_init 48 9 29 (.array .int) := ⟨_, _, _, tyX9, rfl, in_X9, rfl, by decide, gm 1199 (by decide +kernel) rfl, rfl, tyX9_ok, nmX9, Or.inr ⟨rfl, rfl, rfl⟩, rfl⟩
theorem pg_X9_51 : PG μX9_init 51 9 30 (.array .int) := ⟨_, _, _, tyX9, rfl, in_X9, rfl, by decide, gm 1200 (by decide +kernel) rfl, rfl, tyX9_ok, nmX9, Or.inr ⟨rfl, rfl, rfl⟩, rfl⟩
theorem pg_X9_54 : PG μX9_init 54 9 39 (.array .int) := ⟨_, _, _, tyX9, rfl, in_X9, rfl, by decide, gm 1209 (by decide +kernel) rfl, rfl, tyX9_ok, nmX9, Or.inr ⟨rfl, rfl, rfl⟩, rfl⟩
theorem pg_X9_57 : PG μX9_init 57 9 42 (.array .int) := ⟨_, _, _, tyX9, rfl, in_X9, rfl, by decide, gm 1212 (by decide +kernel) rfl, rfl, tyX9_ok, nmX9, Or.inr ⟨rfl, rfl, rfl⟩, rfl⟩
theorem pg_X9_60 : PG μX9_init 60 9 43 (.array .int) := ⟨_, _, _, tyX9, rfl, in_X9, rfl, by decide, gm 1213 (by decide +kernel) rfl, rfl, tyX9_ok, nmX9, Or.inr ⟨rfl, rfl, rfl⟩, rfl⟩
theorem pg_X9_63 : PG μX9_init 63 9 44 (.array .int) := ⟨_, _, _, tyX9, rfl, in_X9, rfl, by decide, gm 1214 (by decide +kernel) rfl, rfl, tyX9_ok, nmX9, Or.inr ⟨rfl, rfl, rfl⟩, rfl⟩
theorem pg_X9_66 : PG μX9_init 66 9 46 (.array .int) := ⟨_, _, _, tyX9, rfl, in_X9, rfl, by decide, gm 1216 (by decide +kernel) rfl, rfl, tyX9_ok, nmX9, Or.inr ⟨rfl, rfl, rfl⟩, rfl⟩
theorem pg_X9_69 : PG μX9_init 69 9 47 (.array .int) := ⟨_, _, _, tyX9, rfl, in_X9, rfl, by decide, gm 1217 (by decide +kernel) rfl, rfl, tyX9_ok, nmX9, Or.inr ⟨rfl, rfl, rfl⟩, rfl⟩
theorem pg_X9_72 : PG μX9_init 72 9 50 (.array .int) := ⟨_, _, _, tyX9, rfl, in_X9, rfl, by decide, gm 1220 (by decide +kernel) rfl, rfl, tyX9_ok, nmX9, Or.inr ⟨rfl, rfl, rfl⟩, rfl⟩
theorem pg_X9_75 : PG μX9_init 75 9 51 (.array .int) := ⟨_, _, _, tyX9, rfl, in_X9, rfl, by decide, gm 1221 (by decide +kernel) rfl, rfl, tyX9_ok, nmX9, Or.inr ⟨rfl, rfl, rfl⟩, rfl⟩
theorem pg_X9_78 : PG μX9_init 78 9 52 (.array .int) := ⟨_, _, _, tyX9, rfl, in_X9, rfl, by decide, gm 1222 (by decide +kernel) rfl, rfl, tyX9_ok, nmX9, Or.inr ⟨rfl, rfl, rfl⟩, rfl⟩
theorem pg_X9_81 : PG μX9_init 81 9 53 (.array .int) := ⟨_, _, _, tyX9, rfl, in_X9, rfl, by decide, gm 1223 (by decide +kernel) rfl, rfl, tyX9_ok, nmX9, Or.inr ⟨rfl, rfl, rfl⟩, rfl⟩
theorem pg_X9_84 : PG μX9_init 84 9 54 (.array .boolean) := ⟨_, _, _, tyX9, rfl, in_X9, rfl, by decide, gm 1224 (by decide +kernel) rfl, rfl, tyX9_ok, nmX9, Or.inr ⟨rfl, rfl, rfl⟩, rfl⟩
theorem pg_X9_88 : PG μX9_init 88 9 57 (.array .int) := ⟨_, _, _, tyX9, rfl, in_X9, rfl, by decide, gm 1227 (by decide +kernel) rfl, rfl, tyX9_ok, nmX9, Or.inr ⟨rfl, rfl, rfl⟩, rfl⟩
theorem pg_X9_91 : PG μX9_init 91 9 58 (.array .int) := ⟨_, _, _, tyX9, rfl, in_X9, rfl, by decide, gm 1228 (by decide +kernel) rfl, rfl, tyX9_ok, nmX9, Or.inr ⟨rfl, rfl, rfl⟩, rfl⟩
theorem pg_X9_94 : PG μX9_init 94 9 59 (.array .boolean) := ⟨_, _, _, tyX9, rfl, in_X9, rfl, by decide, gm 1229 (by decide +kernel) rfl, rfl, tyX9_ok, nmX9, Or.inr ⟨rfl, rfl, rfl⟩, rfl⟩
theorem pg_X9_97 : PG μX9_init 97 9 60 (.array .boolean) := ⟨_, _, _, tyX9, rfl, in_X9, rfl, by decide, gm 1230 (by decide +kernel) rfl, rfl, tyX9_ok, nmX9, Or.inr ⟨rfl, rfl, rfl⟩, rfl⟩
theorem pg_X9_100 : PG μX9_init 100 9 61 (.array .int) := ⟨_, _, _, tyX9, rfl, in_X9, rfl, by decide, gm 1231 (by decide +kernel) rfl, rfl, tyX9_ok, nmX9, Or.inr ⟨rfl, rfl, rfl⟩, rfl⟩
def pmk_3 (pm : Pm) : Pm := (ps (ps (ps (ps (ps (ps (ps (ps (ps (ps pm 3 0 (.int 0)) 3 1 (.int 0)) 3 2 (.int 0)) 3 3 (.int 0)) 3 4 (.int 0)) 3 5 (.ref 4)) 3 6 (.ref 5)) 3 7 (.ref 6)) 3 8 (.ref 7)) 3 9 (.ref 8))
set_option maxRecDepth 20000 in
theorem mk_3 {pm : Pm} : Rc 1 μX2_init 0 [(0, .ref 3)] [] 4 9 4 pm (Ends μX2_init 9 (pmk_3 pm)) := by
  refine rc_aload_n (i := 0) (x := 3) dX2_init_0 rfl (by simp) ?_
  refine rc_obj dX2_init_1 lo_X2_3 io_obj co_obj (by decide) ?_
  refine rc_aload_n (i := 0) (x := 3) dX2_init_4 rfl (by simp) ?_
  refine rc_iconst (v := 0) dX2_init_5 rfl ?_
  refine rc_put (ci := 2) (k := 3) (j := 0) (v := .int 0) dX2_init_6 rfl (by decide) pg_X2_9 (fun _ => rfl) (fun _ => rfl) rfl ?_
  refine rc_aload_n (i := 0) (x := 3) dX2_init_9 rfl (by simp) ?_
  refine rc_iconst (v := 0) dX2_init_10 rfl ?_
  refine rc_put (ci := 2) (k := 3) (j := 1) (v := .int 0) dX2_init_11 rfl (by decide) pg_X2_15 (fun _ => rfl) (fun _ => rfl) rfl ?_
  refine rc_aload_n (i := 0) (x := 3) dX2_init_14 rfl (by simp) ?_
  refine rc_iconst (v := 0) dX2_init_15 rfl ?_
  refine rc_put (ci := 2) (k := 3) (j := 2) (v := .int 0) dX2_init_16 rfl (by decide) pg_X2_18 (fun _ => rfl) (fun _ => rfl) rfl ?_
  refine rc_aload_n (i := 0) (x := 3) dX2_init_19 rfl (by simp) ?_
  refine rc_iconst (v := 0) dX2_init_20 rfl ?_
  refine rc_put (ci := 2) (k := 3) (j := 3) (v := .int 0) dX2_init_21 rfl (by decide) pg_X2_21 (fun _ => rfl) (fun _ => rfl) rfl ?_
  refine rc_aload_n (i := 0) (x := 3) dX2_init_24 rfl (by simp) ?_
  refine rc_iconst (v := 0) dX2_init_25 rfl ?_
  refine rc_put (ci := 2) (k := 3) (j := 4) (v := .int 0) dX2_init_26 rfl (by decide) pg_X2_24 (fun _ => rfl) (fun _ => rfl) rfl ?_
  refine rc_aload_n (i := 0) (x := 3) dX2_init_29 rfl (by simp) ?_
  refine rc_bipush (v := 8) dX2_init_30 rfl ?_
  refine rc_newa (ty := .int) (i := 0) (N := 8) (a0 := (8, .inl (fun _ => 0))) dX2_init_32 rfl ac_int (by decide) (by decide) (by decide) rfl (fun _ _ => rfl) (fun _ => rfl) (fun _ => rfl) (fun _ _ _ => ra_prim (fun _ q => by cases q)) (by decide) rfl (by decide) rfl rfl ?_
  refine rc_put (ci := 2) (k := 3) (j := 5) (v := .ref 4) dX2_init_34 rfl (by decide) pg_X2_27 (fun _ => rfl) (fun _ => rfl) rfl ?_
  refine rc_aload_n (i := 0) (x := 3) dX2_init_37 rfl (by simp) ?_
  refine rc_bipush (v := 12) dX2_init_38 rfl ?_
  refine rc_newa (ty := .int) (i := 0) (N := 12) (a0 := (12, .inl (fun _ => 0))) dX2_init_40 rfl ac_int (by decide) (by decide) (by decide) rfl (fun _ _ => rfl) (fun _ => rfl) (fun _ => rfl) (fun _ _ _ => ra_prim (fun _ q => by cases q)) (by decide) rfl (by decide) rfl rfl ?_
  refine rc_put (ci := 2) (k := 3) (j := 6) (v := .ref 5) dX2_init_42 rfl (by decide) pg_X2_31 (fun _ => rfl) (fun _ => rfl) rfl ?_
  refine rc_aload_n (i := 0) (x := 3) dX2_init_45 rfl (by simp) ?_
  refine rc_bipush (v := 8) dX2_init_46 rfl ?_
  refine rc_newa (ty := .int) (i := 0) (N := 8) (a0 := (8, .inl (fun _ => 0))) dX2_init_48 rfl ac_int (by decide) (by decide) (by decide) rfl (fun _ _ => rfl) (fun _ => rfl) (fun _ => rfl) (fun _ _ _ => ra_prim (fun _ q => by cases q)) (by decide) rfl (by decide) rfl rfl ?_
  refine rc_put (ci := 2) (k := 3) (j := 7) (v := .ref 6) dX2_init_50 rfl (by decide) pg_X2_34 (fun _ => rfl) (fun _ => rfl) rfl ?_
  refine rc_aload_n (i := 0) (x := 3) dX2_init_53 rfl (by simp) ?_
  refine rc_bipush (v := 8) dX2_init_54 rfl ?_
  refine rc_newa (ty := .int) (i := 0) (N := 8) (a0 := (8, .inl (fun _ => 0))) dX2_init_56 rfl ac_int (by decide) (by decide) (by decide) rfl (fun _ _ => rfl) (fun _ => rfl) (fun _ => rfl) (fun _ _ _ => ra_prim (fun _ q => by cases q)) (by decide) rfl (by decide) rfl rfl ?_
  refine rc_put (ci := 2) (k := 3) (j := 8) (v := .ref 7) dX2_init_58 rfl (by decide) pg_X2_37 (fun _ => rfl) (fun _ => rfl) rfl ?_
  refine rc_aload_n (i := 0) (x := 3) dX2_init_61 rfl (by simp) ?_
  refine rc_bipush (v := 8) dX2_init_62 rfl ?_
  refine rc_newa (ty := .int) (i := 0) (N := 8) (a0 := (8, .inl (fun _ => 0))) dX2_init_64 rfl ac_int (by decide) (by decide) (by decide) rfl (fun _ _ => rfl) (fun _ => rfl) (fun _ => rfl) (fun _ _ _ => ra_prim (fun _ q => by cases q)) (by decide) rfl (by decide) rfl rfl ?_
  refine rc_put (ci := 2) (k := 3) (j := 9) (v := .ref 8) dX2_init_66 rfl (by decide) pg_X2_40 (fun _ => rfl) (fun _ => rfl) rfl ?_
  exact rc_end ⟨dX2_init_69, rfl, rfl, rfl⟩
def pmk_9 (pm : Pm) : Pm := (ps (ps (ps (ps (ps pm 9 0 (.ref 10)) 9 1 (.ref 11)) 9 2 (.ref 12)) 9 3 (.int 0)) 9 4 (.int 0))
set_option maxRecDepth 20000 in
theorem mk_9 {pm : Pm} : Rc 1 μX1_init 0 [(0, .ref 9)] [] 10 13 10 pm (Ends μX1_init 13 (pmk_9 pm)) := by
  refine rc_aload_n (i := 0) (x := 9) dX1_init_0 rfl (by simp) ?_
  refine rc_obj dX1_init_1 lo_X1_3 io_obj co_obj (by decide) ?_
  refine rc_aload_n (i := 0) (x := 9) dX1_init_4 rfl (by simp) ?_
  refine rc_sipush (v := 270) dX1_init_5 rfl ?_
  refine rc_newa (ty := .int) (i := 0) (N := 270) (a0 := (270, .inl (fun _ => 0))) dX1_init_8 rfl ac_int (by decide) (by decide) (by decide) rfl (fun _ _ => rfl) (fun _ => rfl) (fun _ => rfl) (fun _ _ _ => ra_prim (fun _ q => by cases q)) (by decide) rfl (by decide) rfl rfl ?_
  refine rc_put (ci := 1) (k := 9) (j := 0) (v := .ref 10) dX1_init_10 rfl (by decide) pg_X1_9 (fun _ => rfl) (fun _ => rfl) rfl ?_
  refine rc_aload_n (i := 0) (x := 9) dX1_init_13 rfl (by simp) ?_
  refine rc_bipush (v := 31) dX1_init_14 rfl ?_
  refine rc_newa (ty := .int) (i := 0) (N := 31) (a0 := (31, .inl (fun _ => 0))) dX1_init_16 rfl ac_int (by decide) (by decide) (by decide) rfl (fun _ _ => rfl) (fun _ => rfl) (fun _ => rfl) (fun _ _ _ => ra_prim (fun _ q => by cases q)) (by decide) rfl (by decide) rfl rfl ?_
  refine rc_put (ci := 1) (k := 9) (j := 1) (v := .ref 11) dX1_init_18 rfl (by decide) pg_X1_15 (fun _ => rfl) (fun _ => rfl) rfl ?_
  refine rc_aload_n (i := 0) (x := 9) dX1_init_21 rfl (by simp) ?_
  refine rc_bipush (v := 6) dX1_init_22 rfl ?_
  refine rc_newa (ty := .int) (i := 0) (N := 6) (a0 := (6, .inl (fun _ => 0))) dX1_init_24 rfl ac_int (by decide) (by decide) (by decide) rfl (fun _ _ => rfl) (fun _ => rfl) (fun _ => rfl) (fun _ _ _ => ra_prim (fun _ q => by cases q)) (by decide) rfl (by decide) rfl rfl ?_
  refine rc_put (ci := 1) (k := 9) (j := 2) (v := .ref 12) dX1_init_26 rfl (by decide) pg_X1_18 (fun _ => rfl) (fun _ => rfl) rfl ?_
  refine rc_aload_n (i := 0) (x := 9) dX1_init_29 rfl (by simp) ?_
  refine rc_iconst (v := 0) dX1_init_30 rfl ?_
  refine rc_put (ci := 1) (k := 9) (j := 3) (v := .int 0) dX1_init_31 rfl (by decide) pg_X1_21 (fun _ => rfl) (fun _ => rfl) rfl ?_
  refine rc_aload_n (i := 0) (x := 9) dX1_init_34 rfl (by simp) ?_
  refine rc_iconst (v := 0) dX1_init_35 rfl ?_
  refine rc_put (ci := 1) (k := 9) (j := 4) (v := .int 0) dX1_init_36 rfl (by decide) pg_X1_25 (fun _ => rfl) (fun _ => rfl) rfl ?_
  exact rc_end ⟨dX1_init_39, rfl, rfl, rfl⟩
def pmk_2 (pm : Pm) : Pm := (ps (ps (ps (ps (ps (ps (ps (pmk_9 (ps (pmk_3 pm) 2 0 (.ref 3))) 2 1 (.ref 9)) 2 2 (.ref 13)) 2 3 (.int 0)) 2 4 (.int 0)) 2 5 (.int 0)) 2 6 (.int 0)) 2 7 (.int 0))
set_option maxRecDepth 20000 in
theorem mk_2 {pm : Pm} : Rc 2 μX7_init 0 [(0, .ref 2)] [] 3 14 3 pm (Ends μX7_init 14 (pmk_2 pm)) := by
  refine rc_aload_n (i := 0) (x := 2) dX7_init_0 rfl (by simp) ?_
  refine rc_obj dX7_init_1 lo_X7_3 io_obj co_obj (by decide) ?_
  refine rc_aload_n (i := 0) (x := 2) dX7_init_4 rfl (by simp) ?_
  refine rc_new (ci := 2) tyX2 dX7_init_5 (by decide) (by decide) (by decide) rfl rfl rfl in_X2 tyX2_ok df_X2 cl_X7_9 it_X2 iz_X2 rfl rfl ?_
  refine rc_dup dX7_init_8 rfl ?_
  refine rc_callI (n' := 9) dX7_init_9 mf_X2_init rfl li_X7_11 ii_X2_init rfl (by decide) (by decide) (by decide) (by decide) (by decide) rfl rfl (Rc.deeper (d := 1) (by decide) mk_3) ?_
  refine rc_put (ci := 7) (k := 2) (j := 0) (v := .ref 3) dX7_init_12 rfl (by decide) pg_X7_12 (fun _ => rfl) (fun _ => rfl) rfl ?_
  refine rc_aload_n (i := 0) (x := 2) dX7_init_15 rfl (by simp) ?_
  refine rc_new (ci := 1) tyX1 dX7_init_16 (by decide) (by decide) (by decide) rfl rfl rfl in_X1 tyX1_ok df_X1 cl_X7_18 it_X1 iz_X1 rfl rfl ?_
  refine rc_dup dX7_init_19 rfl ?_
  refine rc_callI (n' := 13) dX7_init_20 mf_X1_init rfl li_X7_20 ii_X1_init rfl (by decide) (by decide) (by decide) (by decide) (by decide) rfl rfl (Rc.deeper (d := 1) (by decide) mk_9) ?_
  refine rc_put (ci := 7) (k := 2) (j := 1) (v := .ref 9) dX7_init_23 rfl (by decide) pg_X7_21 (fun _ => rfl) (fun _ => rfl) rfl ?_
  refine rc_aload_n (i := 0) (x := 2) dX7_init_26 rfl (by simp) ?_
  refine rc_bipush (v := 8) dX7_init_27 rfl ?_
  refine rc_newa (ty := .long) (i := 1) (N := 8) (a0 := (8, .inr (.inl (fun _ => 0)))) dX7_init_29 rfl ac_long (by decide) (by decide) (by decide) rfl (fun _ _ => rfl) (fun _ => rfl) (fun _ => rfl) (fun _ _ _ => ra_prim (fun _ q => by cases q)) (by decide) rfl (by decide) rfl rfl ?_
  refine rc_put (ci := 7) (k := 2) (j := 2) (v := .ref 13) dX7_init_31 rfl (by decide) pg_X7_25 (fun _ => rfl) (fun _ => rfl) rfl ?_
  refine rc_aload_n (i := 0) (x := 2) dX7_init_34 rfl (by simp) ?_
  refine rc_iconst (v := 0) dX7_init_35 rfl ?_
  refine rc_put (ci := 7) (k := 2) (j := 3) (v := .int 0) dX7_init_36 rfl (by decide) pg_X7_29 (fun _ => rfl) (fun _ => rfl) rfl ?_
  refine rc_aload_n (i := 0) (x := 2) dX7_init_39 rfl (by simp) ?_
  refine rc_iconst (v := 0) dX7_init_40 rfl ?_
  refine rc_put (ci := 7) (k := 2) (j := 4) (v := .int 0) dX7_init_41 rfl (by decide) pg_X7_33 (fun _ => rfl) (fun _ => rfl) rfl ?_
  refine rc_aload_n (i := 0) (x := 2) dX7_init_44 rfl (by simp) ?_
  refine rc_iconst (v := 0) dX7_init_45 rfl ?_
  refine rc_put (ci := 7) (k := 2) (j := 5) (v := .int 0) dX7_init_46 rfl (by decide) pg_X7_36 (fun _ => rfl) (fun _ => rfl) rfl ?_
  refine rc_aload_n (i := 0) (x := 2) dX7_init_49 rfl (by simp) ?_
  refine rc_iconst (v := 0) dX7_init_50 rfl ?_
  refine rc_put (ci := 7) (k := 2) (j := 6) (v := .int 0) dX7_init_51 rfl (by decide) pg_X7_40 (fun _ => rfl) (fun _ => rfl) rfl ?_
  refine rc_aload_n (i := 0) (x := 2) dX7_init_54 rfl (by simp) ?_
  refine rc_iconst (v := 0) dX7_init_55 rfl ?_
  refine rc_put (ci := 7) (k := 2) (j := 7) (v := .int 0) dX7_init_56 rfl (by decide) pg_X7_43 (fun _ => rfl) (fun _ => rfl) rfl ?_
  exact rc_end ⟨dX7_init_59, rfl, rfl, rfl⟩
def pmk_1 (pm : Pm) : Pm := (ps (ps (ps (ps (ps (ps (ps (ps (ps (pmk_2 (ps (ps (ps pm 1 0 (.int 0)) 1 1 (.int (-1))) 1 2 (.int 0))) 1 3 (.ref 2)) 1 4 (.ref 14)) 1 5 (.int 0)) 1 6 (.int 0)) 1 7 (.int 0)) 1 8 (.int 0)) 1 9 (.int 0)) 1 10 (.int (-1))) 1 11 (.long 0))
set_option maxRecDepth 20000 in
theorem mk_1 {pm : Pm} : Rc 3 μX6_init 0 [(0, .ref 1)] [] 2 15 2 pm (Ends μX6_init 15 (pmk_1 pm)) := by
  refine rc_aload_n (i := 0) (x := 1) dX6_init_0 rfl (by simp) ?_
  refine rc_obj dX6_init_1 lo_X6_3 io_obj co_obj (by decide) ?_
  refine rc_aload_n (i := 0) (x := 1) dX6_init_4 rfl (by simp) ?_
  refine rc_iconst (v := 0) dX6_init_5 rfl ?_
  refine rc_put (ci := 6) (k := 1) (j := 0) (v := .int 0) dX6_init_6 rfl (by decide) pg_X6_9 (fun _ => rfl) (fun _ => rfl) rfl ?_
  refine rc_aload_n (i := 0) (x := 1) dX6_init_9 rfl (by simp) ?_
  refine rc_iconst (v := -1) dX6_init_10 rfl ?_
  refine rc_put (ci := 6) (k := 1) (j := 1) (v := .int (-1)) dX6_init_11 rfl (by decide) pg_X6_15 (fun _ => rfl) (fun _ => rfl) rfl ?_
  refine rc_aload_n (i := 0) (x := 1) dX6_init_14 rfl (by simp) ?_
  refine rc_iconst (v := 0) dX6_init_15 rfl ?_
  refine rc_put (ci := 6) (k := 1) (j := 2) (v := .int 0) dX6_init_16 rfl (by decide) pg_X6_18 (fun _ => rfl) (fun _ => rfl) rfl ?_
  refine rc_aload_n (i := 0) (x := 1) dX6_init_19 rfl (by simp) ?_
  refine rc_new (ci := 7) tyX7 dX6_init_20 (by decide) (by decide) (by decide) rfl rfl rfl in_X7 tyX7_ok df_X7 cl_X6_21 it_X7 iz_X7 rfl rfl ?_
  refine rc_dup dX6_init_23 rfl ?_
  refine rc_callI (n' := 14) dX6_init_24 mf_X7_init rfl li_X6_23 ii_X7_init rfl (by decide) (by decide) (by decide) (by decide) (by decide) rfl rfl (Rc.deeper (d := 2) (by decide) mk_2) ?_
  refine rc_put (ci := 6) (k := 1) (j := 3) (v := .ref 2) dX6_init_27 rfl (by decide) pg_X6_24 (fun _ => rfl) (fun _ => rfl) rfl ?_
  refine rc_aload_n (i := 0) (x := 1) dX6_init_30 rfl (by simp) ?_
  refine rc_sipush (v := 1600) dX6_init_31 rfl ?_
  refine rc_newa (ty := .byte) (i := 2) (N := 1600) (a0 := (1600, .inl (fun _ => 0))) dX6_init_34 rfl ac_byte (by decide) (by decide) (by decide) rfl (fun _ _ => rfl) (fun _ => rfl) (fun _ => rfl) (fun _ _ _ => ra_prim (fun _ q => by cases q)) (by decide) rfl (by decide) rfl rfl ?_
  refine rc_put (ci := 6) (k := 1) (j := 4) (v := .ref 14) dX6_init_36 rfl (by decide) pg_X6_28 (fun _ => rfl) (fun _ => rfl) rfl ?_
  refine rc_aload_n (i := 0) (x := 1) dX6_init_39 rfl (by simp) ?_
  refine rc_iconst (v := 0) dX6_init_40 rfl ?_
  refine rc_put (ci := 6) (k := 1) (j := 5) (v := .int 0) dX6_init_41 rfl (by decide) pg_X6_32 (fun _ => rfl) (fun _ => rfl) rfl ?_
  refine rc_aload_n (i := 0) (x := 1) dX6_init_44 rfl (by simp) ?_
  refine rc_iconst (v := 0) dX6_init_45 rfl ?_
  refine rc_put (ci := 6) (k := 1) (j := 6) (v := .int 0) dX6_init_46 rfl (by decide) pg_X6_35 (fun _ => rfl) (fun _ => rfl) rfl ?_
  refine rc_aload_n (i := 0) (x := 1) dX6_init_49 rfl (by simp) ?_
  refine rc_iconst (v := 0) dX6_init_50 rfl ?_
  refine rc_put (ci := 6) (k := 1) (j := 7) (v := .int 0) dX6_init_51 rfl (by decide) pg_X6_38 (fun _ => rfl) (fun _ => rfl) rfl ?_
  refine rc_aload_n (i := 0) (x := 1) dX6_init_54 rfl (by simp) ?_
  refine rc_iconst (v := 0) dX6_init_55 rfl ?_
  refine rc_put (ci := 6) (k := 1) (j := 8) (v := .int 0) dX6_init_56 rfl (by decide) pg_X6_41 (fun _ => rfl) (fun _ => rfl) rfl ?_
  refine rc_aload_n (i := 0) (x := 1) dX6_init_59 rfl (by simp) ?_
  refine rc_iconst (v := 0) dX6_init_60 rfl ?_
  refine rc_put (ci := 6) (k := 1) (j := 9) (v := .int 0) dX6_init_61 rfl (by decide) pg_X6_44 (fun _ => rfl) (fun _ => rfl) rfl ?_
  refine rc_aload_n (i := 0) (x := 1) dX6_init_64 rfl (by simp) ?_
  refine rc_iconst (v := -1) dX6_init_65 rfl ?_
  refine rc_put (ci := 6) (k := 1) (j := 10) (v := .int (-1)) dX6_init_66 rfl (by decide) pg_X6_47 (fun _ => rfl) (fun _ => rfl) rfl ?_
  refine rc_aload_n (i := 0) (x := 1) dX6_init_69 rfl (by simp) ?_
  refine rc_lconst (v := 0) dX6_init_70 rfl ?_
  refine rc_put (ci := 6) (k := 1) (j := 11) (v := .long 0) dX6_init_71 rfl (by decide) pg_X6_50 (fun _ => rfl) (fun _ => rfl) rfl ?_
  exact rc_end ⟨dX6_init_74, rfl, rfl, rfl⟩
def pmk_16 (pm : Pm) : Pm := (ps (ps (ps (ps (ps (ps (ps (ps (ps (ps pm 16 0 (.int 0)) 16 1 (.int 0)) 16 2 (.int 0)) 16 3 (.int 0)) 16 4 (.int 0)) 16 5 (.ref 17)) 16 6 (.ref 18)) 16 7 (.ref 19)) 16 8 (.ref 20)) 16 9 (.ref 21))
set_option maxRecDepth 20000 in
theorem mk_16 {pm : Pm} : Rc 1 μX2_init 0 [(0, .ref 16)] [] 17 22 17 pm (Ends μX2_init 22 (pmk_16 pm)) := by
  refine rc_aload_n (i := 0) (x := 16) dX2_init_0 rfl (by simp) ?_
  refine rc_obj dX2_init_1 lo_X2_3 io_obj co_obj (by decide) ?_
  refine rc_aload_n (i := 0) (x := 16) dX2_init_4 rfl (by simp) ?_
  refine rc_iconst (v := 0) dX2_init_5 rfl ?_
  refine rc_put (ci := 2) (k := 16) (j := 0) (v := .int 0) dX2_init_6 rfl (by decide) pg_X2_9 (fun _ => rfl) (fun _ => rfl) rfl ?_
  refine rc_aload_n (i := 0) (x := 16) dX2_init_9 rfl (by simp) ?_
  refine rc_iconst (v := 0) dX2_init_10 rfl ?_
  refine rc_put (ci := 2) (k := 16) (j := 1) (v := .int 0) dX2_init_11 rfl (by decide) pg_X2_15 (fun _ => rfl) (fun _ => rfl) rfl ?_
  refine rc_aload_n (i := 0) (x := 16) dX2_init_14 rfl (by simp) ?_
  refine rc_iconst (v := 0) dX2_init_15 rfl ?_
  refine rc_put (ci := 2) (k := 16) (j := 2) (v := .int 0) dX2_init_16 rfl (by decide) pg_X2_18 (fun _ => rfl) (fun _ => rfl) rfl ?_
  refine rc_aload_n (i := 0) (x := 16) dX2_init_19 rfl (by simp) ?_
  refine rc_iconst (v := 0) dX2_init_20 rfl ?_
  refine rc_put (ci := 2) (k := 16) (j := 3) (v := .int 0) dX2_init_21 rfl (by decide) pg_X2_21 (fun _ => rfl) (fun _ => rfl) rfl ?_
  refine rc_aload_n (i := 0) (x := 16) dX2_init_24 rfl (by simp) ?_
  refine rc_iconst (v := 0) dX2_init_25 rfl ?_
  refine rc_put (ci := 2) (k := 16) (j := 4) (v := .int 0) dX2_init_26 rfl (by decide) pg_X2_24 (fun _ => rfl) (fun _ => rfl) rfl ?_
  refine rc_aload_n (i := 0) (x := 16) dX2_init_29 rfl (by simp) ?_
  refine rc_bipush (v := 8) dX2_init_30 rfl ?_
  refine rc_newa (ty := .int) (i := 0) (N := 8) (a0 := (8, .inl (fun _ => 0))) dX2_init_32 rfl ac_int (by decide) (by decide) (by decide) rfl (fun _ _ => rfl) (fun _ => rfl) (fun _ => rfl) (fun _ _ _ => ra_prim (fun _ q => by cases q)) (by decide) rfl (by decide) rfl rfl ?_
  refine rc_put (ci := 2) (k := 16) (j := 5) (v := .ref 17) dX2_init_34 rfl (by decide) pg_X2_27 (fun _ => rfl) (fun _ => rfl) rfl ?_
  refine rc_aload_n (i := 0) (x := 16) dX2_init_37 rfl (by simp) ?_
  refine rc_bipush (v := 12) dX2_init_38 rfl ?_
  refine rc_newa (ty := .int) (i := 0) (N := 12) (a0 := (12, .inl (fun _ => 0))) dX2_init_40 rfl ac_int (by decide) (by decide) (by decide) rfl (fun _ _ => rfl) (fun _ => rfl) (fun _ => rfl) (fun _ _ _ => ra_prim (fun _ q => by cases q)) (by decide) rfl (by decide) rfl rfl ?_
  refine rc_put (ci := 2) (k := 16) (j := 6) (v := .ref 18) dX2_init_42 rfl (by decide) pg_X2_31 (fun _ => rfl) (fun _ => rfl) rfl ?_
  refine rc_aload_n (i := 0) (x := 16) dX2_init_45 rfl (by simp) ?_
  refine rc_bipush (v := 8) dX2_init_46 rfl ?_
  refine rc_newa (ty := .int) (i := 0) (N := 8) (a0 := (8, .inl (fun _ => 0))) dX2_init_48 rfl ac_int (by decide) (by decide) (by decide) rfl (fun _ _ => rfl) (fun _ => rfl) (fun _ => rfl) (fun _ _ _ => ra_prim (fun _ q => by cases q)) (by decide) rfl (by decide) rfl rfl ?_
  refine rc_put (ci := 2) (k := 16) (j := 7) (v := .ref 19) dX2_init_50 rfl (by decide) pg_X2_34 (fun _ => rfl) (fun _ => rfl) rfl ?_
  refine rc_aload_n (i := 0) (x := 16) dX2_init_53 rfl (by simp) ?_
  refine rc_bipush (v := 8) dX2_init_54 rfl ?_
  refine rc_newa (ty := .int) (i := 0) (N := 8) (a0 := (8, .inl (fun _ => 0))) dX2_init_56 rfl ac_int (by decide) (by decide) (by decide) rfl (fun _ _ => rfl) (fun _ => rfl) (fun _ => rfl) (fun _ _ _ => ra_prim (fun _ q => by cases q)) (by decide) rfl (by decide) rfl rfl ?_
  refine rc_put (ci := 2) (k := 16) (j := 8) (v := .ref 20) dX2_init_58 rfl (by decide) pg_X2_37 (fun _ => rfl) (fun _ => rfl) rfl ?_
  refine rc_aload_n (i := 0) (x := 16) dX2_init_61 rfl (by simp) ?_
  refine rc_bipush (v := 8) dX2_init_62 rfl ?_
  refine rc_newa (ty := .int) (i := 0) (N := 8) (a0 := (8, .inl (fun _ => 0))) dX2_init_64 rfl ac_int (by decide) (by decide) (by decide) rfl (fun _ _ => rfl) (fun _ => rfl) (fun _ => rfl) (fun _ _ _ => ra_prim (fun _ q => by cases q)) (by decide) rfl (by decide) rfl rfl ?_
  refine rc_put (ci := 2) (k := 16) (j := 9) (v := .ref 21) dX2_init_66 rfl (by decide) pg_X2_40 (fun _ => rfl) (fun _ => rfl) rfl ?_
  exact rc_end ⟨dX2_init_69, rfl, rfl, rfl⟩
def pmk_22 (pm : Pm) : Pm := (ps (ps (ps (ps (ps pm 22 0 (.ref 23)) 22 1 (.ref 24)) 22 2 (.ref 25)) 22 3 (.int 0)) 22 4 (.int 0))
set_option maxRecDepth 20000 in
theorem mk_22 {pm : Pm} : Rc 1 μX1_init 0 [(0, .ref 22)] [] 23 26 23 pm (Ends μX1_init 26 (pmk_22 pm)) := by
  refine rc_aload_n (i := 0) (x := 22) dX1_init_0 rfl (by simp) ?_
  refine rc_obj dX1_init_1 lo_X1_3 io_obj co_obj (by decide) ?_
  refine rc_aload_n (i := 0) (x := 22) dX1_init_4 rfl (by simp) ?_
  refine rc_sipush (v := 270) dX1_init_5 rfl ?_
  refine rc_newa (ty := .int) (i := 0) (N := 270) (a0 := (270, .inl (fun _ => 0))) dX1_init_8 rfl ac_int (by decide) (by decide) (by decide) rfl (fun _ _ => rfl) (fun _ => rfl) (fun _ => rfl) (fun _ _ _ => ra_prim (fun _ q => by cases q)) (by decide) rfl (by decide) rfl rfl ?_
  refine rc_put (ci := 1) (k := 22) (j := 0) (v := .ref 23) dX1_init_10 rfl (by decide) pg_X1_9 (fun _ => rfl) (fun _ => rfl) rfl ?_
  refine rc_aload_n (i := 0) (x := 22) dX1_init_13 rfl (by simp) ?_
  refine rc_bipush (v := 31) dX1_init_14 rfl ?_
  refine rc_newa (ty := .int) (i := 0) (N := 31) (a0 := (31, .inl (fun _ => 0))) dX1_init_16 rfl ac_int (by decide) (by decide) (by decide) rfl (fun _ _ => rfl) (fun _ => rfl) (fun _ => rfl) (fun _ _ _ => ra_prim (fun _ q => by cases q)) (by decide) rfl (by decide) rfl rfl ?_
  refine rc_put (ci := 1) (k := 22) (j := 1) (v := .ref 24) dX1_init_18 rfl (by decide) pg_X1_15 (fun _ => rfl) (fun _ => rfl) rfl ?_
  refine rc_aload_n (i := 0) (x := 22) dX1_init_21 rfl (by simp) ?_
  refine rc_bipush (v := 6) dX1_init_22 rfl ?_
  refine rc_newa (ty := .int) (i := 0) (N := 6) (a0 := (6, .inl (fun _ => 0))) dX1_init_24 rfl ac_int (by decide) (by decide) (by decide) rfl (fun _ _ => rfl) (fun _ => rfl) (fun _ => rfl) (fun _ _ _ => ra_prim (fun _ q => by cases q)) (by decide) rfl (by decide) rfl rfl ?_
  refine rc_put (ci := 1) (k := 22) (j := 2) (v := .ref 25) dX1_init_26 rfl (by decide) pg_X1_18 (fun _ => rfl) (fun _ => rfl) rfl ?_
  refine rc_aload_n (i := 0) (x := 22) dX1_init_29 rfl (by simp) ?_
  refine rc_iconst (v := 0) dX1_init_30 rfl ?_
  refine rc_put (ci := 1) (k := 22) (j := 3) (v := .int 0) dX1_init_31 rfl (by decide) pg_X1_21 (fun _ => rfl) (fun _ => rfl) rfl ?_
  refine rc_aload_n (i := 0) (x := 22) dX1_init_34 rfl (by simp) ?_
  refine rc_iconst (v := 0) dX1_init_35 rfl ?_
  refine rc_put (ci := 1) (k := 22) (j := 4) (v := .int 0) dX1_init_36 rfl (by decide) pg_X1_25 (fun _ => rfl) (fun _ => rfl) rfl ?_
  exact rc_end ⟨dX1_init_39, rfl, rfl, rfl⟩
def pmk_15 (pm : Pm) : Pm := (ps (ps (ps (ps (ps (ps (ps (pmk_22 (ps (pmk_16 pm) 15 0 (.ref 16))) 15 1 (.ref 22)) 15 2 (.ref 26)) 15 3 (.int 0)) 15 4 (.int 0)) 15 5 (.int 0)) 15 6 (.int 0)) 15 7 (.int 0))
set_option maxRecDepth 20000 in
theorem mk_15 {pm : Pm} : Rc 2 μX7_init 0 [(0, .ref 15)] [] 16 27 16 pm (Ends μX7_init 27 (pmk_15 pm)) := by
  refine rc_aload_n (i := 0) (x := 15) dX7_init_0 rfl (by simp) ?_
  refine rc_obj dX7_init_1 lo_X7_3 io_obj co_obj (by decide) ?_
  refine rc_aload_n (i := 0) (x := 15) dX7_init_4 rfl (by simp) ?_
  refine rc_new (ci := 2) tyX2 dX7_init_5 (by decide) (by decide) (by decide) rfl rfl rfl in_X2 tyX2_ok df_X2 cl_X7_9 it_X2 iz_X2 rfl rfl ?_
  refine rc_dup dX7_init_8 rfl ?_
  refine rc_callI (n' := 22) dX7_init_9 mf_X2_init rfl li_X7_11 ii_X2_init rfl (by decide) (by decide) (by decide) (by decide) (by decide) rfl rfl (Rc.deeper (d := 1) (by decide) mk_16) ?_
  refine rc_put (ci := 7) (k := 15) (j := 0) (v := .ref 16) dX7_init_12 rfl (by decide) pg_X7_12 (fun _ => rfl) (fun _ => rfl) rfl ?_
  refine rc_aload_n (i := 0) (x := 15) dX7_init_15 rfl (by simp) ?_
  refine rc_new (ci := 1) tyX1 dX7_init_16 (by decide) (by decide) (by decide) rfl rfl rfl in_X1 tyX1_ok df_X1 cl_X7_18 it_X1 iz_X1 rfl rfl ?_
  refine rc_dup dX7_init_19 rfl ?_
  refine rc_callI (n' := 26) dX7_init_20 mf_X1_init rfl li_X7_20 ii_X1_init rfl (by decide) (by decide) (by decide) (by decide) (by decide) rfl rfl (Rc.deeper (d := 1) (by decide) mk_22) ?_
  refine rc_put (ci := 7) (k := 15) (j := 1) (v := .ref 22) dX7_init_23 rfl (by decide) pg_X7_21 (fun _ => rfl) (fun _ => rfl) rfl ?_
  refine rc_aload_n (i := 0) (x := 15) dX7_init_26 rfl (by simp) ?_
  refine rc_bipush (v := 8) dX7_init_27 rfl ?_
  refine rc_newa (ty := .long) (i := 1) (N := 8) (a0 := (8, .inr (.inl (fun _ => 0)))) dX7_init_29 rfl ac_long (by decide) (by decide) (by decide) rfl (fun _ _ => rfl) (fun _ => rfl) (fun _ => rfl) (fun _ _ _ => ra_prim (fun _ q => by cases q)) (by decide) rfl (by decide) rfl rfl ?_
  refine rc_put (ci := 7) (k := 15) (j := 2) (v := .ref 26) dX7_init_31 rfl (by decide) pg_X7_25 (fun _ => rfl) (fun _ => rfl) rfl ?_
  refine rc_aload_n (i := 0) (x := 15) dX7_init_34 rfl (by simp) ?_
  refine rc_iconst (v := 0) dX7_init_35 rfl ?_
  refine rc_put (ci := 7) (k := 15) (j := 3) (v := .int 0) dX7_init_36 rfl (by decide) pg_X7_29 (fun _ => rfl) (fun _ => rfl) rfl ?_
  refine rc_aload_n (i := 0) (x := 15) dX7_init_39 rfl (by simp) ?_
  refine rc_iconst (v := 0) dX7_init_40 rfl ?_
  refine rc_put (ci := 7) (k := 15) (j := 4) (v := .int 0) dX7_init_41 rfl (by decide) pg_X7_33 (fun _ => rfl) (fun _ => rfl) rfl ?_
  refine rc_aload_n (i := 0) (x := 15) dX7_init_44 rfl (by simp) ?_
  refine rc_iconst (v := 0) dX7_init_45 rfl ?_
  refine rc_put (ci := 7) (k := 15) (j := 5) (v := .int 0) dX7_init_46 rfl (by decide) pg_X7_36 (fun _ => rfl) (fun _ => rfl) rfl ?_
  refine rc_aload_n (i := 0) (x := 15) dX7_init_49 rfl (by simp) ?_
  refine rc_iconst (v := 0) dX7_init_50 rfl ?_
  refine rc_put (ci := 7) (k := 15) (j := 6) (v := .int 0) dX7_init_51 rfl (by decide) pg_X7_40 (fun _ => rfl) (fun _ => rfl) rfl ?_
  refine rc_aload_n (i := 0) (x := 15) dX7_init_54 rfl (by simp) ?_
  refine rc_iconst (v := 0) dX7_init_55 rfl ?_
  refine rc_put (ci := 7) (k := 15) (j := 7) (v := .int 0) dX7_init_56 rfl (by decide) pg_X7_43 (fun _ => rfl) (fun _ => rfl) rfl ?_
  exact rc_end ⟨dX7_init_59, rfl, rfl, rfl⟩
def pmk_27 (pm : Pm) : Pm := (ps (ps (ps (ps (ps (ps (ps (ps (ps (ps pm 27 0 (.int 0)) 27 1 (.int 0)) 27 2 (.int 0)) 27 3 (.int 0)) 27 4 (.int 0)) 27 5 (.ref 28)) 27 6 (.ref 29)) 27 7 (.ref 30)) 27 8 (.ref 31)) 27 9 (.ref 32))
set_option maxRecDepth 20000 in
theorem mk_27 {pm : Pm} : Rc 1 μX2_init 0 [(0, .ref 27)] [] 28 33 28 pm (Ends μX2_init 33 (pmk_27 pm)) := by
  refine rc_aload_n (i := 0) (x := 27) dX2_init_0 rfl (by simp) ?_
  refine rc_obj dX2_init_1 lo_X2_3 io_obj co_obj (by decide) ?_
  refine rc_aload_n (i := 0) (x := 27) dX2_init_4 rfl (by simp) ?_
  refine rc_iconst (v := 0) dX2_init_5 rfl ?_
  refine rc_put (ci := 2) (k := 27) (j := 0) (v := .int 0) dX2_init_6 rfl (by decide) pg_X2_9 (fun _ => rfl) (fun _ => rfl) rfl ?_
  refine rc_aload_n (i := 0) (x := 27) dX2_init_9 rfl (by simp) ?_
  refine rc_iconst (v := 0) dX2_init_10 rfl ?_
  refine rc_put (ci := 2) (k := 27) (j := 1) (v := .int 0) dX2_init_11 rfl (by decide) pg_X2_15 (fun _ => rfl) (fun _ => rfl) rfl ?_
  refine rc_aload_n (i := 0) (x := 27) dX2_init_14 rfl (by simp) ?_
  refine rc_iconst (v := 0) dX2_init_15 rfl ?_
  refine rc_put (ci := 2) (k := 27) (j := 2) (v := .int 0) dX2_init_16 rfl (by decide) pg_X2_18 (fun _ => rfl) (fun _ => rfl) rfl ?_
  refine rc_aload_n (i := 0) (x := 27) dX2_init_19 rfl (by simp) ?_
  refine rc_iconst (v := 0) dX2_init_20 rfl ?_
  refine rc_put (ci := 2) (k := 27) (j := 3) (v := .int 0) dX2_init_21 rfl (by decide) pg_X2_21 (fun _ => rfl) (fun _ => rfl) rfl ?_
  refine rc_aload_n (i := 0) (x := 27) dX2_init_24 rfl (by simp) ?_
  refine rc_iconst (v := 0) dX2_init_25 rfl ?_
  refine rc_put (ci := 2) (k := 27) (j := 4) (v := .int 0) dX2_init_26 rfl (by decide) pg_X2_24 (fun _ => rfl) (fun _ => rfl) rfl ?_
  refine rc_aload_n (i := 0) (x := 27) dX2_init_29 rfl (by simp) ?_
  refine rc_bipush (v := 8) dX2_init_30 rfl ?_
  refine rc_newa (ty := .int) (i := 0) (N := 8) (a0 := (8, .inl (fun _ => 0))) dX2_init_32 rfl ac_int (by decide) (by decide) (by decide) rfl (fun _ _ => rfl) (fun _ => rfl) (fun _ => rfl) (fun _ _ _ => ra_prim (fun _ q => by cases q)) (by decide) rfl (by decide) rfl rfl ?_
  refine rc_put (ci := 2) (k := 27) (j := 5) (v := .ref 28) dX2_init_34 rfl (by decide) pg_X2_27 (fun _ => rfl) (fun _ => rfl) rfl ?_
  refine rc_aload_n (i := 0) (x := 27) dX2_init_37 rfl (by simp) ?_
  refine rc_bipush (v := 12) dX2_init_38 rfl ?_
  refine rc_newa (ty := .int) (i := 0) (N := 12) (a0 := (12, .inl (fun _ => 0))) dX2_init_40 rfl ac_int (by decide) (by decide) (by decide) rfl (fun _ _ => rfl) (fun _ => rfl) (fun _ => rfl) (fun _ _ _ => ra_prim (fun _ q => by cases q)) (by decide) rfl (by decide) rfl rfl ?_
  refine rc_put (ci := 2) (k := 27) (j := 6) (v := .ref 29) dX2_init_42 rfl (by decide) pg_X2_31 (fun _ => rfl) (fun _ => rfl) rfl ?_
  refine rc_aload_n (i := 0) (x := 27) dX2_init_45 rfl (by simp) ?_
  refine rc_bipush (v := 8) dX2_init_46 rfl ?_
  refine rc_newa (ty := .int) (i := 0) (N := 8) (a0 := (8, .inl (fun _ => 0))) dX2_init_48 rfl ac_int (by decide) (by decide) (by decide) rfl (fun _ _ => rfl) (fun _ => rfl) (fun _ => rfl) (fun _ _ _ => ra_prim (fun _ q => by cases q)) (by decide) rfl (by decide) rfl rfl ?_
  refine rc_put (ci := 2) (k := 27) (j := 7) (v := .ref 30) dX2_init_50 rfl (by decide) pg_X2_34 (fun _ => rfl) (fun _ => rfl) rfl ?_
  refine rc_aload_n (i := 0) (x := 27) dX2_init_53 rfl (by simp) ?_
  refine rc_bipush (v := 8) dX2_init_54 rfl ?_
  refine rc_newa (ty := .int) (i := 0) (N := 8) (a0 := (8, .inl (fun _ => 0))) dX2_init_56 rfl ac_int (by decide) (by decide) (by decide) rfl (fun _ _ => rfl) (fun _ => rfl) (fun _ => rfl) (fun _ _ _ => ra_prim (fun _ q => by cases q)) (by decide) rfl (by decide) rfl rfl ?_
  refine rc_put (ci := 2) (k := 27) (j := 8) (v := .ref 31) dX2_init_58 rfl (by decide) pg_X2_37 (fun _ => rfl) (fun _ => rfl) rfl ?_
  refine rc_aload_n (i := 0) (x := 27) dX2_init_61 rfl (by simp) ?_
  refine rc_bipush (v := 8) dX2_init_62 rfl ?_
  refine rc_newa (ty := .int) (i := 0) (N := 8) (a0 := (8, .inl (fun _ => 0))) dX2_init_64 rfl ac_int (by decide) (by decide) (by decide) rfl (fun _ _ => rfl) (fun _ => rfl) (fun _ => rfl) (fun _ _ _ => ra_prim (fun _ q => by cases q)) (by decide) rfl (by decide) rfl rfl ?_
  refine rc_put (ci := 2) (k := 27) (j := 9) (v := .ref 32) dX2_init_66 rfl (by decide) pg_X2_40 (fun _ => rfl) (fun _ => rfl) rfl ?_
  exact rc_end ⟨dX2_init_69, rfl, rfl, rfl⟩
def pmk_33 (pm : Pm) : Pm := (ps (ps (ps (ps (ps (ps (ps (ps (ps (ps pm 33 0 (.int 0)) 33 1 (.int 0)) 33 2 (.int 0)) 33 3 (.int 0)) 33 4 (.int 0)) 33 5 (.ref 34)) 33 6 (.ref 35)) 33 7 (.ref 36)) 33 8 (.ref 37)) 33 9 (.ref 38))
set_option maxRecDepth 20000 in
theorem mk_33 {pm : Pm} : Rc 1 μX2_init 0 [(0, .ref 33)] [] 34 39 34 pm (Ends μX2_init 39 (pmk_33 pm)) := by
  refine rc_aload_n (i := 0) (x := 33) dX2_init_0 rfl (by simp) ?_
  refine rc_obj dX2_init_1 lo_X2_3 io_obj co_obj (by decide) ?_
  refine rc_aload_n (i := 0) (x := 33) dX2_init_4 rfl (by simp) ?_
  refine rc_iconst (v := 0) dX2_init_5 rfl ?_
  refine rc_put (ci := 2) (k := 33) (j := 0) (v := .int 0) dX2_init_6 rfl (by decide) pg_X2_9 (fun _ => rfl) (fun _ => rfl) rfl ?_
  refine rc_aload_n (i := 0) (x := 33) dX2_init_9 rfl (by simp) ?_
  refine rc_iconst (v := 0) dX2_init_10 rfl ?_
  refine rc_put (ci := 2) (k := 33) (j := 1) (v := .int 0) dX2_init_11 rfl (by decide) pg_X2_15 (fun _ => rfl) (fun _ => rfl) rfl ?_
  refine rc_aload_n (i := 0) (x := 33) dX2_init_14 rfl (by simp) ?_
  refine rc_iconst (v := 0) dX2_init_15 rfl ?_
  refine rc_put (ci := 2) (k := 33) (j := 2) (v := .int 0) dX2_init_16 rfl (by decide) pg_X2_18 (fun _ => rfl) (fun _ => rfl) rfl ?_
  refine rc_aload_n (i := 0) (x := 33) dX2_init_19 rfl (by simp) ?_
  refine rc_iconst (v := 0) dX2_init_20 rfl ?_
  refine rc_put (ci := 2) (k := 33) (j := 3) (v := .int 0) dX2_init_21 rfl (by decide) pg_X2_21 (fun _ => rfl) (fun _ => rfl) rfl ?_
  refine rc_aload_n (i := 0) (x := 33) dX2_init_24 rfl (by simp) ?_
  refine rc_iconst (v := 0) dX2_init_25 rfl ?_
  refine rc_put (ci := 2) (k := 33) (j := 4) (v := .int 0) dX2_init_26 rfl (by decide) pg_X2_24 (fun _ => rfl) (fun _ => rfl) rfl ?_
  refine rc_aload_n (i := 0) (x := 33) dX2_init_29 rfl (by simp) ?_
  refine rc_bipush (v := 8) dX2_init_30 rfl ?_
  refine rc_newa (ty := .int) (i := 0) (N := 8) (a0 := (8, .inl (fun _ => 0))) dX2_init_32 rfl ac_int (by decide) (by decide) (by decide) rfl (fun _ _ => rfl) (fun _ => rfl) (fun _ => rfl) (fun _ _ _ => ra_prim (fun _ q => by cases q)) (by decide) rfl (by decide) rfl rfl ?_
  refine rc_put (ci := 2) (k := 33) (j := 5) (v := .ref 34) dX2_init_34 rfl (by decide) pg_X2_27 (fun _ => rfl) (fun _ => rfl) rfl ?_
  refine rc_aload_n (i := 0) (x := 33) dX2_init_37 rfl (by simp) ?_
  refine rc_bipush (v := 12) dX2_init_38 rfl ?_
  refine rc_newa (ty := .int) (i := 0) (N := 12) (a0 := (12, .inl (fun _ => 0))) dX2_init_40 rfl ac_int (by decide) (by decide) (by decide) rfl (fun _ _ => rfl) (fun _ => rfl) (fun _ => rfl) (fun _ _ _ => ra_prim (fun _ q => by cases q)) (by decide) rfl (by decide) rfl rfl ?_
  refine rc_put (ci := 2) (k := 33) (j := 6) (v := .ref 35) dX2_init_42 rfl (by decide) pg_X2_31 (fun _ => rfl) (fun _ => rfl) rfl ?_
  refine rc_aload_n (i := 0) (x := 33) dX2_init_45 rfl (by simp) ?_
  refine rc_bipush (v := 8) dX2_init_46 rfl ?_
  refine rc_newa (ty := .int) (i := 0) (N := 8) (a0 := (8, .inl (fun _ => 0))) dX2_init_48 rfl ac_int (by decide) (by decide) (by decide) rfl (fun _ _ => rfl) (fun _ => rfl) (fun _ => rfl) (fun _ _ _ => ra_prim (fun _ q => by cases q)) (by decide) rfl (by decide) rfl rfl ?_
  refine rc_put (ci := 2) (k := 33) (j := 7) (v := .ref 36) dX2_init_50 rfl (by decide) pg_X2_34 (fun _ => rfl) (fun _ => rfl) rfl ?_
  refine rc_aload_n (i := 0) (x := 33) dX2_init_53 rfl (by simp) ?_
  refine rc_bipush (v := 8) dX2_init_54 rfl ?_
  refine rc_newa (ty := .int) (i := 0) (N := 8) (a0 := (8, .inl (fun _ => 0))) dX2_init_56 rfl ac_int (by decide) (by decide) (by decide) rfl (fun _ _ => rfl) (fun _ => rfl) (fun _ => rfl) (fun _ _ _ => ra_prim (fun _ q => by cases q)) (by decide) rfl (by decide) rfl rfl ?_
  refine rc_put (ci := 2) (k := 33) (j := 8) (v := .ref 37) dX2_init_58 rfl (by decide) pg_X2_37 (fun _ => rfl) (fun _ => rfl) rfl ?_
  refine rc_aload_n (i := 0) (x := 33) dX2_init_61 rfl (by simp) ?_
  refine rc_bipush (v := 8) dX2_init_62 rfl ?_
  refine rc_newa (ty := .int) (i := 0) (N := 8) (a0 := (8, .inl (fun _ => 0))) dX2_init_64 rfl ac_int (by decide) (by decide) (by decide) rfl (fun _ _ => rfl) (fun _ => rfl) (fun _ => rfl) (fun _ _ _ => ra_prim (fun _ q => by cases q)) (by decide) rfl (by decide) rfl rfl ?_
  refine rc_put (ci := 2) (k := 33) (j := 9) (v := .ref 38) dX2_init_66 rfl (by decide) pg_X2_40 (fun _ => rfl) (fun _ => rfl) rfl ?_
  exact rc_end ⟨dX2_init_69, rfl, rfl, rfl⟩
def pmk_39 (pm : Pm) : Pm := (ps (ps (ps (ps pm 39 0 (.int 0)) 39 1 (.int 0)) 39 2 (.ref 40)) 39 3 (.int 0))
set_option maxRecDepth 20000 in
theorem mk_39 {pm : Pm} : Rc 1 μX3_init 0 [(0, .ref 39)] [] 40 41 40 pm (Ends μX3_init 41 (pmk_39 pm)) := by
  refine rc_aload_n (i := 0) (x := 39) dX3_init_0 rfl (by simp) ?_
  refine rc_obj dX3_init_1 lo_X3_3 io_obj co_obj (by decide) ?_
  refine rc_aload_n (i := 0) (x := 39) dX3_init_4 rfl (by simp) ?_
  refine rc_iconst (v := 0) dX3_init_5 rfl ?_
  refine rc_put (ci := 3) (k := 39) (j := 0) (v := .int 0) dX3_init_6 rfl (by decide) pg_X3_9 (fun _ => rfl) (fun _ => rfl) rfl ?_
  refine rc_aload_n (i := 0) (x := 39) dX3_init_9 rfl (by simp) ?_
  refine rc_iconst (v := 0) dX3_init_10 rfl ?_
  refine rc_put (ci := 3) (k := 39) (j := 1) (v := .int 0) dX3_init_11 rfl (by decide) pg_X3_15 (fun _ => rfl) (fun _ => rfl) rfl ?_
  refine rc_aload_n (i := 0) (x := 39) dX3_init_14 rfl (by simp) ?_
  refine rc_sipush (v := 984) dX3_init_15 rfl ?_
  refine rc_newa (ty := .int) (i := 0) (N := 984) (a0 := (984, .inl (fun _ => 0))) dX3_init_18 rfl ac_int (by decide) (by decide) (by decide) rfl (fun _ _ => rfl) (fun _ => rfl) (fun _ => rfl) (fun _ _ _ => ra_prim (fun _ q => by cases q)) (by decide) rfl (by decide) rfl rfl ?_
  refine rc_put (ci := 3) (k := 39) (j := 2) (v := .ref 40) dX3_init_20 rfl (by decide) pg_X3_20 (fun _ => rfl) (fun _ => rfl) rfl ?_
  refine rc_aload_n (i := 0) (x := 39) dX3_init_23 rfl (by simp) ?_
  refine rc_iconst (v := 0) dX3_init_24 rfl ?_
  refine rc_put (ci := 3) (k := 39) (j := 3) (v := .int 0) dX3_init_25 rfl (by decide) pg_X3_24 (fun _ => rfl) (fun _ => rfl) rfl ?_
  exact rc_end ⟨dX3_init_28, rfl, rfl, rfl⟩
def pmk_42 (pm : Pm) : Pm := (ps (ps (ps pm 42 0 (.ref 43)) 42 1 (.ref 44)) 42 2 (.int 0))
set_option maxRecDepth 20000 in
theorem mk_42 {pm : Pm} : Rc 1 μX5_init 0 [(0, .ref 42)] [] 43 45 43 pm (Ends μX5_init 45 (pmk_42 pm)) := by
  refine rc_aload_n (i := 0) (x := 42) dX5_init_0 rfl (by simp) ?_
  refine rc_obj dX5_init_1 lo_X5_3 io_obj co_obj (by decide) ?_
  refine rc_aload_n (i := 0) (x := 42) dX5_init_4 rfl (by simp) ?_
  refine rc_bipush (v := 8) dX5_init_5 rfl ?_
  refine rc_newa (ty := .int) (i := 0) (N := 8) (a0 := (8, .inl (fun _ => 0))) dX5_init_7 rfl ac_int (by decide) (by decide) (by decide) rfl (fun _ _ => rfl) (fun _ => rfl) (fun _ => rfl) (fun _ _ _ => ra_prim (fun _ q => by cases q)) (by decide) rfl (by decide) rfl rfl ?_
  refine rc_put (ci := 5) (k := 42) (j := 0) (v := .ref 43) dX5_init_9 rfl (by decide) pg_X5_9 (fun _ => rfl) (fun _ => rfl) rfl ?_
  refine rc_aload_n (i := 0) (x := 42) dX5_init_12 rfl (by simp) ?_
  refine rc_bipush (v := 8) dX5_init_13 rfl ?_
  refine rc_newa (ty := .int) (i := 0) (N := 8) (a0 := (8, .inl (fun _ => 0))) dX5_init_15 rfl ac_int (by decide) (by decide) (by decide) rfl (fun _ _ => rfl) (fun _ => rfl) (fun _ => rfl) (fun _ _ _ => ra_prim (fun _ q => by cases q)) (by decide) rfl (by decide) rfl rfl ?_
  refine rc_put (ci := 5) (k := 42) (j := 1) (v := .ref 44) dX5_init_17 rfl (by decide) pg_X5_15 (fun _ => rfl) (fun _ => rfl) rfl ?_
  refine rc_aload_n (i := 0) (x := 42) dX5_init_20 rfl (by simp) ?_
  refine rc_iconst (v := 0) dX5_init_21 rfl ?_
  refine rc_put (ci := 5) (k := 42) (j := 2) (v := .int 0) dX5_init_22 rfl (by decide) pg_X5_18 (fun _ => rfl) (fun _ => rfl) rfl ?_
  exact rc_end ⟨dX5_init_25, rfl, rfl, rfl⟩
def pmk_45 (pm : Pm) : Pm := (ps (ps (ps (ps (ps (ps pm 45 0 (.int (-1))) 45 1 (.int (-1))) 45 2 (.ref 46)) 45 3 (.ref 47)) 45 4 (.int 0)) 45 5 (.int 0))
set_option maxRecDepth 20000 in
theorem mk_45 {pm : Pm} : Rc 1 μX0_init 0 [(0, .ref 45)] [] 46 48 46 pm (Ends μX0_init 48 (pmk_45 pm)) := by
  refine rc_aload_n (i := 0) (x := 45) dX0_init_0 rfl (by simp) ?_
  refine rc_obj dX0_init_1 lo_X0_3 io_obj co_obj (by decide) ?_
  refine rc_aload_n (i := 0) (x := 45) dX0_init_4 rfl (by simp) ?_
  refine rc_iconst (v := -1) dX0_init_5 rfl ?_
  refine rc_put (ci := 0) (k := 45) (j := 0) (v := .int (-1)) dX0_init_6 rfl (by decide) pg_X0_9 (fun _ => rfl) (fun _ => rfl) rfl ?_
  refine rc_aload_n (i := 0) (x := 45) dX0_init_9 rfl (by simp) ?_
  refine rc_iconst (v := -1) dX0_init_10 rfl ?_
  refine rc_put (ci := 0) (k := 45) (j := 1) (v := .int (-1)) dX0_init_11 rfl (by decide) pg_X0_15 (fun _ => rfl) (fun _ => rfl) rfl ?_
  refine rc_aload_n (i := 0) (x := 45) dX0_init_14 rfl (by simp) ?_
  refine rc_bipush (v := 81) dX0_init_15 rfl ?_
  refine rc_newa (ty := .int) (i := 0) (N := 81) (a0 := (81, .inl (fun _ => 0))) dX0_init_17 rfl ac_int (by decide) (by decide) (by decide) rfl (fun _ _ => rfl) (fun _ => rfl) (fun _ => rfl) (fun _ _ _ => ra_prim (fun _ q => by cases q)) (by decide) rfl (by decide) rfl rfl ?_
  refine rc_put (ci := 0) (k := 45) (j := 2) (v := .ref 46) dX0_init_19 rfl (by decide) pg_X0_18 (fun _ => rfl) (fun _ => rfl) rfl ?_
  refine rc_aload_n (i := 0) (x := 45) dX0_init_22 rfl (by simp) ?_
  refine rc_bipush (v := 81) dX0_init_23 rfl ?_
  refine rc_newa (ty := .int) (i := 0) (N := 81) (a0 := (81, .inl (fun _ => 0))) dX0_init_25 rfl ac_int (by decide) (by decide) (by decide) rfl (fun _ _ => rfl) (fun _ => rfl) (fun _ => rfl) (fun _ _ _ => ra_prim (fun _ q => by cases q)) (by decide) rfl (by decide) rfl rfl ?_
  refine rc_put (ci := 0) (k := 45) (j := 3) (v := .ref 47) dX0_init_27 rfl (by decide) pg_X0_22 (fun _ => rfl) (fun _ => rfl) rfl ?_
  refine rc_aload_n (i := 0) (x := 45) dX0_init_30 rfl (by simp) ?_
  refine rc_iconst (v := 0) dX0_init_31 rfl ?_
  refine rc_put (ci := 0) (k := 45) (j := 4) (v := .int 0) dX0_init_32 rfl (by decide) pg_X0_25 (fun _ => rfl) (fun _ => rfl) rfl ?_
  refine rc_aload_n (i := 0) (x := 45) dX0_init_35 rfl (by simp) ?_
  refine rc_iconst (v := 0) dX0_init_36 rfl ?_
  refine rc_put (ci := 0) (k := 45) (j := 5) (v := .int 0) dX0_init_37 rfl (by decide) pg_X0_28 (fun _ => rfl) (fun _ => rfl) rfl ?_
  exact rc_end ⟨dX0_init_40, rfl, rfl, rfl⟩
def pmk_48 (pm : Pm) : Pm := (ps (ps (ps (ps (ps (ps (ps (ps (ps (ps pm 48 0 (.int 0)) 48 1 (.ref 49)) 48 2 (.ref 50)) 48 3 (.ref 51)) 48 4 (.ref 52)) 48 5 (.ref 53)) 48 6 (.ref 54)) 48 7 (.int 0)) 48 8 (.ref 55)) 48 9 (.ref 56))
set_option maxRecDepth 20000 in
theorem mk_48 {pm : Pm} : Rc 1 μX4_init 0 [(0, .ref 48)] [] 49 57 49 pm (Ends μX4_init 57 (pmk_48 pm)) := by
  refine rc_aload_n (i := 0) (x := 48) dX4_init_0 rfl (by simp) ?_
  refine rc_obj dX4_init_1 lo_X4_3 io_obj co_obj (by decide) ?_
  refine rc_aload_n (i := 0) (x := 48) dX4_init_4 rfl (by simp) ?_
  refine rc_iconst (v := 0) dX4_init_5 rfl ?_
  refine rc_put (ci := 4) (k := 48) (j := 0) (v := .int 0) dX4_init_6 rfl (by decide) pg_X4_9 (fun _ => rfl) (fun _ => rfl) rfl ?_
  refine rc_aload_n (i := 0) (x := 48) dX4_init_9 rfl (by simp) ?_
  refine rc_bipush (v := 30) dX4_init_10 rfl ?_
  refine rc_newa (ty := .int) (i := 0) (N := 30) (a0 := (30, .inl (fun _ => 0))) dX4_init_12 rfl ac_int (by decide) (by decide) (by decide) rfl (fun _ _ => rfl) (fun _ => rfl) (fun _ => rfl) (fun _ _ _ => ra_prim (fun _ q => by cases q)) (by decide) rfl (by decide) rfl rfl ?_
  refine rc_put (ci := 4) (k := 48) (j := 1) (v := .ref 49) dX4_init_14 rfl (by decide) pg_X4_15 (fun _ => rfl) (fun _ => rfl) rfl ?_
  refine rc_aload_n (i := 0) (x := 48) dX4_init_17 rfl (by simp) ?_
  refine rc_bipush (v := 30) dX4_init_18 rfl ?_
  refine rc_newa (ty := .int) (i := 0) (N := 30) (a0 := (30, .inl (fun _ => 0))) dX4_init_20 rfl ac_int (by decide) (by decide) (by decide) rfl (fun _ _ => rfl) (fun _ => rfl) (fun _ => rfl) (fun _ _ _ => ra_prim (fun _ q => by cases q)) (by decide) rfl (by decide) rfl rfl ?_
  refine rc_put (ci := 4) (k := 48) (j := 2) (v := .ref 50) dX4_init_22 rfl (by decide) pg_X4_19 (fun _ => rfl) (fun _ => rfl) rfl ?_
  refine rc_aload_n (i := 0) (x := 48) dX4_init_25 rfl (by simp) ?_
  refine rc_bipush (v := 30) dX4_init_26 rfl ?_
  refine rc_newa (ty := .boolean) (i := 3) (N := 30) (a0 := (30, .inl (fun _ => 0))) dX4_init_28 rfl ac_boolean (by decide) (by decide) (by decide) rfl (fun _ _ => rfl) (fun _ => rfl) (fun _ => rfl) (fun _ _ _ => ra_prim (fun _ q => by cases q)) (by decide) rfl (by decide) rfl rfl ?_
  refine rc_put (ci := 4) (k := 48) (j := 3) (v := .ref 51) dX4_init_30 rfl (by decide) pg_X4_22 (fun _ => rfl) (fun _ => rfl) rfl ?_
  refine rc_aload_n (i := 0) (x := 48) dX4_init_33 rfl (by simp) ?_
  refine rc_bipush (v := 30) dX4_init_34 rfl ?_
  refine rc_newa (ty := .int) (i := 0) (N := 30) (a0 := (30, .inl (fun _ => 0))) dX4_init_36 rfl ac_int (by decide) (by decide) (by decide) rfl (fun _ _ => rfl) (fun _ => rfl) (fun _ => rfl) (fun _ _ _ => ra_prim (fun _ q => by cases q)) (by decide) rfl (by decide) rfl rfl ?_
  refine rc_put (ci := 4) (k := 48) (j := 4) (v := .ref 52) dX4_init_38 rfl (by decide) pg_X4_26 (fun _ => rfl) (fun _ => rfl) rfl ?_
  refine rc_aload_n (i := 0) (x := 48) dX4_init_41 rfl (by simp) ?_
  refine rc_bipush (v := 30) dX4_init_42 rfl ?_
  refine rc_newa (ty := .int) (i := 0) (N := 30) (a0 := (30, .inl (fun _ => 0))) dX4_init_44 rfl ac_int (by decide) (by decide) (by decide) rfl (fun _ _ => rfl) (fun _ => rfl) (fun _ => rfl) (fun _ _ _ => ra_prim (fun _ q => by cases q)) (by decide) rfl (by decide) rfl rfl ?_
  refine rc_put (ci := 4) (k := 48) (j := 5) (v := .ref 53) dX4_init_46 rfl (by decide) pg_X4_29 (fun _ => rfl) (fun _ => rfl) rfl ?_
  refine rc_aload_n (i := 0) (x := 48) dX4_init_49 rfl (by simp) ?_
  refine rc_sipush (v := 403) dX4_init_50 rfl ?_
  refine rc_newa (ty := .int) (i := 0) (N := 403) (a0 := (403, .inl (fun _ => 0))) dX4_init_53 rfl ac_int (by decide) (by decide) (by decide) rfl (fun _ _ => rfl) (fun _ => rfl) (fun _ => rfl) (fun _ _ _ => ra_prim (fun _ q => by cases q)) (by decide) rfl (by decide) rfl rfl ?_
  refine rc_put (ci := 4) (k := 48) (j := 6) (v := .ref 54) dX4_init_55 rfl (by decide) pg_X4_32 (fun _ => rfl) (fun _ => rfl) rfl ?_
  refine rc_aload_n (i := 0) (x := 48) dX4_init_58 rfl (by simp) ?_
  refine rc_iconst (v := 0) dX4_init_59 rfl ?_
  refine rc_put (ci := 4) (k := 48) (j := 7) (v := .int 0) dX4_init_60 rfl (by decide) pg_X4_35 (fun _ => rfl) (fun _ => rfl) rfl ?_
  refine rc_aload_n (i := 0) (x := 48) dX4_init_63 rfl (by simp) ?_
  refine rc_bipush (v := 31) dX4_init_64 rfl ?_
  refine rc_newa (ty := .boolean) (i := 3) (N := 31) (a0 := (31, .inl (fun _ => 0))) dX4_init_66 rfl ac_boolean (by decide) (by decide) (by decide) rfl (fun _ _ => rfl) (fun _ => rfl) (fun _ => rfl) (fun _ _ _ => ra_prim (fun _ q => by cases q)) (by decide) rfl (by decide) rfl rfl ?_
  refine rc_put (ci := 4) (k := 48) (j := 8) (v := .ref 55) dX4_init_68 rfl (by decide) pg_X4_39 (fun _ => rfl) (fun _ => rfl) rfl ?_
  refine rc_aload_n (i := 0) (x := 48) dX4_init_71 rfl (by simp) ?_
  refine rc_bipush (v := 9) dX4_init_72 rfl ?_
  refine rc_newa (ty := .int) (i := 0) (N := 9) (a0 := (9, .inl (fun _ => 0))) dX4_init_74 rfl ac_int (by decide) (by decide) (by decide) rfl (fun _ _ => rfl) (fun _ => rfl) (fun _ => rfl) (fun _ _ _ => ra_prim (fun _ q => by cases q)) (by decide) rfl (by decide) rfl rfl ?_
  refine rc_put (ci := 4) (k := 48) (j := 9) (v := .ref 56) dX4_init_76 rfl (by decide) pg_X4_42 (fun _ => rfl) (fun _ => rfl) rfl ?_
  exact rc_end ⟨dX4_init_79, rfl, rfl, rfl⟩
def pmk_0 (pm : Pm) : Pm := (ps (ps (ps (ps (pmk_48 (ps (pmk_45 (ps (pmk_42 (ps (ps (ps (pmk_39 (ps (pmk_33 (ps (pmk_27 (ps (pmk_15 (ps (pmk_1 pm) 0 0 (.ref 1))) 0 1 (.ref 15))) 0 2 (.ref 27))) 0 3 (.ref 33))) 0 4 (.ref 39)) 0 5 (.ref 41)) 0 6 (.int 0))) 0 7 (.ref 42))) 0 8 (.ref 45))) 0 9 (.ref 48)) 0 10 (.int 0)) 0 11 (.ref 57)) 0 12 (.int 0))
set_option maxRecDepth 20000 in
theorem mk_0 {pm : Pm} : Rc 4 μX8_init 0 [(0, .ref 0)] [] 1 58 1 pm (Ends μX8_init 58 (pmk_0 pm)) := by
  refine rc_aload_n (i := 0) (x := 0) dX8_init_0 rfl (by simp) ?_
  refine rc_obj dX8_init_1 lo_X8_1 io_obj co_obj (by decide) ?_
  refine rc_aload_n (i := 0) (x := 0) dX8_init_4 rfl (by simp) ?_
  refine rc_new (ci := 6) tyX6 dX8_init_5 (by decide) (by decide) (by decide) rfl rfl rfl in_X6 tyX6_ok df_X6 cl_X8_7 it_X6 iz_X6 rfl rfl ?_
  refine rc_dup dX8_init_8 rfl ?_
  refine rc_callI (n' := 15) dX8_init_9 mf_X6_init rfl li_X8_9 ii_X6_init rfl (by decide) (by decide) (by decide) (by decide) (by decide) rfl rfl (Rc.deeper (d := 3) (by decide) mk_1) ?_
  refine rc_put (ci := 8) (k := 0) (j := 0) (v := .ref 1) dX8_init_12 rfl (by decide) pg_X8_10 (fun _ => rfl) (fun _ => rfl) rfl ?_
  refine rc_aload_n (i := 0) (x := 0) dX8_init_15 rfl (by simp) ?_
  refine rc_new (ci := 7) tyX7 dX8_init_16 (by decide) (by decide) (by decide) rfl rfl rfl in_X7 tyX7_ok df_X7 cl_X8_16 it_X7 iz_X7 rfl rfl ?_
  refine rc_dup dX8_init_19 rfl ?_
  refine rc_callI (n' := 27) dX8_init_20 mf_X7_init rfl li_X8_18 ii_X7_init rfl (by decide) (by decide) (by decide) (by decide) (by decide) rfl rfl (Rc.deeper (d := 2) (by decide) mk_15) ?_
  refine rc_put (ci := 8) (k := 0) (j := 1) (v := .ref 15) dX8_init_23 rfl (by decide) pg_X8_19 (fun _ => rfl) (fun _ => rfl) rfl ?_
  refine rc_aload_n (i := 0) (x := 0) dX8_init_26 rfl (by simp) ?_
  refine rc_new (ci := 2) tyX2 dX8_init_27 (by decide) (by decide) (by decide) rfl rfl rfl in_X2 tyX2_ok df_X2 cl_X8_23 it_X2 iz_X2 rfl rfl ?_
  refine rc_dup dX8_init_30 rfl ?_
  refine rc_callI (n' := 33) dX8_init_31 mf_X2_init rfl li_X8_25 ii_X2_init rfl (by decide) (by decide) (by decide) (by decide) (by decide) rfl rfl (Rc.deeper (d := 1) (by decide) mk_27) ?_
  refine rc_put (ci := 8) (k := 0) (j := 2) (v := .ref 27) dX8_init_34 rfl (by decide) pg_X8_26 (fun _ => rfl) (fun _ => rfl) rfl ?_
  refine rc_aload_n (i := 0) (x := 0) dX8_init_37 rfl (by simp) ?_
  refine rc_new (ci := 2) tyX2 dX8_init_38 (by decide) (by decide) (by decide) rfl rfl rfl in_X2 tyX2_ok df_X2 cl_X8_23 it_X2 iz_X2 rfl rfl ?_
  refine rc_dup dX8_init_41 rfl ?_
  refine rc_callI (n' := 39) dX8_init_42 mf_X2_init rfl li_X8_25 ii_X2_init rfl (by decide) (by decide) (by decide) (by decide) (by decide) rfl rfl (Rc.deeper (d := 1) (by decide) mk_33) ?_
  refine rc_put (ci := 8) (k := 0) (j := 3) (v := .ref 33) dX8_init_45 rfl (by decide) pg_X8_30 (fun _ => rfl) (fun _ => rfl) rfl ?_
  refine rc_aload_n (i := 0) (x := 0) dX8_init_48 rfl (by simp) ?_
  refine rc_new (ci := 3) tyX3 dX8_init_49 (by decide) (by decide) (by decide) rfl rfl rfl in_X3 tyX3_ok df_X3 cl_X8_33 it_X3 iz_X3 rfl rfl ?_
  refine rc_dup dX8_init_52 rfl ?_
  refine rc_callI (n' := 41) dX8_init_53 mf_X3_init rfl li_X8_35 ii_X3_init rfl (by decide) (by decide) (by decide) (by decide) (by decide) rfl rfl (Rc.deeper (d := 1) (by decide) mk_39) ?_
  refine rc_put (ci := 8) (k := 0) (j := 4) (v := .ref 39) dX8_init_56 rfl (by decide) pg_X8_36 (fun _ => rfl) (fun _ => rfl) rfl ?_
  refine rc_aload_n (i := 0) (x := 0) dX8_init_59 rfl (by simp) ?_
  refine rc_bipush (v := 72) dX8_init_60 rfl ?_
  refine rc_newa (ty := .int) (i := 0) (N := 72) (a0 := (72, .inl (fun _ => 0))) dX8_init_62 rfl ac_int (by decide) (by decide) (by decide) rfl (fun _ _ => rfl) (fun _ => rfl) (fun _ => rfl) (fun _ _ _ => ra_prim (fun _ q => by cases q)) (by decide) rfl (by decide) rfl rfl ?_
  refine rc_put (ci := 8) (k := 0) (j := 5) (v := .ref 41) dX8_init_64 rfl (by decide) pg_X8_40 (fun _ => rfl) (fun _ => rfl) rfl ?_
  refine rc_aload_n (i := 0) (x := 0) dX8_init_67 rfl (by simp) ?_
  refine rc_iconst (v := 0) dX8_init_68 rfl ?_
  refine rc_put (ci := 8) (k := 0) (j := 6) (v := .int 0) dX8_init_69 rfl (by decide) pg_X8_44 (fun _ => rfl) (fun _ => rfl) rfl ?_
  refine rc_aload_n (i := 0) (x := 0) dX8_init_72 rfl (by simp) ?_
  refine rc_new (ci := 5) tyX5 dX8_init_73 (by decide) (by decide) (by decide) rfl rfl rfl in_X5 tyX5_ok df_X5 cl_X8_48 it_X5 iz_X5 rfl rfl ?_
  refine rc_dup dX8_init_76 rfl ?_
  refine rc_callI (n' := 45) dX8_init_77 mf_X5_init rfl li_X8_50 ii_X5_init rfl (by decide) (by decide) (by decide) (by decide) (by decide) rfl rfl (Rc.deeper (d := 1) (by decide) mk_42) ?_
  refine rc_put (ci := 8) (k := 0) (j := 7) (v := .ref 42) dX8_init_80 rfl (by decide) pg_X8_51 (fun _ => rfl) (fun _ => rfl) rfl ?_
  refine rc_aload_n (i := 0) (x := 0) dX8_init_83 rfl (by simp) ?_
  refine rc_new (ci := 0) tyX0 dX8_init_84 (by decide) (by decide) (by decide) rfl rfl rfl in_X0 tyX0_ok df_X0 cl_X8_55 it_X0 iz_X0 rfl rfl ?_
  refine rc_dup dX8_init_87 rfl ?_
  refine rc_callI (n' := 48) dX8_init_88 mf_X0_init rfl li_X8_57 ii_X0_init rfl (by decide) (by decide) (by decide) (by decide) (by decide) rfl rfl (Rc.deeper (d := 1) (by decide) mk_45) ?_
  refine rc_put (ci := 8) (k := 0) (j := 8) (v := .ref 45) dX8_init_91 rfl (by decide) pg_X8_58 (fun _ => rfl) (fun _ => rfl) rfl ?_
  refine rc_aload_n (i := 0) (x := 0) dX8_init_94 rfl (by simp) ?_
  refine rc_new (ci := 4) tyX4 dX8_init_95 (by decide) (by decide) (by decide) rfl rfl rfl in_X4 tyX4_ok df_X4 cl_X8_62 it_X4 iz_X4 rfl rfl ?_
  refine rc_dup dX8_init_98 rfl ?_
  refine rc_callI (n' := 57) dX8_init_99 mf_X4_init rfl li_X8_64 ii_X4_init rfl (by decide) (by decide) (by decide) (by decide) (by decide) rfl rfl (Rc.deeper (d := 1) (by decide) mk_48) ?_
  refine rc_put (ci := 8) (k := 0) (j := 9) (v := .ref 48) dX8_init_102 rfl (by decide) pg_X8_65 (fun _ => rfl) (fun _ => rfl) rfl ?_
  refine rc_aload_n (i := 0) (x := 0) dX8_init_105 rfl (by simp) ?_
  refine rc_iconst (v := 0) dX8_init_106 rfl ?_
  refine rc_put (ci := 8) (k := 0) (j := 10) (v := .int 0) dX8_init_107 rfl (by decide) pg_X8_69 (fun _ => rfl) (fun _ => rfl) rfl ?_
  refine rc_aload_n (i := 0) (x := 0) dX8_init_110 rfl (by simp) ?_
  refine rc_bipush (v := 8) dX8_init_111 rfl ?_
  refine rc_newa (ty := .int) (i := 0) (N := 8) (a0 := (8, .inl (fun _ => 0))) dX8_init_113 rfl ac_int (by decide) (by decide) (by decide) rfl (fun _ _ => rfl) (fun _ => rfl) (fun _ => rfl) (fun _ _ _ => ra_prim (fun _ q => by cases q)) (by decide) rfl (by decide) rfl rfl ?_
  refine rc_put (ci := 8) (k := 0) (j := 11) (v := .ref 57) dX8_init_115 rfl (by decide) pg_X8_72 (fun _ => rfl) (fun _ => rfl) rfl ?_
  refine rc_aload_n (i := 0) (x := 0) dX8_init_118 rfl (by simp) ?_
  refine rc_iconst (v := 0) dX8_init_119 rfl ?_
  refine rc_put (ci := 8) (k := 0) (j := 12) (v := .int 0) dX8_init_120 rfl (by decide) pg_X8_75 (fun _ => rfl) (fun _ => rfl) rfl ?_
  exact rc_end ⟨dX8_init_123, rfl, rfl, rfl⟩
def pmk_58 (pm : Pm) : Pm := (ps (ps (ps (ps (ps (ps (ps (ps (ps (ps (ps (ps (ps (ps (ps (ps (ps (ps (ps (ps (ps (ps (ps (ps (ps (ps (ps (ps (ps (ps pm 58 0 (.ref 59)) 58 3 (.int (-1))) 58 10 (.ref 60)) 58 11 (.ref 61)) 58 12 (.ref 62)) 58 13 (.ref 63)) 58 14 (.ref 64)) 58 15 (.ref 65)) 58 16 (.ref 66)) 58 26 (.ref 67)) 58 27 (.ref 68)) 58 28 (.ref 69)) 58 29 (.ref 70)) 58 30 (.ref 71)) 58 39 (.ref 72)) 58 42 (.ref 73)) 58 43 (.ref 74)) 58 44 (.ref 75)) 58 46 (.ref 76)) 58 47 (.ref 77)) 58 50 (.ref 78)) 58 51 (.ref 79)) 58 52 (.ref 80)) 58 53 (.ref 81)) 58 54 (.ref 82)) 58 57 (.ref 83)) 58 58 (.ref 84)) 58 59 (.ref 85)) 58 60 (.ref 86)) 58 61 (.ref 87))
set_option maxRecDepth 20000 in
theorem mk_58 {pm : Pm} : Rc 1 μX9_init 0 [(0, .ref 58)] [] 59 88 59 pm (Ends μX9_init 88 (pmk_58 pm)) := by
  refine rc_aload_n (i := 0) (x := 58) dX9_init_0 rfl (by simp) ?_
  refine rc_obj dX9_init_1 lo_X9_1 io_obj co_obj (by decide) ?_
  refine rc_aload_n (i := 0) (x := 58) dX9_init_4 rfl (by simp) ?_
  refine rc_sipush (v := 1600) dX9_init_5 rfl ?_
  refine rc_newa (ty := .int) (i := 0) (N := 1600) (a0 := (1600, .inl (fun _ => 0))) dX9_init_8 rfl ac_int (by decide) (by decide) (by decide) rfl (fun _ _ => rfl) (fun _ => rfl) (fun _ => rfl) (fun _ _ _ => ra_prim (fun _ q => by cases q)) (by decide) rfl (by decide) rfl rfl ?_
  refine rc_put (ci := 9) (k := 58) (j := 0) (v := .ref 59) dX9_init_10 rfl (by decide) pg_X9_7 (fun _ => rfl) (fun _ => rfl) rfl ?_
  refine rc_aload_n (i := 0) (x := 58) dX9_init_13 rfl (by simp) ?_
  refine rc_iconst (v := -1) dX9_init_14 rfl ?_
  refine rc_put (ci := 9) (k := 58) (j := 3) (v := .int (-1)) dX9_init_15 rfl (by decide) pg_X9_13 (fun _ => rfl) (fun _ => rfl) rfl ?_
  refine rc_aload_n (i := 0) (x := 58) dX9_init_18 rfl (by simp) ?_
  refine rc_bipush (v := 8) dX9_init_19 rfl ?_
  refine rc_newa (ty := .long) (i := 1) (N := 8) (a0 := (8, .inr (.inl (fun _ => 0)))) dX9_init_21 rfl ac_long (by decide) (by decide) (by decide) rfl (fun _ _ => rfl) (fun _ => rfl) (fun _ => rfl) (fun _ _ _ => ra_prim (fun _ q => by cases q)) (by decide) rfl (by decide) rfl rfl ?_
  refine rc_put (ci := 9) (k := 58) (j := 10) (v := .ref 60) dX9_init_23 rfl (by decide) pg_X9_17 (fun _ => rfl) (fun _ => rfl) rfl ?_
  refine rc_aload_n (i := 0) (x := 58) dX9_init_26 rfl (by simp) ?_
  refine rc_sipush (v := 320) dX9_init_27 rfl ?_
  refine rc_newa (ty := .int) (i := 0) (N := 320) (a0 := (320, .inl (fun _ => 0))) dX9_init_30 rfl ac_int (by decide) (by decide) (by decide) rfl (fun _ _ => rfl) (fun _ => rfl) (fun _ => rfl) (fun _ _ _ => ra_prim (fun _ q => by cases q)) (by decide) rfl (by decide) rfl rfl ?_
  refine rc_put (ci := 9) (k := 58) (j := 11) (v := .ref 61) dX9_init_32 rfl (by decide) pg_X9_21 (fun _ => rfl) (fun _ => rfl) rfl ?_
  refine rc_aload_n (i := 0) (x := 58) dX9_init_35 rfl (by simp) ?_
  refine rc_sipush (v := 320) dX9_init_36 rfl ?_
  refine rc_newa (ty := .int) (i := 0) (N := 320) (a0 := (320, .inl (fun _ => 0))) dX9_init_39 rfl ac_int (by decide) (by decide) (by decide) rfl (fun _ _ => rfl) (fun _ => rfl) (fun _ => rfl) (fun _ _ _ => ra_prim (fun _ q => by cases q)) (by decide) rfl (by decide) rfl rfl ?_
  refine rc_put (ci := 9) (k := 58) (j := 12) (v := .ref 62) dX9_init_41 rfl (by decide) pg_X9_24 (fun _ => rfl) (fun _ => rfl) rfl ?_
  refine rc_aload_n (i := 0) (x := 58) dX9_init_44 rfl (by simp) ?_
  refine rc_sipush (v := 320) dX9_init_45 rfl ?_
  refine rc_newa (ty := .int) (i := 0) (N := 320) (a0 := (320, .inl (fun _ => 0))) dX9_init_48 rfl ac_int (by decide) (by decide) (by decide) rfl (fun _ _ => rfl) (fun _ => rfl) (fun _ => rfl) (fun _ _ _ => ra_prim (fun _ q => by cases q)) (by decide) rfl (by decide) rfl rfl ?_
  refine rc_put (ci := 9) (k := 58) (j := 13) (v := .ref 63) dX9_init_50 rfl (by decide) pg_X9_27 (fun _ => rfl) (fun _ => rfl) rfl ?_
  refine rc_aload_n (i := 0) (x := 58) dX9_init_53 rfl (by simp) ?_
  refine rc_sipush (v := 320) dX9_init_54 rfl ?_
  refine rc_newa (ty := .int) (i := 0) (N := 320) (a0 := (320, .inl (fun _ => 0))) dX9_init_57 rfl ac_int (by decide) (by decide) (by decide) rfl (fun _ _ => rfl) (fun _ => rfl) (fun _ => rfl) (fun _ _ _ => ra_prim (fun _ q => by cases q)) (by decide) rfl (by decide) rfl rfl ?_
  refine rc_put (ci := 9) (k := 58) (j := 14) (v := .ref 64) dX9_init_59 rfl (by decide) pg_X9_30 (fun _ => rfl) (fun _ => rfl) rfl ?_
  refine rc_aload_n (i := 0) (x := 58) dX9_init_62 rfl (by simp) ?_
  refine rc_sipush (v := 160) dX9_init_63 rfl ?_
  refine rc_newa (ty := .int) (i := 0) (N := 160) (a0 := (160, .inl (fun _ => 0))) dX9_init_66 rfl ac_int (by decide) (by decide) (by decide) rfl (fun _ _ => rfl) (fun _ => rfl) (fun _ => rfl) (fun _ _ _ => ra_prim (fun _ q => by cases q)) (by decide) rfl (by decide) rfl rfl ?_
  refine rc_put (ci := 9) (k := 58) (j := 15) (v := .ref 65) dX9_init_68 rfl (by decide) pg_X9_33 (fun _ => rfl) (fun _ => rfl) rfl ?_
  refine rc_aload_n (i := 0) (x := 58) dX9_init_71 rfl (by simp) ?_
  refine rc_bipush (v := 64) dX9_init_72 rfl ?_
  refine rc_newa (ty := .int) (i := 0) (N := 64) (a0 := (64, .inl (fun _ => 0))) dX9_init_74 rfl ac_int (by decide) (by decide) (by decide) rfl (fun _ _ => rfl) (fun _ => rfl) (fun _ => rfl) (fun _ _ _ => ra_prim (fun _ q => by cases q)) (by decide) rfl (by decide) rfl rfl ?_
  refine rc_put (ci := 9) (k := 58) (j := 16) (v := .ref 66) dX9_init_76 rfl (by decide) pg_X9_36 (fun _ => rfl) (fun _ => rfl) rfl ?_
  refine rc_aload_n (i := 0) (x := 58) dX9_init_79 rfl (by simp) ?_
  refine rc_iconst (v := 5) dX9_init_80 rfl ?_
  refine rc_newa (ty := .int) (i := 0) (N := 5) (a0 := (5, .inl (fun _ => 0))) dX9_init_81 rfl ac_int (by decide) (by decide) (by decide) rfl (fun _ _ => rfl) (fun _ => rfl) (fun _ => rfl) (fun _ _ _ => ra_prim (fun _ q => by cases q)) (by decide) rfl (by decide) rfl rfl ?_
  refine rc_put (ci := 9) (k := 58) (j := 26) (v := .ref 67) dX9_init_83 rfl (by decide) pg_X9_39 (fun _ => rfl) (fun _ => rfl) rfl ?_
  refine rc_aload_n (i := 0) (x := 58) dX9_init_86 rfl (by simp) ?_
  refine rc_bipush (v := 24) dX9_init_87 rfl ?_
  refine rc_newa (ty := .int) (i := 0) (N := 24) (a0 := (24, .inl (fun _ => 0))) dX9_init_89 rfl ac_int (by decide) (by decide) (by decide) rfl (fun _ _ => rfl) (fun _ => rfl) (fun _ => rfl) (fun _ _ _ => ra_prim (fun _ q => by cases q)) (by decide) rfl (by decide) rfl rfl ?_
  refine rc_put (ci := 9) (k := 58) (j := 27) (v := .ref 68) dX9_init_91 rfl (by decide) pg_X9_42 (fun _ => rfl) (fun _ => rfl) rfl ?_
  refine rc_aload_n (i := 0) (x := 58) dX9_init_94 rfl (by simp) ?_
  refine rc_bipush (v := 24) dX9_init_95 rfl ?_
  refine rc_newa (ty := .int) (i := 0) (N := 24) (a0 := (24, .inl (fun _ => 0))) dX9_init_97 rfl ac_int (by decide) (by decide) (by decide) rfl (fun _ _ => rfl) (fun _ => rfl) (fun _ => rfl) (fun _ _ _ => ra_prim (fun _ q => by cases q)) (by decide) rfl (by decide) rfl rfl ?_
  refine rc_put (ci := 9) (k := 58) (j := 28) (v := .ref 69) dX9_init_99 rfl (by decide) pg_X9_45 (fun _ => rfl) (fun _ => rfl) rfl ?_
  refine rc_aload_n (i := 0) (x := 58) dX9_init_102 rfl (by simp) ?_
  refine rc_bipush (v := 24) dX9_init_103 rfl ?_
  refine rc_newa (ty := .int) (i := 0) (N := 24) (a0 := (24, .inl (fun _ => 0))) dX9_init_105 rfl ac_int (by decide) (by decide) (by decide) rfl (fun _ _ => rfl) (fun _ => rfl) (fun _ => rfl) (fun _ _ _ => ra_prim (fun _ q => by cases q)) (by decide) rfl (by decide) rfl rfl ?_
  refine rc_put (ci := 9) (k := 58) (j := 29) (v := .ref 70) dX9_init_107 rfl (by decide) pg_X9_48 (fun _ => rfl) (fun _ => rfl) rfl ?_
  refine rc_aload_n (i := 0) (x := 58) dX9_init_110 rfl (by simp) ?_
  refine rc_bipush (v := 8) dX9_init_111 rfl ?_
  refine rc_newa (ty := .int) (i := 0) (N := 8) (a0 := (8, .inl (fun _ => 0))) dX9_init_113 rfl ac_int (by decide) (by decide) (by decide) rfl (fun _ _ => rfl) (fun _ => rfl) (fun _ => rfl) (fun _ _ _ => ra_prim (fun _ q => by cases q)) (by decide) rfl (by decide) rfl rfl ?_
  refine rc_put (ci := 9) (k := 58) (j := 30) (v := .ref 71) dX9_init_115 rfl (by decide) pg_X9_51 (fun _ => rfl) (fun _ => rfl) rfl ?_
  refine rc_aload_n (i := 0) (x := 58) dX9_init_118 rfl (by simp) ?_
  refine rc_sipush (v := 960) dX9_init_119 rfl ?_
  refine rc_newa (ty := .int) (i := 0) (N := 960) (a0 := (960, .inl (fun _ => 0))) dX9_init_122 rfl ac_int (by decide) (by decide) (by decide) rfl (fun _ _ => rfl) (fun _ => rfl) (fun _ => rfl) (fun _ _ _ => ra_prim (fun _ q => by cases q)) (by decide) rfl (by decide) rfl rfl ?_
  refine rc_put (ci := 9) (k := 58) (j := 39) (v := .ref 72) dX9_init_124 rfl (by decide) pg_X9_54 (fun _ => rfl) (fun _ => rfl) rfl ?_
  refine rc_aload_n (i := 0) (x := 58) dX9_init_127 rfl (by simp) ?_
  refine rc_bipush (v := 8) dX9_init_128 rfl ?_
  refine rc_newa (ty := .int) (i := 0) (N := 8) (a0 := (8, .inl (fun _ => 0))) dX9_init_130 rfl ac_int (by decide) (by decide) (by decide) rfl (fun _ _ => rfl) (fun _ => rfl) (fun _ => rfl) (fun _ _ _ => ra_prim (fun _ q => by cases q)) (by decide) rfl (by decide) rfl rfl ?_
  refine rc_put (ci := 9) (k := 58) (j := 42) (v := .ref 73) dX9_init_132 rfl (by decide) pg_X9_57 (fun _ => rfl) (fun _ => rfl) rfl ?_
  refine rc_aload_n (i := 0) (x := 58) dX9_init_135 rfl (by simp) ?_
  refine rc_bipush (v := 8) dX9_init_136 rfl ?_
  refine rc_newa (ty := .int) (i := 0) (N := 8) (a0 := (8, .inl (fun _ => 0))) dX9_init_138 rfl ac_int (by decide) (by decide) (by decide) rfl (fun _ _ => rfl) (fun _ => rfl) (fun _ => rfl) (fun _ _ _ => ra_prim (fun _ q => by cases q)) (by decide) rfl (by decide) rfl rfl ?_
  refine rc_put (ci := 9) (k := 58) (j := 43) (v := .ref 74) dX9_init_140 rfl (by decide) pg_X9_60 (fun _ => rfl) (fun _ => rfl) rfl ?_
  refine rc_aload_n (i := 0) (x := 58) dX9_init_143 rfl (by simp) ?_
  refine rc_bipush (v := 8) dX9_init_144 rfl ?_
  refine rc_newa (ty := .int) (i := 0) (N := 8) (a0 := (8, .inl (fun _ => 0))) dX9_init_146 rfl ac_int (by decide) (by decide) (by decide) rfl (fun _ _ => rfl) (fun _ => rfl) (fun _ => rfl) (fun _ _ _ => ra_prim (fun _ q => by cases q)) (by decide) rfl (by decide) rfl rfl ?_
  refine rc_put (ci := 9) (k := 58) (j := 44) (v := .ref 75) dX9_init_148 rfl (by decide) pg_X9_63 (fun _ => rfl) (fun _ => rfl) rfl ?_
  refine rc_aload_n (i := 0) (x := 58) dX9_init_151 rfl (by simp) ?_
  refine rc_bipush (v := 81) dX9_init_152 rfl ?_
  refine rc_newa (ty := .int) (i := 0) (N := 81) (a0 := (81, .inl (fun _ => 0))) dX9_init_154 rfl ac_int (by decide) (by decide) (by decide) rfl (fun _ _ => rfl) (fun _ => rfl) (fun _ => rfl) (fun _ _ _ => ra_prim (fun _ q => by cases q)) (by decide) rfl (by decide) rfl rfl ?_
  refine rc_put (ci := 9) (k := 58) (j := 46) (v := .ref 76) dX9_init_156 rfl (by decide) pg_X9_66 (fun _ => rfl) (fun _ => rfl) rfl ?_
  refine rc_aload_n (i := 0) (x := 58) dX9_init_159 rfl (by simp) ?_
  refine rc_bipush (v := 81) dX9_init_160 rfl ?_
  refine rc_newa (ty := .int) (i := 0) (N := 81) (a0 := (81, .inl (fun _ => 0))) dX9_init_162 rfl ac_int (by decide) (by decide) (by decide) rfl (fun _ _ => rfl) (fun _ => rfl) (fun _ => rfl) (fun _ _ _ => ra_prim (fun _ q => by cases q)) (by decide) rfl (by decide) rfl rfl ?_
  refine rc_put (ci := 9) (k := 58) (j := 47) (v := .ref 77) dX9_init_164 rfl (by decide) pg_X9_69 (fun _ => rfl) (fun _ => rfl) rfl ?_
  refine rc_aload_n (i := 0) (x := 58) dX9_init_167 rfl (by simp) ?_
  refine rc_bipush (v := 30) dX9_init_168 rfl ?_
  refine rc_newa (ty := .int) (i := 0) (N := 30) (a0 := (30, .inl (fun _ => 0))) dX9_init_170 rfl ac_int (by decide) (by decide) (by decide) rfl (fun _ _ => rfl) (fun _ => rfl) (fun _ => rfl) (fun _ _ _ => ra_prim (fun _ q => by cases q)) (by decide) rfl (by decide) rfl rfl ?_
  refine rc_put (ci := 9) (k := 58) (j := 50) (v := .ref 78) dX9_init_172 rfl (by decide) pg_X9_72 (fun _ => rfl) (fun _ => rfl) rfl ?_
  refine rc_aload_n (i := 0) (x := 58) dX9_init_175 rfl (by simp) ?_
  refine rc_bipush (v := 30) dX9_init_176 rfl ?_
  refine rc_newa (ty := .int) (i := 0) (N := 30) (a0 := (30, .inl (fun _ => 0))) dX9_init_178 rfl ac_int (by decide) (by decide) (by decide) rfl (fun _ _ => rfl) (fun _ => rfl) (fun _ => rfl) (fun _ _ _ => ra_prim (fun _ q => by cases q)) (by decide) rfl (by decide) rfl rfl ?_
  refine rc_put (ci := 9) (k := 58) (j := 51) (v := .ref 79) dX9_init_180 rfl (by decide) pg_X9_75 (fun _ => rfl) (fun _ => rfl) rfl ?_
  refine rc_aload_n (i := 0) (x := 58) dX9_init_183 rfl (by simp) ?_
  refine rc_bipush (v := 30) dX9_init_184 rfl ?_
  refine rc_newa (ty := .int) (i := 0) (N := 30) (a0 := (30, .inl (fun _ => 0))) dX9_init_186 rfl ac_int (by decide) (by decide) (by decide) rfl (fun _ _ => rfl) (fun _ => rfl) (fun _ => rfl) (fun _ _ _ => ra_prim (fun _ q => by cases q)) (by decide) rfl (by decide) rfl rfl ?_
  refine rc_put (ci := 9) (k := 58) (j := 52) (v := .ref 80) dX9_init_188 rfl (by decide) pg_X9_78 (fun _ => rfl) (fun _ => rfl) rfl ?_
  refine rc_aload_n (i := 0) (x := 58) dX9_init_191 rfl (by simp) ?_
  refine rc_bipush (v := 30) dX9_init_192 rfl ?_
  refine rc_newa (ty := .int) (i := 0) (N := 30) (a0 := (30, .inl (fun _ => 0))) dX9_init_194 rfl ac_int (by decide) (by decide) (by decide) rfl (fun _ _ => rfl) (fun _ => rfl) (fun _ => rfl) (fun _ _ _ => ra_prim (fun _ q => by cases q)) (by decide) rfl (by decide) rfl rfl ?_
  refine rc_put (ci := 9) (k := 58) (j := 53) (v := .ref 81) dX9_init_196 rfl (by decide) pg_X9_81 (fun _ => rfl) (fun _ => rfl) rfl ?_
  refine rc_aload_n (i := 0) (x := 58) dX9_init_199 rfl (by simp) ?_
  refine rc_bipush (v := 30) dX9_init_200 rfl ?_
  refine rc_newa (ty := .boolean) (i := 3) (N := 30) (a0 := (30, .inl (fun _ => 0))) dX9_init_202 rfl ac_boolean (by decide) (by decide) (by decide) rfl (fun _ _ => rfl) (fun _ => rfl) (fun _ => rfl) (fun _ _ _ => ra_prim (fun _ q => by cases q)) (by decide) rfl (by decide) rfl rfl ?_
  refine rc_put (ci := 9) (k := 58) (j := 54) (v := .ref 82) dX9_init_204 rfl (by decide) pg_X9_84 (fun _ => rfl) (fun _ => rfl) rfl ?_
  refine rc_aload_n (i := 0) (x := 58) dX9_init_207 rfl (by simp) ?_
  refine rc_sipush (v := 403) dX9_init_208 rfl ?_
  refine rc_newa (ty := .int) (i := 0) (N := 403) (a0 := (403, .inl (fun _ => 0))) dX9_init_211 rfl ac_int (by decide) (by decide) (by decide) rfl (fun _ _ => rfl) (fun _ => rfl) (fun _ => rfl) (fun _ _ _ => ra_prim (fun _ q => by cases q)) (by decide) rfl (by decide) rfl rfl ?_
  refine rc_put (ci := 9) (k := 58) (j := 57) (v := .ref 83) dX9_init_213 rfl (by decide) pg_X9_88 (fun _ => rfl) (fun _ => rfl) rfl ?_
  refine rc_aload_n (i := 0) (x := 58) dX9_init_216 rfl (by simp) ?_
  refine rc_bipush (v := 13) dX9_init_217 rfl ?_
  refine rc_newa (ty := .int) (i := 0) (N := 13) (a0 := (13, .inl (fun _ => 0))) dX9_init_219 rfl ac_int (by decide) (by decide) (by decide) rfl (fun _ _ => rfl) (fun _ => rfl) (fun _ => rfl) (fun _ _ _ => ra_prim (fun _ q => by cases q)) (by decide) rfl (by decide) rfl rfl ?_
  refine rc_put (ci := 9) (k := 58) (j := 58) (v := .ref 84) dX9_init_221 rfl (by decide) pg_X9_91 (fun _ => rfl) (fun _ => rfl) rfl ?_
  refine rc_aload_n (i := 0) (x := 58) dX9_init_224 rfl (by simp) ?_
  refine rc_bipush (v := 31) dX9_init_225 rfl ?_
  refine rc_newa (ty := .boolean) (i := 3) (N := 31) (a0 := (31, .inl (fun _ => 0))) dX9_init_227 rfl ac_boolean (by decide) (by decide) (by decide) rfl (fun _ _ => rfl) (fun _ => rfl) (fun _ => rfl) (fun _ _ _ => ra_prim (fun _ q => by cases q)) (by decide) rfl (by decide) rfl rfl ?_
  refine rc_put (ci := 9) (k := 58) (j := 59) (v := .ref 85) dX9_init_229 rfl (by decide) pg_X9_94 (fun _ => rfl) (fun _ => rfl) rfl ?_
  refine rc_aload_n (i := 0) (x := 58) dX9_init_232 rfl (by simp) ?_
  refine rc_iconst (v := 3) dX9_init_233 rfl ?_
  refine rc_newa (ty := .boolean) (i := 3) (N := 3) (a0 := (3, .inl (fun _ => 0))) dX9_init_234 rfl ac_boolean (by decide) (by decide) (by decide) rfl (fun _ _ => rfl) (fun _ => rfl) (fun _ => rfl) (fun _ _ _ => ra_prim (fun _ q => by cases q)) (by decide) rfl (by decide) rfl rfl ?_
  refine rc_put (ci := 9) (k := 58) (j := 60) (v := .ref 86) dX9_init_236 rfl (by decide) pg_X9_97 (fun _ => rfl) (fun _ => rfl) rfl ?_
  refine rc_aload_n (i := 0) (x := 58) dX9_init_239 rfl (by simp) ?_
  refine rc_bipush (v := 72) dX9_init_240 rfl ?_
  refine rc_newa (ty := .int) (i := 0) (N := 72) (a0 := (72, .inl (fun _ => 0))) dX9_init_242 rfl ac_int (by decide) (by decide) (by decide) rfl (fun _ _ => rfl) (fun _ => rfl) (fun _ => rfl) (fun _ _ _ => ra_prim (fun _ q => by cases q)) (by decide) rfl (by decide) rfl rfl ?_
  refine rc_put (ci := 9) (k := 58) (j := 61) (v := .ref 87) dX9_init_244 rfl (by decide) pg_X9_100 (fun _ => rfl) (fun _ => rfl) rfl ?_
  exact rc_end ⟨dX9_init_247, rfl, rfl, rfl⟩
