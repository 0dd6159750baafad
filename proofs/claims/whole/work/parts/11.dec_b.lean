theorem dX0_init_0 : decode cX0_init 0 = .ok (.aload_n 0, 1) ∧ 0 + 1 = 1 := ⟨by decide +kernel, rfl⟩
theorem dX0_init_1 : decode cX0_init 1 = .ok (.invokespecial 3, 3) ∧ 1 + 3 = 4 := ⟨by decide +kernel, rfl⟩
theorem dX0_init_4 : decode cX0_init 4 = .ok (.aload_n 0, 1) ∧ 4 + 1 = 5 := ⟨by decide +kernel, rfl⟩
theorem dX0_init_5 : decode cX0_init 5 = .ok (.new 9, 3) ∧ 5 + 3 = 8 := ⟨by decide +kernel, rfl⟩
theorem dX0_init_8 : decode cX0_init 8 = .ok (.dup, 1) ∧ 8 + 1 = 9 := ⟨by decide +kernel, rfl⟩
theorem dX0_init_9 : decode cX0_init 9 = .ok (.bipush 16, 2) ∧ 9 + 2 = 11 := ⟨by decide +kernel, rfl⟩
theorem dX0_init_11 : decode cX0_init 11 = .ok (.invokespecial 11, 3) ∧ 11 + 3 = 14 := ⟨by decide +kernel, rfl⟩
theorem dX0_init_14 : decode cX0_init 14 = .ok (.putfield 14, 3) ∧ 14 + 3 = 17 := ⟨by decide +kernel, rfl⟩
theorem dX0_init_17 : decode cX0_init 17 = .ok (.aload_n 0, 1) ∧ 17 + 1 = 18 := ⟨by decide +kernel, rfl⟩
theorem dX0_init_18 : decode cX0_init 18 = .ok (.new 9, 3) ∧ 18 + 3 = 21 := ⟨by decide +kernel, rfl⟩
theorem dX0_init_21 : decode cX0_init 21 = .ok (.dup, 1) ∧ 21 + 1 = 22 := ⟨by decide +kernel, rfl⟩
theorem dX0_init_22 : decode cX0_init 22 = .ok (.iconst 4, 1) ∧ 22 + 1 = 23 := ⟨by decide +kernel, rfl⟩
theorem dX0_init_23 : decode cX0_init 23 = .ok (.invokespecial 11, 3) ∧ 23 + 3 = 26 := ⟨by decide +kernel, rfl⟩
theorem dX0_init_26 : decode cX0_init 26 = .ok (.putfield 20, 3) ∧ 26 + 3 = 29 := ⟨by decide +kernel, rfl⟩
theorem dX0_init_29 : decode cX0_init 29 = .ok (.aload_n 0, 1) ∧ 29 + 1 = 30 := ⟨by decide +kernel, rfl⟩
theorem dX0_init_30 : decode cX0_init 30 = .ok (.new 9, 3) ∧ 30 + 3 = 33 := ⟨by decide +kernel, rfl⟩
theorem dX0_init_33 : decode cX0_init 33 = .ok (.dup, 1) ∧ 33 + 1 = 34 := ⟨by decide +kernel, rfl⟩
theorem dX0_init_34 : decode cX0_init 34 = .ok (.bipush 16, 2) ∧ 34 + 2 = 36 := ⟨by decide +kernel, rfl⟩
theorem dX0_init_36 : decode cX0_init 36 = .ok (.invokespecial 11, 3) ∧ 36 + 3 = 39 := ⟨by decide +kernel, rfl⟩
theorem dX0_init_39 : decode cX0_init 39 = .ok (.putfield 23, 3) ∧ 39 + 3 = 42 := ⟨by decide +kernel, rfl⟩
theorem dX0_init_42 : decode cX0_init 42 = .ok (.aload_n 0, 1) ∧ 42 + 1 = 43 := ⟨by decide +kernel, rfl⟩
theorem dX0_init_43 : decode cX0_init 43 = .ok (.new 9, 3) ∧ 43 + 3 = 46 := ⟨by decide +kernel, rfl⟩
theorem dX0_init_46 : decode cX0_init 46 = .ok (.dup, 1) ∧ 46 + 1 = 47 := ⟨by decide +kernel, rfl⟩
theorem dX0_init_47 : decode cX0_init 47 = .ok (.iconst 4, 1) ∧ 47 + 1 = 48 := ⟨by decide +kernel, rfl⟩
theorem dX0_init_48 : decode cX0_init 48 = .ok (.invokespecial 11, 3) ∧ 48 + 3 = 51 := ⟨by decide +kernel, rfl⟩
theorem dX0_init_51 : decode cX0_init 51 = .ok (.putfield 26, 3) ∧ 51 + 3 = 54 := ⟨by decide +kernel, rfl⟩
theorem dX0_init_54 : decode cX0_init 54 = .ok (.aload_n 0, 1) ∧ 54 + 1 = 55 := ⟨by decide +kernel, rfl⟩
theorem dX0_init_55 : decode cX0_init 55 = .ok (.new 9, 3) ∧ 55 + 3 = 58 := ⟨by decide +kernel, rfl⟩
theorem dX0_init_58 : decode cX0_init 58 = .ok (.dup, 1) ∧ 58 + 1 = 59 := ⟨by decide +kernel, rfl⟩
theorem dX0_init_59 : decode cX0_init 59 = .ok (.bipush 16, 2) ∧ 59 + 2 = 61 := ⟨by decide +kernel, rfl⟩
theorem dX0_init_61 : decode cX0_init 61 = .ok (.invokespecial 11, 3) ∧ 61 + 3 = 64 := ⟨by decide +kernel, rfl⟩
theorem dX0_init_64 : decode cX0_init 64 = .ok (.putfield 29, 3) ∧ 64 + 3 = 67 := ⟨by decide +kernel, rfl⟩
theorem dX0_init_67 : decode cX0_init 67 = .ok (.aload_n 0, 1) ∧ 67 + 1 = 68 := ⟨by decide +kernel, rfl⟩
theorem dX0_init_68 : decode cX0_init 68 = .ok (.new 9, 3) ∧ 68 + 3 = 71 := ⟨by decide +kernel, rfl⟩
theorem dX0_init_71 : decode cX0_init 71 = .ok (.dup, 1) ∧ 71 + 1 = 72 := ⟨by decide +kernel, rfl⟩
theorem dX0_init_72 : decode cX0_init 72 = .ok (.bipush 16, 2) ∧ 72 + 2 = 74 := ⟨by decide +kernel, rfl⟩
theorem dX0_init_74 : decode cX0_init 74 = .ok (.invokespecial 11, 3) ∧ 74 + 3 = 77 := ⟨by decide +kernel, rfl⟩
theorem dX0_init_77 : decode cX0_init 77 = .ok (.putfield 32, 3) ∧ 77 + 3 = 80 := ⟨by decide +kernel, rfl⟩
theorem dX0_init_80 : decode cX0_init 80 = .ok (.aload_n 0, 1) ∧ 80 + 1 = 81 := ⟨by decide +kernel, rfl⟩
theorem dX0_init_81 : decode cX0_init 81 = .ok (.new 9, 3) ∧ 81 + 3 = 84 := ⟨by decide +kernel, rfl⟩
theorem dX0_init_84 : decode cX0_init 84 = .ok (.dup, 1) ∧ 84 + 1 = 85 := ⟨by decide +kernel, rfl⟩
theorem dX0_init_85 : decode cX0_init 85 = .ok (.bipush 16, 2) ∧ 85 + 2 = 87 := ⟨by decide +kernel, rfl⟩
theorem dX0_init_87 : decode cX0_init 87 = .ok (.invokespecial 11, 3) ∧ 87 + 3 = 90 := ⟨by decide +kernel, rfl⟩
theorem dX0_init_90 : decode cX0_init 90 = .ok (.putfield 35, 3) ∧ 90 + 3 = 93 := ⟨by decide +kernel, rfl⟩
theorem dX0_init_93 : decode cX0_init 93 = .ok (.aload_n 0, 1) ∧ 93 + 1 = 94 := ⟨by decide +kernel, rfl⟩
theorem dX0_init_94 : decode cX0_init 94 = .ok (.new 9, 3) ∧ 94 + 3 = 97 := ⟨by decide +kernel, rfl⟩
theorem dX0_init_97 : decode cX0_init 97 = .ok (.dup, 1) ∧ 97 + 1 = 98 := ⟨by decide +kernel, rfl⟩
theorem dX0_init_98 : decode cX0_init 98 = .ok (.bipush 16, 2) ∧ 98 + 2 = 100 := ⟨by decide +kernel, rfl⟩
theorem dX0_init_100 : decode cX0_init 100 = .ok (.invokespecial 11, 3) ∧ 100 + 3 = 103 := ⟨by decide +kernel, rfl⟩
theorem dX0_init_103 : decode cX0_init 103 = .ok (.putfield 38, 3) ∧ 103 + 3 = 106 := ⟨by decide +kernel, rfl⟩
theorem dX0_init_106 : decode cX0_init 106 = .ok (.aload_n 0, 1) ∧ 106 + 1 = 107 := ⟨by decide +kernel, rfl⟩
theorem dX0_init_107 : decode cX0_init 107 = .ok (.new 41, 3) ∧ 107 + 3 = 110 := ⟨by decide +kernel, rfl⟩
theorem dX0_init_110 : decode cX0_init 110 = .ok (.dup, 1) ∧ 110 + 1 = 111 := ⟨by decide +kernel, rfl⟩
theorem dX0_init_111 : decode cX0_init 111 = .ok (.invokespecial 43, 3) ∧ 111 + 3 = 114 := ⟨by decide +kernel, rfl⟩
theorem dX0_init_114 : decode cX0_init 114 = .ok (.putfield 44, 3) ∧ 114 + 3 = 117 := ⟨by decide +kernel, rfl⟩
theorem dX0_init_117 : decode cX0_init 117 = .ok (.aload_n 0, 1) ∧ 117 + 1 = 118 := ⟨by decide +kernel, rfl⟩
theorem dX0_init_118 : decode cX0_init 118 = .ok (.iconst 0, 1) ∧ 118 + 1 = 119 := ⟨by decide +kernel, rfl⟩
theorem dX0_init_119 : decode cX0_init 119 = .ok (.putfield 48, 3) ∧ 119 + 3 = 122 := ⟨by decide +kernel, rfl⟩
theorem dX0_init_122 : decode cX0_init 122 = .ok (.aload_n 0, 1) ∧ 122 + 1 = 123 := ⟨by decide +kernel, rfl⟩
theorem dX0_init_123 : decode cX0_init 123 = .ok (.iconst 0, 1) ∧ 123 + 1 = 124 := ⟨by decide +kernel, rfl⟩
theorem dX0_init_124 : decode cX0_init 124 = .ok (.putfield 52, 3) ∧ 124 + 3 = 127 := ⟨by decide +kernel, rfl⟩
theorem dX0_init_127 : decode cX0_init 127 = .ok (.aload_n 0, 1) ∧ 127 + 1 = 128 := ⟨by decide +kernel, rfl⟩
theorem dX0_init_128 : decode cX0_init 128 = .ok (.iconst 0, 1) ∧ 128 + 1 = 129 := ⟨by decide +kernel, rfl⟩
theorem dX0_init_129 : decode cX0_init 129 = .ok (.putfield 55, 3) ∧ 129 + 3 = 132 := ⟨by decide +kernel, rfl⟩
theorem dX0_init_132 : decode cX0_init 132 = .ok (.return_, 1) ∧ 132 + 1 = 133 := ⟨by decide +kernel, rfl⟩
theorem dX0_make_0 : decode cX0_make 0 = .ok (.aload_n 0, 1) ∧ 0 + 1 = 1 := ⟨by decide +kernel, rfl⟩
theorem dX0_make_1 : decode cX0_make 1 = .ok (.aload_n 1, 1) ∧ 1 + 1 = 2 := ⟨by decide +kernel, rfl⟩
theorem dX0_make_2 : decode cX0_make 2 = .ok (.invokevirtual 58, 3) ∧ 2 + 3 = 5 := ⟨by decide +kernel, rfl⟩
theorem dX0_make_5 : decode cX0_make 5 = .ok (.putfield 52, 3) ∧ 5 + 3 = 8 := ⟨by decide +kernel, rfl⟩
theorem dX0_make_8 : decode cX0_make 8 = .ok (.aload_n 0, 1) ∧ 8 + 1 = 9 := ⟨by decide +kernel, rfl⟩
theorem dX0_make_9 : decode cX0_make 9 = .ok (.aload_n 1, 1) ∧ 9 + 1 = 10 := ⟨by decide +kernel, rfl⟩
theorem dX0_make_10 : decode cX0_make 10 = .ok (.invokevirtual 63, 3) ∧ 10 + 3 = 13 := ⟨by decide +kernel, rfl⟩
theorem dX0_make_13 : decode cX0_make 13 = .ok (.aload_n 0, 1) ∧ 13 + 1 = 14 := ⟨by decide +kernel, rfl⟩
theorem dX0_make_14 : decode cX0_make 14 = .ok (.aload_n 1, 1) ∧ 14 + 1 = 15 := ⟨by decide +kernel, rfl⟩
theorem dX0_make_15 : decode cX0_make 15 = .ok (.invokevirtual 67, 3) ∧ 15 + 3 = 18 := ⟨by decide +kernel, rfl⟩
theorem dX0_make_18 : decode cX0_make 18 = .ok (.aload_n 0, 1) ∧ 18 + 1 = 19 := ⟨by decide +kernel, rfl⟩
theorem dX0_make_19 : decode cX0_make 19 = .ok (.aload_n 1, 1) ∧ 19 + 1 = 20 := ⟨by decide +kernel, rfl⟩
theorem dX0_make_20 : decode cX0_make 20 = .ok (.invokevirtual 70, 3) ∧ 20 + 3 = 23 := ⟨by decide +kernel, rfl⟩
theorem dX0_make_23 : decode cX0_make 23 = .ok (.aload_n 0, 1) ∧ 23 + 1 = 24 := ⟨by decide +kernel, rfl⟩
theorem dX0_make_24 : decode cX0_make 24 = .ok (.iconst 0, 1) ∧ 24 + 1 = 25 := ⟨by decide +kernel, rfl⟩
theorem dX0_make_25 : decode cX0_make 25 = .ok (.putfield 55, 3) ∧ 25 + 3 = 28 := ⟨by decide +kernel, rfl⟩
theorem dX0_make_28 : decode cX0_make 28 = .ok (.aload_n 0, 1) ∧ 28 + 1 = 29 := ⟨by decide +kernel, rfl⟩
theorem dX0_make_29 : decode cX0_make 29 = .ok (.getfield 29, 3) ∧ 29 + 3 = 32 := ⟨by decide +kernel, rfl⟩
theorem dX0_make_32 : decode cX0_make 32 = .ok (.bipush (-9), 2) ∧ 32 + 2 = 34 := ⟨by decide +kernel, rfl⟩
theorem dX0_make_34 : decode cX0_make 34 = .ok (.invokevirtual 73, 3) ∧ 34 + 3 = 37 := ⟨by decide +kernel, rfl⟩
theorem dX0_make_37 : decode cX0_make 37 = .ok (.aload_n 0, 1) ∧ 37 + 1 = 38 := ⟨by decide +kernel, rfl⟩
theorem dX0_make_38 : decode cX0_make 38 = .ok (.getfield 32, 3) ∧ 38 + 3 = 41 := ⟨by decide +kernel, rfl⟩
theorem dX0_make_41 : decode cX0_make 41 = .ok (.bipush (-9), 2) ∧ 41 + 2 = 43 := ⟨by decide +kernel, rfl⟩
theorem dX0_make_43 : decode cX0_make 43 = .ok (.invokevirtual 73, 3) ∧ 43 + 3 = 46 := ⟨by decide +kernel, rfl⟩
theorem dX0_make_46 : decode cX0_make 46 = .ok (.aload_n 0, 1) ∧ 46 + 1 = 47 := ⟨by decide +kernel, rfl⟩
theorem dX0_make_47 : decode cX0_make 47 = .ok (.getfield 35, 3) ∧ 47 + 3 = 50 := ⟨by decide +kernel, rfl⟩
theorem dX0_make_50 : decode cX0_make 50 = .ok (.iconst 0, 1) ∧ 50 + 1 = 51 := ⟨by decide +kernel, rfl⟩
theorem dX0_make_51 : decode cX0_make 51 = .ok (.invokevirtual 73, 3) ∧ 51 + 3 = 54 := ⟨by decide +kernel, rfl⟩
theorem dX0_make_54 : decode cX0_make 54 = .ok (.iconst 0, 1) ∧ 54 + 1 = 55 := ⟨by decide +kernel, rfl⟩
theorem dX0_make_55 : decode cX0_make 55 = .ok (.istore_n 2, 1) ∧ 55 + 1 = 56 := ⟨by decide +kernel, rfl⟩
theorem dX0_make_56 : decode cX0_make 56 = .ok (.iload_n 2, 1) ∧ 56 + 1 = 57 := ⟨by decide +kernel, rfl⟩
theorem dX0_make_57 : decode cX0_make 57 = .ok (.iconst 4, 1) ∧ 57 + 1 = 58 := ⟨by decide +kernel, rfl⟩
theorem dX0_make_58 : decode cX0_make 58 = .ok (.if_icmp .ge 22, 3) ∧ 58 + 3 = 61 ∧ ((58 : Nat) : Int) + 22 = ((80 : Nat) : Int) := ⟨by decide +kernel, rfl, rfl⟩
theorem dX0_make_61 : decode cX0_make 61 = .ok (.aload_n 0, 1) ∧ 61 + 1 = 62 := ⟨by decide +kernel, rfl⟩
theorem dX0_make_62 : decode cX0_make 62 = .ok (.aload_n 1, 1) ∧ 62 + 1 = 63 := ⟨by decide +kernel, rfl⟩
theorem dX0_make_63 : decode cX0_make 63 = .ok (.aload_n 1, 1) ∧ 63 + 1 = 64 := ⟨by decide +kernel, rfl⟩
theorem dX0_make_64 : decode cX0_make 64 = .ok (.sipush 152, 3) ∧ 64 + 3 = 67 := ⟨by decide +kernel, rfl⟩
theorem dX0_make_67 : decode cX0_make 67 = .ok (.iload_n 2, 1) ∧ 67 + 1 = 68 := ⟨by decide +kernel, rfl⟩
theorem dX0_make_68 : decode cX0_make 68 = .ok (.invokevirtual 76, 3) ∧ 68 + 3 = 71 := ⟨by decide +kernel, rfl⟩
theorem dX0_make_71 : decode cX0_make 71 = .ok (.invokevirtual 80, 3) ∧ 71 + 3 = 74 := ⟨by decide +kernel, rfl⟩
theorem dX0_make_74 : decode cX0_make 74 = .ok (.iinc 2 1, 3) ∧ 74 + 3 = 77 := ⟨by decide +kernel, rfl⟩
theorem dX0_make_77 : decode cX0_make 77 = .ok (.goto (-21), 3) ∧ ((77 : Nat) : Int) + (-21) = ((56 : Nat) : Int) := ⟨by decide +kernel, rfl⟩
theorem dX0_make_80 : decode cX0_make 80 = .ok (.iconst 0, 1) ∧ 80 + 1 = 81 := ⟨by decide +kernel, rfl⟩
theorem dX0_make_81 : decode cX0_make 81 = .ok (.istore_n 2, 1) ∧ 81 + 1 = 82 := ⟨by decide +kernel, rfl⟩
theorem dX0_make_82 : decode cX0_make 82 = .ok (.iload_n 2, 1) ∧ 82 + 1 = 83 := ⟨by decide +kernel, rfl⟩
theorem dX0_make_83 : decode cX0_make 83 = .ok (.iconst 4, 1) ∧ 83 + 1 = 84 := ⟨by decide +kernel, rfl⟩
theorem dX0_make_84 : decode cX0_make 84 = .ok (.if_icmp .ge 22, 3) ∧ 84 + 3 = 87 ∧ ((84 : Nat) : Int) + 22 = ((106 : Nat) : Int) := ⟨by decide +kernel, rfl, rfl⟩
theorem dX0_make_87 : decode cX0_make 87 = .ok (.aload_n 0, 1) ∧ 87 + 1 = 88 := ⟨by decide +kernel, rfl⟩
theorem dX0_make_88 : decode cX0_make 88 = .ok (.aload_n 1, 1) ∧ 88 + 1 = 89 := ⟨by decide +kernel, rfl⟩
theorem dX0_make_89 : decode cX0_make 89 = .ok (.aload_n 1, 1) ∧ 89 + 1 = 90 := ⟨by decide +kernel, rfl⟩
theorem dX0_make_90 : decode cX0_make 90 = .ok (.sipush 152, 3) ∧ 90 + 3 = 93 := ⟨by decide +kernel, rfl⟩
theorem dX0_make_93 : decode cX0_make 93 = .ok (.iload_n 2, 1) ∧ 93 + 1 = 94 := ⟨by decide +kernel, rfl⟩
theorem dX0_make_94 : decode cX0_make 94 = .ok (.invokevirtual 76, 3) ∧ 94 + 3 = 97 := ⟨by decide +kernel, rfl⟩
theorem dX0_make_97 : decode cX0_make 97 = .ok (.invokevirtual 84, 3) ∧ 97 + 3 = 100 := ⟨by decide +kernel, rfl⟩
theorem dX0_make_100 : decode cX0_make 100 = .ok (.iinc 2 1, 3) ∧ 100 + 3 = 103 := ⟨by decide +kernel, rfl⟩
theorem dX0_make_103 : decode cX0_make 103 = .ok (.goto (-21), 3) ∧ ((103 : Nat) : Int) + (-21) = ((82 : Nat) : Int) := ⟨by decide +kernel, rfl⟩
theorem dX0_make_106 : decode cX0_make 106 = .ok (.return_, 1) ∧ 106 + 1 = 107 := ⟨by decide +kernel, rfl⟩
theorem dX0_assignGroups_0 : decode cX0_assignGroups 0 = .ok (.aload_n 1, 1) ∧ 0 + 1 = 1 := ⟨by decide +kernel, rfl⟩
theorem dX0_assignGroups_1 : decode cX0_assignGroups 1 = .ok (.sipush 156, 3) ∧ 1 + 3 = 4 := ⟨by decide +kernel, rfl⟩
theorem dX0_assignGroups_4 : decode cX0_assignGroups 4 = .ok (.iconst 0, 1) ∧ 4 + 1 = 5 := ⟨by decide +kernel, rfl⟩
theorem dX0_assignGroups_5 : decode cX0_assignGroups 5 = .ok (.invokevirtual 76, 3) ∧ 5 + 3 = 8 := ⟨by decide +kernel, rfl⟩
theorem dX0_assignGroups_8 : decode cX0_assignGroups 8 = .ok (.iconst 1, 1) ∧ 8 + 1 = 9 := ⟨by decide +kernel, rfl⟩
theorem dX0_assignGroups_9 : decode cX0_assignGroups 9 = .ok (.if_icmp .ne 4, 3) ∧ 9 + 3 = 12 ∧ ((9 : Nat) : Int) + 4 = ((13 : Nat) : Int) := ⟨by decide +kernel, rfl, rfl⟩
theorem dX0_assignGroups_12 : decode cX0_assignGroups 12 = .ok (.return_, 1) ∧ 12 + 1 = 13 := ⟨by decide +kernel, rfl⟩
theorem dX0_assignGroups_13 : decode cX0_assignGroups 13 = .ok (.iconst 0, 1) ∧ 13 + 1 = 14 := ⟨by decide +kernel, rfl⟩
theorem dX0_assignGroups_14 : decode cX0_assignGroups 14 = .ok (.istore_n 2, 1) ∧ 14 + 1 = 15 := ⟨by decide +kernel, rfl⟩
theorem dX0_assignGroups_15 : decode cX0_assignGroups 15 = .ok (.iload_n 2, 1) ∧ 15 + 1 = 16 := ⟨by decide +kernel, rfl⟩
theorem dX0_assignGroups_16 : decode cX0_assignGroups 16 = .ok (.iconst 4, 1) ∧ 16 + 1 = 17 := ⟨by decide +kernel, rfl⟩
theorem dX0_assignGroups_17 : decode cX0_assignGroups 17 = .ok (.if_icmp .ge 72, 3) ∧ 17 + 3 = 20 ∧ ((17 : Nat) : Int) + 72 = ((89 : Nat) : Int) := ⟨by decide +kernel, rfl, rfl⟩
theorem dX0_assignGroups_20 : decode cX0_assignGroups 20 = .ok (.aload_n 0, 1) ∧ 20 + 1 = 21 := ⟨by decide +kernel, rfl⟩
theorem dX0_assignGroups_21 : decode cX0_assignGroups 21 = .ok (.aload_n 1, 1) ∧ 21 + 1 = 22 := ⟨by decide +kernel, rfl⟩
theorem dX0_assignGroups_22 : decode cX0_assignGroups 22 = .ok (.iload_n 2, 1) ∧ 22 + 1 = 23 := ⟨by decide +kernel, rfl⟩
theorem dX0_assignGroups_23 : decode cX0_assignGroups 23 = .ok (.invokevirtual 87, 3) ∧ 23 + 3 = 26 := ⟨by decide +kernel, rfl⟩
theorem dX0_assignGroups_26 : decode cX0_assignGroups 26 = .ok (.iconst 0, 1) ∧ 26 + 1 = 27 := ⟨by decide +kernel, rfl⟩
theorem dX0_assignGroups_27 : decode cX0_assignGroups 27 = .ok (.istore_n 3, 1) ∧ 27 + 1 = 28 := ⟨by decide +kernel, rfl⟩
theorem dX0_assignGroups_28 : decode cX0_assignGroups 28 = .ok (.iload_n 3, 1) ∧ 28 + 1 = 29 := ⟨by decide +kernel, rfl⟩
theorem dX0_assignGroups_29 : decode cX0_assignGroups 29 = .ok (.aload_n 0, 1) ∧ 29 + 1 = 30 := ⟨by decide +kernel, rfl⟩
theorem dX0_assignGroups_30 : decode cX0_assignGroups 30 = .ok (.getfield 52, 3) ∧ 30 + 3 = 33 := ⟨by decide +kernel, rfl⟩
theorem dX0_assignGroups_33 : decode cX0_assignGroups 33 = .ok (.if_icmp .ge 50, 3) ∧ 33 + 3 = 36 ∧ ((33 : Nat) : Int) + 50 = ((83 : Nat) : Int) := ⟨by decide +kernel, rfl, rfl⟩
theorem dX0_assignGroups_36 : decode cX0_assignGroups 36 = .ok (.aload_n 0, 1) ∧ 36 + 1 = 37 := ⟨by decide +kernel, rfl⟩
theorem dX0_assignGroups_37 : decode cX0_assignGroups 37 = .ok (.iload_n 3, 1) ∧ 37 + 1 = 38 := ⟨by decide +kernel, rfl⟩
theorem dX0_assignGroups_38 : decode cX0_assignGroups 38 = .ok (.invokevirtual 90, 3) ∧ 38 + 3 = 41 := ⟨by decide +kernel, rfl⟩
theorem dX0_assignGroups_41 : decode cX0_assignGroups 41 = .ok (.istore 4, 2) ∧ 41 + 2 = 43 := ⟨by decide +kernel, rfl⟩
theorem dX0_assignGroups_43 : decode cX0_assignGroups 43 = .ok (.aload_n 0, 1) ∧ 43 + 1 = 44 := ⟨by decide +kernel, rfl⟩
theorem dX0_assignGroups_44 : decode cX0_assignGroups 44 = .ok (.iload 4, 2) ∧ 44 + 2 = 46 := ⟨by decide +kernel, rfl⟩
theorem dX0_assignGroups_46 : decode cX0_assignGroups 46 = .ok (.iload_n 2, 1) ∧ 46 + 1 = 47 := ⟨by decide +kernel, rfl⟩
theorem dX0_assignGroups_47 : decode cX0_assignGroups 47 = .ok (.invokevirtual 94, 3) ∧ 47 + 3 = 50 := ⟨by decide +kernel, rfl⟩
theorem dX0_assignGroups_50 : decode cX0_assignGroups 50 = .ok (.ifCond .eq 27, 3) ∧ 50 + 3 = 53 ∧ ((50 : Nat) : Int) + 27 = ((77 : Nat) : Int) := ⟨by decide +kernel, rfl, rfl⟩
theorem dX0_assignGroups_53 : decode cX0_assignGroups 53 = .ok (.aload_n 0, 1) ∧ 53 + 1 = 54 := ⟨by decide +kernel, rfl⟩
theorem dX0_assignGroups_54 : decode cX0_assignGroups 54 = .ok (.getfield 32, 3) ∧ 54 + 3 = 57 := ⟨by decide +kernel, rfl⟩
theorem dX0_assignGroups_57 : decode cX0_assignGroups 57 = .ok (.iload 4, 2) ∧ 57 + 2 = 59 := ⟨by decide +kernel, rfl⟩
theorem dX0_assignGroups_59 : decode cX0_assignGroups 59 = .ok (.aload_n 0, 1) ∧ 59 + 1 = 60 := ⟨by decide +kernel, rfl⟩
theorem dX0_assignGroups_60 : decode cX0_assignGroups 60 = .ok (.getfield 44, 3) ∧ 60 + 3 = 63 := ⟨by decide +kernel, rfl⟩
theorem dX0_assignGroups_63 : decode cX0_assignGroups 63 = .ok (.aload_n 1, 1) ∧ 63 + 1 = 64 := ⟨by decide +kernel, rfl⟩
theorem dX0_assignGroups_64 : decode cX0_assignGroups 64 = .ok (.bipush 48, 2) ∧ 64 + 2 = 66 := ⟨by decide +kernel, rfl⟩
theorem dX0_assignGroups_66 : decode cX0_assignGroups 66 = .ok (.iload 4, 2) ∧ 66 + 2 = 68 := ⟨by decide +kernel, rfl⟩
theorem dX0_assignGroups_68 : decode cX0_assignGroups 68 = .ok (.invokevirtual 76, 3) ∧ 68 + 3 = 71 := ⟨by decide +kernel, rfl⟩
theorem dX0_assignGroups_71 : decode cX0_assignGroups 71 = .ok (.invokevirtual 98, 3) ∧ 71 + 3 = 74 := ⟨by decide +kernel, rfl⟩
theorem dX0_assignGroups_74 : decode cX0_assignGroups 74 = .ok (.invokevirtual 101, 3) ∧ 74 + 3 = 77 := ⟨by decide +kernel, rfl⟩
theorem dX0_assignGroups_77 : decode cX0_assignGroups 77 = .ok (.iinc 3 1, 3) ∧ 77 + 3 = 80 := ⟨by decide +kernel, rfl⟩
theorem dX0_assignGroups_80 : decode cX0_assignGroups 80 = .ok (.goto (-52), 3) ∧ ((80 : Nat) : Int) + (-52) = ((28 : Nat) : Int) := ⟨by decide +kernel, rfl⟩
theorem dX0_assignGroups_83 : decode cX0_assignGroups 83 = .ok (.iinc 2 1, 3) ∧ 83 + 3 = 86 := ⟨by decide +kernel, rfl⟩
theorem dX0_assignGroups_86 : decode cX0_assignGroups 86 = .ok (.goto (-71), 3) ∧ ((86 : Nat) : Int) + (-71) = ((15 : Nat) : Int) := ⟨by decide +kernel, rfl⟩
theorem dX0_assignGroups_89 : decode cX0_assignGroups 89 = .ok (.return_, 1) ∧ 89 + 1 = 90 := ⟨by decide +kernel, rfl⟩
theorem dX0_personAt_0 : decode cX0_personAt 0 = .ok (.aload_n 0, 1) ∧ 0 + 1 = 1 := ⟨by decide +kernel, rfl⟩
theorem dX0_personAt_1 : decode cX0_personAt 1 = .ok (.getfield 14, 3) ∧ 1 + 3 = 4 := ⟨by decide +kernel, rfl⟩
theorem dX0_personAt_4 : decode cX0_personAt 4 = .ok (.iload_n 1, 1) ∧ 4 + 1 = 5 := ⟨by decide +kernel, rfl⟩
theorem dX0_personAt_5 : decode cX0_personAt 5 = .ok (.invokevirtual 105, 3) ∧ 5 + 3 = 8 := ⟨by decide +kernel, rfl⟩
theorem dX0_personAt_8 : decode cX0_personAt 8 = .ok (.bipush 15, 2) ∧ 8 + 2 = 10 := ⟨by decide +kernel, rfl⟩
theorem dX0_personAt_10 : decode cX0_personAt 10 = .ok (.iand, 1) ∧ 10 + 1 = 11 := ⟨by decide +kernel, rfl⟩
theorem dX0_personAt_11 : decode cX0_personAt 11 = .ok (.ireturn, 1) ∧ 11 + 1 = 12 := ⟨by decide +kernel, rfl⟩
theorem dX0_freeSeats_0 : decode cX0_freeSeats 0 = .ok (.aload_n 0, 1) ∧ 0 + 1 = 1 := ⟨by decide +kernel, rfl⟩
theorem dX0_freeSeats_1 : decode cX0_freeSeats 1 = .ok (.getfield 20, 3) ∧ 1 + 3 = 4 := ⟨by decide +kernel, rfl⟩
theorem dX0_freeSeats_4 : decode cX0_freeSeats 4 = .ok (.iload_n 1, 1) ∧ 4 + 1 = 5 := ⟨by decide +kernel, rfl⟩
theorem dX0_freeSeats_5 : decode cX0_freeSeats 5 = .ok (.invokevirtual 105, 3) ∧ 5 + 3 = 8 := ⟨by decide +kernel, rfl⟩
theorem dX0_freeSeats_8 : decode cX0_freeSeats 8 = .ok (.ireturn, 1) ∧ 8 + 1 = 9 := ⟨by decide +kernel, rfl⟩
theorem dX0_freeReserved_0 : decode cX0_freeReserved 0 = .ok (.aload_n 0, 1) ∧ 0 + 1 = 1 := ⟨by decide +kernel, rfl⟩
theorem dX0_freeReserved_1 : decode cX0_freeReserved 1 = .ok (.getfield 23, 3) ∧ 1 + 3 = 4 := ⟨by decide +kernel, rfl⟩
theorem dX0_freeReserved_4 : decode cX0_freeReserved 4 = .ok (.iload_n 1, 1) ∧ 4 + 1 = 5 := ⟨by decide +kernel, rfl⟩
theorem dX0_freeReserved_5 : decode cX0_freeReserved 5 = .ok (.iconst 4, 1) ∧ 5 + 1 = 6 := ⟨by decide +kernel, rfl⟩
theorem dX0_freeReserved_6 : decode cX0_freeReserved 6 = .ok (.imul, 1) ∧ 6 + 1 = 7 := ⟨by decide +kernel, rfl⟩
theorem dX0_freeReserved_7 : decode cX0_freeReserved 7 = .ok (.iload_n 2, 1) ∧ 7 + 1 = 8 := ⟨by decide +kernel, rfl⟩
theorem dX0_freeReserved_8 : decode cX0_freeReserved 8 = .ok (.iadd, 1) ∧ 8 + 1 = 9 := ⟨by decide +kernel, rfl⟩
theorem dX0_freeReserved_9 : decode cX0_freeReserved 9 = .ok (.invokevirtual 105, 3) ∧ 9 + 3 = 12 := ⟨by decide +kernel, rfl⟩
theorem dX0_freeReserved_12 : decode cX0_freeReserved 12 = .ok (.ireturn, 1) ∧ 12 + 1 = 13 := ⟨by decide +kernel, rfl⟩
theorem dX0_seatOf_0 : decode cX0_seatOf 0 = .ok (.aload_n 0, 1) ∧ 0 + 1 = 1 := ⟨by decide +kernel, rfl⟩
theorem dX0_seatOf_1 : decode cX0_seatOf 1 = .ok (.getfield 29, 3) ∧ 1 + 3 = 4 := ⟨by decide +kernel, rfl⟩
theorem dX0_seatOf_4 : decode cX0_seatOf 4 = .ok (.iload_n 1, 1) ∧ 4 + 1 = 5 := ⟨by decide +kernel, rfl⟩
theorem dX0_seatOf_5 : decode cX0_seatOf 5 = .ok (.invokevirtual 105, 3) ∧ 5 + 3 = 8 := ⟨by decide +kernel, rfl⟩
theorem dX0_seatOf_8 : decode cX0_seatOf 8 = .ok (.ireturn, 1) ∧ 8 + 1 = 9 := ⟨by decide +kernel, rfl⟩
theorem dX0_groupOf_0 : decode cX0_groupOf 0 = .ok (.aload_n 0, 1) ∧ 0 + 1 = 1 := ⟨by decide +kernel, rfl⟩
theorem dX0_groupOf_1 : decode cX0_groupOf 1 = .ok (.getfield 32, 3) ∧ 1 + 3 = 4 := ⟨by decide +kernel, rfl⟩
theorem dX0_groupOf_4 : decode cX0_groupOf 4 = .ok (.iload_n 1, 1) ∧ 4 + 1 = 5 := ⟨by decide +kernel, rfl⟩
theorem dX0_groupOf_5 : decode cX0_groupOf 5 = .ok (.invokevirtual 105, 3) ∧ 5 + 3 = 8 := ⟨by decide +kernel, rfl⟩
theorem dX0_groupOf_8 : decode cX0_groupOf 8 = .ok (.ireturn, 1) ∧ 8 + 1 = 9 := ⟨by decide +kernel, rfl⟩
theorem dX0_handedTo_0 : decode cX0_handedTo 0 = .ok (.aload_n 0, 1) ∧ 0 + 1 = 1 := ⟨by decide +kernel, rfl⟩
theorem dX0_handedTo_1 : decode cX0_handedTo 1 = .ok (.getfield 35, 3) ∧ 1 + 3 = 4 := ⟨by decide +kernel, rfl⟩
theorem dX0_handedTo_4 : decode cX0_handedTo 4 = .ok (.iload_n 1, 1) ∧ 4 + 1 = 5 := ⟨by decide +kernel, rfl⟩
theorem dX0_handedTo_5 : decode cX0_handedTo 5 = .ok (.invokevirtual 105, 3) ∧ 5 + 3 = 8 := ⟨by decide +kernel, rfl⟩
theorem dX0_handedTo_8 : decode cX0_handedTo 8 = .ok (.ireturn, 1) ∧ 8 + 1 = 9 := ⟨by decide +kernel, rfl⟩
theorem dX0_has_0 : decode cX0_has 0 = .ok (.aload_n 0, 1) ∧ 0 + 1 = 1 := ⟨by decide +kernel, rfl⟩
theorem dX0_has_1 : decode cX0_has 1 = .ok (.getfield 55, 3) ∧ 1 + 3 = 4 := ⟨by decide +kernel, rfl⟩
theorem dX0_has_4 : decode cX0_has 4 = .ok (.iload_n 1, 1) ∧ 4 + 1 = 5 := ⟨by decide +kernel, rfl⟩
theorem dX0_has_5 : decode cX0_has 5 = .ok (.ishr, 1) ∧ 5 + 1 = 6 := ⟨by decide +kernel, rfl⟩
theorem dX0_has_6 : decode cX0_has 6 = .ok (.iconst 1, 1) ∧ 6 + 1 = 7 := ⟨by decide +kernel, rfl⟩
theorem dX0_has_7 : decode cX0_has 7 = .ok (.iand, 1) ∧ 7 + 1 = 8 := ⟨by decide +kernel, rfl⟩
theorem dX0_has_8 : decode cX0_has 8 = .ok (.iconst 1, 1) ∧ 8 + 1 = 9 := ⟨by decide +kernel, rfl⟩
theorem dX0_has_9 : decode cX0_has 9 = .ok (.if_icmp .ne 7, 3) ∧ 9 + 3 = 12 ∧ ((9 : Nat) : Int) + 7 = ((16 : Nat) : Int) := ⟨by decide +kernel, rfl, rfl⟩
theorem dX0_has_12 : decode cX0_has 12 = .ok (.iconst 1, 1) ∧ 12 + 1 = 13 := ⟨by decide +kernel, rfl⟩
theorem dX0_has_13 : decode cX0_has 13 = .ok (.goto 4, 3) ∧ ((13 : Nat) : Int) + 4 = ((17 : Nat) : Int) := ⟨by decide +kernel, rfl⟩
theorem dX0_has_16 : decode cX0_has 16 = .ok (.iconst 0, 1) ∧ 16 + 1 = 17 := ⟨by decide +kernel, rfl⟩
theorem dX0_has_17 : decode cX0_has 17 = .ok (.ireturn, 1) ∧ 17 + 1 = 18 := ⟨by decide +kernel, rfl⟩
theorem dX0_isTaken_0 : decode cX0_isTaken 0 = .ok (.aload_n 0, 1) ∧ 0 + 1 = 1 := ⟨by decide +kernel, rfl⟩
theorem dX0_isTaken_1 : decode cX0_isTaken 1 = .ok (.getfield 29, 3) ∧ 1 + 3 = 4 := ⟨by decide +kernel, rfl⟩
theorem dX0_isTaken_4 : decode cX0_isTaken 4 = .ok (.iload_n 1, 1) ∧ 4 + 1 = 5 := ⟨by decide +kernel, rfl⟩
theorem dX0_isTaken_5 : decode cX0_isTaken 5 = .ok (.invokevirtual 105, 3) ∧ 5 + 3 = 8 := ⟨by decide +kernel, rfl⟩
theorem dX0_isTaken_8 : decode cX0_isTaken 8 = .ok (.iload_n 2, 1) ∧ 8 + 1 = 9 := ⟨by decide +kernel, rfl⟩
theorem dX0_isTaken_9 : decode cX0_isTaken 9 = .ok (.if_icmp .ne 18, 3) ∧ 9 + 3 = 12 ∧ ((9 : Nat) : Int) + 18 = ((27 : Nat) : Int) := ⟨by decide +kernel, rfl, rfl⟩
theorem dX0_isTaken_12 : decode cX0_isTaken 12 = .ok (.aload_n 0, 1) ∧ 12 + 1 = 13 := ⟨by decide +kernel, rfl⟩
theorem dX0_isTaken_13 : decode cX0_isTaken 13 = .ok (.getfield 35, 3) ∧ 13 + 3 = 16 := ⟨by decide +kernel, rfl⟩
theorem dX0_isTaken_16 : decode cX0_isTaken 16 = .ok (.iload_n 1, 1) ∧ 16 + 1 = 17 := ⟨by decide +kernel, rfl⟩
theorem dX0_isTaken_17 : decode cX0_isTaken 17 = .ok (.invokevirtual 105, 3) ∧ 17 + 3 = 20 := ⟨by decide +kernel, rfl⟩
theorem dX0_isTaken_20 : decode cX0_isTaken 20 = .ok (.ifCond .ne 7, 3) ∧ 20 + 3 = 23 ∧ ((20 : Nat) : Int) + 7 = ((27 : Nat) : Int) := ⟨by decide +kernel, rfl, rfl⟩
theorem dX0_isTaken_23 : decode cX0_isTaken 23 = .ok (.iconst 1, 1) ∧ 23 + 1 = 24 := ⟨by decide +kernel, rfl⟩
theorem dX0_isTaken_24 : decode cX0_isTaken 24 = .ok (.goto 4, 3) ∧ ((24 : Nat) : Int) + 4 = ((28 : Nat) : Int) := ⟨by decide +kernel, rfl⟩
theorem dX0_isTaken_27 : decode cX0_isTaken 27 = .ok (.iconst 0, 1) ∧ 27 + 1 = 28 := ⟨by decide +kernel, rfl⟩
theorem dX0_isTaken_28 : decode cX0_isTaken 28 = .ok (.ireturn, 1) ∧ 28 + 1 = 29 := ⟨by decide +kernel, rfl⟩
theorem dX0_members_0 : decode cX0_members 0 = .ok (.aload_n 0, 1) ∧ 0 + 1 = 1 := ⟨by decide +kernel, rfl⟩
theorem dX0_members_1 : decode cX0_members 1 = .ok (.getfield 55, 3) ∧ 1 + 3 = 4 := ⟨by decide +kernel, rfl⟩
theorem dX0_members_4 : decode cX0_members 4 = .ok (.ireturn, 1) ∧ 4 + 1 = 5 := ⟨by decide +kernel, rfl⟩
theorem dX0_takenAt_0 : decode cX0_takenAt 0 = .ok (.iconst 0, 1) ∧ 0 + 1 = 1 := ⟨by decide +kernel, rfl⟩
theorem dX0_takenAt_1 : decode cX0_takenAt 1 = .ok (.istore_n 3, 1) ∧ 1 + 1 = 2 := ⟨by decide +kernel, rfl⟩
theorem dX0_takenAt_2 : decode cX0_takenAt 2 = .ok (.iconst 0, 1) ∧ 2 + 1 = 3 := ⟨by decide +kernel, rfl⟩
theorem dX0_takenAt_3 : decode cX0_takenAt 3 = .ok (.istore 4, 2) ∧ 3 + 2 = 5 := ⟨by decide +kernel, rfl⟩
theorem dX0_takenAt_5 : decode cX0_takenAt 5 = .ok (.iload 4, 2) ∧ 5 + 2 = 7 := ⟨by decide +kernel, rfl⟩
theorem dX0_takenAt_7 : decode cX0_takenAt 7 = .ok (.aload_n 0, 1) ∧ 7 + 1 = 8 := ⟨by decide +kernel, rfl⟩
theorem dX0_takenAt_8 : decode cX0_takenAt 8 = .ok (.getfield 52, 3) ∧ 8 + 3 = 11 := ⟨by decide +kernel, rfl⟩
theorem dX0_takenAt_11 : decode cX0_takenAt 11 = .ok (.if_icmp .ge 38, 3) ∧ 11 + 3 = 14 ∧ ((11 : Nat) : Int) + 38 = ((49 : Nat) : Int) := ⟨by decide +kernel, rfl, rfl⟩
theorem dX0_takenAt_14 : decode cX0_takenAt 14 = .ok (.aload_n 0, 1) ∧ 14 + 1 = 15 := ⟨by decide +kernel, rfl⟩
theorem dX0_takenAt_15 : decode cX0_takenAt 15 = .ok (.iload 4, 2) ∧ 15 + 2 = 17 := ⟨by decide +kernel, rfl⟩
theorem dX0_takenAt_17 : decode cX0_takenAt 17 = .ok (.invokevirtual 90, 3) ∧ 17 + 3 = 20 := ⟨by decide +kernel, rfl⟩
theorem dX0_takenAt_20 : decode cX0_takenAt 20 = .ok (.istore 5, 2) ∧ 20 + 2 = 22 := ⟨by decide +kernel, rfl⟩
theorem dX0_takenAt_22 : decode cX0_takenAt 22 = .ok (.aload_n 0, 1) ∧ 22 + 1 = 23 := ⟨by decide +kernel, rfl⟩
theorem dX0_takenAt_23 : decode cX0_takenAt 23 = .ok (.iload 5, 2) ∧ 23 + 2 = 25 := ⟨by decide +kernel, rfl⟩
theorem dX0_takenAt_25 : decode cX0_takenAt 25 = .ok (.iload_n 1, 1) ∧ 25 + 1 = 26 := ⟨by decide +kernel, rfl⟩
theorem dX0_takenAt_26 : decode cX0_takenAt 26 = .ok (.invokevirtual 94, 3) ∧ 26 + 3 = 29 := ⟨by decide +kernel, rfl⟩
theorem dX0_takenAt_29 : decode cX0_takenAt 29 = .ok (.ifCond .eq 14, 3) ∧ 29 + 3 = 32 ∧ ((29 : Nat) : Int) + 14 = ((43 : Nat) : Int) := ⟨by decide +kernel, rfl, rfl⟩
theorem dX0_takenAt_32 : decode cX0_takenAt 32 = .ok (.iload_n 3, 1) ∧ 32 + 1 = 33 := ⟨by decide +kernel, rfl⟩
theorem dX0_takenAt_33 : decode cX0_takenAt 33 = .ok (.iload_n 2, 1) ∧ 33 + 1 = 34 := ⟨by decide +kernel, rfl⟩
theorem dX0_takenAt_34 : decode cX0_takenAt 34 = .ok (.if_icmp .ne 6, 3) ∧ 34 + 3 = 37 ∧ ((34 : Nat) : Int) + 6 = ((40 : Nat) : Int) := ⟨by decide +kernel, rfl, rfl⟩
theorem dX0_takenAt_37 : decode cX0_takenAt 37 = .ok (.iload 5, 2) ∧ 37 + 2 = 39 := ⟨by decide +kernel, rfl⟩
theorem dX0_takenAt_39 : decode cX0_takenAt 39 = .ok (.ireturn, 1) ∧ 39 + 1 = 40 := ⟨by decide +kernel, rfl⟩
theorem dX0_takenAt_40 : decode cX0_takenAt 40 = .ok (.iinc 3 1, 3) ∧ 40 + 3 = 43 := ⟨by decide +kernel, rfl⟩
theorem dX0_takenAt_43 : decode cX0_takenAt 43 = .ok (.iinc 4 1, 3) ∧ 43 + 3 = 46 := ⟨by decide +kernel, rfl⟩
theorem dX0_takenAt_46 : decode cX0_takenAt 46 = .ok (.goto (-41), 3) ∧ ((46 : Nat) : Int) + (-41) = ((5 : Nat) : Int) := ⟨by decide +kernel, rfl⟩
theorem dX0_takenAt_49 : decode cX0_takenAt 49 = .ok (.bipush (-9), 2) ∧ 49 + 2 = 51 := ⟨by decide +kernel, rfl⟩
theorem dX0_takenAt_51 : decode cX0_takenAt 51 = .ok (.ireturn, 1) ∧ 51 + 1 = 52 := ⟨by decide +kernel, rfl⟩
theorem dX0_countTaken_0 : decode cX0_countTaken 0 = .ok (.iconst 0, 1) ∧ 0 + 1 = 1 := ⟨by decide +kernel, rfl⟩
theorem dX0_countTaken_1 : decode cX0_countTaken 1 = .ok (.istore_n 2, 1) ∧ 1 + 1 = 2 := ⟨by decide +kernel, rfl⟩
theorem dX0_countTaken_2 : decode cX0_countTaken 2 = .ok (.iconst 0, 1) ∧ 2 + 1 = 3 := ⟨by decide +kernel, rfl⟩
theorem dX0_countTaken_3 : decode cX0_countTaken 3 = .ok (.istore_n 3, 1) ∧ 3 + 1 = 4 := ⟨by decide +kernel, rfl⟩
theorem dX0_countTaken_4 : decode cX0_countTaken 4 = .ok (.iload_n 3, 1) ∧ 4 + 1 = 5 := ⟨by decide +kernel, rfl⟩
theorem dX0_countTaken_5 : decode cX0_countTaken 5 = .ok (.aload_n 0, 1) ∧ 5 + 1 = 6 := ⟨by decide +kernel, rfl⟩
theorem dX0_countTaken_6 : decode cX0_countTaken 6 = .ok (.getfield 52, 3) ∧ 6 + 3 = 9 := ⟨by decide +kernel, rfl⟩
theorem dX0_countTaken_9 : decode cX0_countTaken 9 = .ok (.if_icmp .ge 21, 3) ∧ 9 + 3 = 12 ∧ ((9 : Nat) : Int) + 21 = ((30 : Nat) : Int) := ⟨by decide +kernel, rfl, rfl⟩
theorem dX0_countTaken_12 : decode cX0_countTaken 12 = .ok (.aload_n 0, 1) ∧ 12 + 1 = 13 := ⟨by decide +kernel, rfl⟩
theorem dX0_countTaken_13 : decode cX0_countTaken 13 = .ok (.iload_n 3, 1) ∧ 13 + 1 = 14 := ⟨by decide +kernel, rfl⟩
theorem dX0_countTaken_14 : decode cX0_countTaken 14 = .ok (.iload_n 1, 1) ∧ 14 + 1 = 15 := ⟨by decide +kernel, rfl⟩
theorem dX0_countTaken_15 : decode cX0_countTaken 15 = .ok (.invokevirtual 94, 3) ∧ 15 + 3 = 18 := ⟨by decide +kernel, rfl⟩
theorem dX0_countTaken_18 : decode cX0_countTaken 18 = .ok (.ifCond .eq 6, 3) ∧ 18 + 3 = 21 ∧ ((18 : Nat) : Int) + 6 = ((24 : Nat) : Int) := ⟨by decide +kernel, rfl, rfl⟩
theorem dX0_countTaken_21 : decode cX0_countTaken 21 = .ok (.iinc 2 1, 3) ∧ 21 + 3 = 24 := ⟨by decide +kernel, rfl⟩
theorem dX0_countTaken_24 : decode cX0_countTaken 24 = .ok (.iinc 3 1, 3) ∧ 24 + 3 = 27 := ⟨by decide +kernel, rfl⟩
theorem dX0_countTaken_27 : decode cX0_countTaken 27 = .ok (.goto (-23), 3) ∧ ((27 : Nat) : Int) + (-23) = ((4 : Nat) : Int) := ⟨by decide +kernel, rfl⟩
theorem dX0_countTaken_30 : decode cX0_countTaken 30 = .ok (.iload_n 2, 1) ∧ 30 + 1 = 31 := ⟨by decide +kernel, rfl⟩
theorem dX0_countTaken_31 : decode cX0_countTaken 31 = .ok (.ireturn, 1) ∧ 31 + 1 = 32 := ⟨by decide +kernel, rfl⟩
theorem dX0_countSeated_0 : decode cX0_countSeated 0 = .ok (.iconst 0, 1) ∧ 0 + 1 = 1 := ⟨by decide +kernel, rfl⟩
theorem dX0_countSeated_1 : decode cX0_countSeated 1 = .ok (.istore_n 2, 1) ∧ 1 + 1 = 2 := ⟨by decide +kernel, rfl⟩
theorem dX0_countSeated_2 : decode cX0_countSeated 2 = .ok (.iconst 0, 1) ∧ 2 + 1 = 3 := ⟨by decide +kernel, rfl⟩
theorem dX0_countSeated_3 : decode cX0_countSeated 3 = .ok (.istore_n 3, 1) ∧ 3 + 1 = 4 := ⟨by decide +kernel, rfl⟩
theorem dX0_countSeated_4 : decode cX0_countSeated 4 = .ok (.iload_n 3, 1) ∧ 4 + 1 = 5 := ⟨by decide +kernel, rfl⟩
theorem dX0_countSeated_5 : decode cX0_countSeated 5 = .ok (.aload_n 0, 1) ∧ 5 + 1 = 6 := ⟨by decide +kernel, rfl⟩
theorem dX0_countSeated_6 : decode cX0_countSeated 6 = .ok (.getfield 52, 3) ∧ 6 + 3 = 9 := ⟨by decide +kernel, rfl⟩
theorem dX0_countSeated_9 : decode cX0_countSeated 9 = .ok (.if_icmp .ge 21, 3) ∧ 9 + 3 = 12 ∧ ((9 : Nat) : Int) + 21 = ((30 : Nat) : Int) := ⟨by decide +kernel, rfl, rfl⟩
theorem dX0_countSeated_12 : decode cX0_countSeated 12 = .ok (.aload_n 0, 1) ∧ 12 + 1 = 13 := ⟨by decide +kernel, rfl⟩
theorem dX0_countSeated_13 : decode cX0_countSeated 13 = .ok (.iload_n 3, 1) ∧ 13 + 1 = 14 := ⟨by decide +kernel, rfl⟩
theorem dX0_countSeated_14 : decode cX0_countSeated 14 = .ok (.invokevirtual 107, 3) ∧ 14 + 3 = 17 := ⟨by decide +kernel, rfl⟩
theorem dX0_countSeated_17 : decode cX0_countSeated 17 = .ok (.iload_n 1, 1) ∧ 17 + 1 = 18 := ⟨by decide +kernel, rfl⟩
theorem dX0_countSeated_18 : decode cX0_countSeated 18 = .ok (.if_icmp .ne 6, 3) ∧ 18 + 3 = 21 ∧ ((18 : Nat) : Int) + 6 = ((24 : Nat) : Int) := ⟨by decide +kernel, rfl, rfl⟩
theorem dX0_countSeated_21 : decode cX0_countSeated 21 = .ok (.iinc 2 1, 3) ∧ 21 + 3 = 24 := ⟨by decide +kernel, rfl⟩
theorem dX0_countSeated_24 : decode cX0_countSeated 24 = .ok (.iinc 3 1, 3) ∧ 24 + 3 = 27 := ⟨by decide +kernel, rfl⟩
theorem dX0_countSeated_27 : decode cX0_countSeated 27 = .ok (.goto (-23), 3) ∧ ((27 : Nat) : Int) + (-23) = ((4 : Nat) : Int) := ⟨by decide +kernel, rfl⟩
theorem dX0_countSeated_30 : decode cX0_countSeated 30 = .ok (.iload_n 2, 1) ∧ 30 + 1 = 31 := ⟨by decide +kernel, rfl⟩
theorem dX0_countSeated_31 : decode cX0_countSeated 31 = .ok (.ireturn, 1) ∧ 31 + 1 = 32 := ⟨by decide +kernel, rfl⟩
theorem dX0_countTo_0 : decode cX0_countTo 0 = .ok (.iconst 0, 1) ∧ 0 + 1 = 1 := ⟨by decide +kernel, rfl⟩
theorem dX0_countTo_1 : decode cX0_countTo 1 = .ok (.istore_n 3, 1) ∧ 1 + 1 = 2 := ⟨by decide +kernel, rfl⟩
theorem dX0_countTo_2 : decode cX0_countTo 2 = .ok (.iconst 0, 1) ∧ 2 + 1 = 3 := ⟨by decide +kernel, rfl⟩
theorem dX0_countTo_3 : decode cX0_countTo 3 = .ok (.istore 4, 2) ∧ 3 + 2 = 5 := ⟨by decide +kernel, rfl⟩
theorem dX0_countTo_5 : decode cX0_countTo 5 = .ok (.iload 4, 2) ∧ 5 + 2 = 7 := ⟨by decide +kernel, rfl⟩
theorem dX0_countTo_7 : decode cX0_countTo 7 = .ok (.aload_n 0, 1) ∧ 7 + 1 = 8 := ⟨by decide +kernel, rfl⟩
theorem dX0_countTo_8 : decode cX0_countTo 8 = .ok (.getfield 52, 3) ∧ 8 + 3 = 11 := ⟨by decide +kernel, rfl⟩
theorem dX0_countTo_11 : decode cX0_countTo 11 = .ok (.if_icmp .ge 32, 3) ∧ 11 + 3 = 14 ∧ ((11 : Nat) : Int) + 32 = ((43 : Nat) : Int) := ⟨by decide +kernel, rfl, rfl⟩
theorem dX0_countTo_14 : decode cX0_countTo 14 = .ok (.aload_n 0, 1) ∧ 14 + 1 = 15 := ⟨by decide +kernel, rfl⟩
theorem dX0_countTo_15 : decode cX0_countTo 15 = .ok (.iload 4, 2) ∧ 15 + 2 = 17 := ⟨by decide +kernel, rfl⟩
theorem dX0_countTo_17 : decode cX0_countTo 17 = .ok (.iload_n 1, 1) ∧ 17 + 1 = 18 := ⟨by decide +kernel, rfl⟩
theorem dX0_countTo_18 : decode cX0_countTo 18 = .ok (.invokevirtual 94, 3) ∧ 18 + 3 = 21 := ⟨by decide +kernel, rfl⟩
theorem dX0_countTo_21 : decode cX0_countTo 21 = .ok (.ifCond .eq 16, 3) ∧ 21 + 3 = 24 ∧ ((21 : Nat) : Int) + 16 = ((37 : Nat) : Int) := ⟨by decide +kernel, rfl, rfl⟩
theorem dX0_countTo_24 : decode cX0_countTo 24 = .ok (.aload_n 0, 1) ∧ 24 + 1 = 25 := ⟨by decide +kernel, rfl⟩
theorem dX0_countTo_25 : decode cX0_countTo 25 = .ok (.iload 4, 2) ∧ 25 + 2 = 27 := ⟨by decide +kernel, rfl⟩
theorem dX0_countTo_27 : decode cX0_countTo 27 = .ok (.invokevirtual 110, 3) ∧ 27 + 3 = 30 := ⟨by decide +kernel, rfl⟩
theorem dX0_countTo_30 : decode cX0_countTo 30 = .ok (.iload_n 2, 1) ∧ 30 + 1 = 31 := ⟨by decide +kernel, rfl⟩
theorem dX0_countTo_31 : decode cX0_countTo 31 = .ok (.if_icmp .ne 6, 3) ∧ 31 + 3 = 34 ∧ ((31 : Nat) : Int) + 6 = ((37 : Nat) : Int) := ⟨by decide +kernel, rfl, rfl⟩
theorem dX0_countTo_34 : decode cX0_countTo 34 = .ok (.iinc 3 1, 3) ∧ 34 + 3 = 37 := ⟨by decide +kernel, rfl⟩
theorem dX0_countTo_37 : decode cX0_countTo 37 = .ok (.iinc 4 1, 3) ∧ 37 + 3 = 40 := ⟨by decide +kernel, rfl⟩
theorem dX0_countTo_40 : decode cX0_countTo 40 = .ok (.goto (-35), 3) ∧ ((40 : Nat) : Int) + (-35) = ((5 : Nat) : Int) := ⟨by decide +kernel, rfl⟩
theorem dX0_countTo_43 : decode cX0_countTo 43 = .ok (.iload_n 3, 1) ∧ 43 + 1 = 44 := ⟨by decide +kernel, rfl⟩
theorem dX0_countTo_44 : decode cX0_countTo 44 = .ok (.ireturn, 1) ∧ 44 + 1 = 45 := ⟨by decide +kernel, rfl⟩
theorem dX0_countCountedIn_0 : decode cX0_countCountedIn 0 = .ok (.iconst 0, 1) ∧ 0 + 1 = 1 := ⟨by decide +kernel, rfl⟩
theorem dX0_countCountedIn_1 : decode cX0_countCountedIn 1 = .ok (.istore_n 2, 1) ∧ 1 + 1 = 2 := ⟨by decide +kernel, rfl⟩
theorem dX0_countCountedIn_2 : decode cX0_countCountedIn 2 = .ok (.iconst 0, 1) ∧ 2 + 1 = 3 := ⟨by decide +kernel, rfl⟩
theorem dX0_countCountedIn_3 : decode cX0_countCountedIn 3 = .ok (.istore_n 3, 1) ∧ 3 + 1 = 4 := ⟨by decide +kernel, rfl⟩
theorem dX0_countCountedIn_4 : decode cX0_countCountedIn 4 = .ok (.iload_n 3, 1) ∧ 4 + 1 = 5 := ⟨by decide +kernel, rfl⟩
theorem dX0_countCountedIn_5 : decode cX0_countCountedIn 5 = .ok (.iconst 4, 1) ∧ 5 + 1 = 6 := ⟨by decide +kernel, rfl⟩
theorem dX0_countCountedIn_6 : decode cX0_countCountedIn 6 = .ok (.if_icmp .ge 18, 3) ∧ 6 + 3 = 9 ∧ ((6 : Nat) : Int) + 18 = ((24 : Nat) : Int) := ⟨by decide +kernel, rfl, rfl⟩
theorem dX0_countCountedIn_9 : decode cX0_countCountedIn 9 = .ok (.iload_n 2, 1) ∧ 9 + 1 = 10 := ⟨by decide +kernel, rfl⟩
theorem dX0_countCountedIn_10 : decode cX0_countCountedIn 10 = .ok (.aload_n 0, 1) ∧ 10 + 1 = 11 := ⟨by decide +kernel, rfl⟩
theorem dX0_countCountedIn_11 : decode cX0_countCountedIn 11 = .ok (.iload_n 1, 1) ∧ 11 + 1 = 12 := ⟨by decide +kernel, rfl⟩
theorem dX0_countCountedIn_12 : decode cX0_countCountedIn 12 = .ok (.iload_n 3, 1) ∧ 12 + 1 = 13 := ⟨by decide +kernel, rfl⟩
theorem dX0_countCountedIn_13 : decode cX0_countCountedIn 13 = .ok (.invokevirtual 113, 3) ∧ 13 + 3 = 16 := ⟨by decide +kernel, rfl⟩
theorem dX0_countCountedIn_16 : decode cX0_countCountedIn 16 = .ok (.iadd, 1) ∧ 16 + 1 = 17 := ⟨by decide +kernel, rfl⟩
theorem dX0_countCountedIn_17 : decode cX0_countCountedIn 17 = .ok (.istore_n 2, 1) ∧ 17 + 1 = 18 := ⟨by decide +kernel, rfl⟩
theorem dX0_countCountedIn_18 : decode cX0_countCountedIn 18 = .ok (.iinc 3 1, 3) ∧ 18 + 3 = 21 := ⟨by decide +kernel, rfl⟩
theorem dX0_countCountedIn_21 : decode cX0_countCountedIn 21 = .ok (.goto (-17), 3) ∧ ((21 : Nat) : Int) + (-17) = ((4 : Nat) : Int) := ⟨by decide +kernel, rfl⟩
theorem dX0_countCountedIn_24 : decode cX0_countCountedIn 24 = .ok (.iload_n 2, 1) ∧ 24 + 1 = 25 := ⟨by decide +kernel, rfl⟩
theorem dX0_countCountedIn_25 : decode cX0_countCountedIn 25 = .ok (.ireturn, 1) ∧ 25 + 1 = 26 := ⟨by decide +kernel, rfl⟩
theorem dX0_countCounted_0 : decode cX0_countCounted 0 = .ok (.iconst 0, 1) ∧ 0 + 1 = 1 := ⟨by decide +kernel, rfl⟩
theorem dX0_countCounted_1 : decode cX0_countCounted 1 = .ok (.istore_n 1, 1) ∧ 1 + 1 = 2 := ⟨by decide +kernel, rfl⟩
theorem dX0_countCounted_2 : decode cX0_countCounted 2 = .ok (.iconst 0, 1) ∧ 2 + 1 = 3 := ⟨by decide +kernel, rfl⟩
theorem dX0_countCounted_3 : decode cX0_countCounted 3 = .ok (.istore_n 2, 1) ∧ 3 + 1 = 4 := ⟨by decide +kernel, rfl⟩
theorem dX0_countCounted_4 : decode cX0_countCounted 4 = .ok (.iload_n 2, 1) ∧ 4 + 1 = 5 := ⟨by decide +kernel, rfl⟩
theorem dX0_countCounted_5 : decode cX0_countCounted 5 = .ok (.iconst 4, 1) ∧ 5 + 1 = 6 := ⟨by decide +kernel, rfl⟩
theorem dX0_countCounted_6 : decode cX0_countCounted 6 = .ok (.if_icmp .ge 17, 3) ∧ 6 + 3 = 9 ∧ ((6 : Nat) : Int) + 17 = ((23 : Nat) : Int) := ⟨by decide +kernel, rfl, rfl⟩
theorem dX0_countCounted_9 : decode cX0_countCounted 9 = .ok (.iload_n 1, 1) ∧ 9 + 1 = 10 := ⟨by decide +kernel, rfl⟩
theorem dX0_countCounted_10 : decode cX0_countCounted 10 = .ok (.aload_n 0, 1) ∧ 10 + 1 = 11 := ⟨by decide +kernel, rfl⟩
theorem dX0_countCounted_11 : decode cX0_countCounted 11 = .ok (.iload_n 2, 1) ∧ 11 + 1 = 12 := ⟨by decide +kernel, rfl⟩
theorem dX0_countCounted_12 : decode cX0_countCounted 12 = .ok (.invokevirtual 116, 3) ∧ 12 + 3 = 15 := ⟨by decide +kernel, rfl⟩
theorem dX0_countCounted_15 : decode cX0_countCounted 15 = .ok (.iadd, 1) ∧ 15 + 1 = 16 := ⟨by decide +kernel, rfl⟩
theorem dX0_countCounted_16 : decode cX0_countCounted 16 = .ok (.istore_n 1, 1) ∧ 16 + 1 = 17 := ⟨by decide +kernel, rfl⟩
theorem dX0_countCounted_17 : decode cX0_countCounted 17 = .ok (.iinc 2 1, 3) ∧ 17 + 3 = 20 := ⟨by decide +kernel, rfl⟩
theorem dX0_countCounted_20 : decode cX0_countCounted 20 = .ok (.goto (-16), 3) ∧ ((20 : Nat) : Int) + (-16) = ((4 : Nat) : Int) := ⟨by decide +kernel, rfl⟩
theorem dX0_countCounted_23 : decode cX0_countCounted 23 = .ok (.iload_n 1, 1) ∧ 23 + 1 = 24 := ⟨by decide +kernel, rfl⟩
theorem dX0_countCounted_24 : decode cX0_countCounted 24 = .ok (.ireturn, 1) ∧ 24 + 1 = 25 := ⟨by decide +kernel, rfl⟩
theorem dX0_fillOf_0 : decode cX0_fillOf 0 = .ok (.aload_n 0, 1) ∧ 0 + 1 = 1 := ⟨by decide +kernel, rfl⟩
theorem dX0_fillOf_1 : decode cX0_fillOf 1 = .ok (.aload_n 1, 1) ∧ 1 + 1 = 2 := ⟨by decide +kernel, rfl⟩
theorem dX0_fillOf_2 : decode cX0_fillOf 2 = .ok (.iload_n 2, 1) ∧ 2 + 1 = 3 := ⟨by decide +kernel, rfl⟩
theorem dX0_fillOf_3 : decode cX0_fillOf 3 = .ok (.invokevirtual 87, 3) ∧ 3 + 3 = 6 := ⟨by decide +kernel, rfl⟩
theorem dX0_fillOf_6 : decode cX0_fillOf 6 = .ok (.aload_n 0, 1) ∧ 6 + 1 = 7 := ⟨by decide +kernel, rfl⟩
theorem dX0_fillOf_7 : decode cX0_fillOf 7 = .ok (.getfield 44, 3) ∧ 7 + 3 = 10 := ⟨by decide +kernel, rfl⟩
theorem dX0_fillOf_10 : decode cX0_fillOf 10 = .ok (.invokevirtual 119, 3) ∧ 10 + 3 = 13 := ⟨by decide +kernel, rfl⟩
theorem dX0_fillOf_13 : decode cX0_fillOf 13 = .ok (.ireturn, 1) ∧ 13 + 1 = 14 := ⟨by decide +kernel, rfl⟩
theorem dX0_countEnvy_0 : decode cX0_countEnvy 0 = .ok (.aload_n 0, 1) ∧ 0 + 1 = 1 := ⟨by decide +kernel, rfl⟩
theorem dX0_countEnvy_1 : decode cX0_countEnvy 1 = .ok (.aload_n 1, 1) ∧ 1 + 1 = 2 := ⟨by decide +kernel, rfl⟩
theorem dX0_countEnvy_2 : decode cX0_countEnvy 2 = .ok (.iload_n 2, 1) ∧ 2 + 1 = 3 := ⟨by decide +kernel, rfl⟩
theorem dX0_countEnvy_3 : decode cX0_countEnvy 3 = .ok (.invokevirtual 87, 3) ∧ 3 + 3 = 6 := ⟨by decide +kernel, rfl⟩
theorem dX0_countEnvy_6 : decode cX0_countEnvy 6 = .ok (.aload_n 0, 1) ∧ 6 + 1 = 7 := ⟨by decide +kernel, rfl⟩
theorem dX0_countEnvy_7 : decode cX0_countEnvy 7 = .ok (.getfield 44, 3) ∧ 7 + 3 = 10 := ⟨by decide +kernel, rfl⟩
theorem dX0_countEnvy_10 : decode cX0_countEnvy 10 = .ok (.invokevirtual 119, 3) ∧ 10 + 3 = 13 := ⟨by decide +kernel, rfl⟩
theorem dX0_countEnvy_13 : decode cX0_countEnvy 13 = .ok (.istore_n 3, 1) ∧ 13 + 1 = 14 := ⟨by decide +kernel, rfl⟩
theorem dX0_countEnvy_14 : decode cX0_countEnvy 14 = .ok (.iconst 0, 1) ∧ 14 + 1 = 15 := ⟨by decide +kernel, rfl⟩
theorem dX0_countEnvy_15 : decode cX0_countEnvy 15 = .ok (.istore 4, 2) ∧ 15 + 2 = 17 := ⟨by decide +kernel, rfl⟩
theorem dX0_countEnvy_17 : decode cX0_countEnvy 17 = .ok (.iconst 0, 1) ∧ 17 + 1 = 18 := ⟨by decide +kernel, rfl⟩
theorem dX0_countEnvy_18 : decode cX0_countEnvy 18 = .ok (.istore 5, 2) ∧ 18 + 2 = 20 := ⟨by decide +kernel, rfl⟩
theorem dX0_countEnvy_20 : decode cX0_countEnvy 20 = .ok (.iload 5, 2) ∧ 20 + 2 = 22 := ⟨by decide +kernel, rfl⟩
theorem dX0_countEnvy_22 : decode cX0_countEnvy 22 = .ok (.aload_n 0, 1) ∧ 22 + 1 = 23 := ⟨by decide +kernel, rfl⟩
theorem dX0_countEnvy_23 : decode cX0_countEnvy 23 = .ok (.getfield 52, 3) ∧ 23 + 3 = 26 := ⟨by decide +kernel, rfl⟩
theorem dX0_countEnvy_26 : decode cX0_countEnvy 26 = .ok (.if_icmp .ge 65, 3) ∧ 26 + 3 = 29 ∧ ((26 : Nat) : Int) + 65 = ((91 : Nat) : Int) := ⟨by decide +kernel, rfl, rfl⟩
theorem dX0_countEnvy_29 : decode cX0_countEnvy 29 = .ok (.aload_n 0, 1) ∧ 29 + 1 = 30 := ⟨by decide +kernel, rfl⟩
theorem dX0_countEnvy_30 : decode cX0_countEnvy 30 = .ok (.iload 5, 2) ∧ 30 + 2 = 32 := ⟨by decide +kernel, rfl⟩
theorem dX0_countEnvy_32 : decode cX0_countEnvy 32 = .ok (.iload_n 2, 1) ∧ 32 + 1 = 33 := ⟨by decide +kernel, rfl⟩
theorem dX0_countEnvy_33 : decode cX0_countEnvy 33 = .ok (.invokevirtual 94, 3) ∧ 33 + 3 = 36 := ⟨by decide +kernel, rfl⟩
theorem dX0_countEnvy_36 : decode cX0_countEnvy 36 = .ok (.ifCond .eq 49, 3) ∧ 36 + 3 = 39 ∧ ((36 : Nat) : Int) + 49 = ((85 : Nat) : Int) := ⟨by decide +kernel, rfl, rfl⟩
theorem dX0_countEnvy_39 : decode cX0_countEnvy 39 = .ok (.aload_n 0, 1) ∧ 39 + 1 = 40 := ⟨by decide +kernel, rfl⟩
theorem dX0_countEnvy_40 : decode cX0_countEnvy 40 = .ok (.getfield 44, 3) ∧ 40 + 3 = 43 := ⟨by decide +kernel, rfl⟩
theorem dX0_countEnvy_43 : decode cX0_countEnvy 43 = .ok (.aload_n 1, 1) ∧ 43 + 1 = 44 := ⟨by decide +kernel, rfl⟩
theorem dX0_countEnvy_44 : decode cX0_countEnvy 44 = .ok (.bipush 48, 2) ∧ 44 + 2 = 46 := ⟨by decide +kernel, rfl⟩
theorem dX0_countEnvy_46 : decode cX0_countEnvy 46 = .ok (.iload 5, 2) ∧ 46 + 2 = 48 := ⟨by decide +kernel, rfl⟩
theorem dX0_countEnvy_48 : decode cX0_countEnvy 48 = .ok (.invokevirtual 76, 3) ∧ 48 + 3 = 51 := ⟨by decide +kernel, rfl⟩
theorem dX0_countEnvy_51 : decode cX0_countEnvy 51 = .ok (.iconst (-1), 1) ∧ 51 + 1 = 52 := ⟨by decide +kernel, rfl⟩
theorem dX0_countEnvy_52 : decode cX0_countEnvy 52 = .ok (.invokevirtual 121, 3) ∧ 52 + 3 = 55 := ⟨by decide +kernel, rfl⟩
theorem dX0_countEnvy_55 : decode cX0_countEnvy 55 = .ok (.iload 4, 2) ∧ 55 + 2 = 57 := ⟨by decide +kernel, rfl⟩
theorem dX0_countEnvy_57 : decode cX0_countEnvy 57 = .ok (.aload_n 0, 1) ∧ 57 + 1 = 58 := ⟨by decide +kernel, rfl⟩
theorem dX0_countEnvy_58 : decode cX0_countEnvy 58 = .ok (.aload_n 1, 1) ∧ 58 + 1 = 59 := ⟨by decide +kernel, rfl⟩
theorem dX0_countEnvy_59 : decode cX0_countEnvy 59 = .ok (.iload_n 2, 1) ∧ 59 + 1 = 60 := ⟨by decide +kernel, rfl⟩
theorem dX0_countEnvy_60 : decode cX0_countEnvy 60 = .ok (.iload 5, 2) ∧ 60 + 2 = 62 := ⟨by decide +kernel, rfl⟩
theorem dX0_countEnvy_62 : decode cX0_countEnvy 62 = .ok (.iload_n 3, 1) ∧ 62 + 1 = 63 := ⟨by decide +kernel, rfl⟩
theorem dX0_countEnvy_63 : decode cX0_countEnvy 63 = .ok (.invokevirtual 124, 3) ∧ 63 + 3 = 66 := ⟨by decide +kernel, rfl⟩
theorem dX0_countEnvy_66 : decode cX0_countEnvy 66 = .ok (.iadd, 1) ∧ 66 + 1 = 67 := ⟨by decide +kernel, rfl⟩
theorem dX0_countEnvy_67 : decode cX0_countEnvy 67 = .ok (.istore 4, 2) ∧ 67 + 2 = 69 := ⟨by decide +kernel, rfl⟩
theorem dX0_countEnvy_69 : decode cX0_countEnvy 69 = .ok (.aload_n 0, 1) ∧ 69 + 1 = 70 := ⟨by decide +kernel, rfl⟩
theorem dX0_countEnvy_70 : decode cX0_countEnvy 70 = .ok (.getfield 44, 3) ∧ 70 + 3 = 73 := ⟨by decide +kernel, rfl⟩
theorem dX0_countEnvy_73 : decode cX0_countEnvy 73 = .ok (.aload_n 1, 1) ∧ 73 + 1 = 74 := ⟨by decide +kernel, rfl⟩
theorem dX0_countEnvy_74 : decode cX0_countEnvy 74 = .ok (.bipush 48, 2) ∧ 74 + 2 = 76 := ⟨by decide +kernel, rfl⟩
theorem dX0_countEnvy_76 : decode cX0_countEnvy 76 = .ok (.iload 5, 2) ∧ 76 + 2 = 78 := ⟨by decide +kernel, rfl⟩
theorem dX0_countEnvy_78 : decode cX0_countEnvy 78 = .ok (.invokevirtual 76, 3) ∧ 78 + 3 = 81 := ⟨by decide +kernel, rfl⟩
theorem dX0_countEnvy_81 : decode cX0_countEnvy 81 = .ok (.iconst 1, 1) ∧ 81 + 1 = 82 := ⟨by decide +kernel, rfl⟩
theorem dX0_countEnvy_82 : decode cX0_countEnvy 82 = .ok (.invokevirtual 121, 3) ∧ 82 + 3 = 85 := ⟨by decide +kernel, rfl⟩
theorem dX0_countEnvy_85 : decode cX0_countEnvy 85 = .ok (.iinc 5 1, 3) ∧ 85 + 3 = 88 := ⟨by decide +kernel, rfl⟩
theorem dX0_countEnvy_88 : decode cX0_countEnvy 88 = .ok (.goto (-68), 3) ∧ ((88 : Nat) : Int) + (-68) = ((20 : Nat) : Int) := ⟨by decide +kernel, rfl⟩
theorem dX0_countEnvy_91 : decode cX0_countEnvy 91 = .ok (.iload 4, 2) ∧ 91 + 2 = 93 := ⟨by decide +kernel, rfl⟩
theorem dX0_countEnvy_93 : decode cX0_countEnvy 93 = .ok (.ireturn, 1) ∧ 93 + 1 = 94 := ⟨by decide +kernel, rfl⟩
theorem dX0_countEnvious_0 : decode cX0_countEnvious 0 = .ok (.aload_n 0, 1) ∧ 0 + 1 = 1 := ⟨by decide +kernel, rfl⟩
theorem dX0_countEnvious_1 : decode cX0_countEnvious 1 = .ok (.iload_n 2, 1) ∧ 1 + 1 = 2 := ⟨by decide +kernel, rfl⟩
theorem dX0_countEnvious_2 : decode cX0_countEnvious 2 = .ok (.invokevirtual 128, 3) ∧ 2 + 3 = 5 := ⟨by decide +kernel, rfl⟩
theorem dX0_countEnvious_5 : decode cX0_countEnvious 5 = .ok (.istore 5, 2) ∧ 5 + 2 = 7 := ⟨by decide +kernel, rfl⟩
theorem dX0_countEnvious_7 : decode cX0_countEnvious 7 = .ok (.iconst 0, 1) ∧ 7 + 1 = 8 := ⟨by decide +kernel, rfl⟩
theorem dX0_countEnvious_8 : decode cX0_countEnvious 8 = .ok (.istore 6, 2) ∧ 8 + 2 = 10 := ⟨by decide +kernel, rfl⟩
theorem dX0_countEnvious_10 : decode cX0_countEnvious 10 = .ok (.iconst 0, 1) ∧ 10 + 1 = 11 := ⟨by decide +kernel, rfl⟩
theorem dX0_countEnvious_11 : decode cX0_countEnvious 11 = .ok (.istore 7, 2) ∧ 11 + 2 = 13 := ⟨by decide +kernel, rfl⟩
theorem dX0_countEnvious_13 : decode cX0_countEnvious 13 = .ok (.iload 7, 2) ∧ 13 + 2 = 15 := ⟨by decide +kernel, rfl⟩
theorem dX0_countEnvious_15 : decode cX0_countEnvious 15 = .ok (.aload_n 0, 1) ∧ 15 + 1 = 16 := ⟨by decide +kernel, rfl⟩
theorem dX0_countEnvious_16 : decode cX0_countEnvious 16 = .ok (.getfield 52, 3) ∧ 16 + 3 = 19 := ⟨by decide +kernel, rfl⟩
theorem dX0_countEnvious_19 : decode cX0_countEnvious 19 = .ok (.if_icmp .ge 77, 3) ∧ 19 + 3 = 22 ∧ ((19 : Nat) : Int) + 77 = ((96 : Nat) : Int) := ⟨by decide +kernel, rfl, rfl⟩
theorem dX0_countEnvious_22 : decode cX0_countEnvious 22 = .ok (.iload 5, 2) ∧ 22 + 2 = 24 := ⟨by decide +kernel, rfl⟩
theorem dX0_countEnvious_24 : decode cX0_countEnvious 24 = .ok (.iload 7, 2) ∧ 24 + 2 = 26 := ⟨by decide +kernel, rfl⟩
theorem dX0_countEnvious_26 : decode cX0_countEnvious 26 = .ok (.ishr, 1) ∧ 26 + 1 = 27 := ⟨by decide +kernel, rfl⟩
theorem dX0_countEnvious_27 : decode cX0_countEnvious 27 = .ok (.iconst 1, 1) ∧ 27 + 1 = 28 := ⟨by decide +kernel, rfl⟩
theorem dX0_countEnvious_28 : decode cX0_countEnvious 28 = .ok (.iand, 1) ∧ 28 + 1 = 29 := ⟨by decide +kernel, rfl⟩
theorem dX0_countEnvious_29 : decode cX0_countEnvious 29 = .ok (.iconst 1, 1) ∧ 29 + 1 = 30 := ⟨by decide +kernel, rfl⟩
theorem dX0_countEnvious_30 : decode cX0_countEnvious 30 = .ok (.if_icmp .ne 60, 3) ∧ 30 + 3 = 33 ∧ ((30 : Nat) : Int) + 60 = ((90 : Nat) : Int) := ⟨by decide +kernel, rfl, rfl⟩
theorem dX0_countEnvious_33 : decode cX0_countEnvious 33 = .ok (.aload_n 1, 1) ∧ 33 + 1 = 34 := ⟨by decide +kernel, rfl⟩
theorem dX0_countEnvious_34 : decode cX0_countEnvious 34 = .ok (.iload 7, 2) ∧ 34 + 2 = 36 := ⟨by decide +kernel, rfl⟩
theorem dX0_countEnvious_36 : decode cX0_countEnvious 36 = .ok (.iload_n 3, 1) ∧ 36 + 1 = 37 := ⟨by decide +kernel, rfl⟩
theorem dX0_countEnvious_37 : decode cX0_countEnvious 37 = .ok (.invokevirtual 131, 3) ∧ 37 + 3 = 40 := ⟨by decide +kernel, rfl⟩
theorem dX0_countEnvious_40 : decode cX0_countEnvious 40 = .ok (.ifCond .eq 50, 3) ∧ 40 + 3 = 43 ∧ ((40 : Nat) : Int) + 50 = ((90 : Nat) : Int) := ⟨by decide +kernel, rfl, rfl⟩
theorem dX0_countEnvious_43 : decode cX0_countEnvious 43 = .ok (.aload_n 0, 1) ∧ 43 + 1 = 44 := ⟨by decide +kernel, rfl⟩
theorem dX0_countEnvious_44 : decode cX0_countEnvious 44 = .ok (.getfield 44, 3) ∧ 44 + 3 = 47 := ⟨by decide +kernel, rfl⟩
theorem dX0_countEnvious_47 : decode cX0_countEnvious 47 = .ok (.aload_n 1, 1) ∧ 47 + 1 = 48 := ⟨by decide +kernel, rfl⟩
theorem dX0_countEnvious_48 : decode cX0_countEnvious 48 = .ok (.bipush 48, 2) ∧ 48 + 2 = 50 := ⟨by decide +kernel, rfl⟩
theorem dX0_countEnvious_50 : decode cX0_countEnvious 50 = .ok (.iload 7, 2) ∧ 50 + 2 = 52 := ⟨by decide +kernel, rfl⟩
theorem dX0_countEnvious_52 : decode cX0_countEnvious 52 = .ok (.invokevirtual 76, 3) ∧ 52 + 3 = 55 := ⟨by decide +kernel, rfl⟩
theorem dX0_countEnvious_55 : decode cX0_countEnvious 55 = .ok (.iconst 1, 1) ∧ 55 + 1 = 56 := ⟨by decide +kernel, rfl⟩
theorem dX0_countEnvious_56 : decode cX0_countEnvious 56 = .ok (.invokevirtual 121, 3) ∧ 56 + 3 = 59 := ⟨by decide +kernel, rfl⟩
theorem dX0_countEnvious_59 : decode cX0_countEnvious 59 = .ok (.aload_n 0, 1) ∧ 59 + 1 = 60 := ⟨by decide +kernel, rfl⟩
theorem dX0_countEnvious_60 : decode cX0_countEnvious 60 = .ok (.getfield 44, 3) ∧ 60 + 3 = 63 := ⟨by decide +kernel, rfl⟩
theorem dX0_countEnvious_63 : decode cX0_countEnvious 63 = .ok (.invokevirtual 119, 3) ∧ 63 + 3 = 66 := ⟨by decide +kernel, rfl⟩
theorem dX0_countEnvious_66 : decode cX0_countEnvious 66 = .ok (.iload 4, 2) ∧ 66 + 2 = 68 := ⟨by decide +kernel, rfl⟩
theorem dX0_countEnvious_68 : decode cX0_countEnvious 68 = .ok (.if_icmp .lt 6, 3) ∧ 68 + 3 = 71 ∧ ((68 : Nat) : Int) + 6 = ((74 : Nat) : Int) := ⟨by decide +kernel, rfl, rfl⟩
theorem dX0_countEnvious_71 : decode cX0_countEnvious 71 = .ok (.iinc 6 1, 3) ∧ 71 + 3 = 74 := ⟨by decide +kernel, rfl⟩
theorem dX0_countEnvious_74 : decode cX0_countEnvious 74 = .ok (.aload_n 0, 1) ∧ 74 + 1 = 75 := ⟨by decide +kernel, rfl⟩
theorem dX0_countEnvious_75 : decode cX0_countEnvious 75 = .ok (.getfield 44, 3) ∧ 75 + 3 = 78 := ⟨by decide +kernel, rfl⟩
theorem dX0_countEnvious_78 : decode cX0_countEnvious 78 = .ok (.aload_n 1, 1) ∧ 78 + 1 = 79 := ⟨by decide +kernel, rfl⟩
theorem dX0_countEnvious_79 : decode cX0_countEnvious 79 = .ok (.bipush 48, 2) ∧ 79 + 2 = 81 := ⟨by decide +kernel, rfl⟩
theorem dX0_countEnvious_81 : decode cX0_countEnvious 81 = .ok (.iload 7, 2) ∧ 81 + 2 = 83 := ⟨by decide +kernel, rfl⟩
theorem dX0_countEnvious_83 : decode cX0_countEnvious 83 = .ok (.invokevirtual 76, 3) ∧ 83 + 3 = 86 := ⟨by decide +kernel, rfl⟩
theorem dX0_countEnvious_86 : decode cX0_countEnvious 86 = .ok (.iconst (-1), 1) ∧ 86 + 1 = 87 := ⟨by decide +kernel, rfl⟩
theorem dX0_countEnvious_87 : decode cX0_countEnvious 87 = .ok (.invokevirtual 121, 3) ∧ 87 + 3 = 90 := ⟨by decide +kernel, rfl⟩
theorem dX0_countEnvious_90 : decode cX0_countEnvious 90 = .ok (.iinc 7 1, 3) ∧ 90 + 3 = 93 := ⟨by decide +kernel, rfl⟩
theorem dX0_countEnvious_93 : decode cX0_countEnvious 93 = .ok (.goto (-80), 3) ∧ ((93 : Nat) : Int) + (-80) = ((13 : Nat) : Int) := ⟨by decide +kernel, rfl⟩
theorem dX0_countEnvious_96 : decode cX0_countEnvious 96 = .ok (.iload 6, 2) ∧ 96 + 2 = 98 := ⟨by decide +kernel, rfl⟩
theorem dX0_countEnvious_98 : decode cX0_countEnvious 98 = .ok (.ireturn, 1) ∧ 98 + 1 = 99 := ⟨by decide +kernel, rfl⟩
theorem dX0_tallyTaken_0 : decode cX0_tallyTaken 0 = .ok (.aload_n 0, 1) ∧ 0 + 1 = 1 := ⟨by decide +kernel, rfl⟩
theorem dX0_tallyTaken_1 : decode cX0_tallyTaken 1 = .ok (.getfield 44, 3) ∧ 1 + 3 = 4 := ⟨by decide +kernel, rfl⟩
theorem dX0_tallyTaken_4 : decode cX0_tallyTaken 4 = .ok (.aload_n 0, 1) ∧ 4 + 1 = 5 := ⟨by decide +kernel, rfl⟩
theorem dX0_tallyTaken_5 : decode cX0_tallyTaken 5 = .ok (.iload_n 2, 1) ∧ 5 + 1 = 6 := ⟨by decide +kernel, rfl⟩
theorem dX0_tallyTaken_6 : decode cX0_tallyTaken 6 = .ok (.invokevirtual 134, 3) ∧ 6 + 3 = 9 := ⟨by decide +kernel, rfl⟩
theorem dX0_tallyTaken_9 : decode cX0_tallyTaken 9 = .ok (.iconst 0, 1) ∧ 9 + 1 = 10 := ⟨by decide +kernel, rfl⟩
theorem dX0_tallyTaken_10 : decode cX0_tallyTaken 10 = .ok (.istore_n 3, 1) ∧ 10 + 1 = 11 := ⟨by decide +kernel, rfl⟩
theorem dX0_tallyTaken_11 : decode cX0_tallyTaken 11 = .ok (.iload_n 3, 1) ∧ 11 + 1 = 12 := ⟨by decide +kernel, rfl⟩
theorem dX0_tallyTaken_12 : decode cX0_tallyTaken 12 = .ok (.aload_n 0, 1) ∧ 12 + 1 = 13 := ⟨by decide +kernel, rfl⟩
theorem dX0_tallyTaken_13 : decode cX0_tallyTaken 13 = .ok (.getfield 52, 3) ∧ 13 + 3 = 16 := ⟨by decide +kernel, rfl⟩
theorem dX0_tallyTaken_16 : decode cX0_tallyTaken 16 = .ok (.if_icmp .ge 33, 3) ∧ 16 + 3 = 19 ∧ ((16 : Nat) : Int) + 33 = ((49 : Nat) : Int) := ⟨by decide +kernel, rfl, rfl⟩
theorem dX0_tallyTaken_19 : decode cX0_tallyTaken 19 = .ok (.aload_n 0, 1) ∧ 19 + 1 = 20 := ⟨by decide +kernel, rfl⟩
theorem dX0_tallyTaken_20 : decode cX0_tallyTaken 20 = .ok (.iload_n 3, 1) ∧ 20 + 1 = 21 := ⟨by decide +kernel, rfl⟩
theorem dX0_tallyTaken_21 : decode cX0_tallyTaken 21 = .ok (.iload_n 2, 1) ∧ 21 + 1 = 22 := ⟨by decide +kernel, rfl⟩
theorem dX0_tallyTaken_22 : decode cX0_tallyTaken 22 = .ok (.invokevirtual 94, 3) ∧ 22 + 3 = 25 := ⟨by decide +kernel, rfl⟩
theorem dX0_tallyTaken_25 : decode cX0_tallyTaken 25 = .ok (.ifCond .eq 18, 3) ∧ 25 + 3 = 28 ∧ ((25 : Nat) : Int) + 18 = ((43 : Nat) : Int) := ⟨by decide +kernel, rfl, rfl⟩
theorem dX0_tallyTaken_28 : decode cX0_tallyTaken 28 = .ok (.aload_n 0, 1) ∧ 28 + 1 = 29 := ⟨by decide +kernel, rfl⟩
theorem dX0_tallyTaken_29 : decode cX0_tallyTaken 29 = .ok (.getfield 44, 3) ∧ 29 + 3 = 32 := ⟨by decide +kernel, rfl⟩
theorem dX0_tallyTaken_32 : decode cX0_tallyTaken 32 = .ok (.aload_n 1, 1) ∧ 32 + 1 = 33 := ⟨by decide +kernel, rfl⟩
theorem dX0_tallyTaken_33 : decode cX0_tallyTaken 33 = .ok (.bipush 48, 2) ∧ 33 + 2 = 35 := ⟨by decide +kernel, rfl⟩
theorem dX0_tallyTaken_35 : decode cX0_tallyTaken 35 = .ok (.iload_n 3, 1) ∧ 35 + 1 = 36 := ⟨by decide +kernel, rfl⟩
theorem dX0_tallyTaken_36 : decode cX0_tallyTaken 36 = .ok (.invokevirtual 76, 3) ∧ 36 + 3 = 39 := ⟨by decide +kernel, rfl⟩
theorem dX0_tallyTaken_39 : decode cX0_tallyTaken 39 = .ok (.iconst 1, 1) ∧ 39 + 1 = 40 := ⟨by decide +kernel, rfl⟩
theorem dX0_tallyTaken_40 : decode cX0_tallyTaken 40 = .ok (.invokevirtual 121, 3) ∧ 40 + 3 = 43 := ⟨by decide +kernel, rfl⟩
theorem dX0_tallyTaken_43 : decode cX0_tallyTaken 43 = .ok (.iinc 3 1, 3) ∧ 43 + 3 = 46 := ⟨by decide +kernel, rfl⟩
theorem dX0_tallyTaken_46 : decode cX0_tallyTaken 46 = .ok (.goto (-35), 3) ∧ ((46 : Nat) : Int) + (-35) = ((11 : Nat) : Int) := ⟨by decide +kernel, rfl⟩
theorem dX0_tallyTaken_49 : decode cX0_tallyTaken 49 = .ok (.return_, 1) ∧ 49 + 1 = 50 := ⟨by decide +kernel, rfl⟩
theorem dX0_rankAll_0 : decode cX0_rankAll 0 = .ok (.iconst 0, 1) ∧ 0 + 1 = 1 := ⟨by decide +kernel, rfl⟩
theorem dX0_rankAll_1 : decode cX0_rankAll 1 = .ok (.istore_n 2, 1) ∧ 1 + 1 = 2 := ⟨by decide +kernel, rfl⟩
theorem dX0_rankAll_2 : decode cX0_rankAll 2 = .ok (.iload_n 2, 1) ∧ 2 + 1 = 3 := ⟨by decide +kernel, rfl⟩
theorem dX0_rankAll_3 : decode cX0_rankAll 3 = .ok (.aload_n 0, 1) ∧ 3 + 1 = 4 := ⟨by decide +kernel, rfl⟩
theorem dX0_rankAll_4 : decode cX0_rankAll 4 = .ok (.getfield 52, 3) ∧ 4 + 3 = 7 := ⟨by decide +kernel, rfl⟩
theorem dX0_rankAll_7 : decode cX0_rankAll 7 = .ok (.if_icmp .ge 74, 3) ∧ 7 + 3 = 10 ∧ ((7 : Nat) : Int) + 74 = ((81 : Nat) : Int) := ⟨by decide +kernel, rfl, rfl⟩
theorem dX0_rankAll_10 : decode cX0_rankAll 10 = .ok (.aload_n 1, 1) ∧ 10 + 1 = 11 := ⟨by decide +kernel, rfl⟩
theorem dX0_rankAll_11 : decode cX0_rankAll 11 = .ok (.iload_n 2, 1) ∧ 11 + 1 = 12 := ⟨by decide +kernel, rfl⟩
theorem dX0_rankAll_12 : decode cX0_rankAll 12 = .ok (.invokevirtual 138, 3) ∧ 12 + 3 = 15 := ⟨by decide +kernel, rfl⟩
theorem dX0_rankAll_15 : decode cX0_rankAll 15 = .ok (.istore_n 3, 1) ∧ 15 + 1 = 16 := ⟨by decide +kernel, rfl⟩
theorem dX0_rankAll_16 : decode cX0_rankAll 16 = .ok (.iload_n 2, 1) ∧ 16 + 1 = 17 := ⟨by decide +kernel, rfl⟩
theorem dX0_rankAll_17 : decode cX0_rankAll 17 = .ok (.istore 4, 2) ∧ 17 + 2 = 19 := ⟨by decide +kernel, rfl⟩
theorem dX0_rankAll_19 : decode cX0_rankAll 19 = .ok (.iload 4, 2) ∧ 19 + 2 = 21 := ⟨by decide +kernel, rfl⟩
theorem dX0_rankAll_21 : decode cX0_rankAll 21 = .ok (.ifCond .le 44, 3) ∧ 21 + 3 = 24 ∧ ((21 : Nat) : Int) + 44 = ((65 : Nat) : Int) := ⟨by decide +kernel, rfl, rfl⟩
theorem dX0_rankAll_24 : decode cX0_rankAll 24 = .ok (.aload_n 0, 1) ∧ 24 + 1 = 25 := ⟨by decide +kernel, rfl⟩
theorem dX0_rankAll_25 : decode cX0_rankAll 25 = .ok (.getfield 14, 3) ∧ 25 + 3 = 28 := ⟨by decide +kernel, rfl⟩
theorem dX0_rankAll_28 : decode cX0_rankAll 28 = .ok (.iload 4, 2) ∧ 28 + 2 = 30 := ⟨by decide +kernel, rfl⟩
theorem dX0_rankAll_30 : decode cX0_rankAll 30 = .ok (.iconst 1, 1) ∧ 30 + 1 = 31 := ⟨by decide +kernel, rfl⟩
theorem dX0_rankAll_31 : decode cX0_rankAll 31 = .ok (.isub, 1) ∧ 31 + 1 = 32 := ⟨by decide +kernel, rfl⟩
theorem dX0_rankAll_32 : decode cX0_rankAll 32 = .ok (.invokevirtual 105, 3) ∧ 32 + 3 = 35 := ⟨by decide +kernel, rfl⟩
theorem dX0_rankAll_35 : decode cX0_rankAll 35 = .ok (.iload_n 3, 1) ∧ 35 + 1 = 36 := ⟨by decide +kernel, rfl⟩
theorem dX0_rankAll_36 : decode cX0_rankAll 36 = .ok (.if_icmp .le 29, 3) ∧ 36 + 3 = 39 ∧ ((36 : Nat) : Int) + 29 = ((65 : Nat) : Int) := ⟨by decide +kernel, rfl, rfl⟩
theorem dX0_rankAll_39 : decode cX0_rankAll 39 = .ok (.aload_n 0, 1) ∧ 39 + 1 = 40 := ⟨by decide +kernel, rfl⟩
theorem dX0_rankAll_40 : decode cX0_rankAll 40 = .ok (.getfield 14, 3) ∧ 40 + 3 = 43 := ⟨by decide +kernel, rfl⟩
theorem dX0_rankAll_43 : decode cX0_rankAll 43 = .ok (.iload 4, 2) ∧ 43 + 2 = 45 := ⟨by decide +kernel, rfl⟩
theorem dX0_rankAll_45 : decode cX0_rankAll 45 = .ok (.aload_n 0, 1) ∧ 45 + 1 = 46 := ⟨by decide +kernel, rfl⟩
theorem dX0_rankAll_46 : decode cX0_rankAll 46 = .ok (.getfield 14, 3) ∧ 46 + 3 = 49 := ⟨by decide +kernel, rfl⟩
theorem dX0_rankAll_49 : decode cX0_rankAll 49 = .ok (.iload 4, 2) ∧ 49 + 2 = 51 := ⟨by decide +kernel, rfl⟩
theorem dX0_rankAll_51 : decode cX0_rankAll 51 = .ok (.iconst 1, 1) ∧ 51 + 1 = 52 := ⟨by decide +kernel, rfl⟩
theorem dX0_rankAll_52 : decode cX0_rankAll 52 = .ok (.isub, 1) ∧ 52 + 1 = 53 := ⟨by decide +kernel, rfl⟩
theorem dX0_rankAll_53 : decode cX0_rankAll 53 = .ok (.invokevirtual 105, 3) ∧ 53 + 3 = 56 := ⟨by decide +kernel, rfl⟩
theorem dX0_rankAll_56 : decode cX0_rankAll 56 = .ok (.invokevirtual 101, 3) ∧ 56 + 3 = 59 := ⟨by decide +kernel, rfl⟩
theorem dX0_rankAll_59 : decode cX0_rankAll 59 = .ok (.iinc 4 (-1), 3) ∧ 59 + 3 = 62 := ⟨by decide +kernel, rfl⟩
theorem dX0_rankAll_62 : decode cX0_rankAll 62 = .ok (.goto (-43), 3) ∧ ((62 : Nat) : Int) + (-43) = ((19 : Nat) : Int) := ⟨by decide +kernel, rfl⟩
theorem dX0_rankAll_65 : decode cX0_rankAll 65 = .ok (.aload_n 0, 1) ∧ 65 + 1 = 66 := ⟨by decide +kernel, rfl⟩
theorem dX0_rankAll_66 : decode cX0_rankAll 66 = .ok (.getfield 14, 3) ∧ 66 + 3 = 69 := ⟨by decide +kernel, rfl⟩
theorem dX0_rankAll_69 : decode cX0_rankAll 69 = .ok (.iload 4, 2) ∧ 69 + 2 = 71 := ⟨by decide +kernel, rfl⟩
theorem dX0_rankAll_71 : decode cX0_rankAll 71 = .ok (.iload_n 3, 1) ∧ 71 + 1 = 72 := ⟨by decide +kernel, rfl⟩
theorem dX0_rankAll_72 : decode cX0_rankAll 72 = .ok (.invokevirtual 101, 3) ∧ 72 + 3 = 75 := ⟨by decide +kernel, rfl⟩
theorem dX0_rankAll_75 : decode cX0_rankAll 75 = .ok (.iinc 2 1, 3) ∧ 75 + 3 = 78 := ⟨by decide +kernel, rfl⟩
theorem dX0_rankAll_78 : decode cX0_rankAll 78 = .ok (.goto (-76), 3) ∧ ((78 : Nat) : Int) + (-76) = ((2 : Nat) : Int) := ⟨by decide +kernel, rfl⟩
theorem dX0_rankAll_81 : decode cX0_rankAll 81 = .ok (.return_, 1) ∧ 81 + 1 = 82 := ⟨by decide +kernel, rfl⟩
theorem dX0_findFree_0 : decode cX0_findFree 0 = .ok (.iconst 0, 1) ∧ 0 + 1 = 1 := ⟨by decide +kernel, rfl⟩
theorem dX0_findFree_1 : decode cX0_findFree 1 = .ok (.istore_n 2, 1) ∧ 1 + 1 = 2 := ⟨by decide +kernel, rfl⟩
theorem dX0_findFree_2 : decode cX0_findFree 2 = .ok (.iload_n 2, 1) ∧ 2 + 1 = 3 := ⟨by decide +kernel, rfl⟩
theorem dX0_findFree_3 : decode cX0_findFree 3 = .ok (.iconst 4, 1) ∧ 3 + 1 = 4 := ⟨by decide +kernel, rfl⟩
theorem dX0_findFree_4 : decode cX0_findFree 4 = .ok (.if_icmp .ge 25, 3) ∧ 4 + 3 = 7 ∧ ((4 : Nat) : Int) + 25 = ((29 : Nat) : Int) := ⟨by decide +kernel, rfl, rfl⟩
theorem dX0_findFree_7 : decode cX0_findFree 7 = .ok (.aload_n 0, 1) ∧ 7 + 1 = 8 := ⟨by decide +kernel, rfl⟩
theorem dX0_findFree_8 : decode cX0_findFree 8 = .ok (.getfield 20, 3) ∧ 8 + 3 = 11 := ⟨by decide +kernel, rfl⟩
theorem dX0_findFree_11 : decode cX0_findFree 11 = .ok (.iload_n 2, 1) ∧ 11 + 1 = 12 := ⟨by decide +kernel, rfl⟩
theorem dX0_findFree_12 : decode cX0_findFree 12 = .ok (.aload_n 1, 1) ∧ 12 + 1 = 13 := ⟨by decide +kernel, rfl⟩
theorem dX0_findFree_13 : decode cX0_findFree 13 = .ok (.sipush 128, 3) ∧ 13 + 3 = 16 := ⟨by decide +kernel, rfl⟩
theorem dX0_findFree_16 : decode cX0_findFree 16 = .ok (.iload_n 2, 1) ∧ 16 + 1 = 17 := ⟨by decide +kernel, rfl⟩
theorem dX0_findFree_17 : decode cX0_findFree 17 = .ok (.invokevirtual 76, 3) ∧ 17 + 3 = 20 := ⟨by decide +kernel, rfl⟩
theorem dX0_findFree_20 : decode cX0_findFree 20 = .ok (.invokevirtual 101, 3) ∧ 20 + 3 = 23 := ⟨by decide +kernel, rfl⟩
theorem dX0_findFree_23 : decode cX0_findFree 23 = .ok (.iinc 2 1, 3) ∧ 23 + 3 = 26 := ⟨by decide +kernel, rfl⟩
theorem dX0_findFree_26 : decode cX0_findFree 26 = .ok (.goto (-24), 3) ∧ ((26 : Nat) : Int) + (-24) = ((2 : Nat) : Int) := ⟨by decide +kernel, rfl⟩
theorem dX0_findFree_29 : decode cX0_findFree 29 = .ok (.iconst 0, 1) ∧ 29 + 1 = 30 := ⟨by decide +kernel, rfl⟩
theorem dX0_findFree_30 : decode cX0_findFree 30 = .ok (.istore_n 2, 1) ∧ 30 + 1 = 31 := ⟨by decide +kernel, rfl⟩
theorem dX0_findFree_31 : decode cX0_findFree 31 = .ok (.iload_n 2, 1) ∧ 31 + 1 = 32 := ⟨by decide +kernel, rfl⟩
theorem dX0_findFree_32 : decode cX0_findFree 32 = .ok (.bipush 16, 2) ∧ 32 + 2 = 34 := ⟨by decide +kernel, rfl⟩
theorem dX0_findFree_34 : decode cX0_findFree 34 = .ok (.if_icmp .ge 25, 3) ∧ 34 + 3 = 37 ∧ ((34 : Nat) : Int) + 25 = ((59 : Nat) : Int) := ⟨by decide +kernel, rfl, rfl⟩
theorem dX0_findFree_37 : decode cX0_findFree 37 = .ok (.aload_n 0, 1) ∧ 37 + 1 = 38 := ⟨by decide +kernel, rfl⟩
theorem dX0_findFree_38 : decode cX0_findFree 38 = .ok (.getfield 23, 3) ∧ 38 + 3 = 41 := ⟨by decide +kernel, rfl⟩
theorem dX0_findFree_41 : decode cX0_findFree 41 = .ok (.iload_n 2, 1) ∧ 41 + 1 = 42 := ⟨by decide +kernel, rfl⟩
theorem dX0_findFree_42 : decode cX0_findFree 42 = .ok (.aload_n 1, 1) ∧ 42 + 1 = 43 := ⟨by decide +kernel, rfl⟩
theorem dX0_findFree_43 : decode cX0_findFree 43 = .ok (.sipush 132, 3) ∧ 43 + 3 = 46 := ⟨by decide +kernel, rfl⟩
theorem dX0_findFree_46 : decode cX0_findFree 46 = .ok (.iload_n 2, 1) ∧ 46 + 1 = 47 := ⟨by decide +kernel, rfl⟩
theorem dX0_findFree_47 : decode cX0_findFree 47 = .ok (.invokevirtual 76, 3) ∧ 47 + 3 = 50 := ⟨by decide +kernel, rfl⟩
theorem dX0_findFree_50 : decode cX0_findFree 50 = .ok (.invokevirtual 101, 3) ∧ 50 + 3 = 53 := ⟨by decide +kernel, rfl⟩
theorem dX0_findFree_53 : decode cX0_findFree 53 = .ok (.iinc 2 1, 3) ∧ 53 + 3 = 56 := ⟨by decide +kernel, rfl⟩
theorem dX0_findFree_56 : decode cX0_findFree 56 = .ok (.goto (-25), 3) ∧ ((56 : Nat) : Int) + (-25) = ((31 : Nat) : Int) := ⟨by decide +kernel, rfl⟩
theorem dX0_findFree_59 : decode cX0_findFree 59 = .ok (.iconst 0, 1) ∧ 59 + 1 = 60 := ⟨by decide +kernel, rfl⟩
theorem dX0_findFree_60 : decode cX0_findFree 60 = .ok (.istore_n 2, 1) ∧ 60 + 1 = 61 := ⟨by decide +kernel, rfl⟩
theorem dX0_findFree_61 : decode cX0_findFree 61 = .ok (.iload_n 2, 1) ∧ 61 + 1 = 62 := ⟨by decide +kernel, rfl⟩
theorem dX0_findFree_62 : decode cX0_findFree 62 = .ok (.aload_n 0, 1) ∧ 62 + 1 = 63 := ⟨by decide +kernel, rfl⟩
theorem dX0_findFree_63 : decode cX0_findFree 63 = .ok (.getfield 52, 3) ∧ 63 + 3 = 66 := ⟨by decide +kernel, rfl⟩
theorem dX0_findFree_66 : decode cX0_findFree 66 = .ok (.if_icmp .ge 38, 3) ∧ 66 + 3 = 69 ∧ ((66 : Nat) : Int) + 38 = ((104 : Nat) : Int) := ⟨by decide +kernel, rfl, rfl⟩
theorem dX0_findFree_69 : decode cX0_findFree 69 = .ok (.aload_n 1, 1) ∧ 69 + 1 = 70 := ⟨by decide +kernel, rfl⟩
theorem dX0_findFree_70 : decode cX0_findFree 70 = .ok (.bipush 64, 2) ∧ 70 + 2 = 72 := ⟨by decide +kernel, rfl⟩
theorem dX0_findFree_72 : decode cX0_findFree 72 = .ok (.iload_n 2, 1) ∧ 72 + 1 = 73 := ⟨by decide +kernel, rfl⟩
theorem dX0_findFree_73 : decode cX0_findFree 73 = .ok (.invokevirtual 76, 3) ∧ 73 + 3 = 76 := ⟨by decide +kernel, rfl⟩
theorem dX0_findFree_76 : decode cX0_findFree 76 = .ok (.iconst 3, 1) ∧ 76 + 1 = 77 := ⟨by decide +kernel, rfl⟩
theorem dX0_findFree_77 : decode cX0_findFree 77 = .ok (.if_icmp .ne 21, 3) ∧ 77 + 3 = 80 ∧ ((77 : Nat) : Int) + 21 = ((98 : Nat) : Int) := ⟨by decide +kernel, rfl, rfl⟩
theorem dX0_findFree_80 : decode cX0_findFree 80 = .ok (.aload_n 0, 1) ∧ 80 + 1 = 81 := ⟨by decide +kernel, rfl⟩
theorem dX0_findFree_81 : decode cX0_findFree 81 = .ok (.aload_n 1, 1) ∧ 81 + 1 = 82 := ⟨by decide +kernel, rfl⟩
theorem dX0_findFree_82 : decode cX0_findFree 82 = .ok (.bipush 80, 2) ∧ 82 + 2 = 84 := ⟨by decide +kernel, rfl⟩
theorem dX0_findFree_84 : decode cX0_findFree 84 = .ok (.iload_n 2, 1) ∧ 84 + 1 = 85 := ⟨by decide +kernel, rfl⟩
theorem dX0_findFree_85 : decode cX0_findFree 85 = .ok (.invokevirtual 76, 3) ∧ 85 + 3 = 88 := ⟨by decide +kernel, rfl⟩
theorem dX0_findFree_88 : decode cX0_findFree 88 = .ok (.aload_n 1, 1) ∧ 88 + 1 = 89 := ⟨by decide +kernel, rfl⟩
theorem dX0_findFree_89 : decode cX0_findFree 89 = .ok (.bipush 96, 2) ∧ 89 + 2 = 91 := ⟨by decide +kernel, rfl⟩
theorem dX0_findFree_91 : decode cX0_findFree 91 = .ok (.iload_n 2, 1) ∧ 91 + 1 = 92 := ⟨by decide +kernel, rfl⟩
theorem dX0_findFree_92 : decode cX0_findFree 92 = .ok (.invokevirtual 76, 3) ∧ 92 + 3 = 95 := ⟨by decide +kernel, rfl⟩
theorem dX0_findFree_95 : decode cX0_findFree 95 = .ok (.invokevirtual 141, 3) ∧ 95 + 3 = 98 := ⟨by decide +kernel, rfl⟩
theorem dX0_findFree_98 : decode cX0_findFree 98 = .ok (.iinc 2 1, 3) ∧ 98 + 3 = 101 := ⟨by decide +kernel, rfl⟩
theorem dX0_findFree_101 : decode cX0_findFree 101 = .ok (.goto (-40), 3) ∧ ((101 : Nat) : Int) + (-40) = ((61 : Nat) : Int) := ⟨by decide +kernel, rfl⟩
theorem dX0_findFree_104 : decode cX0_findFree 104 = .ok (.return_, 1) ∧ 104 + 1 = 105 := ⟨by decide +kernel, rfl⟩
theorem dX0_occupy_0 : decode cX0_occupy 0 = .ok (.aload_n 0, 1) ∧ 0 + 1 = 1 := ⟨by decide +kernel, rfl⟩
theorem dX0_occupy_1 : decode cX0_occupy 1 = .ok (.getfield 20, 3) ∧ 1 + 3 = 4 := ⟨by decide +kernel, rfl⟩
theorem dX0_occupy_4 : decode cX0_occupy 4 = .ok (.iload_n 1, 1) ∧ 4 + 1 = 5 := ⟨by decide +kernel, rfl⟩
theorem dX0_occupy_5 : decode cX0_occupy 5 = .ok (.iconst 0, 1) ∧ 5 + 1 = 6 := ⟨by decide +kernel, rfl⟩
theorem dX0_occupy_6 : decode cX0_occupy 6 = .ok (.aload_n 0, 1) ∧ 6 + 1 = 7 := ⟨by decide +kernel, rfl⟩
theorem dX0_occupy_7 : decode cX0_occupy 7 = .ok (.getfield 20, 3) ∧ 7 + 3 = 10 := ⟨by decide +kernel, rfl⟩
theorem dX0_occupy_10 : decode cX0_occupy 10 = .ok (.iload_n 1, 1) ∧ 10 + 1 = 11 := ⟨by decide +kernel, rfl⟩
theorem dX0_occupy_11 : decode cX0_occupy 11 = .ok (.invokevirtual 105, 3) ∧ 11 + 3 = 14 := ⟨by decide +kernel, rfl⟩
theorem dX0_occupy_14 : decode cX0_occupy 14 = .ok (.iconst 1, 1) ∧ 14 + 1 = 15 := ⟨by decide +kernel, rfl⟩
theorem dX0_occupy_15 : decode cX0_occupy 15 = .ok (.isub, 1) ∧ 15 + 1 = 16 := ⟨by decide +kernel, rfl⟩
theorem dX0_occupy_16 : decode cX0_occupy 16 = .ok (.invokestatic 144, 3) ∧ 16 + 3 = 19 := ⟨by decide +kernel, rfl⟩
theorem dX0_occupy_19 : decode cX0_occupy 19 = .ok (.invokevirtual 101, 3) ∧ 19 + 3 = 22 := ⟨by decide +kernel, rfl⟩
theorem dX0_occupy_22 : decode cX0_occupy 22 = .ok (.iload_n 2, 1) ∧ 22 + 1 = 23 := ⟨by decide +kernel, rfl⟩
theorem dX0_occupy_23 : decode cX0_occupy 23 = .ok (.invokestatic 149, 3) ∧ 23 + 3 = 26 := ⟨by decide +kernel, rfl⟩
theorem dX0_occupy_26 : decode cX0_occupy 26 = .ok (.ifCond .eq 31, 3) ∧ 26 + 3 = 29 ∧ ((26 : Nat) : Int) + 31 = ((57 : Nat) : Int) := ⟨by decide +kernel, rfl, rfl⟩
theorem dX0_occupy_29 : decode cX0_occupy 29 = .ok (.iload_n 1, 1) ∧ 29 + 1 = 30 := ⟨by decide +kernel, rfl⟩
theorem dX0_occupy_30 : decode cX0_occupy 30 = .ok (.iconst 4, 1) ∧ 30 + 1 = 31 := ⟨by decide +kernel, rfl⟩
theorem dX0_occupy_31 : decode cX0_occupy 31 = .ok (.imul, 1) ∧ 31 + 1 = 32 := ⟨by decide +kernel, rfl⟩
theorem dX0_occupy_32 : decode cX0_occupy 32 = .ok (.iload_n 2, 1) ∧ 32 + 1 = 33 := ⟨by decide +kernel, rfl⟩
theorem dX0_occupy_33 : decode cX0_occupy 33 = .ok (.iadd, 1) ∧ 33 + 1 = 34 := ⟨by decide +kernel, rfl⟩
theorem dX0_occupy_34 : decode cX0_occupy 34 = .ok (.istore_n 3, 1) ∧ 34 + 1 = 35 := ⟨by decide +kernel, rfl⟩
theorem dX0_occupy_35 : decode cX0_occupy 35 = .ok (.aload_n 0, 1) ∧ 35 + 1 = 36 := ⟨by decide +kernel, rfl⟩
theorem dX0_occupy_36 : decode cX0_occupy 36 = .ok (.getfield 23, 3) ∧ 36 + 3 = 39 := ⟨by decide +kernel, rfl⟩
theorem dX0_occupy_39 : decode cX0_occupy 39 = .ok (.iload_n 3, 1) ∧ 39 + 1 = 40 := ⟨by decide +kernel, rfl⟩
theorem dX0_occupy_40 : decode cX0_occupy 40 = .ok (.iconst 0, 1) ∧ 40 + 1 = 41 := ⟨by decide +kernel, rfl⟩
theorem dX0_occupy_41 : decode cX0_occupy 41 = .ok (.aload_n 0, 1) ∧ 41 + 1 = 42 := ⟨by decide +kernel, rfl⟩
theorem dX0_occupy_42 : decode cX0_occupy 42 = .ok (.getfield 23, 3) ∧ 42 + 3 = 45 := ⟨by decide +kernel, rfl⟩
theorem dX0_occupy_45 : decode cX0_occupy 45 = .ok (.iload_n 3, 1) ∧ 45 + 1 = 46 := ⟨by decide +kernel, rfl⟩
theorem dX0_occupy_46 : decode cX0_occupy 46 = .ok (.invokevirtual 105, 3) ∧ 46 + 3 = 49 := ⟨by decide +kernel, rfl⟩
theorem dX0_occupy_49 : decode cX0_occupy 49 = .ok (.iconst 1, 1) ∧ 49 + 1 = 50 := ⟨by decide +kernel, rfl⟩
theorem dX0_occupy_50 : decode cX0_occupy 50 = .ok (.isub, 1) ∧ 50 + 1 = 51 := ⟨by decide +kernel, rfl⟩
theorem dX0_occupy_51 : decode cX0_occupy 51 = .ok (.invokestatic 144, 3) ∧ 51 + 3 = 54 := ⟨by decide +kernel, rfl⟩
theorem dX0_occupy_54 : decode cX0_occupy 54 = .ok (.invokevirtual 101, 3) ∧ 54 + 3 = 57 := ⟨by decide +kernel, rfl⟩
theorem dX0_occupy_57 : decode cX0_occupy 57 = .ok (.return_, 1) ∧ 57 + 1 = 58 := ⟨by decide +kernel, rfl⟩
theorem dX0_findCandidates_0 : decode cX0_findCandidates 0 = .ok (.aload_n 0, 1) ∧ 0 + 1 = 1 := ⟨by decide +kernel, rfl⟩
theorem dX0_findCandidates_1 : decode cX0_findCandidates 1 = .ok (.getfield 26, 3) ∧ 1 + 3 = 4 := ⟨by decide +kernel, rfl⟩
theorem dX0_findCandidates_4 : decode cX0_findCandidates 4 = .ok (.iconst 0, 1) ∧ 4 + 1 = 5 := ⟨by decide +kernel, rfl⟩
theorem dX0_findCandidates_5 : decode cX0_findCandidates 5 = .ok (.invokevirtual 73, 3) ∧ 5 + 3 = 8 := ⟨by decide +kernel, rfl⟩
theorem dX0_findCandidates_8 : decode cX0_findCandidates 8 = .ok (.iconst 0, 1) ∧ 8 + 1 = 9 := ⟨by decide +kernel, rfl⟩
theorem dX0_findCandidates_9 : decode cX0_findCandidates 9 = .ok (.istore_n 2, 1) ∧ 9 + 1 = 10 := ⟨by decide +kernel, rfl⟩
theorem dX0_findCandidates_10 : decode cX0_findCandidates 10 = .ok (.iconst 0, 1) ∧ 10 + 1 = 11 := ⟨by decide +kernel, rfl⟩
theorem dX0_findCandidates_11 : decode cX0_findCandidates 11 = .ok (.istore_n 3, 1) ∧ 11 + 1 = 12 := ⟨by decide +kernel, rfl⟩
theorem dX0_findCandidates_12 : decode cX0_findCandidates 12 = .ok (.iload_n 3, 1) ∧ 12 + 1 = 13 := ⟨by decide +kernel, rfl⟩
theorem dX0_findCandidates_13 : decode cX0_findCandidates 13 = .ok (.aload_n 0, 1) ∧ 13 + 1 = 14 := ⟨by decide +kernel, rfl⟩
theorem dX0_findCandidates_14 : decode cX0_findCandidates 14 = .ok (.getfield 52, 3) ∧ 14 + 3 = 17 := ⟨by decide +kernel, rfl⟩
theorem dX0_findCandidates_17 : decode cX0_findCandidates 17 = .ok (.if_icmp .ge 54, 3) ∧ 17 + 3 = 20 ∧ ((17 : Nat) : Int) + 54 = ((71 : Nat) : Int) := ⟨by decide +kernel, rfl, rfl⟩
theorem dX0_findCandidates_20 : decode cX0_findCandidates 20 = .ok (.aload_n 1, 1) ∧ 20 + 1 = 21 := ⟨by decide +kernel, rfl⟩
theorem dX0_findCandidates_21 : decode cX0_findCandidates 21 = .ok (.iload_n 3, 1) ∧ 21 + 1 = 22 := ⟨by decide +kernel, rfl⟩
theorem dX0_findCandidates_22 : decode cX0_findCandidates 22 = .ok (.invokevirtual 153, 3) ∧ 22 + 3 = 25 := ⟨by decide +kernel, rfl⟩
theorem dX0_findCandidates_25 : decode cX0_findCandidates 25 = .ok (.ifCond .eq 40, 3) ∧ 25 + 3 = 28 ∧ ((25 : Nat) : Int) + 40 = ((65 : Nat) : Int) := ⟨by decide +kernel, rfl, rfl⟩
theorem dX0_findCandidates_28 : decode cX0_findCandidates 28 = .ok (.aload_n 1, 1) ∧ 28 + 1 = 29 := ⟨by decide +kernel, rfl⟩
theorem dX0_findCandidates_29 : decode cX0_findCandidates 29 = .ok (.bipush 32, 2) ∧ 29 + 2 = 31 := ⟨by decide +kernel, rfl⟩
theorem dX0_findCandidates_31 : decode cX0_findCandidates 31 = .ok (.iload_n 3, 1) ∧ 31 + 1 = 32 := ⟨by decide +kernel, rfl⟩
theorem dX0_findCandidates_32 : decode cX0_findCandidates 32 = .ok (.invokevirtual 76, 3) ∧ 32 + 3 = 35 := ⟨by decide +kernel, rfl⟩
theorem dX0_findCandidates_35 : decode cX0_findCandidates 35 = .ok (.istore 4, 2) ∧ 35 + 2 = 37 := ⟨by decide +kernel, rfl⟩
theorem dX0_findCandidates_37 : decode cX0_findCandidates 37 = .ok (.aload_n 0, 1) ∧ 37 + 1 = 38 := ⟨by decide +kernel, rfl⟩
theorem dX0_findCandidates_38 : decode cX0_findCandidates 38 = .ok (.getfield 26, 3) ∧ 38 + 3 = 41 := ⟨by decide +kernel, rfl⟩
theorem dX0_findCandidates_41 : decode cX0_findCandidates 41 = .ok (.iload 4, 2) ∧ 41 + 2 = 43 := ⟨by decide +kernel, rfl⟩
theorem dX0_findCandidates_43 : decode cX0_findCandidates 43 = .ok (.aload_n 0, 1) ∧ 43 + 1 = 44 := ⟨by decide +kernel, rfl⟩
theorem dX0_findCandidates_44 : decode cX0_findCandidates 44 = .ok (.getfield 26, 3) ∧ 44 + 3 = 47 := ⟨by decide +kernel, rfl⟩
theorem dX0_findCandidates_47 : decode cX0_findCandidates 47 = .ok (.iload 4, 2) ∧ 47 + 2 = 49 := ⟨by decide +kernel, rfl⟩
theorem dX0_findCandidates_49 : decode cX0_findCandidates 49 = .ok (.invokevirtual 105, 3) ∧ 49 + 3 = 52 := ⟨by decide +kernel, rfl⟩
theorem dX0_findCandidates_52 : decode cX0_findCandidates 52 = .ok (.iconst 1, 1) ∧ 52 + 1 = 53 := ⟨by decide +kernel, rfl⟩
theorem dX0_findCandidates_53 : decode cX0_findCandidates 53 = .ok (.iload_n 3, 1) ∧ 53 + 1 = 54 := ⟨by decide +kernel, rfl⟩
theorem dX0_findCandidates_54 : decode cX0_findCandidates 54 = .ok (.ishl, 1) ∧ 54 + 1 = 55 := ⟨by decide +kernel, rfl⟩
theorem dX0_findCandidates_55 : decode cX0_findCandidates 55 = .ok (.ior, 1) ∧ 55 + 1 = 56 := ⟨by decide +kernel, rfl⟩
theorem dX0_findCandidates_56 : decode cX0_findCandidates 56 = .ok (.invokevirtual 101, 3) ∧ 56 + 3 = 59 := ⟨by decide +kernel, rfl⟩
theorem dX0_findCandidates_59 : decode cX0_findCandidates 59 = .ok (.iload_n 2, 1) ∧ 59 + 1 = 60 := ⟨by decide +kernel, rfl⟩
theorem dX0_findCandidates_60 : decode cX0_findCandidates 60 = .ok (.iconst 1, 1) ∧ 60 + 1 = 61 := ⟨by decide +kernel, rfl⟩
theorem dX0_findCandidates_61 : decode cX0_findCandidates 61 = .ok (.iload_n 3, 1) ∧ 61 + 1 = 62 := ⟨by decide +kernel, rfl⟩
theorem dX0_findCandidates_62 : decode cX0_findCandidates 62 = .ok (.ishl, 1) ∧ 62 + 1 = 63 := ⟨by decide +kernel, rfl⟩
theorem dX0_findCandidates_63 : decode cX0_findCandidates 63 = .ok (.ior, 1) ∧ 63 + 1 = 64 := ⟨by decide +kernel, rfl⟩
theorem dX0_findCandidates_64 : decode cX0_findCandidates 64 = .ok (.istore_n 2, 1) ∧ 64 + 1 = 65 := ⟨by decide +kernel, rfl⟩
theorem dX0_findCandidates_65 : decode cX0_findCandidates 65 = .ok (.iinc 3 1, 3) ∧ 65 + 3 = 68 := ⟨by decide +kernel, rfl⟩
theorem dX0_findCandidates_68 : decode cX0_findCandidates 68 = .ok (.goto (-56), 3) ∧ ((68 : Nat) : Int) + (-56) = ((12 : Nat) : Int) := ⟨by decide +kernel, rfl⟩
theorem dX0_findCandidates_71 : decode cX0_findCandidates 71 = .ok (.aload_n 0, 1) ∧ 71 + 1 = 72 := ⟨by decide +kernel, rfl⟩
theorem dX0_findCandidates_72 : decode cX0_findCandidates 72 = .ok (.getfield 26, 3) ∧ 72 + 3 = 75 := ⟨by decide +kernel, rfl⟩
theorem dX0_findCandidates_75 : decode cX0_findCandidates 75 = .ok (.iconst 0, 1) ∧ 75 + 1 = 76 := ⟨by decide +kernel, rfl⟩
theorem dX0_findCandidates_76 : decode cX0_findCandidates 76 = .ok (.iload_n 2, 1) ∧ 76 + 1 = 77 := ⟨by decide +kernel, rfl⟩
theorem dX0_findCandidates_77 : decode cX0_findCandidates 77 = .ok (.invokevirtual 101, 3) ∧ 77 + 3 = 80 := ⟨by decide +kernel, rfl⟩
theorem dX0_findCandidates_80 : decode cX0_findCandidates 80 = .ok (.return_, 1) ∧ 80 + 1 = 81 := ⟨by decide +kernel, rfl⟩
theorem dX0_withoutSeat_0 : decode cX0_withoutSeat 0 = .ok (.aload_n 0, 1) ∧ 0 + 1 = 1 := ⟨by decide +kernel, rfl⟩
theorem dX0_withoutSeat_1 : decode cX0_withoutSeat 1 = .ok (.getfield 26, 3) ∧ 1 + 3 = 4 := ⟨by decide +kernel, rfl⟩
theorem dX0_withoutSeat_4 : decode cX0_withoutSeat 4 = .ok (.iload_n 1, 1) ∧ 4 + 1 = 5 := ⟨by decide +kernel, rfl⟩
theorem dX0_withoutSeat_5 : decode cX0_withoutSeat 5 = .ok (.invokevirtual 105, 3) ∧ 5 + 3 = 8 := ⟨by decide +kernel, rfl⟩
theorem dX0_withoutSeat_8 : decode cX0_withoutSeat 8 = .ok (.aload_n 0, 1) ∧ 8 + 1 = 9 := ⟨by decide +kernel, rfl⟩
theorem dX0_withoutSeat_9 : decode cX0_withoutSeat 9 = .ok (.getfield 55, 3) ∧ 9 + 3 = 12 := ⟨by decide +kernel, rfl⟩
theorem dX0_withoutSeat_12 : decode cX0_withoutSeat 12 = .ok (.iconst (-1), 1) ∧ 12 + 1 = 13 := ⟨by decide +kernel, rfl⟩
theorem dX0_withoutSeat_13 : decode cX0_withoutSeat 13 = .ok (.ixor, 1) ∧ 13 + 1 = 14 := ⟨by decide +kernel, rfl⟩
theorem dX0_withoutSeat_14 : decode cX0_withoutSeat 14 = .ok (.iand, 1) ∧ 14 + 1 = 15 := ⟨by decide +kernel, rfl⟩
theorem dX0_withoutSeat_15 : decode cX0_withoutSeat 15 = .ok (.ireturn, 1) ∧ 15 + 1 = 16 := ⟨by decide +kernel, rfl⟩
theorem dX0_takeIn_0 : decode cX0_takeIn 0 = .ok (.aload_n 0, 1) ∧ 0 + 1 = 1 := ⟨by decide +kernel, rfl⟩
theorem dX0_takeIn_1 : decode cX0_takeIn 1 = .ok (.iload_n 2, 1) ∧ 1 + 1 = 2 := ⟨by decide +kernel, rfl⟩
theorem dX0_takeIn_2 : decode cX0_takeIn 2 = .ok (.invokevirtual 156, 3) ∧ 2 + 3 = 5 := ⟨by decide +kernel, rfl⟩
theorem dX0_takeIn_5 : decode cX0_takeIn 5 = .ok (.aload_n 0, 1) ∧ 5 + 1 = 6 := ⟨by decide +kernel, rfl⟩
theorem dX0_takeIn_6 : decode cX0_takeIn 6 = .ok (.iload_n 2, 1) ∧ 6 + 1 = 7 := ⟨by decide +kernel, rfl⟩
theorem dX0_takeIn_7 : decode cX0_takeIn 7 = .ok (.invokevirtual 159, 3) ∧ 7 + 3 = 10 := ⟨by decide +kernel, rfl⟩
theorem dX0_takeIn_10 : decode cX0_takeIn 10 = .ok (.aload_n 0, 1) ∧ 10 + 1 = 11 := ⟨by decide +kernel, rfl⟩
theorem dX0_takeIn_11 : decode cX0_takeIn 11 = .ok (.getfield 48, 3) ∧ 11 + 3 = 14 := ⟨by decide +kernel, rfl⟩
theorem dX0_takeIn_14 : decode cX0_takeIn 14 = .ok (.invokestatic 161, 3) ∧ 14 + 3 = 17 := ⟨by decide +kernel, rfl⟩
theorem dX0_takeIn_17 : decode cX0_takeIn 17 = .ok (.istore_n 3, 1) ∧ 17 + 1 = 18 := ⟨by decide +kernel, rfl⟩
theorem dX0_takeIn_18 : decode cX0_takeIn 18 = .ok (.aload_n 1, 1) ∧ 18 + 1 = 19 := ⟨by decide +kernel, rfl⟩
theorem dX0_takeIn_19 : decode cX0_takeIn 19 = .ok (.sipush 156, 3) ∧ 19 + 3 = 22 := ⟨by decide +kernel, rfl⟩
theorem dX0_takeIn_22 : decode cX0_takeIn 22 = .ok (.iconst 0, 1) ∧ 22 + 1 = 23 := ⟨by decide +kernel, rfl⟩
theorem dX0_takeIn_23 : decode cX0_takeIn 23 = .ok (.invokevirtual 76, 3) ∧ 23 + 3 = 26 := ⟨by decide +kernel, rfl⟩
theorem dX0_takeIn_26 : decode cX0_takeIn 26 = .ok (.istore 4, 2) ∧ 26 + 2 = 28 := ⟨by decide +kernel, rfl⟩
theorem dX0_takeIn_28 : decode cX0_takeIn 28 = .ok (.iload 4, 2) ∧ 28 + 2 = 30 := ⟨by decide +kernel, rfl⟩
theorem dX0_takeIn_30 : decode cX0_takeIn 30 = .ok (.ifCond .ne 13, 3) ∧ 30 + 3 = 33 ∧ ((30 : Nat) : Int) + 13 = ((43 : Nat) : Int) := ⟨by decide +kernel, rfl, rfl⟩
theorem dX0_takeIn_33 : decode cX0_takeIn 33 = .ok (.aload_n 0, 1) ∧ 33 + 1 = 34 := ⟨by decide +kernel, rfl⟩
theorem dX0_takeIn_34 : decode cX0_takeIn 34 = .ok (.aload_n 1, 1) ∧ 34 + 1 = 35 := ⟨by decide +kernel, rfl⟩
theorem dX0_takeIn_35 : decode cX0_takeIn 35 = .ok (.iload_n 2, 1) ∧ 35 + 1 = 36 := ⟨by decide +kernel, rfl⟩
theorem dX0_takeIn_36 : decode cX0_takeIn 36 = .ok (.iload_n 3, 1) ∧ 36 + 1 = 37 := ⟨by decide +kernel, rfl⟩
theorem dX0_takeIn_37 : decode cX0_takeIn 37 = .ok (.invokevirtual 164, 3) ∧ 37 + 3 = 40 := ⟨by decide +kernel, rfl⟩
theorem dX0_takeIn_40 : decode cX0_takeIn 40 = .ok (.goto 25, 3) ∧ ((40 : Nat) : Int) + 25 = ((65 : Nat) : Int) := ⟨by decide +kernel, rfl⟩
theorem dX0_takeIn_43 : decode cX0_takeIn 43 = .ok (.iload 4, 2) ∧ 43 + 2 = 45 := ⟨by decide +kernel, rfl⟩
theorem dX0_takeIn_45 : decode cX0_takeIn 45 = .ok (.iconst 1, 1) ∧ 45 + 1 = 46 := ⟨by decide +kernel, rfl⟩
theorem dX0_takeIn_46 : decode cX0_takeIn 46 = .ok (.if_icmp .ne 13, 3) ∧ 46 + 3 = 49 ∧ ((46 : Nat) : Int) + 13 = ((59 : Nat) : Int) := ⟨by decide +kernel, rfl, rfl⟩
theorem dX0_takeIn_49 : decode cX0_takeIn 49 = .ok (.aload_n 0, 1) ∧ 49 + 1 = 50 := ⟨by decide +kernel, rfl⟩
theorem dX0_takeIn_50 : decode cX0_takeIn 50 = .ok (.aload_n 1, 1) ∧ 50 + 1 = 51 := ⟨by decide +kernel, rfl⟩
theorem dX0_takeIn_51 : decode cX0_takeIn 51 = .ok (.iload_n 2, 1) ∧ 51 + 1 = 52 := ⟨by decide +kernel, rfl⟩
theorem dX0_takeIn_52 : decode cX0_takeIn 52 = .ok (.iload_n 3, 1) ∧ 52 + 1 = 53 := ⟨by decide +kernel, rfl⟩
theorem dX0_takeIn_53 : decode cX0_takeIn 53 = .ok (.invokevirtual 168, 3) ∧ 53 + 3 = 56 := ⟨by decide +kernel, rfl⟩
theorem dX0_takeIn_56 : decode cX0_takeIn 56 = .ok (.goto 9, 3) ∧ ((56 : Nat) : Int) + 9 = ((65 : Nat) : Int) := ⟨by decide +kernel, rfl⟩
theorem dX0_takeIn_59 : decode cX0_takeIn 59 = .ok (.aload_n 0, 1) ∧ 59 + 1 = 60 := ⟨by decide +kernel, rfl⟩
theorem dX0_takeIn_60 : decode cX0_takeIn 60 = .ok (.iload_n 2, 1) ∧ 60 + 1 = 61 := ⟨by decide +kernel, rfl⟩
theorem dX0_takeIn_61 : decode cX0_takeIn 61 = .ok (.iload_n 3, 1) ∧ 61 + 1 = 62 := ⟨by decide +kernel, rfl⟩
theorem dX0_takeIn_62 : decode cX0_takeIn 62 = .ok (.invokevirtual 171, 3) ∧ 62 + 3 = 65 := ⟨by decide +kernel, rfl⟩
theorem dX0_takeIn_65 : decode cX0_takeIn 65 = .ok (.return_, 1) ∧ 65 + 1 = 66 := ⟨by decide +kernel, rfl⟩
theorem dX0_lineUp_0 : decode cX0_lineUp 0 = .ok (.aload_n 0, 1) ∧ 0 + 1 = 1 := ⟨by decide +kernel, rfl⟩
theorem dX0_lineUp_1 : decode cX0_lineUp 1 = .ok (.iload_n 1, 1) ∧ 1 + 1 = 2 := ⟨by decide +kernel, rfl⟩
theorem dX0_lineUp_2 : decode cX0_lineUp 2 = .ok (.invokevirtual 128, 3) ∧ 2 + 3 = 5 := ⟨by decide +kernel, rfl⟩
theorem dX0_lineUp_5 : decode cX0_lineUp 5 = .ok (.istore_n 2, 1) ∧ 5 + 1 = 6 := ⟨by decide +kernel, rfl⟩
theorem dX0_lineUp_6 : decode cX0_lineUp 6 = .ok (.aload_n 0, 1) ∧ 6 + 1 = 7 := ⟨by decide +kernel, rfl⟩
theorem dX0_lineUp_7 : decode cX0_lineUp 7 = .ok (.iconst 0, 1) ∧ 7 + 1 = 8 := ⟨by decide +kernel, rfl⟩
theorem dX0_lineUp_8 : decode cX0_lineUp 8 = .ok (.putfield 48, 3) ∧ 8 + 3 = 11 := ⟨by decide +kernel, rfl⟩
theorem dX0_lineUp_11 : decode cX0_lineUp 11 = .ok (.iconst 0, 1) ∧ 11 + 1 = 12 := ⟨by decide +kernel, rfl⟩
theorem dX0_lineUp_12 : decode cX0_lineUp 12 = .ok (.istore_n 3, 1) ∧ 12 + 1 = 13 := ⟨by decide +kernel, rfl⟩
theorem dX0_lineUp_13 : decode cX0_lineUp 13 = .ok (.iload_n 3, 1) ∧ 13 + 1 = 14 := ⟨by decide +kernel, rfl⟩
theorem dX0_lineUp_14 : decode cX0_lineUp 14 = .ok (.aload_n 0, 1) ∧ 14 + 1 = 15 := ⟨by decide +kernel, rfl⟩
theorem dX0_lineUp_15 : decode cX0_lineUp 15 = .ok (.getfield 52, 3) ∧ 15 + 3 = 18 := ⟨by decide +kernel, rfl⟩
theorem dX0_lineUp_18 : decode cX0_lineUp 18 = .ok (.if_icmp .ge 49, 3) ∧ 18 + 3 = 21 ∧ ((18 : Nat) : Int) + 49 = ((67 : Nat) : Int) := ⟨by decide +kernel, rfl, rfl⟩
theorem dX0_lineUp_21 : decode cX0_lineUp 21 = .ok (.aload_n 0, 1) ∧ 21 + 1 = 22 := ⟨by decide +kernel, rfl⟩
theorem dX0_lineUp_22 : decode cX0_lineUp 22 = .ok (.iload_n 3, 1) ∧ 22 + 1 = 23 := ⟨by decide +kernel, rfl⟩
theorem dX0_lineUp_23 : decode cX0_lineUp 23 = .ok (.invokevirtual 90, 3) ∧ 23 + 3 = 26 := ⟨by decide +kernel, rfl⟩
theorem dX0_lineUp_26 : decode cX0_lineUp 26 = .ok (.istore 4, 2) ∧ 26 + 2 = 28 := ⟨by decide +kernel, rfl⟩
theorem dX0_lineUp_28 : decode cX0_lineUp 28 = .ok (.iload_n 2, 1) ∧ 28 + 1 = 29 := ⟨by decide +kernel, rfl⟩
theorem dX0_lineUp_29 : decode cX0_lineUp 29 = .ok (.iload 4, 2) ∧ 29 + 2 = 31 := ⟨by decide +kernel, rfl⟩
theorem dX0_lineUp_31 : decode cX0_lineUp 31 = .ok (.ishr, 1) ∧ 31 + 1 = 32 := ⟨by decide +kernel, rfl⟩
theorem dX0_lineUp_32 : decode cX0_lineUp 32 = .ok (.iconst 1, 1) ∧ 32 + 1 = 33 := ⟨by decide +kernel, rfl⟩
theorem dX0_lineUp_33 : decode cX0_lineUp 33 = .ok (.iand, 1) ∧ 33 + 1 = 34 := ⟨by decide +kernel, rfl⟩
theorem dX0_lineUp_34 : decode cX0_lineUp 34 = .ok (.iconst 1, 1) ∧ 34 + 1 = 35 := ⟨by decide +kernel, rfl⟩
theorem dX0_lineUp_35 : decode cX0_lineUp 35 = .ok (.if_icmp .ne 26, 3) ∧ 35 + 3 = 38 ∧ ((35 : Nat) : Int) + 26 = ((61 : Nat) : Int) := ⟨by decide +kernel, rfl, rfl⟩
theorem dX0_lineUp_38 : decode cX0_lineUp 38 = .ok (.aload_n 0, 1) ∧ 38 + 1 = 39 := ⟨by decide +kernel, rfl⟩
theorem dX0_lineUp_39 : decode cX0_lineUp 39 = .ok (.getfield 38, 3) ∧ 39 + 3 = 42 := ⟨by decide +kernel, rfl⟩
theorem dX0_lineUp_42 : decode cX0_lineUp 42 = .ok (.aload_n 0, 1) ∧ 42 + 1 = 43 := ⟨by decide +kernel, rfl⟩
theorem dX0_lineUp_43 : decode cX0_lineUp 43 = .ok (.getfield 48, 3) ∧ 43 + 3 = 46 := ⟨by decide +kernel, rfl⟩
theorem dX0_lineUp_46 : decode cX0_lineUp 46 = .ok (.iload 4, 2) ∧ 46 + 2 = 48 := ⟨by decide +kernel, rfl⟩
theorem dX0_lineUp_48 : decode cX0_lineUp 48 = .ok (.invokevirtual 101, 3) ∧ 48 + 3 = 51 := ⟨by decide +kernel, rfl⟩
theorem dX0_lineUp_51 : decode cX0_lineUp 51 = .ok (.aload_n 0, 1) ∧ 51 + 1 = 52 := ⟨by decide +kernel, rfl⟩
theorem dX0_lineUp_52 : decode cX0_lineUp 52 = .ok (.dup, 1) ∧ 52 + 1 = 53 := ⟨by decide +kernel, rfl⟩
theorem dX0_lineUp_53 : decode cX0_lineUp 53 = .ok (.getfield 48, 3) ∧ 53 + 3 = 56 := ⟨by decide +kernel, rfl⟩
theorem dX0_lineUp_56 : decode cX0_lineUp 56 = .ok (.iconst 1, 1) ∧ 56 + 1 = 57 := ⟨by decide +kernel, rfl⟩
theorem dX0_lineUp_57 : decode cX0_lineUp 57 = .ok (.iadd, 1) ∧ 57 + 1 = 58 := ⟨by decide +kernel, rfl⟩
theorem dX0_lineUp_58 : decode cX0_lineUp 58 = .ok (.putfield 48, 3) ∧ 58 + 3 = 61 := ⟨by decide +kernel, rfl⟩
theorem dX0_lineUp_61 : decode cX0_lineUp 61 = .ok (.iinc 3 1, 3) ∧ 61 + 3 = 64 := ⟨by decide +kernel, rfl⟩
theorem dX0_lineUp_64 : decode cX0_lineUp 64 = .ok (.goto (-51), 3) ∧ ((64 : Nat) : Int) + (-51) = ((13 : Nat) : Int) := ⟨by decide +kernel, rfl⟩
theorem dX0_lineUp_67 : decode cX0_lineUp 67 = .ok (.return_, 1) ∧ 67 + 1 = 68 := ⟨by decide +kernel, rfl⟩
theorem dX0_take_0 : decode cX0_take 0 = .ok (.aload_n 0, 1) ∧ 0 + 1 = 1 := ⟨by decide +kernel, rfl⟩
theorem dX0_take_1 : decode cX0_take 1 = .ok (.dup, 1) ∧ 1 + 1 = 2 := ⟨by decide +kernel, rfl⟩
theorem dX0_take_2 : decode cX0_take 2 = .ok (.getfield 55, 3) ∧ 2 + 3 = 5 := ⟨by decide +kernel, rfl⟩
theorem dX0_take_5 : decode cX0_take 5 = .ok (.iconst 1, 1) ∧ 5 + 1 = 6 := ⟨by decide +kernel, rfl⟩
theorem dX0_take_6 : decode cX0_take 6 = .ok (.iload_n 1, 1) ∧ 6 + 1 = 7 := ⟨by decide +kernel, rfl⟩
theorem dX0_take_7 : decode cX0_take 7 = .ok (.ishl, 1) ∧ 7 + 1 = 8 := ⟨by decide +kernel, rfl⟩
theorem dX0_take_8 : decode cX0_take 8 = .ok (.ior, 1) ∧ 8 + 1 = 9 := ⟨by decide +kernel, rfl⟩
theorem dX0_take_9 : decode cX0_take 9 = .ok (.putfield 55, 3) ∧ 9 + 3 = 12 := ⟨by decide +kernel, rfl⟩
theorem dX0_take_12 : decode cX0_take 12 = .ok (.aload_n 0, 1) ∧ 12 + 1 = 13 := ⟨by decide +kernel, rfl⟩
theorem dX0_take_13 : decode cX0_take 13 = .ok (.getfield 29, 3) ∧ 13 + 3 = 16 := ⟨by decide +kernel, rfl⟩
theorem dX0_take_16 : decode cX0_take 16 = .ok (.iload_n 1, 1) ∧ 16 + 1 = 17 := ⟨by decide +kernel, rfl⟩
theorem dX0_take_17 : decode cX0_take 17 = .ok (.iload_n 2, 1) ∧ 17 + 1 = 18 := ⟨by decide +kernel, rfl⟩
theorem dX0_take_18 : decode cX0_take 18 = .ok (.invokevirtual 101, 3) ∧ 18 + 3 = 21 := ⟨by decide +kernel, rfl⟩
theorem dX0_take_21 : decode cX0_take 21 = .ok (.aload_n 0, 1) ∧ 21 + 1 = 22 := ⟨by decide +kernel, rfl⟩
theorem dX0_take_22 : decode cX0_take 22 = .ok (.getfield 32, 3) ∧ 22 + 3 = 25 := ⟨by decide +kernel, rfl⟩
theorem dX0_take_25 : decode cX0_take 25 = .ok (.iload_n 1, 1) ∧ 25 + 1 = 26 := ⟨by decide +kernel, rfl⟩
theorem dX0_take_26 : decode cX0_take 26 = .ok (.iload_n 3, 1) ∧ 26 + 1 = 27 := ⟨by decide +kernel, rfl⟩
theorem dX0_take_27 : decode cX0_take 27 = .ok (.invokevirtual 101, 3) ∧ 27 + 3 = 30 := ⟨by decide +kernel, rfl⟩
theorem dX0_take_30 : decode cX0_take 30 = .ok (.return_, 1) ∧ 30 + 1 = 31 := ⟨by decide +kernel, rfl⟩
theorem dX0_takeFullest_0 : decode cX0_takeFullest 0 = .ok (.aload_n 0, 1) ∧ 0 + 1 = 1 := ⟨by decide +kernel, rfl⟩
theorem dX0_takeFullest_1 : decode cX0_takeFullest 1 = .ok (.getfield 44, 3) ∧ 1 + 3 = 4 := ⟨by decide +kernel, rfl⟩
theorem dX0_takeFullest_4 : decode cX0_takeFullest 4 = .ok (.aload_n 0, 1) ∧ 4 + 1 = 5 := ⟨by decide +kernel, rfl⟩
theorem dX0_takeFullest_5 : decode cX0_takeFullest 5 = .ok (.iload_n 2, 1) ∧ 5 + 1 = 6 := ⟨by decide +kernel, rfl⟩
theorem dX0_takeFullest_6 : decode cX0_takeFullest 6 = .ok (.invokevirtual 134, 3) ∧ 6 + 3 = 9 := ⟨by decide +kernel, rfl⟩
theorem dX0_takeFullest_9 : decode cX0_takeFullest 9 = .ok (.iconst 0, 1) ∧ 9 + 1 = 10 := ⟨by decide +kernel, rfl⟩
theorem dX0_takeFullest_10 : decode cX0_takeFullest 10 = .ok (.istore 4, 2) ∧ 10 + 2 = 12 := ⟨by decide +kernel, rfl⟩
theorem dX0_takeFullest_12 : decode cX0_takeFullest 12 = .ok (.iload 4, 2) ∧ 12 + 2 = 14 := ⟨by decide +kernel, rfl⟩
theorem dX0_takeFullest_14 : decode cX0_takeFullest 14 = .ok (.aload_n 0, 1) ∧ 14 + 1 = 15 := ⟨by decide +kernel, rfl⟩
theorem dX0_takeFullest_15 : decode cX0_takeFullest 15 = .ok (.getfield 48, 3) ∧ 15 + 3 = 18 := ⟨by decide +kernel, rfl⟩
theorem dX0_takeFullest_18 : decode cX0_takeFullest 18 = .ok (.if_icmp .ge 32, 3) ∧ 18 + 3 = 21 ∧ ((18 : Nat) : Int) + 32 = ((50 : Nat) : Int) := ⟨by decide +kernel, rfl, rfl⟩
theorem dX0_takeFullest_21 : decode cX0_takeFullest 21 = .ok (.aload_n 0, 1) ∧ 21 + 1 = 22 := ⟨by decide +kernel, rfl⟩
theorem dX0_takeFullest_22 : decode cX0_takeFullest 22 = .ok (.getfield 44, 3) ∧ 22 + 3 = 25 := ⟨by decide +kernel, rfl⟩
theorem dX0_takeFullest_25 : decode cX0_takeFullest 25 = .ok (.aload_n 1, 1) ∧ 25 + 1 = 26 := ⟨by decide +kernel, rfl⟩
theorem dX0_takeFullest_26 : decode cX0_takeFullest 26 = .ok (.bipush 48, 2) ∧ 26 + 2 = 28 := ⟨by decide +kernel, rfl⟩
theorem dX0_takeFullest_28 : decode cX0_takeFullest 28 = .ok (.aload_n 0, 1) ∧ 28 + 1 = 29 := ⟨by decide +kernel, rfl⟩
theorem dX0_takeFullest_29 : decode cX0_takeFullest 29 = .ok (.getfield 38, 3) ∧ 29 + 3 = 32 := ⟨by decide +kernel, rfl⟩
theorem dX0_takeFullest_32 : decode cX0_takeFullest 32 = .ok (.iload 4, 2) ∧ 32 + 2 = 34 := ⟨by decide +kernel, rfl⟩
theorem dX0_takeFullest_34 : decode cX0_takeFullest 34 = .ok (.invokevirtual 105, 3) ∧ 34 + 3 = 37 := ⟨by decide +kernel, rfl⟩
theorem dX0_takeFullest_37 : decode cX0_takeFullest 37 = .ok (.invokevirtual 76, 3) ∧ 37 + 3 = 40 := ⟨by decide +kernel, rfl⟩
theorem dX0_takeFullest_40 : decode cX0_takeFullest 40 = .ok (.iconst 1, 1) ∧ 40 + 1 = 41 := ⟨by decide +kernel, rfl⟩
theorem dX0_takeFullest_41 : decode cX0_takeFullest 41 = .ok (.invokevirtual 121, 3) ∧ 41 + 3 = 44 := ⟨by decide +kernel, rfl⟩
theorem dX0_takeFullest_44 : decode cX0_takeFullest 44 = .ok (.iinc 4 1, 3) ∧ 44 + 3 = 47 := ⟨by decide +kernel, rfl⟩
theorem dX0_takeFullest_47 : decode cX0_takeFullest 47 = .ok (.goto (-35), 3) ∧ ((47 : Nat) : Int) + (-35) = ((12 : Nat) : Int) := ⟨by decide +kernel, rfl⟩
theorem dX0_takeFullest_50 : decode cX0_takeFullest 50 = .ok (.iload_n 3, 1) ∧ 50 + 1 = 51 := ⟨by decide +kernel, rfl⟩
theorem dX0_takeFullest_51 : decode cX0_takeFullest 51 = .ok (.aload_n 0, 1) ∧ 51 + 1 = 52 := ⟨by decide +kernel, rfl⟩
theorem dX0_takeFullest_52 : decode cX0_takeFullest 52 = .ok (.getfield 44, 3) ∧ 52 + 3 = 55 := ⟨by decide +kernel, rfl⟩
theorem dX0_takeFullest_55 : decode cX0_takeFullest 55 = .ok (.invokevirtual 119, 3) ∧ 55 + 3 = 58 := ⟨by decide +kernel, rfl⟩
theorem dX0_takeFullest_58 : decode cX0_takeFullest 58 = .ok (.invokestatic 161, 3) ∧ 58 + 3 = 61 := ⟨by decide +kernel, rfl⟩
theorem dX0_takeFullest_61 : decode cX0_takeFullest 61 = .ok (.istore 4, 2) ∧ 61 + 2 = 63 := ⟨by decide +kernel, rfl⟩
theorem dX0_takeFullest_63 : decode cX0_takeFullest 63 = .ok (.aload_n 0, 1) ∧ 63 + 1 = 64 := ⟨by decide +kernel, rfl⟩
theorem dX0_takeFullest_64 : decode cX0_takeFullest 64 = .ok (.getfield 44, 3) ∧ 64 + 3 = 67 := ⟨by decide +kernel, rfl⟩
theorem dX0_takeFullest_67 : decode cX0_takeFullest 67 = .ok (.aload_n 0, 1) ∧ 67 + 1 = 68 := ⟨by decide +kernel, rfl⟩
theorem dX0_takeFullest_68 : decode cX0_takeFullest 68 = .ok (.iload_n 2, 1) ∧ 68 + 1 = 69 := ⟨by decide +kernel, rfl⟩
theorem dX0_takeFullest_69 : decode cX0_takeFullest 69 = .ok (.invokevirtual 134, 3) ∧ 69 + 3 = 72 := ⟨by decide +kernel, rfl⟩
theorem dX0_takeFullest_72 : decode cX0_takeFullest 72 = .ok (.iload_n 3, 1) ∧ 72 + 1 = 73 := ⟨by decide +kernel, rfl⟩
theorem dX0_takeFullest_73 : decode cX0_takeFullest 73 = .ok (.istore 5, 2) ∧ 73 + 2 = 75 := ⟨by decide +kernel, rfl⟩
theorem dX0_takeFullest_75 : decode cX0_takeFullest 75 = .ok (.iconst 0, 1) ∧ 75 + 1 = 76 := ⟨by decide +kernel, rfl⟩
theorem dX0_takeFullest_76 : decode cX0_takeFullest 76 = .ok (.istore 6, 2) ∧ 76 + 2 = 78 := ⟨by decide +kernel, rfl⟩
theorem dX0_takeFullest_78 : decode cX0_takeFullest 78 = .ok (.iload 6, 2) ∧ 78 + 2 = 80 := ⟨by decide +kernel, rfl⟩
theorem dX0_takeFullest_80 : decode cX0_takeFullest 80 = .ok (.aload_n 0, 1) ∧ 80 + 1 = 81 := ⟨by decide +kernel, rfl⟩
theorem dX0_takeFullest_81 : decode cX0_takeFullest 81 = .ok (.getfield 48, 3) ∧ 81 + 3 = 84 := ⟨by decide +kernel, rfl⟩
theorem dX0_takeFullest_84 : decode cX0_takeFullest 84 = .ok (.if_icmp .ge 89, 3) ∧ 84 + 3 = 87 ∧ ((84 : Nat) : Int) + 89 = ((173 : Nat) : Int) := ⟨by decide +kernel, rfl, rfl⟩
theorem dX0_takeFullest_87 : decode cX0_takeFullest 87 = .ok (.iload 5, 2) ∧ 87 + 2 = 89 := ⟨by decide +kernel, rfl⟩
theorem dX0_takeFullest_89 : decode cX0_takeFullest 89 = .ok (.ifCond .le 84, 3) ∧ 89 + 3 = 92 ∧ ((89 : Nat) : Int) + 84 = ((173 : Nat) : Int) := ⟨by decide +kernel, rfl, rfl⟩
theorem dX0_takeFullest_92 : decode cX0_takeFullest 92 = .ok (.aload_n 0, 1) ∧ 92 + 1 = 93 := ⟨by decide +kernel, rfl⟩
theorem dX0_takeFullest_93 : decode cX0_takeFullest 93 = .ok (.getfield 38, 3) ∧ 93 + 3 = 96 := ⟨by decide +kernel, rfl⟩
theorem dX0_takeFullest_96 : decode cX0_takeFullest 96 = .ok (.iload 6, 2) ∧ 96 + 2 = 98 := ⟨by decide +kernel, rfl⟩
theorem dX0_takeFullest_98 : decode cX0_takeFullest 98 = .ok (.invokevirtual 105, 3) ∧ 98 + 3 = 101 := ⟨by decide +kernel, rfl⟩
theorem dX0_takeFullest_101 : decode cX0_takeFullest 101 = .ok (.istore 7, 2) ∧ 101 + 2 = 103 := ⟨by decide +kernel, rfl⟩
theorem dX0_takeFullest_103 : decode cX0_takeFullest 103 = .ok (.aload_n 0, 1) ∧ 103 + 1 = 104 := ⟨by decide +kernel, rfl⟩
theorem dX0_takeFullest_104 : decode cX0_takeFullest 104 = .ok (.getfield 44, 3) ∧ 104 + 3 = 107 := ⟨by decide +kernel, rfl⟩
theorem dX0_takeFullest_107 : decode cX0_takeFullest 107 = .ok (.aload_n 1, 1) ∧ 107 + 1 = 108 := ⟨by decide +kernel, rfl⟩
theorem dX0_takeFullest_108 : decode cX0_takeFullest 108 = .ok (.bipush 48, 2) ∧ 108 + 2 = 110 := ⟨by decide +kernel, rfl⟩
theorem dX0_takeFullest_110 : decode cX0_takeFullest 110 = .ok (.iload 7, 2) ∧ 110 + 2 = 112 := ⟨by decide +kernel, rfl⟩
theorem dX0_takeFullest_112 : decode cX0_takeFullest 112 = .ok (.invokevirtual 76, 3) ∧ 112 + 3 = 115 := ⟨by decide +kernel, rfl⟩
theorem dX0_takeFullest_115 : decode cX0_takeFullest 115 = .ok (.iconst 1, 1) ∧ 115 + 1 = 116 := ⟨by decide +kernel, rfl⟩
theorem dX0_takeFullest_116 : decode cX0_takeFullest 116 = .ok (.invokevirtual 121, 3) ∧ 116 + 3 = 119 := ⟨by decide +kernel, rfl⟩
theorem dX0_takeFullest_119 : decode cX0_takeFullest 119 = .ok (.aload_n 0, 1) ∧ 119 + 1 = 120 := ⟨by decide +kernel, rfl⟩
theorem dX0_takeFullest_120 : decode cX0_takeFullest 120 = .ok (.getfield 44, 3) ∧ 120 + 3 = 123 := ⟨by decide +kernel, rfl⟩
theorem dX0_takeFullest_123 : decode cX0_takeFullest 123 = .ok (.invokevirtual 119, 3) ∧ 123 + 3 = 126 := ⟨by decide +kernel, rfl⟩
theorem dX0_takeFullest_126 : decode cX0_takeFullest 126 = .ok (.iload 5, 2) ∧ 126 + 2 = 128 := ⟨by decide +kernel, rfl⟩
theorem dX0_takeFullest_128 : decode cX0_takeFullest 128 = .ok (.iadd, 1) ∧ 128 + 1 = 129 := ⟨by decide +kernel, rfl⟩
theorem dX0_takeFullest_129 : decode cX0_takeFullest 129 = .ok (.iconst 1, 1) ∧ 129 + 1 = 130 := ⟨by decide +kernel, rfl⟩
theorem dX0_takeFullest_130 : decode cX0_takeFullest 130 = .ok (.isub, 1) ∧ 130 + 1 = 131 := ⟨by decide +kernel, rfl⟩
theorem dX0_takeFullest_131 : decode cX0_takeFullest 131 = .ok (.iload 4, 2) ∧ 131 + 2 = 133 := ⟨by decide +kernel, rfl⟩
theorem dX0_takeFullest_133 : decode cX0_takeFullest 133 = .ok (.if_icmp .lt 18, 3) ∧ 133 + 3 = 136 ∧ ((133 : Nat) : Int) + 18 = ((151 : Nat) : Int) := ⟨by decide +kernel, rfl, rfl⟩
theorem dX0_takeFullest_136 : decode cX0_takeFullest 136 = .ok (.aload_n 0, 1) ∧ 136 + 1 = 137 := ⟨by decide +kernel, rfl⟩
theorem dX0_takeFullest_137 : decode cX0_takeFullest 137 = .ok (.iload 7, 2) ∧ 137 + 2 = 139 := ⟨by decide +kernel, rfl⟩
theorem dX0_takeFullest_139 : decode cX0_takeFullest 139 = .ok (.iload_n 2, 1) ∧ 139 + 1 = 140 := ⟨by decide +kernel, rfl⟩
theorem dX0_takeFullest_140 : decode cX0_takeFullest 140 = .ok (.bipush (-9), 2) ∧ 140 + 2 = 142 := ⟨by decide +kernel, rfl⟩
theorem dX0_takeFullest_142 : decode cX0_takeFullest 142 = .ok (.invokevirtual 174, 3) ∧ 142 + 3 = 145 := ⟨by decide +kernel, rfl⟩
theorem dX0_takeFullest_145 : decode cX0_takeFullest 145 = .ok (.iinc 5 (-1), 3) ∧ 145 + 3 = 148 := ⟨by decide +kernel, rfl⟩
theorem dX0_takeFullest_148 : decode cX0_takeFullest 148 = .ok (.goto 19, 3) ∧ ((148 : Nat) : Int) + 19 = ((167 : Nat) : Int) := ⟨by decide +kernel, rfl⟩
theorem dX0_takeFullest_151 : decode cX0_takeFullest 151 = .ok (.aload_n 0, 1) ∧ 151 + 1 = 152 := ⟨by decide +kernel, rfl⟩
theorem dX0_takeFullest_152 : decode cX0_takeFullest 152 = .ok (.getfield 44, 3) ∧ 152 + 3 = 155 := ⟨by decide +kernel, rfl⟩
theorem dX0_takeFullest_155 : decode cX0_takeFullest 155 = .ok (.aload_n 1, 1) ∧ 155 + 1 = 156 := ⟨by decide +kernel, rfl⟩
theorem dX0_takeFullest_156 : decode cX0_takeFullest 156 = .ok (.bipush 48, 2) ∧ 156 + 2 = 158 := ⟨by decide +kernel, rfl⟩
theorem dX0_takeFullest_158 : decode cX0_takeFullest 158 = .ok (.iload 7, 2) ∧ 158 + 2 = 160 := ⟨by decide +kernel, rfl⟩
theorem dX0_takeFullest_160 : decode cX0_takeFullest 160 = .ok (.invokevirtual 76, 3) ∧ 160 + 3 = 163 := ⟨by decide +kernel, rfl⟩
theorem dX0_takeFullest_163 : decode cX0_takeFullest 163 = .ok (.iconst (-1), 1) ∧ 163 + 1 = 164 := ⟨by decide +kernel, rfl⟩
theorem dX0_takeFullest_164 : decode cX0_takeFullest 164 = .ok (.invokevirtual 121, 3) ∧ 164 + 3 = 167 := ⟨by decide +kernel, rfl⟩
theorem dX0_takeFullest_167 : decode cX0_takeFullest 167 = .ok (.iinc 6 1, 3) ∧ 167 + 3 = 170 := ⟨by decide +kernel, rfl⟩
theorem dX0_takeFullest_170 : decode cX0_takeFullest 170 = .ok (.goto (-92), 3) ∧ ((170 : Nat) : Int) + (-92) = ((78 : Nat) : Int) := ⟨by decide +kernel, rfl⟩
theorem dX0_takeFullest_173 : decode cX0_takeFullest 173 = .ok (.return_, 1) ∧ 173 + 1 = 174 := ⟨by decide +kernel, rfl⟩
theorem dX0_takeByGroups_0 : decode cX0_takeByGroups 0 = .ok (.iload_n 3, 1) ∧ 0 + 1 = 1 := ⟨by decide +kernel, rfl⟩
theorem dX0_takeByGroups_1 : decode cX0_takeByGroups 1 = .ok (.istore 4, 2) ∧ 1 + 2 = 3 := ⟨by decide +kernel, rfl⟩
theorem dX0_takeByGroups_3 : decode cX0_takeByGroups 3 = .ok (.iconst 0, 1) ∧ 3 + 1 = 4 := ⟨by decide +kernel, rfl⟩
theorem dX0_takeByGroups_4 : decode cX0_takeByGroups 4 = .ok (.istore 5, 2) ∧ 4 + 2 = 6 := ⟨by decide +kernel, rfl⟩
theorem dX0_takeByGroups_6 : decode cX0_takeByGroups 6 = .ok (.iload 5, 2) ∧ 6 + 2 = 8 := ⟨by decide +kernel, rfl⟩
theorem dX0_takeByGroups_8 : decode cX0_takeByGroups 8 = .ok (.iconst 4, 1) ∧ 8 + 1 = 9 := ⟨by decide +kernel, rfl⟩
theorem dX0_takeByGroups_9 : decode cX0_takeByGroups 9 = .ok (.if_icmp .ge 38, 3) ∧ 9 + 3 = 12 ∧ ((9 : Nat) : Int) + 38 = ((47 : Nat) : Int) := ⟨by decide +kernel, rfl, rfl⟩
theorem dX0_takeByGroups_12 : decode cX0_takeByGroups 12 = .ok (.iload 4, 2) ∧ 12 + 2 = 14 := ⟨by decide +kernel, rfl⟩
theorem dX0_takeByGroups_14 : decode cX0_takeByGroups 14 = .ok (.aload_n 0, 1) ∧ 14 + 1 = 15 := ⟨by decide +kernel, rfl⟩
theorem dX0_takeByGroups_15 : decode cX0_takeByGroups 15 = .ok (.iload_n 2, 1) ∧ 15 + 1 = 16 := ⟨by decide +kernel, rfl⟩
theorem dX0_takeByGroups_16 : decode cX0_takeByGroups 16 = .ok (.iload 5, 2) ∧ 16 + 2 = 18 := ⟨by decide +kernel, rfl⟩
theorem dX0_takeByGroups_18 : decode cX0_takeByGroups 18 = .ok (.invokevirtual 178, 3) ∧ 18 + 3 = 21 := ⟨by decide +kernel, rfl⟩
theorem dX0_takeByGroups_21 : decode cX0_takeByGroups 21 = .ok (.invokestatic 161, 3) ∧ 21 + 3 = 24 := ⟨by decide +kernel, rfl⟩
theorem dX0_takeByGroups_24 : decode cX0_takeByGroups 24 = .ok (.istore 6, 2) ∧ 24 + 2 = 26 := ⟨by decide +kernel, rfl⟩
theorem dX0_takeByGroups_26 : decode cX0_takeByGroups 26 = .ok (.iload 4, 2) ∧ 26 + 2 = 28 := ⟨by decide +kernel, rfl⟩
theorem dX0_takeByGroups_28 : decode cX0_takeByGroups 28 = .ok (.aload_n 0, 1) ∧ 28 + 1 = 29 := ⟨by decide +kernel, rfl⟩
theorem dX0_takeByGroups_29 : decode cX0_takeByGroups 29 = .ok (.aload_n 1, 1) ∧ 29 + 1 = 30 := ⟨by decide +kernel, rfl⟩
theorem dX0_takeByGroups_30 : decode cX0_takeByGroups 30 = .ok (.iload_n 2, 1) ∧ 30 + 1 = 31 := ⟨by decide +kernel, rfl⟩
theorem dX0_takeByGroups_31 : decode cX0_takeByGroups 31 = .ok (.iload 5, 2) ∧ 31 + 2 = 33 := ⟨by decide +kernel, rfl⟩
theorem dX0_takeByGroups_33 : decode cX0_takeByGroups 33 = .ok (.iload 6, 2) ∧ 33 + 2 = 35 := ⟨by decide +kernel, rfl⟩
theorem dX0_takeByGroups_35 : decode cX0_takeByGroups 35 = .ok (.invokevirtual 180, 3) ∧ 35 + 3 = 38 := ⟨by decide +kernel, rfl⟩
theorem dX0_takeByGroups_38 : decode cX0_takeByGroups 38 = .ok (.isub, 1) ∧ 38 + 1 = 39 := ⟨by decide +kernel, rfl⟩
theorem dX0_takeByGroups_39 : decode cX0_takeByGroups 39 = .ok (.istore 4, 2) ∧ 39 + 2 = 41 := ⟨by decide +kernel, rfl⟩
theorem dX0_takeByGroups_41 : decode cX0_takeByGroups 41 = .ok (.iinc 5 1, 3) ∧ 41 + 3 = 44 := ⟨by decide +kernel, rfl⟩
theorem dX0_takeByGroups_44 : decode cX0_takeByGroups 44 = .ok (.goto (-38), 3) ∧ ((44 : Nat) : Int) + (-38) = ((6 : Nat) : Int) := ⟨by decide +kernel, rfl⟩
theorem dX0_takeByGroups_47 : decode cX0_takeByGroups 47 = .ok (.aload_n 0, 1) ∧ 47 + 1 = 48 := ⟨by decide +kernel, rfl⟩
theorem dX0_takeByGroups_48 : decode cX0_takeByGroups 48 = .ok (.iload_n 2, 1) ∧ 48 + 1 = 49 := ⟨by decide +kernel, rfl⟩
theorem dX0_takeByGroups_49 : decode cX0_takeByGroups 49 = .ok (.iload 4, 2) ∧ 49 + 2 = 51 := ⟨by decide +kernel, rfl⟩
theorem dX0_takeByGroups_51 : decode cX0_takeByGroups 51 = .ok (.invokevirtual 171, 3) ∧ 51 + 3 = 54 := ⟨by decide +kernel, rfl⟩
theorem dX0_takeByGroups_54 : decode cX0_takeByGroups 54 = .ok (.return_, 1) ∧ 54 + 1 = 55 := ⟨by decide +kernel, rfl⟩
theorem dX0_takeForGroup_0 : decode cX0_takeForGroup 0 = .ok (.iconst 0, 1) ∧ 0 + 1 = 1 := ⟨by decide +kernel, rfl⟩
theorem dX0_takeForGroup_1 : decode cX0_takeForGroup 1 = .ok (.istore 5, 2) ∧ 1 + 2 = 3 := ⟨by decide +kernel, rfl⟩
theorem dX0_takeForGroup_3 : decode cX0_takeForGroup 3 = .ok (.iconst 0, 1) ∧ 3 + 1 = 4 := ⟨by decide +kernel, rfl⟩
theorem dX0_takeForGroup_4 : decode cX0_takeForGroup 4 = .ok (.istore 6, 2) ∧ 4 + 2 = 6 := ⟨by decide +kernel, rfl⟩
theorem dX0_takeForGroup_6 : decode cX0_takeForGroup 6 = .ok (.iload 6, 2) ∧ 6 + 2 = 8 := ⟨by decide +kernel, rfl⟩
theorem dX0_takeForGroup_8 : decode cX0_takeForGroup 8 = .ok (.aload_n 0, 1) ∧ 8 + 1 = 9 := ⟨by decide +kernel, rfl⟩
theorem dX0_takeForGroup_9 : decode cX0_takeForGroup 9 = .ok (.getfield 48, 3) ∧ 9 + 3 = 12 := ⟨by decide +kernel, rfl⟩
theorem dX0_takeForGroup_12 : decode cX0_takeForGroup 12 = .ok (.if_icmp .ge 63, 3) ∧ 12 + 3 = 15 ∧ ((12 : Nat) : Int) + 63 = ((75 : Nat) : Int) := ⟨by decide +kernel, rfl, rfl⟩
theorem dX0_takeForGroup_15 : decode cX0_takeForGroup 15 = .ok (.iload 5, 2) ∧ 15 + 2 = 17 := ⟨by decide +kernel, rfl⟩
theorem dX0_takeForGroup_17 : decode cX0_takeForGroup 17 = .ok (.iload 4, 2) ∧ 17 + 2 = 19 := ⟨by decide +kernel, rfl⟩
theorem dX0_takeForGroup_19 : decode cX0_takeForGroup 19 = .ok (.if_icmp .ge 56, 3) ∧ 19 + 3 = 22 ∧ ((19 : Nat) : Int) + 56 = ((75 : Nat) : Int) := ⟨by decide +kernel, rfl, rfl⟩
theorem dX0_takeForGroup_22 : decode cX0_takeForGroup 22 = .ok (.aload_n 0, 1) ∧ 22 + 1 = 23 := ⟨by decide +kernel, rfl⟩
theorem dX0_takeForGroup_23 : decode cX0_takeForGroup 23 = .ok (.getfield 38, 3) ∧ 23 + 3 = 26 := ⟨by decide +kernel, rfl⟩
theorem dX0_takeForGroup_26 : decode cX0_takeForGroup 26 = .ok (.iload 6, 2) ∧ 26 + 2 = 28 := ⟨by decide +kernel, rfl⟩
theorem dX0_takeForGroup_28 : decode cX0_takeForGroup 28 = .ok (.invokevirtual 105, 3) ∧ 28 + 3 = 31 := ⟨by decide +kernel, rfl⟩
theorem dX0_takeForGroup_31 : decode cX0_takeForGroup 31 = .ok (.istore 7, 2) ∧ 31 + 2 = 33 := ⟨by decide +kernel, rfl⟩
theorem dX0_takeForGroup_33 : decode cX0_takeForGroup 33 = .ok (.aload_n 0, 1) ∧ 33 + 1 = 34 := ⟨by decide +kernel, rfl⟩
theorem dX0_takeForGroup_34 : decode cX0_takeForGroup 34 = .ok (.iload 7, 2) ∧ 34 + 2 = 36 := ⟨by decide +kernel, rfl⟩
theorem dX0_takeForGroup_36 : decode cX0_takeForGroup 36 = .ok (.invokevirtual 183, 3) ∧ 36 + 3 = 39 := ⟨by decide +kernel, rfl⟩
theorem dX0_takeForGroup_39 : decode cX0_takeForGroup 39 = .ok (.ifCond .ne 30, 3) ∧ 39 + 3 = 42 ∧ ((39 : Nat) : Int) + 30 = ((69 : Nat) : Int) := ⟨by decide +kernel, rfl, rfl⟩
theorem dX0_takeForGroup_42 : decode cX0_takeForGroup 42 = .ok (.aload_n 1, 1) ∧ 42 + 1 = 43 := ⟨by decide +kernel, rfl⟩
theorem dX0_takeForGroup_43 : decode cX0_takeForGroup 43 = .ok (.bipush 48, 2) ∧ 43 + 2 = 45 := ⟨by decide +kernel, rfl⟩
theorem dX0_takeForGroup_45 : decode cX0_takeForGroup 45 = .ok (.iload 7, 2) ∧ 45 + 2 = 47 := ⟨by decide +kernel, rfl⟩
theorem dX0_takeForGroup_47 : decode cX0_takeForGroup 47 = .ok (.invokevirtual 76, 3) ∧ 47 + 3 = 50 := ⟨by decide +kernel, rfl⟩
theorem dX0_takeForGroup_50 : decode cX0_takeForGroup 50 = .ok (.iload_n 3, 1) ∧ 50 + 1 = 51 := ⟨by decide +kernel, rfl⟩
theorem dX0_takeForGroup_51 : decode cX0_takeForGroup 51 = .ok (.ishr, 1) ∧ 51 + 1 = 52 := ⟨by decide +kernel, rfl⟩
theorem dX0_takeForGroup_52 : decode cX0_takeForGroup 52 = .ok (.iconst 1, 1) ∧ 52 + 1 = 53 := ⟨by decide +kernel, rfl⟩
theorem dX0_takeForGroup_53 : decode cX0_takeForGroup 53 = .ok (.iand, 1) ∧ 53 + 1 = 54 := ⟨by decide +kernel, rfl⟩
theorem dX0_takeForGroup_54 : decode cX0_takeForGroup 54 = .ok (.iconst 1, 1) ∧ 54 + 1 = 55 := ⟨by decide +kernel, rfl⟩
theorem dX0_takeForGroup_55 : decode cX0_takeForGroup 55 = .ok (.if_icmp .ne 14, 3) ∧ 55 + 3 = 58 ∧ ((55 : Nat) : Int) + 14 = ((69 : Nat) : Int) := ⟨by decide +kernel, rfl, rfl⟩
theorem dX0_takeForGroup_58 : decode cX0_takeForGroup 58 = .ok (.aload_n 0, 1) ∧ 58 + 1 = 59 := ⟨by decide +kernel, rfl⟩
theorem dX0_takeForGroup_59 : decode cX0_takeForGroup 59 = .ok (.iload 7, 2) ∧ 59 + 2 = 61 := ⟨by decide +kernel, rfl⟩
theorem dX0_takeForGroup_61 : decode cX0_takeForGroup 61 = .ok (.iload_n 2, 1) ∧ 61 + 1 = 62 := ⟨by decide +kernel, rfl⟩
theorem dX0_takeForGroup_62 : decode cX0_takeForGroup 62 = .ok (.iload_n 3, 1) ∧ 62 + 1 = 63 := ⟨by decide +kernel, rfl⟩
theorem dX0_takeForGroup_63 : decode cX0_takeForGroup 63 = .ok (.invokevirtual 174, 3) ∧ 63 + 3 = 66 := ⟨by decide +kernel, rfl⟩
theorem dX0_takeForGroup_66 : decode cX0_takeForGroup 66 = .ok (.iinc 5 1, 3) ∧ 66 + 3 = 69 := ⟨by decide +kernel, rfl⟩
theorem dX0_takeForGroup_69 : decode cX0_takeForGroup 69 = .ok (.iinc 6 1, 3) ∧ 69 + 3 = 72 := ⟨by decide +kernel, rfl⟩
theorem dX0_takeForGroup_72 : decode cX0_takeForGroup 72 = .ok (.goto (-66), 3) ∧ ((72 : Nat) : Int) + (-66) = ((6 : Nat) : Int) := ⟨by decide +kernel, rfl⟩
theorem dX0_takeForGroup_75 : decode cX0_takeForGroup 75 = .ok (.iload 5, 2) ∧ 75 + 2 = 77 := ⟨by decide +kernel, rfl⟩
theorem dX0_takeForGroup_77 : decode cX0_takeForGroup 77 = .ok (.ireturn, 1) ∧ 77 + 1 = 78 := ⟨by decide +kernel, rfl⟩
theorem dX0_takeBest_0 : decode cX0_takeBest 0 = .ok (.iload_n 2, 1) ∧ 0 + 1 = 1 := ⟨by decide +kernel, rfl⟩
theorem dX0_takeBest_1 : decode cX0_takeBest 1 = .ok (.istore_n 3, 1) ∧ 1 + 1 = 2 := ⟨by decide +kernel, rfl⟩
theorem dX0_takeBest_2 : decode cX0_takeBest 2 = .ok (.iconst 0, 1) ∧ 2 + 1 = 3 := ⟨by decide +kernel, rfl⟩
theorem dX0_takeBest_3 : decode cX0_takeBest 3 = .ok (.istore 4, 2) ∧ 3 + 2 = 5 := ⟨by decide +kernel, rfl⟩
theorem dX0_takeBest_5 : decode cX0_takeBest 5 = .ok (.iload 4, 2) ∧ 5 + 2 = 7 := ⟨by decide +kernel, rfl⟩
theorem dX0_takeBest_7 : decode cX0_takeBest 7 = .ok (.aload_n 0, 1) ∧ 7 + 1 = 8 := ⟨by decide +kernel, rfl⟩
theorem dX0_takeBest_8 : decode cX0_takeBest 8 = .ok (.getfield 48, 3) ∧ 8 + 3 = 11 := ⟨by decide +kernel, rfl⟩
theorem dX0_takeBest_11 : decode cX0_takeBest 11 = .ok (.if_icmp .ge 45, 3) ∧ 11 + 3 = 14 ∧ ((11 : Nat) : Int) + 45 = ((56 : Nat) : Int) := ⟨by decide +kernel, rfl, rfl⟩
theorem dX0_takeBest_14 : decode cX0_takeBest 14 = .ok (.iload_n 3, 1) ∧ 14 + 1 = 15 := ⟨by decide +kernel, rfl⟩
theorem dX0_takeBest_15 : decode cX0_takeBest 15 = .ok (.ifCond .le 41, 3) ∧ 15 + 3 = 18 ∧ ((15 : Nat) : Int) + 41 = ((56 : Nat) : Int) := ⟨by decide +kernel, rfl, rfl⟩
theorem dX0_takeBest_18 : decode cX0_takeBest 18 = .ok (.aload_n 0, 1) ∧ 18 + 1 = 19 := ⟨by decide +kernel, rfl⟩
theorem dX0_takeBest_19 : decode cX0_takeBest 19 = .ok (.getfield 38, 3) ∧ 19 + 3 = 22 := ⟨by decide +kernel, rfl⟩
theorem dX0_takeBest_22 : decode cX0_takeBest 22 = .ok (.iload 4, 2) ∧ 22 + 2 = 24 := ⟨by decide +kernel, rfl⟩
theorem dX0_takeBest_24 : decode cX0_takeBest 24 = .ok (.invokevirtual 105, 3) ∧ 24 + 3 = 27 := ⟨by decide +kernel, rfl⟩
theorem dX0_takeBest_27 : decode cX0_takeBest 27 = .ok (.istore 5, 2) ∧ 27 + 2 = 29 := ⟨by decide +kernel, rfl⟩
theorem dX0_takeBest_29 : decode cX0_takeBest 29 = .ok (.aload_n 0, 1) ∧ 29 + 1 = 30 := ⟨by decide +kernel, rfl⟩
theorem dX0_takeBest_30 : decode cX0_takeBest 30 = .ok (.iload 5, 2) ∧ 30 + 2 = 32 := ⟨by decide +kernel, rfl⟩
theorem dX0_takeBest_32 : decode cX0_takeBest 32 = .ok (.invokevirtual 183, 3) ∧ 32 + 3 = 35 := ⟨by decide +kernel, rfl⟩
theorem dX0_takeBest_35 : decode cX0_takeBest 35 = .ok (.ifCond .ne 15, 3) ∧ 35 + 3 = 38 ∧ ((35 : Nat) : Int) + 15 = ((50 : Nat) : Int) := ⟨by decide +kernel, rfl, rfl⟩
theorem dX0_takeBest_38 : decode cX0_takeBest 38 = .ok (.aload_n 0, 1) ∧ 38 + 1 = 39 := ⟨by decide +kernel, rfl⟩
theorem dX0_takeBest_39 : decode cX0_takeBest 39 = .ok (.iload 5, 2) ∧ 39 + 2 = 41 := ⟨by decide +kernel, rfl⟩
theorem dX0_takeBest_41 : decode cX0_takeBest 41 = .ok (.iload_n 1, 1) ∧ 41 + 1 = 42 := ⟨by decide +kernel, rfl⟩
theorem dX0_takeBest_42 : decode cX0_takeBest 42 = .ok (.bipush (-9), 2) ∧ 42 + 2 = 44 := ⟨by decide +kernel, rfl⟩
theorem dX0_takeBest_44 : decode cX0_takeBest 44 = .ok (.invokevirtual 174, 3) ∧ 44 + 3 = 47 := ⟨by decide +kernel, rfl⟩
theorem dX0_takeBest_47 : decode cX0_takeBest 47 = .ok (.iinc 3 (-1), 3) ∧ 47 + 3 = 50 := ⟨by decide +kernel, rfl⟩
theorem dX0_takeBest_50 : decode cX0_takeBest 50 = .ok (.iinc 4 1, 3) ∧ 50 + 3 = 53 := ⟨by decide +kernel, rfl⟩
theorem dX0_takeBest_53 : decode cX0_takeBest 53 = .ok (.goto (-48), 3) ∧ ((53 : Nat) : Int) + (-48) = ((5 : Nat) : Int) := ⟨by decide +kernel, rfl⟩
theorem dX0_takeBest_56 : decode cX0_takeBest 56 = .ok (.return_, 1) ∧ 56 + 1 = 57 := ⟨by decide +kernel, rfl⟩
theorem dX0_passOn_0 : decode cX0_passOn 0 = .ok (.iload_n 2, 1) ∧ 0 + 1 = 1 := ⟨by decide +kernel, rfl⟩
theorem dX0_passOn_1 : decode cX0_passOn 1 = .ok (.ifCond .ne 4, 3) ∧ 1 + 3 = 4 ∧ ((1 : Nat) : Int) + 4 = ((5 : Nat) : Int) := ⟨by decide +kernel, rfl, rfl⟩
theorem dX0_passOn_4 : decode cX0_passOn 4 = .ok (.return_, 1) ∧ 4 + 1 = 5 := ⟨by decide +kernel, rfl⟩
theorem dX0_passOn_5 : decode cX0_passOn 5 = .ok (.aload_n 0, 1) ∧ 5 + 1 = 6 := ⟨by decide +kernel, rfl⟩
theorem dX0_passOn_6 : decode cX0_passOn 6 = .ok (.iload_n 2, 1) ∧ 6 + 1 = 7 := ⟨by decide +kernel, rfl⟩
theorem dX0_passOn_7 : decode cX0_passOn 7 = .ok (.invokevirtual 159, 3) ∧ 7 + 3 = 10 := ⟨by decide +kernel, rfl⟩
theorem dX0_passOn_10 : decode cX0_passOn 10 = .ok (.aload_n 0, 1) ∧ 10 + 1 = 11 := ⟨by decide +kernel, rfl⟩
theorem dX0_passOn_11 : decode cX0_passOn 11 = .ok (.iload_n 2, 1) ∧ 11 + 1 = 12 := ⟨by decide +kernel, rfl⟩
theorem dX0_passOn_12 : decode cX0_passOn 12 = .ok (.invokevirtual 186, 3) ∧ 12 + 3 = 15 := ⟨by decide +kernel, rfl⟩
theorem dX0_passOn_15 : decode cX0_passOn 15 = .ok (.isub, 1) ∧ 15 + 1 = 16 := ⟨by decide +kernel, rfl⟩
theorem dX0_passOn_16 : decode cX0_passOn 16 = .ok (.istore_n 3, 1) ∧ 16 + 1 = 17 := ⟨by decide +kernel, rfl⟩
theorem dX0_passOn_17 : decode cX0_passOn 17 = .ok (.iconst 0, 1) ∧ 17 + 1 = 18 := ⟨by decide +kernel, rfl⟩
theorem dX0_passOn_18 : decode cX0_passOn 18 = .ok (.istore 4, 2) ∧ 18 + 2 = 20 := ⟨by decide +kernel, rfl⟩
theorem dX0_passOn_20 : decode cX0_passOn 20 = .ok (.iload 4, 2) ∧ 20 + 2 = 22 := ⟨by decide +kernel, rfl⟩
theorem dX0_passOn_22 : decode cX0_passOn 22 = .ok (.iload_n 3, 1) ∧ 22 + 1 = 23 := ⟨by decide +kernel, rfl⟩
theorem dX0_passOn_23 : decode cX0_passOn 23 = .ok (.if_icmp .ge 44, 3) ∧ 23 + 3 = 26 ∧ ((23 : Nat) : Int) + 44 = ((67 : Nat) : Int) := ⟨by decide +kernel, rfl, rfl⟩
theorem dX0_passOn_26 : decode cX0_passOn 26 = .ok (.aload_n 0, 1) ∧ 26 + 1 = 27 := ⟨by decide +kernel, rfl⟩
theorem dX0_passOn_27 : decode cX0_passOn 27 = .ok (.aload_n 1, 1) ∧ 27 + 1 = 28 := ⟨by decide +kernel, rfl⟩
theorem dX0_passOn_28 : decode cX0_passOn 28 = .ok (.iload_n 2, 1) ∧ 28 + 1 = 29 := ⟨by decide +kernel, rfl⟩
theorem dX0_passOn_29 : decode cX0_passOn 29 = .ok (.invokevirtual 189, 3) ∧ 29 + 3 = 32 := ⟨by decide +kernel, rfl⟩
theorem dX0_passOn_32 : decode cX0_passOn 32 = .ok (.istore 5, 2) ∧ 32 + 2 = 34 := ⟨by decide +kernel, rfl⟩
theorem dX0_passOn_34 : decode cX0_passOn 34 = .ok (.iload 5, 2) ∧ 34 + 2 = 36 := ⟨by decide +kernel, rfl⟩
theorem dX0_passOn_36 : decode cX0_passOn 36 = .ok (.bipush (-9), 2) ∧ 36 + 2 = 38 := ⟨by decide +kernel, rfl⟩
theorem dX0_passOn_38 : decode cX0_passOn 38 = .ok (.if_icmp .ne 4, 3) ∧ 38 + 3 = 41 ∧ ((38 : Nat) : Int) + 4 = ((42 : Nat) : Int) := ⟨by decide +kernel, rfl, rfl⟩
theorem dX0_passOn_41 : decode cX0_passOn 41 = .ok (.return_, 1) ∧ 41 + 1 = 42 := ⟨by decide +kernel, rfl⟩
theorem dX0_passOn_42 : decode cX0_passOn 42 = .ok (.aload_n 0, 1) ∧ 42 + 1 = 43 := ⟨by decide +kernel, rfl⟩
theorem dX0_passOn_43 : decode cX0_passOn 43 = .ok (.iload 5, 2) ∧ 43 + 2 = 45 := ⟨by decide +kernel, rfl⟩
theorem dX0_passOn_45 : decode cX0_passOn 45 = .ok (.iload_n 2, 1) ∧ 45 + 1 = 46 := ⟨by decide +kernel, rfl⟩
theorem dX0_passOn_46 : decode cX0_passOn 46 = .ok (.bipush (-9), 2) ∧ 46 + 2 = 48 := ⟨by decide +kernel, rfl⟩
theorem dX0_passOn_48 : decode cX0_passOn 48 = .ok (.invokevirtual 174, 3) ∧ 48 + 3 = 51 := ⟨by decide +kernel, rfl⟩
theorem dX0_passOn_51 : decode cX0_passOn 51 = .ok (.aload_n 0, 1) ∧ 51 + 1 = 52 := ⟨by decide +kernel, rfl⟩
theorem dX0_passOn_52 : decode cX0_passOn 52 = .ok (.getfield 35, 3) ∧ 52 + 3 = 55 := ⟨by decide +kernel, rfl⟩
theorem dX0_passOn_55 : decode cX0_passOn 55 = .ok (.iload 5, 2) ∧ 55 + 2 = 57 := ⟨by decide +kernel, rfl⟩
theorem dX0_passOn_57 : decode cX0_passOn 57 = .ok (.iconst 1, 1) ∧ 57 + 1 = 58 := ⟨by decide +kernel, rfl⟩
theorem dX0_passOn_58 : decode cX0_passOn 58 = .ok (.invokevirtual 101, 3) ∧ 58 + 3 = 61 := ⟨by decide +kernel, rfl⟩
theorem dX0_passOn_61 : decode cX0_passOn 61 = .ok (.iinc 4 1, 3) ∧ 61 + 3 = 64 := ⟨by decide +kernel, rfl⟩
theorem dX0_passOn_64 : decode cX0_passOn 64 = .ok (.goto (-44), 3) ∧ ((64 : Nat) : Int) + (-44) = ((20 : Nat) : Int) := ⟨by decide +kernel, rfl⟩
theorem dX0_passOn_67 : decode cX0_passOn 67 = .ok (.return_, 1) ∧ 67 + 1 = 68 := ⟨by decide +kernel, rfl⟩
theorem dX0_findReceiver_0 : decode cX0_findReceiver 0 = .ok (.iconst 1, 1) ∧ 0 + 1 = 1 := ⟨by decide +kernel, rfl⟩
theorem dX0_findReceiver_1 : decode cX0_findReceiver 1 = .ok (.iload_n 2, 1) ∧ 1 + 1 = 2 := ⟨by decide +kernel, rfl⟩
theorem dX0_findReceiver_2 : decode cX0_findReceiver 2 = .ok (.ishl, 1) ∧ 2 + 1 = 3 := ⟨by decide +kernel, rfl⟩
theorem dX0_findReceiver_3 : decode cX0_findReceiver 3 = .ok (.istore_n 3, 1) ∧ 3 + 1 = 4 := ⟨by decide +kernel, rfl⟩
theorem dX0_findReceiver_4 : decode cX0_findReceiver 4 = .ok (.aload_n 1, 1) ∧ 4 + 1 = 5 := ⟨by decide +kernel, rfl⟩
theorem dX0_findReceiver_5 : decode cX0_findReceiver 5 = .ok (.sipush 148, 3) ∧ 5 + 3 = 8 := ⟨by decide +kernel, rfl⟩
theorem dX0_findReceiver_8 : decode cX0_findReceiver 8 = .ok (.iload_n 2, 1) ∧ 8 + 1 = 9 := ⟨by decide +kernel, rfl⟩
theorem dX0_findReceiver_9 : decode cX0_findReceiver 9 = .ok (.invokevirtual 76, 3) ∧ 9 + 3 = 12 := ⟨by decide +kernel, rfl⟩
theorem dX0_findReceiver_12 : decode cX0_findReceiver 12 = .ok (.istore 4, 2) ∧ 12 + 2 = 14 := ⟨by decide +kernel, rfl⟩
theorem dX0_findReceiver_14 : decode cX0_findReceiver 14 = .ok (.iconst 0, 1) ∧ 14 + 1 = 15 := ⟨by decide +kernel, rfl⟩
theorem dX0_findReceiver_15 : decode cX0_findReceiver 15 = .ok (.istore 5, 2) ∧ 15 + 2 = 17 := ⟨by decide +kernel, rfl⟩
theorem dX0_findReceiver_17 : decode cX0_findReceiver 17 = .ok (.iload 5, 2) ∧ 17 + 2 = 19 := ⟨by decide +kernel, rfl⟩
theorem dX0_findReceiver_19 : decode cX0_findReceiver 19 = .ok (.iconst 4, 1) ∧ 19 + 1 = 20 := ⟨by decide +kernel, rfl⟩
theorem dX0_findReceiver_20 : decode cX0_findReceiver 20 = .ok (.if_icmp .ge 66, 3) ∧ 20 + 3 = 23 ∧ ((20 : Nat) : Int) + 66 = ((86 : Nat) : Int) := ⟨by decide +kernel, rfl, rfl⟩
theorem dX0_findReceiver_23 : decode cX0_findReceiver 23 = .ok (.iload 4, 2) ∧ 23 + 2 = 25 := ⟨by decide +kernel, rfl⟩
theorem dX0_findReceiver_25 : decode cX0_findReceiver 25 = .ok (.invokestatic 193, 3) ∧ 25 + 3 = 28 := ⟨by decide +kernel, rfl⟩
theorem dX0_findReceiver_28 : decode cX0_findReceiver 28 = .ok (.ifCond .eq 13, 3) ∧ 28 + 3 = 31 ∧ ((28 : Nat) : Int) + 13 = ((41 : Nat) : Int) := ⟨by decide +kernel, rfl, rfl⟩
theorem dX0_findReceiver_31 : decode cX0_findReceiver 31 = .ok (.iload_n 3, 1) ∧ 31 + 1 = 32 := ⟨by decide +kernel, rfl⟩
theorem dX0_findReceiver_32 : decode cX0_findReceiver 32 = .ok (.iload 4, 2) ∧ 32 + 2 = 34 := ⟨by decide +kernel, rfl⟩
theorem dX0_findReceiver_34 : decode cX0_findReceiver 34 = .ok (.ishr, 1) ∧ 34 + 1 = 35 := ⟨by decide +kernel, rfl⟩
theorem dX0_findReceiver_35 : decode cX0_findReceiver 35 = .ok (.iconst 1, 1) ∧ 35 + 1 = 36 := ⟨by decide +kernel, rfl⟩
theorem dX0_findReceiver_36 : decode cX0_findReceiver 36 = .ok (.iand, 1) ∧ 36 + 1 = 37 := ⟨by decide +kernel, rfl⟩
theorem dX0_findReceiver_37 : decode cX0_findReceiver 37 = .ok (.iconst 1, 1) ∧ 37 + 1 = 38 := ⟨by decide +kernel, rfl⟩
theorem dX0_findReceiver_38 : decode cX0_findReceiver 38 = .ok (.if_icmp .ne 6, 3) ∧ 38 + 3 = 41 ∧ ((38 : Nat) : Int) + 6 = ((44 : Nat) : Int) := ⟨by decide +kernel, rfl, rfl⟩
theorem dX0_findReceiver_41 : decode cX0_findReceiver 41 = .ok (.bipush (-9), 2) ∧ 41 + 2 = 43 := ⟨by decide +kernel, rfl⟩
theorem dX0_findReceiver_43 : decode cX0_findReceiver 43 = .ok (.ireturn, 1) ∧ 43 + 1 = 44 := ⟨by decide +kernel, rfl⟩
theorem dX0_findReceiver_44 : decode cX0_findReceiver 44 = .ok (.aload_n 0, 1) ∧ 44 + 1 = 45 := ⟨by decide +kernel, rfl⟩
theorem dX0_findReceiver_45 : decode cX0_findReceiver 45 = .ok (.iload 4, 2) ∧ 45 + 2 = 47 := ⟨by decide +kernel, rfl⟩
theorem dX0_findReceiver_47 : decode cX0_findReceiver 47 = .ok (.invokevirtual 196, 3) ∧ 47 + 3 = 50 := ⟨by decide +kernel, rfl⟩
theorem dX0_findReceiver_50 : decode cX0_findReceiver 50 = .ok (.istore 6, 2) ∧ 50 + 2 = 52 := ⟨by decide +kernel, rfl⟩
theorem dX0_findReceiver_52 : decode cX0_findReceiver 52 = .ok (.iload 6, 2) ∧ 52 + 2 = 54 := ⟨by decide +kernel, rfl⟩
theorem dX0_findReceiver_54 : decode cX0_findReceiver 54 = .ok (.bipush (-9), 2) ∧ 54 + 2 = 56 := ⟨by decide +kernel, rfl⟩
theorem dX0_findReceiver_56 : decode cX0_findReceiver 56 = .ok (.if_icmp .eq 6, 3) ∧ 56 + 3 = 59 ∧ ((56 : Nat) : Int) + 6 = ((62 : Nat) : Int) := ⟨by decide +kernel, rfl, rfl⟩
theorem dX0_findReceiver_59 : decode cX0_findReceiver 59 = .ok (.iload 6, 2) ∧ 59 + 2 = 61 := ⟨by decide +kernel, rfl⟩
theorem dX0_findReceiver_61 : decode cX0_findReceiver 61 = .ok (.ireturn, 1) ∧ 61 + 1 = 62 := ⟨by decide +kernel, rfl⟩
theorem dX0_findReceiver_62 : decode cX0_findReceiver 62 = .ok (.iload_n 3, 1) ∧ 62 + 1 = 63 := ⟨by decide +kernel, rfl⟩
theorem dX0_findReceiver_63 : decode cX0_findReceiver 63 = .ok (.iconst 1, 1) ∧ 63 + 1 = 64 := ⟨by decide +kernel, rfl⟩
theorem dX0_findReceiver_64 : decode cX0_findReceiver 64 = .ok (.iload 4, 2) ∧ 64 + 2 = 66 := ⟨by decide +kernel, rfl⟩
theorem dX0_findReceiver_66 : decode cX0_findReceiver 66 = .ok (.ishl, 1) ∧ 66 + 1 = 67 := ⟨by decide +kernel, rfl⟩
theorem dX0_findReceiver_67 : decode cX0_findReceiver 67 = .ok (.ior, 1) ∧ 67 + 1 = 68 := ⟨by decide +kernel, rfl⟩
theorem dX0_findReceiver_68 : decode cX0_findReceiver 68 = .ok (.istore_n 3, 1) ∧ 68 + 1 = 69 := ⟨by decide +kernel, rfl⟩
theorem dX0_findReceiver_69 : decode cX0_findReceiver 69 = .ok (.aload_n 1, 1) ∧ 69 + 1 = 70 := ⟨by decide +kernel, rfl⟩
theorem dX0_findReceiver_70 : decode cX0_findReceiver 70 = .ok (.sipush 148, 3) ∧ 70 + 3 = 73 := ⟨by decide +kernel, rfl⟩
theorem dX0_findReceiver_73 : decode cX0_findReceiver 73 = .ok (.iload 4, 2) ∧ 73 + 2 = 75 := ⟨by decide +kernel, rfl⟩
theorem dX0_findReceiver_75 : decode cX0_findReceiver 75 = .ok (.invokevirtual 76, 3) ∧ 75 + 3 = 78 := ⟨by decide +kernel, rfl⟩
theorem dX0_findReceiver_78 : decode cX0_findReceiver 78 = .ok (.istore 4, 2) ∧ 78 + 2 = 80 := ⟨by decide +kernel, rfl⟩
theorem dX0_findReceiver_80 : decode cX0_findReceiver 80 = .ok (.iinc 5 1, 3) ∧ 80 + 3 = 83 := ⟨by decide +kernel, rfl⟩
theorem dX0_findReceiver_83 : decode cX0_findReceiver 83 = .ok (.goto (-66), 3) ∧ ((83 : Nat) : Int) + (-66) = ((17 : Nat) : Int) := ⟨by decide +kernel, rfl⟩
theorem dX0_findReceiver_86 : decode cX0_findReceiver 86 = .ok (.bipush (-9), 2) ∧ 86 + 2 = 88 := ⟨by decide +kernel, rfl⟩
theorem dX0_findReceiver_88 : decode cX0_findReceiver 88 = .ok (.ireturn, 1) ∧ 88 + 1 = 89 := ⟨by decide +kernel, rfl⟩
theorem dX0_bestWithoutSeat_0 : decode cX0_bestWithoutSeat 0 = .ok (.aload_n 0, 1) ∧ 0 + 1 = 1 := ⟨by decide +kernel, rfl⟩
theorem dX0_bestWithoutSeat_1 : decode cX0_bestWithoutSeat 1 = .ok (.iload_n 1, 1) ∧ 1 + 1 = 2 := ⟨by decide +kernel, rfl⟩
theorem dX0_bestWithoutSeat_2 : decode cX0_bestWithoutSeat 2 = .ok (.invokevirtual 128, 3) ∧ 2 + 3 = 5 := ⟨by decide +kernel, rfl⟩
theorem dX0_bestWithoutSeat_5 : decode cX0_bestWithoutSeat 5 = .ok (.istore_n 2, 1) ∧ 5 + 1 = 6 := ⟨by decide +kernel, rfl⟩
theorem dX0_bestWithoutSeat_6 : decode cX0_bestWithoutSeat 6 = .ok (.iconst 0, 1) ∧ 6 + 1 = 7 := ⟨by decide +kernel, rfl⟩
theorem dX0_bestWithoutSeat_7 : decode cX0_bestWithoutSeat 7 = .ok (.istore_n 3, 1) ∧ 7 + 1 = 8 := ⟨by decide +kernel, rfl⟩
theorem dX0_bestWithoutSeat_8 : decode cX0_bestWithoutSeat 8 = .ok (.iload_n 3, 1) ∧ 8 + 1 = 9 := ⟨by decide +kernel, rfl⟩
theorem dX0_bestWithoutSeat_9 : decode cX0_bestWithoutSeat 9 = .ok (.aload_n 0, 1) ∧ 9 + 1 = 10 := ⟨by decide +kernel, rfl⟩
theorem dX0_bestWithoutSeat_10 : decode cX0_bestWithoutSeat 10 = .ok (.getfield 52, 3) ∧ 10 + 3 = 13 := ⟨by decide +kernel, rfl⟩
theorem dX0_bestWithoutSeat_13 : decode cX0_bestWithoutSeat 13 = .ok (.if_icmp .ge 29, 3) ∧ 13 + 3 = 16 ∧ ((13 : Nat) : Int) + 29 = ((42 : Nat) : Int) := ⟨by decide +kernel, rfl, rfl⟩
theorem dX0_bestWithoutSeat_16 : decode cX0_bestWithoutSeat 16 = .ok (.aload_n 0, 1) ∧ 16 + 1 = 17 := ⟨by decide +kernel, rfl⟩
theorem dX0_bestWithoutSeat_17 : decode cX0_bestWithoutSeat 17 = .ok (.iload_n 3, 1) ∧ 17 + 1 = 18 := ⟨by decide +kernel, rfl⟩
theorem dX0_bestWithoutSeat_18 : decode cX0_bestWithoutSeat 18 = .ok (.invokevirtual 90, 3) ∧ 18 + 3 = 21 := ⟨by decide +kernel, rfl⟩
theorem dX0_bestWithoutSeat_21 : decode cX0_bestWithoutSeat 21 = .ok (.istore 4, 2) ∧ 21 + 2 = 23 := ⟨by decide +kernel, rfl⟩
theorem dX0_bestWithoutSeat_23 : decode cX0_bestWithoutSeat 23 = .ok (.iload_n 2, 1) ∧ 23 + 1 = 24 := ⟨by decide +kernel, rfl⟩
theorem dX0_bestWithoutSeat_24 : decode cX0_bestWithoutSeat 24 = .ok (.iload 4, 2) ∧ 24 + 2 = 26 := ⟨by decide +kernel, rfl⟩
theorem dX0_bestWithoutSeat_26 : decode cX0_bestWithoutSeat 26 = .ok (.ishr, 1) ∧ 26 + 1 = 27 := ⟨by decide +kernel, rfl⟩
theorem dX0_bestWithoutSeat_27 : decode cX0_bestWithoutSeat 27 = .ok (.iconst 1, 1) ∧ 27 + 1 = 28 := ⟨by decide +kernel, rfl⟩
theorem dX0_bestWithoutSeat_28 : decode cX0_bestWithoutSeat 28 = .ok (.iand, 1) ∧ 28 + 1 = 29 := ⟨by decide +kernel, rfl⟩
theorem dX0_bestWithoutSeat_29 : decode cX0_bestWithoutSeat 29 = .ok (.iconst 1, 1) ∧ 29 + 1 = 30 := ⟨by decide +kernel, rfl⟩
theorem dX0_bestWithoutSeat_30 : decode cX0_bestWithoutSeat 30 = .ok (.if_icmp .ne 6, 3) ∧ 30 + 3 = 33 ∧ ((30 : Nat) : Int) + 6 = ((36 : Nat) : Int) := ⟨by decide +kernel, rfl, rfl⟩
theorem dX0_bestWithoutSeat_33 : decode cX0_bestWithoutSeat 33 = .ok (.iload 4, 2) ∧ 33 + 2 = 35 := ⟨by decide +kernel, rfl⟩
theorem dX0_bestWithoutSeat_35 : decode cX0_bestWithoutSeat 35 = .ok (.ireturn, 1) ∧ 35 + 1 = 36 := ⟨by decide +kernel, rfl⟩
theorem dX0_bestWithoutSeat_36 : decode cX0_bestWithoutSeat 36 = .ok (.iinc 3 1, 3) ∧ 36 + 3 = 39 := ⟨by decide +kernel, rfl⟩
theorem dX0_bestWithoutSeat_39 : decode cX0_bestWithoutSeat 39 = .ok (.goto (-31), 3) ∧ ((39 : Nat) : Int) + (-31) = ((8 : Nat) : Int) := ⟨by decide +kernel, rfl⟩
theorem dX0_bestWithoutSeat_42 : decode cX0_bestWithoutSeat 42 = .ok (.bipush (-9), 2) ∧ 42 + 2 = 44 := ⟨by decide +kernel, rfl⟩
theorem dX0_bestWithoutSeat_44 : decode cX0_bestWithoutSeat 44 = .ok (.ireturn, 1) ∧ 44 + 1 = 45 := ⟨by decide +kernel, rfl⟩
