theorem dX1_init_0 : decode cX1_init 0 = .ok (.aload_n 0, 1) ∧ 0 + 1 = 1 := ⟨by decide +kernel, rfl⟩
theorem dX1_init_1 : decode cX1_init 1 = .ok (.invokespecial 5, 3) ∧ 1 + 3 = 4 := ⟨by decide +kernel, rfl⟩
theorem dX1_init_4 : decode cX1_init 4 = .ok (.aload_n 0, 1) ∧ 4 + 1 = 5 := ⟨by decide +kernel, rfl⟩
theorem dX1_init_5 : decode cX1_init 5 = .ok (.new 11, 3) ∧ 5 + 3 = 8 := ⟨by decide +kernel, rfl⟩
theorem dX1_init_8 : decode cX1_init 8 = .ok (.dup, 1) ∧ 8 + 1 = 9 := ⟨by decide +kernel, rfl⟩
theorem dX1_init_9 : decode cX1_init 9 = .ok (.sipush 1296, 3) ∧ 9 + 3 = 12 := ⟨by decide +kernel, rfl⟩
theorem dX1_init_12 : decode cX1_init 12 = .ok (.invokespecial 13, 3) ∧ 12 + 3 = 15 := ⟨by decide +kernel, rfl⟩
theorem dX1_init_15 : decode cX1_init 15 = .ok (.putfield 16, 3) ∧ 15 + 3 = 18 := ⟨by decide +kernel, rfl⟩
theorem dX1_init_18 : decode cX1_init 18 = .ok (.return_, 1) ∧ 18 + 1 = 19 := ⟨by decide +kernel, rfl⟩
theorem dX1_count_0 : decode cX1_count 0 = .ok (.aload_n 0, 1) ∧ 0 + 1 = 1 := ⟨by decide +kernel, rfl⟩
theorem dX1_count_1 : decode cX1_count 1 = .ok (.getfield 16, 3) ∧ 1 + 3 = 4 := ⟨by decide +kernel, rfl⟩
theorem dX1_count_4 : decode cX1_count 4 = .ok (.iconst 0, 1) ∧ 4 + 1 = 5 := ⟨by decide +kernel, rfl⟩
theorem dX1_count_5 : decode cX1_count 5 = .ok (.invokevirtual 20, 3) ∧ 5 + 3 = 8 := ⟨by decide +kernel, rfl⟩
theorem dX1_count_8 : decode cX1_count 8 = .ok (.aload_n 0, 1) ∧ 8 + 1 = 9 := ⟨by decide +kernel, rfl⟩
theorem dX1_count_9 : decode cX1_count 9 = .ok (.getfield 16, 3) ∧ 9 + 3 = 12 := ⟨by decide +kernel, rfl⟩
theorem dX1_count_12 : decode cX1_count 12 = .ok (.iconst 0, 1) ∧ 12 + 1 = 13 := ⟨by decide +kernel, rfl⟩
theorem dX1_count_13 : decode cX1_count 13 = .ok (.iconst 1, 1) ∧ 13 + 1 = 14 := ⟨by decide +kernel, rfl⟩
theorem dX1_count_14 : decode cX1_count 14 = .ok (.invokevirtual 23, 3) ∧ 14 + 3 = 17 := ⟨by decide +kernel, rfl⟩
theorem dX1_count_17 : decode cX1_count 17 = .ok (.iconst 0, 1) ∧ 17 + 1 = 18 := ⟨by decide +kernel, rfl⟩
theorem dX1_count_18 : decode cX1_count 18 = .ok (.istore 4, 2) ∧ 18 + 2 = 20 := ⟨by decide +kernel, rfl⟩
theorem dX1_count_20 : decode cX1_count 20 = .ok (.iload 4, 2) ∧ 20 + 2 = 22 := ⟨by decide +kernel, rfl⟩
theorem dX1_count_22 : decode cX1_count 22 = .ok (.aload_n 1, 1) ∧ 22 + 1 = 23 := ⟨by decide +kernel, rfl⟩
theorem dX1_count_23 : decode cX1_count 23 = .ok (.invokevirtual 27, 3) ∧ 23 + 3 = 26 := ⟨by decide +kernel, rfl⟩
theorem dX1_count_26 : decode cX1_count 26 = .ok (.if_icmp .ge 33, 3) ∧ 26 + 3 = 29 ∧ ((26 : Nat) : Int) + 33 = ((59 : Nat) : Int) := ⟨by decide +kernel, rfl, rfl⟩
theorem dX1_count_29 : decode cX1_count 29 = .ok (.aload_n 2, 1) ∧ 29 + 1 = 30 := ⟨by decide +kernel, rfl⟩
theorem dX1_count_30 : decode cX1_count 30 = .ok (.iload 4, 2) ∧ 30 + 2 = 32 := ⟨by decide +kernel, rfl⟩
theorem dX1_count_32 : decode cX1_count 32 = .ok (.iload_n 3, 1) ∧ 32 + 1 = 33 := ⟨by decide +kernel, rfl⟩
theorem dX1_count_33 : decode cX1_count 33 = .ok (.invokevirtual 33, 3) ∧ 33 + 3 = 36 := ⟨by decide +kernel, rfl⟩
theorem dX1_count_36 : decode cX1_count 36 = .ok (.ifCond .eq 17, 3) ∧ 36 + 3 = 39 ∧ ((36 : Nat) : Int) + 17 = ((53 : Nat) : Int) := ⟨by decide +kernel, rfl, rfl⟩
theorem dX1_count_39 : decode cX1_count 39 = .ok (.aload_n 0, 1) ∧ 39 + 1 = 40 := ⟨by decide +kernel, rfl⟩
theorem dX1_count_40 : decode cX1_count 40 = .ok (.aload_n 1, 1) ∧ 40 + 1 = 41 := ⟨by decide +kernel, rfl⟩
theorem dX1_count_41 : decode cX1_count 41 = .ok (.bipush 48, 2) ∧ 41 + 2 = 43 := ⟨by decide +kernel, rfl⟩
theorem dX1_count_43 : decode cX1_count 43 = .ok (.iload 4, 2) ∧ 43 + 2 = 45 := ⟨by decide +kernel, rfl⟩
theorem dX1_count_45 : decode cX1_count 45 = .ok (.invokevirtual 39, 3) ∧ 45 + 3 = 48 := ⟨by decide +kernel, rfl⟩
theorem dX1_count_48 : decode cX1_count 48 = .ok (.aload_n 2, 1) ∧ 48 + 1 = 49 := ⟨by decide +kernel, rfl⟩
theorem dX1_count_49 : decode cX1_count 49 = .ok (.iload_n 3, 1) ∧ 49 + 1 = 50 := ⟨by decide +kernel, rfl⟩
theorem dX1_count_50 : decode cX1_count 50 = .ok (.invokevirtual 43, 3) ∧ 50 + 3 = 53 := ⟨by decide +kernel, rfl⟩
theorem dX1_count_53 : decode cX1_count 53 = .ok (.iinc 4 1, 3) ∧ 53 + 3 = 56 := ⟨by decide +kernel, rfl⟩
theorem dX1_count_56 : decode cX1_count 56 = .ok (.goto (-36), 3) ∧ ((56 : Nat) : Int) + (-36) = ((20 : Nat) : Int) := ⟨by decide +kernel, rfl⟩
theorem dX1_count_59 : decode cX1_count 59 = .ok (.aload_n 2, 1) ∧ 59 + 1 = 60 := ⟨by decide +kernel, rfl⟩
theorem dX1_count_60 : decode cX1_count 60 = .ok (.aload_n 1, 1) ∧ 60 + 1 = 61 := ⟨by decide +kernel, rfl⟩
theorem dX1_count_61 : decode cX1_count 61 = .ok (.iload_n 3, 1) ∧ 61 + 1 = 62 := ⟨by decide +kernel, rfl⟩
theorem dX1_count_62 : decode cX1_count 62 = .ok (.invokevirtual 47, 3) ∧ 62 + 3 = 65 := ⟨by decide +kernel, rfl⟩
theorem dX1_count_65 : decode cX1_count 65 = .ok (.istore 4, 2) ∧ 65 + 2 = 67 := ⟨by decide +kernel, rfl⟩
theorem dX1_count_67 : decode cX1_count 67 = .ok (.lconst 0, 1) ∧ 67 + 1 = 68 := ⟨by decide +kernel, rfl⟩
theorem dX1_count_68 : decode cX1_count 68 = .ok (.lstore 5, 2) ∧ 68 + 2 = 70 := ⟨by decide +kernel, rfl⟩
theorem dX1_count_70 : decode cX1_count 70 = .ok (.iconst 0, 1) ∧ 70 + 1 = 71 := ⟨by decide +kernel, rfl⟩
theorem dX1_count_71 : decode cX1_count 71 = .ok (.istore 7, 2) ∧ 71 + 2 = 73 := ⟨by decide +kernel, rfl⟩
theorem dX1_count_73 : decode cX1_count 73 = .ok (.iload 7, 2) ∧ 73 + 2 = 75 := ⟨by decide +kernel, rfl⟩
theorem dX1_count_75 : decode cX1_count 75 = .ok (.sipush 1296, 3) ∧ 75 + 3 = 78 := ⟨by decide +kernel, rfl⟩
theorem dX1_count_78 : decode cX1_count 78 = .ok (.if_icmp .ge 34, 3) ∧ 78 + 3 = 81 ∧ ((78 : Nat) : Int) + 34 = ((112 : Nat) : Int) := ⟨by decide +kernel, rfl, rfl⟩
theorem dX1_count_81 : decode cX1_count 81 = .ok (.iload 7, 2) ∧ 81 + 2 = 83 := ⟨by decide +kernel, rfl⟩
theorem dX1_count_83 : decode cX1_count 83 = .ok (.invokestatic 51, 3) ∧ 83 + 3 = 86 := ⟨by decide +kernel, rfl⟩
theorem dX1_count_86 : decode cX1_count 86 = .ok (.iload 4, 2) ∧ 86 + 2 = 88 := ⟨by decide +kernel, rfl⟩
theorem dX1_count_88 : decode cX1_count 88 = .ok (.if_icmp .ne 18, 3) ∧ 88 + 3 = 91 ∧ ((88 : Nat) : Int) + 18 = ((106 : Nat) : Int) := ⟨by decide +kernel, rfl, rfl⟩
theorem dX1_count_91 : decode cX1_count 91 = .ok (.lload 5, 2) ∧ 91 + 2 = 93 := ⟨by decide +kernel, rfl⟩
theorem dX1_count_93 : decode cX1_count 93 = .ok (.aload_n 0, 1) ∧ 93 + 1 = 94 := ⟨by decide +kernel, rfl⟩
theorem dX1_count_94 : decode cX1_count 94 = .ok (.getfield 16, 3) ∧ 94 + 3 = 97 := ⟨by decide +kernel, rfl⟩
theorem dX1_count_97 : decode cX1_count 97 = .ok (.iload 7, 2) ∧ 97 + 2 = 99 := ⟨by decide +kernel, rfl⟩
theorem dX1_count_99 : decode cX1_count 99 = .ok (.invokevirtual 55, 3) ∧ 99 + 3 = 102 := ⟨by decide +kernel, rfl⟩
theorem dX1_count_102 : decode cX1_count 102 = .ok (.i2l, 1) ∧ 102 + 1 = 103 := ⟨by decide +kernel, rfl⟩
theorem dX1_count_103 : decode cX1_count 103 = .ok (.ladd, 1) ∧ 103 + 1 = 104 := ⟨by decide +kernel, rfl⟩
theorem dX1_count_104 : decode cX1_count 104 = .ok (.lstore 5, 2) ∧ 104 + 2 = 106 := ⟨by decide +kernel, rfl⟩
theorem dX1_count_106 : decode cX1_count 106 = .ok (.iinc 7 1, 3) ∧ 106 + 3 = 109 := ⟨by decide +kernel, rfl⟩
theorem dX1_count_109 : decode cX1_count 109 = .ok (.goto (-36), 3) ∧ ((109 : Nat) : Int) + (-36) = ((73 : Nat) : Int) := ⟨by decide +kernel, rfl⟩
theorem dX1_count_112 : decode cX1_count 112 = .ok (.lload 5, 2) ∧ 112 + 2 = 114 := ⟨by decide +kernel, rfl⟩
theorem dX1_count_114 : decode cX1_count 114 = .ok (.lreturn, 1) ∧ 114 + 1 = 115 := ⟨by decide +kernel, rfl⟩
theorem dX1_include_0 : decode cX1_include 0 = .ok (.sipush 1295, 3) ∧ 0 + 3 = 3 := ⟨by decide +kernel, rfl⟩
theorem dX1_include_3 : decode cX1_include 3 = .ok (.istore 4, 2) ∧ 3 + 2 = 5 := ⟨by decide +kernel, rfl⟩
theorem dX1_include_5 : decode cX1_include 5 = .ok (.iload 4, 2) ∧ 5 + 2 = 7 := ⟨by decide +kernel, rfl⟩
theorem dX1_include_7 : decode cX1_include 7 = .ok (.ifCond .le 100, 3) ∧ 7 + 3 = 10 ∧ ((7 : Nat) : Int) + 100 = ((107 : Nat) : Int) := ⟨by decide +kernel, rfl, rfl⟩
theorem dX1_include_10 : decode cX1_include 10 = .ok (.iload 4, 2) ∧ 10 + 2 = 12 := ⟨by decide +kernel, rfl⟩
theorem dX1_include_12 : decode cX1_include 12 = .ok (.istore 5, 2) ∧ 12 + 2 = 14 := ⟨by decide +kernel, rfl⟩
theorem dX1_include_14 : decode cX1_include 14 = .ok (.iconst 1, 1) ∧ 14 + 1 = 15 := ⟨by decide +kernel, rfl⟩
theorem dX1_include_15 : decode cX1_include 15 = .ok (.istore 6, 2) ∧ 15 + 2 = 17 := ⟨by decide +kernel, rfl⟩
theorem dX1_include_17 : decode cX1_include 17 = .ok (.iconst 0, 1) ∧ 17 + 1 = 18 := ⟨by decide +kernel, rfl⟩
theorem dX1_include_18 : decode cX1_include 18 = .ok (.istore 7, 2) ∧ 18 + 2 = 20 := ⟨by decide +kernel, rfl⟩
theorem dX1_include_20 : decode cX1_include 20 = .ok (.iload 7, 2) ∧ 20 + 2 = 22 := ⟨by decide +kernel, rfl⟩
theorem dX1_include_22 : decode cX1_include 22 = .ok (.iconst 4, 1) ∧ 22 + 1 = 23 := ⟨by decide +kernel, rfl⟩
theorem dX1_include_23 : decode cX1_include 23 = .ok (.if_icmp .ge 78, 3) ∧ 23 + 3 = 26 ∧ ((23 : Nat) : Int) + 78 = ((101 : Nat) : Int) := ⟨by decide +kernel, rfl, rfl⟩
theorem dX1_include_26 : decode cX1_include 26 = .ok (.iload 5, 2) ∧ 26 + 2 = 28 := ⟨by decide +kernel, rfl⟩
theorem dX1_include_28 : decode cX1_include 28 = .ok (.bipush 6, 2) ∧ 28 + 2 = 30 := ⟨by decide +kernel, rfl⟩
theorem dX1_include_30 : decode cX1_include 30 = .ok (.irem, 1) ∧ 30 + 1 = 31 := ⟨by decide +kernel, rfl⟩
theorem dX1_include_31 : decode cX1_include 31 = .ok (.istore 8, 2) ∧ 31 + 2 = 33 := ⟨by decide +kernel, rfl⟩
theorem dX1_include_33 : decode cX1_include 33 = .ok (.iload_n 1, 1) ∧ 33 + 1 = 34 := ⟨by decide +kernel, rfl⟩
theorem dX1_include_34 : decode cX1_include 34 = .ok (.iload 7, 2) ∧ 34 + 2 = 36 := ⟨by decide +kernel, rfl⟩
theorem dX1_include_36 : decode cX1_include 36 = .ok (.ishr, 1) ∧ 36 + 1 = 37 := ⟨by decide +kernel, rfl⟩
theorem dX1_include_37 : decode cX1_include 37 = .ok (.iconst 1, 1) ∧ 37 + 1 = 38 := ⟨by decide +kernel, rfl⟩
theorem dX1_include_38 : decode cX1_include 38 = .ok (.iand, 1) ∧ 38 + 1 = 39 := ⟨by decide +kernel, rfl⟩
theorem dX1_include_39 : decode cX1_include 39 = .ok (.iconst 1, 1) ∧ 39 + 1 = 40 := ⟨by decide +kernel, rfl⟩
theorem dX1_include_40 : decode cX1_include 40 = .ok (.if_icmp .ne 41, 3) ∧ 40 + 3 = 43 ∧ ((40 : Nat) : Int) + 41 = ((81 : Nat) : Int) := ⟨by decide +kernel, rfl, rfl⟩
theorem dX1_include_43 : decode cX1_include 43 = .ok (.iload 8, 2) ∧ 43 + 2 = 45 := ⟨by decide +kernel, rfl⟩
theorem dX1_include_45 : decode cX1_include 45 = .ok (.ifCond .le 36, 3) ∧ 45 + 3 = 48 ∧ ((45 : Nat) : Int) + 36 = ((81 : Nat) : Int) := ⟨by decide +kernel, rfl, rfl⟩
theorem dX1_include_48 : decode cX1_include 48 = .ok (.iload 8, 2) ∧ 48 + 2 = 50 := ⟨by decide +kernel, rfl⟩
theorem dX1_include_50 : decode cX1_include 50 = .ok (.aload_n 2, 1) ∧ 50 + 1 = 51 := ⟨by decide +kernel, rfl⟩
theorem dX1_include_51 : decode cX1_include 51 = .ok (.iload_n 3, 1) ∧ 51 + 1 = 52 := ⟨by decide +kernel, rfl⟩
theorem dX1_include_52 : decode cX1_include 52 = .ok (.iload 7, 2) ∧ 52 + 2 = 54 := ⟨by decide +kernel, rfl⟩
theorem dX1_include_54 : decode cX1_include 54 = .ok (.invokevirtual 57, 3) ∧ 54 + 3 = 57 := ⟨by decide +kernel, rfl⟩
theorem dX1_include_57 : decode cX1_include 57 = .ok (.if_icmp .gt 24, 3) ∧ 57 + 3 = 60 ∧ ((57 : Nat) : Int) + 24 = ((81 : Nat) : Int) := ⟨by decide +kernel, rfl, rfl⟩
theorem dX1_include_60 : decode cX1_include 60 = .ok (.aload_n 0, 1) ∧ 60 + 1 = 61 := ⟨by decide +kernel, rfl⟩
theorem dX1_include_61 : decode cX1_include 61 = .ok (.getfield 16, 3) ∧ 61 + 3 = 64 := ⟨by decide +kernel, rfl⟩
theorem dX1_include_64 : decode cX1_include 64 = .ok (.iload 4, 2) ∧ 64 + 2 = 66 := ⟨by decide +kernel, rfl⟩
theorem dX1_include_66 : decode cX1_include 66 = .ok (.aload_n 0, 1) ∧ 66 + 1 = 67 := ⟨by decide +kernel, rfl⟩
theorem dX1_include_67 : decode cX1_include 67 = .ok (.getfield 16, 3) ∧ 67 + 3 = 70 := ⟨by decide +kernel, rfl⟩
theorem dX1_include_70 : decode cX1_include 70 = .ok (.iload 4, 2) ∧ 70 + 2 = 72 := ⟨by decide +kernel, rfl⟩
theorem dX1_include_72 : decode cX1_include 72 = .ok (.iload 6, 2) ∧ 72 + 2 = 74 := ⟨by decide +kernel, rfl⟩
theorem dX1_include_74 : decode cX1_include 74 = .ok (.isub, 1) ∧ 74 + 1 = 75 := ⟨by decide +kernel, rfl⟩
theorem dX1_include_75 : decode cX1_include 75 = .ok (.invokevirtual 55, 3) ∧ 75 + 3 = 78 := ⟨by decide +kernel, rfl⟩
theorem dX1_include_78 : decode cX1_include 78 = .ok (.invokevirtual 60, 3) ∧ 78 + 3 = 81 := ⟨by decide +kernel, rfl⟩
theorem dX1_include_81 : decode cX1_include 81 = .ok (.iload 5, 2) ∧ 81 + 2 = 83 := ⟨by decide +kernel, rfl⟩
theorem dX1_include_83 : decode cX1_include 83 = .ok (.bipush 6, 2) ∧ 83 + 2 = 85 := ⟨by decide +kernel, rfl⟩
theorem dX1_include_85 : decode cX1_include 85 = .ok (.idiv, 1) ∧ 85 + 1 = 86 := ⟨by decide +kernel, rfl⟩
theorem dX1_include_86 : decode cX1_include 86 = .ok (.istore 5, 2) ∧ 86 + 2 = 88 := ⟨by decide +kernel, rfl⟩
theorem dX1_include_88 : decode cX1_include 88 = .ok (.iload 6, 2) ∧ 88 + 2 = 90 := ⟨by decide +kernel, rfl⟩
theorem dX1_include_90 : decode cX1_include 90 = .ok (.bipush 6, 2) ∧ 90 + 2 = 92 := ⟨by decide +kernel, rfl⟩
theorem dX1_include_92 : decode cX1_include 92 = .ok (.imul, 1) ∧ 92 + 1 = 93 := ⟨by decide +kernel, rfl⟩
theorem dX1_include_93 : decode cX1_include 93 = .ok (.istore 6, 2) ∧ 93 + 2 = 95 := ⟨by decide +kernel, rfl⟩
theorem dX1_include_95 : decode cX1_include 95 = .ok (.iinc 7 1, 3) ∧ 95 + 3 = 98 := ⟨by decide +kernel, rfl⟩
theorem dX1_include_98 : decode cX1_include 98 = .ok (.goto (-78), 3) ∧ ((98 : Nat) : Int) + (-78) = ((20 : Nat) : Int) := ⟨by decide +kernel, rfl⟩
theorem dX1_include_101 : decode cX1_include 101 = .ok (.iinc 4 (-1), 3) ∧ 101 + 3 = 104 := ⟨by decide +kernel, rfl⟩
theorem dX1_include_104 : decode cX1_include 104 = .ok (.goto (-99), 3) ∧ ((104 : Nat) : Int) + (-99) = ((5 : Nat) : Int) := ⟨by decide +kernel, rfl⟩
theorem dX1_include_107 : decode cX1_include 107 = .ok (.return_, 1) ∧ 107 + 1 = 108 := ⟨by decide +kernel, rfl⟩
theorem dX1_sumOfDigits_0 : decode cX1_sumOfDigits 0 = .ok (.iload_n 0, 1) ∧ 0 + 1 = 1 := ⟨by decide +kernel, rfl⟩
theorem dX1_sumOfDigits_1 : decode cX1_sumOfDigits 1 = .ok (.istore_n 1, 1) ∧ 1 + 1 = 2 := ⟨by decide +kernel, rfl⟩
theorem dX1_sumOfDigits_2 : decode cX1_sumOfDigits 2 = .ok (.iconst 0, 1) ∧ 2 + 1 = 3 := ⟨by decide +kernel, rfl⟩
theorem dX1_sumOfDigits_3 : decode cX1_sumOfDigits 3 = .ok (.istore_n 2, 1) ∧ 3 + 1 = 4 := ⟨by decide +kernel, rfl⟩
theorem dX1_sumOfDigits_4 : decode cX1_sumOfDigits 4 = .ok (.iconst 0, 1) ∧ 4 + 1 = 5 := ⟨by decide +kernel, rfl⟩
theorem dX1_sumOfDigits_5 : decode cX1_sumOfDigits 5 = .ok (.istore_n 3, 1) ∧ 5 + 1 = 6 := ⟨by decide +kernel, rfl⟩
theorem dX1_sumOfDigits_6 : decode cX1_sumOfDigits 6 = .ok (.iload_n 3, 1) ∧ 6 + 1 = 7 := ⟨by decide +kernel, rfl⟩
theorem dX1_sumOfDigits_7 : decode cX1_sumOfDigits 7 = .ok (.iconst 4, 1) ∧ 7 + 1 = 8 := ⟨by decide +kernel, rfl⟩
theorem dX1_sumOfDigits_8 : decode cX1_sumOfDigits 8 = .ok (.if_icmp .ge 21, 3) ∧ 8 + 3 = 11 ∧ ((8 : Nat) : Int) + 21 = ((29 : Nat) : Int) := ⟨by decide +kernel, rfl, rfl⟩
theorem dX1_sumOfDigits_11 : decode cX1_sumOfDigits 11 = .ok (.iload_n 2, 1) ∧ 11 + 1 = 12 := ⟨by decide +kernel, rfl⟩
theorem dX1_sumOfDigits_12 : decode cX1_sumOfDigits 12 = .ok (.iload_n 1, 1) ∧ 12 + 1 = 13 := ⟨by decide +kernel, rfl⟩
theorem dX1_sumOfDigits_13 : decode cX1_sumOfDigits 13 = .ok (.bipush 6, 2) ∧ 13 + 2 = 15 := ⟨by decide +kernel, rfl⟩
theorem dX1_sumOfDigits_15 : decode cX1_sumOfDigits 15 = .ok (.irem, 1) ∧ 15 + 1 = 16 := ⟨by decide +kernel, rfl⟩
theorem dX1_sumOfDigits_16 : decode cX1_sumOfDigits 16 = .ok (.iadd, 1) ∧ 16 + 1 = 17 := ⟨by decide +kernel, rfl⟩
theorem dX1_sumOfDigits_17 : decode cX1_sumOfDigits 17 = .ok (.istore_n 2, 1) ∧ 17 + 1 = 18 := ⟨by decide +kernel, rfl⟩
theorem dX1_sumOfDigits_18 : decode cX1_sumOfDigits 18 = .ok (.iload_n 1, 1) ∧ 18 + 1 = 19 := ⟨by decide +kernel, rfl⟩
theorem dX1_sumOfDigits_19 : decode cX1_sumOfDigits 19 = .ok (.bipush 6, 2) ∧ 19 + 2 = 21 := ⟨by decide +kernel, rfl⟩
theorem dX1_sumOfDigits_21 : decode cX1_sumOfDigits 21 = .ok (.idiv, 1) ∧ 21 + 1 = 22 := ⟨by decide +kernel, rfl⟩
theorem dX1_sumOfDigits_22 : decode cX1_sumOfDigits 22 = .ok (.istore_n 1, 1) ∧ 22 + 1 = 23 := ⟨by decide +kernel, rfl⟩
theorem dX1_sumOfDigits_23 : decode cX1_sumOfDigits 23 = .ok (.iinc 3 1, 3) ∧ 23 + 3 = 26 := ⟨by decide +kernel, rfl⟩
theorem dX1_sumOfDigits_26 : decode cX1_sumOfDigits 26 = .ok (.goto (-20), 3) ∧ ((26 : Nat) : Int) + (-20) = ((6 : Nat) : Int) := ⟨by decide +kernel, rfl⟩
theorem dX1_sumOfDigits_29 : decode cX1_sumOfDigits 29 = .ok (.iload_n 2, 1) ∧ 29 + 1 = 30 := ⟨by decide +kernel, rfl⟩
theorem dX1_sumOfDigits_30 : decode cX1_sumOfDigits 30 = .ok (.ireturn, 1) ∧ 30 + 1 = 31 := ⟨by decide +kernel, rfl⟩
theorem dX2_init_0 : decode cX2_init 0 = .ok (.aload_n 0, 1) ∧ 0 + 1 = 1 := ⟨by decide +kernel, rfl⟩
theorem dX2_init_1 : decode cX2_init 1 = .ok (.invokespecial 3, 3) ∧ 1 + 3 = 4 := ⟨by decide +kernel, rfl⟩
theorem dX2_init_4 : decode cX2_init 4 = .ok (.aload_n 0, 1) ∧ 4 + 1 = 5 := ⟨by decide +kernel, rfl⟩
theorem dX2_init_5 : decode cX2_init 5 = .ok (.bipush 24, 2) ∧ 5 + 2 = 7 := ⟨by decide +kernel, rfl⟩
theorem dX2_init_7 : decode cX2_init 7 = .ok (.anewarray 9, 3) ∧ 7 + 3 = 10 := ⟨by decide +kernel, rfl⟩
theorem dX2_init_10 : decode cX2_init 10 = .ok (.putfield 11, 3) ∧ 10 + 3 = 13 := ⟨by decide +kernel, rfl⟩
theorem dX2_init_13 : decode cX2_init 13 = .ok (.aload_n 0, 1) ∧ 13 + 1 = 14 := ⟨by decide +kernel, rfl⟩
theorem dX2_init_14 : decode cX2_init 14 = .ok (.iconst 0, 1) ∧ 14 + 1 = 15 := ⟨by decide +kernel, rfl⟩
theorem dX2_init_15 : decode cX2_init 15 = .ok (.putfield 17, 3) ∧ 15 + 3 = 18 := ⟨by decide +kernel, rfl⟩
theorem dX2_init_18 : decode cX2_init 18 = .ok (.aload_n 0, 1) ∧ 18 + 1 = 19 := ⟨by decide +kernel, rfl⟩
theorem dX2_init_19 : decode cX2_init 19 = .ok (.iconst 0, 1) ∧ 19 + 1 = 20 := ⟨by decide +kernel, rfl⟩
theorem dX2_init_20 : decode cX2_init 20 = .ok (.putfield 21, 3) ∧ 20 + 3 = 23 := ⟨by decide +kernel, rfl⟩
theorem dX2_init_23 : decode cX2_init 23 = .ok (.iconst 0, 1) ∧ 23 + 1 = 24 := ⟨by decide +kernel, rfl⟩
theorem dX2_init_24 : decode cX2_init 24 = .ok (.istore_n 1, 1) ∧ 24 + 1 = 25 := ⟨by decide +kernel, rfl⟩
theorem dX2_init_25 : decode cX2_init 25 = .ok (.iload_n 1, 1) ∧ 25 + 1 = 26 := ⟨by decide +kernel, rfl⟩
theorem dX2_init_26 : decode cX2_init 26 = .ok (.aload_n 0, 1) ∧ 26 + 1 = 27 := ⟨by decide +kernel, rfl⟩
theorem dX2_init_27 : decode cX2_init 27 = .ok (.getfield 11, 3) ∧ 27 + 3 = 30 := ⟨by decide +kernel, rfl⟩
theorem dX2_init_30 : decode cX2_init 30 = .ok (.arraylength, 1) ∧ 30 + 1 = 31 := ⟨by decide +kernel, rfl⟩
theorem dX2_init_31 : decode cX2_init 31 = .ok (.if_icmp .ge 22, 3) ∧ 31 + 3 = 34 ∧ ((31 : Nat) : Int) + 22 = ((53 : Nat) : Int) := ⟨by decide +kernel, rfl, rfl⟩
theorem dX2_init_34 : decode cX2_init 34 = .ok (.aload_n 0, 1) ∧ 34 + 1 = 35 := ⟨by decide +kernel, rfl⟩
theorem dX2_init_35 : decode cX2_init 35 = .ok (.getfield 11, 3) ∧ 35 + 3 = 38 := ⟨by decide +kernel, rfl⟩
theorem dX2_init_38 : decode cX2_init 38 = .ok (.iload_n 1, 1) ∧ 38 + 1 = 39 := ⟨by decide +kernel, rfl⟩
theorem dX2_init_39 : decode cX2_init 39 = .ok (.new 9, 3) ∧ 39 + 3 = 42 := ⟨by decide +kernel, rfl⟩
theorem dX2_init_42 : decode cX2_init 42 = .ok (.dup, 1) ∧ 42 + 1 = 43 := ⟨by decide +kernel, rfl⟩
theorem dX2_init_43 : decode cX2_init 43 = .ok (.invokespecial 24, 3) ∧ 43 + 3 = 46 := ⟨by decide +kernel, rfl⟩
theorem dX2_init_46 : decode cX2_init 46 = .ok (.aastore, 1) ∧ 46 + 1 = 47 := ⟨by decide +kernel, rfl⟩
theorem dX2_init_47 : decode cX2_init 47 = .ok (.iinc 1 1, 3) ∧ 47 + 3 = 50 := ⟨by decide +kernel, rfl⟩
theorem dX2_init_50 : decode cX2_init 50 = .ok (.goto (-25), 3) ∧ ((50 : Nat) : Int) + (-25) = ((25 : Nat) : Int) := ⟨by decide +kernel, rfl⟩
theorem dX2_init_53 : decode cX2_init 53 = .ok (.return_, 1) ∧ 53 + 1 = 54 := ⟨by decide +kernel, rfl⟩
theorem dX2_size_0 : decode cX2_size 0 = .ok (.aload_n 0, 1) ∧ 0 + 1 = 1 := ⟨by decide +kernel, rfl⟩
theorem dX2_size_1 : decode cX2_size 1 = .ok (.getfield 21, 3) ∧ 1 + 3 = 4 := ⟨by decide +kernel, rfl⟩
theorem dX2_size_4 : decode cX2_size 4 = .ok (.ireturn, 1) ∧ 4 + 1 = 5 := ⟨by decide +kernel, rfl⟩
theorem dX2_keep_0 : decode cX2_keep 0 = .ok (.aload_n 0, 1) ∧ 0 + 1 = 1 := ⟨by decide +kernel, rfl⟩
theorem dX2_keep_1 : decode cX2_keep 1 = .ok (.aload_n 0, 1) ∧ 1 + 1 = 2 := ⟨by decide +kernel, rfl⟩
theorem dX2_keep_2 : decode cX2_keep 2 = .ok (.getfield 17, 3) ∧ 2 + 3 = 5 := ⟨by decide +kernel, rfl⟩
theorem dX2_keep_5 : decode cX2_keep 5 = .ok (.invokevirtual 25, 3) ∧ 5 + 3 = 8 := ⟨by decide +kernel, rfl⟩
theorem dX2_keep_8 : decode cX2_keep 8 = .ok (.astore_n 2, 1) ∧ 8 + 1 = 9 := ⟨by decide +kernel, rfl⟩
theorem dX2_keep_9 : decode cX2_keep 9 = .ok (.aload_n 2, 1) ∧ 9 + 1 = 10 := ⟨by decide +kernel, rfl⟩
theorem dX2_keep_10 : decode cX2_keep 10 = .ok (.ifnull 46, 3) ∧ 10 + 3 = 13 ∧ ((10 : Nat) : Int) + 46 = ((56 : Nat) : Int) := ⟨by decide +kernel, rfl, rfl⟩
theorem dX2_keep_13 : decode cX2_keep 13 = .ok (.aload_n 2, 1) ∧ 13 + 1 = 14 := ⟨by decide +kernel, rfl⟩
theorem dX2_keep_14 : decode cX2_keep 14 = .ok (.aload_n 1, 1) ∧ 14 + 1 = 15 := ⟨by decide +kernel, rfl⟩
theorem dX2_keep_15 : decode cX2_keep 15 = .ok (.invokevirtual 29, 3) ∧ 15 + 3 = 18 := ⟨by decide +kernel, rfl⟩
theorem dX2_keep_18 : decode cX2_keep 18 = .ok (.aload_n 0, 1) ∧ 18 + 1 = 19 := ⟨by decide +kernel, rfl⟩
theorem dX2_keep_19 : decode cX2_keep 19 = .ok (.aload_n 0, 1) ∧ 19 + 1 = 20 := ⟨by decide +kernel, rfl⟩
theorem dX2_keep_20 : decode cX2_keep 20 = .ok (.getfield 17, 3) ∧ 20 + 3 = 23 := ⟨by decide +kernel, rfl⟩
theorem dX2_keep_23 : decode cX2_keep 23 = .ok (.bipush 23, 2) ∧ 23 + 2 = 25 := ⟨by decide +kernel, rfl⟩
theorem dX2_keep_25 : decode cX2_keep 25 = .ok (.if_icmp .ne 7, 3) ∧ 25 + 3 = 28 ∧ ((25 : Nat) : Int) + 7 = ((32 : Nat) : Int) := ⟨by decide +kernel, rfl, rfl⟩
theorem dX2_keep_28 : decode cX2_keep 28 = .ok (.iconst 0, 1) ∧ 28 + 1 = 29 := ⟨by decide +kernel, rfl⟩
theorem dX2_keep_29 : decode cX2_keep 29 = .ok (.goto 9, 3) ∧ ((29 : Nat) : Int) + 9 = ((38 : Nat) : Int) := ⟨by decide +kernel, rfl⟩
theorem dX2_keep_32 : decode cX2_keep 32 = .ok (.aload_n 0, 1) ∧ 32 + 1 = 33 := ⟨by decide +kernel, rfl⟩
theorem dX2_keep_33 : decode cX2_keep 33 = .ok (.getfield 17, 3) ∧ 33 + 3 = 36 := ⟨by decide +kernel, rfl⟩
theorem dX2_keep_36 : decode cX2_keep 36 = .ok (.iconst 1, 1) ∧ 36 + 1 = 37 := ⟨by decide +kernel, rfl⟩
theorem dX2_keep_37 : decode cX2_keep 37 = .ok (.iadd, 1) ∧ 37 + 1 = 38 := ⟨by decide +kernel, rfl⟩
theorem dX2_keep_38 : decode cX2_keep 38 = .ok (.putfield 17, 3) ∧ 38 + 3 = 41 := ⟨by decide +kernel, rfl⟩
theorem dX2_keep_41 : decode cX2_keep 41 = .ok (.aload_n 0, 1) ∧ 41 + 1 = 42 := ⟨by decide +kernel, rfl⟩
theorem dX2_keep_42 : decode cX2_keep 42 = .ok (.aload_n 0, 1) ∧ 42 + 1 = 43 := ⟨by decide +kernel, rfl⟩
theorem dX2_keep_43 : decode cX2_keep 43 = .ok (.getfield 21, 3) ∧ 43 + 3 = 46 := ⟨by decide +kernel, rfl⟩
theorem dX2_keep_46 : decode cX2_keep 46 = .ok (.iconst 1, 1) ∧ 46 + 1 = 47 := ⟨by decide +kernel, rfl⟩
theorem dX2_keep_47 : decode cX2_keep 47 = .ok (.iadd, 1) ∧ 47 + 1 = 48 := ⟨by decide +kernel, rfl⟩
theorem dX2_keep_48 : decode cX2_keep 48 = .ok (.bipush 24, 2) ∧ 48 + 2 = 50 := ⟨by decide +kernel, rfl⟩
theorem dX2_keep_50 : decode cX2_keep 50 = .ok (.invokestatic 33, 3) ∧ 50 + 3 = 53 := ⟨by decide +kernel, rfl⟩
theorem dX2_keep_53 : decode cX2_keep 53 = .ok (.putfield 21, 3) ∧ 53 + 3 = 56 := ⟨by decide +kernel, rfl⟩
theorem dX2_keep_56 : decode cX2_keep 56 = .ok (.return_, 1) ∧ 56 + 1 = 57 := ⟨by decide +kernel, rfl⟩
theorem dX2_restore_0 : decode cX2_restore 0 = .ok (.aload_n 0, 1) ∧ 0 + 1 = 1 := ⟨by decide +kernel, rfl⟩
theorem dX2_restore_1 : decode cX2_restore 1 = .ok (.getfield 17, 3) ∧ 1 + 3 = 4 := ⟨by decide +kernel, rfl⟩
theorem dX2_restore_4 : decode cX2_restore 4 = .ok (.ifCond .ne 8, 3) ∧ 4 + 3 = 7 ∧ ((4 : Nat) : Int) + 8 = ((12 : Nat) : Int) := ⟨by decide +kernel, rfl, rfl⟩
theorem dX2_restore_7 : decode cX2_restore 7 = .ok (.bipush 23, 2) ∧ 7 + 2 = 9 := ⟨by decide +kernel, rfl⟩
theorem dX2_restore_9 : decode cX2_restore 9 = .ok (.goto 9, 3) ∧ ((9 : Nat) : Int) + 9 = ((18 : Nat) : Int) := ⟨by decide +kernel, rfl⟩
theorem dX2_restore_12 : decode cX2_restore 12 = .ok (.aload_n 0, 1) ∧ 12 + 1 = 13 := ⟨by decide +kernel, rfl⟩
theorem dX2_restore_13 : decode cX2_restore 13 = .ok (.getfield 17, 3) ∧ 13 + 3 = 16 := ⟨by decide +kernel, rfl⟩
theorem dX2_restore_16 : decode cX2_restore 16 = .ok (.iconst 1, 1) ∧ 16 + 1 = 17 := ⟨by decide +kernel, rfl⟩
theorem dX2_restore_17 : decode cX2_restore 17 = .ok (.isub, 1) ∧ 17 + 1 = 18 := ⟨by decide +kernel, rfl⟩
theorem dX2_restore_18 : decode cX2_restore 18 = .ok (.istore_n 2, 1) ∧ 18 + 1 = 19 := ⟨by decide +kernel, rfl⟩
theorem dX2_restore_19 : decode cX2_restore 19 = .ok (.aload_n 0, 1) ∧ 19 + 1 = 20 := ⟨by decide +kernel, rfl⟩
theorem dX2_restore_20 : decode cX2_restore 20 = .ok (.iload_n 2, 1) ∧ 20 + 1 = 21 := ⟨by decide +kernel, rfl⟩
theorem dX2_restore_21 : decode cX2_restore 21 = .ok (.invokevirtual 25, 3) ∧ 21 + 3 = 24 := ⟨by decide +kernel, rfl⟩
theorem dX2_restore_24 : decode cX2_restore 24 = .ok (.astore_n 3, 1) ∧ 24 + 1 = 25 := ⟨by decide +kernel, rfl⟩
theorem dX2_restore_25 : decode cX2_restore 25 = .ok (.aload_n 0, 1) ∧ 25 + 1 = 26 := ⟨by decide +kernel, rfl⟩
theorem dX2_restore_26 : decode cX2_restore 26 = .ok (.getfield 21, 3) ∧ 26 + 3 = 29 := ⟨by decide +kernel, rfl⟩
theorem dX2_restore_29 : decode cX2_restore 29 = .ok (.ifCond .le 27, 3) ∧ 29 + 3 = 32 ∧ ((29 : Nat) : Int) + 27 = ((56 : Nat) : Int) := ⟨by decide +kernel, rfl, rfl⟩
theorem dX2_restore_32 : decode cX2_restore 32 = .ok (.aload_n 3, 1) ∧ 32 + 1 = 33 := ⟨by decide +kernel, rfl⟩
theorem dX2_restore_33 : decode cX2_restore 33 = .ok (.ifnull 23, 3) ∧ 33 + 3 = 36 ∧ ((33 : Nat) : Int) + 23 = ((56 : Nat) : Int) := ⟨by decide +kernel, rfl, rfl⟩
theorem dX2_restore_36 : decode cX2_restore 36 = .ok (.aload_n 1, 1) ∧ 36 + 1 = 37 := ⟨by decide +kernel, rfl⟩
theorem dX2_restore_37 : decode cX2_restore 37 = .ok (.aload_n 3, 1) ∧ 37 + 1 = 38 := ⟨by decide +kernel, rfl⟩
theorem dX2_restore_38 : decode cX2_restore 38 = .ok (.invokevirtual 29, 3) ∧ 38 + 3 = 41 := ⟨by decide +kernel, rfl⟩
theorem dX2_restore_41 : decode cX2_restore 41 = .ok (.aload_n 0, 1) ∧ 41 + 1 = 42 := ⟨by decide +kernel, rfl⟩
theorem dX2_restore_42 : decode cX2_restore 42 = .ok (.iload_n 2, 1) ∧ 42 + 1 = 43 := ⟨by decide +kernel, rfl⟩
theorem dX2_restore_43 : decode cX2_restore 43 = .ok (.putfield 17, 3) ∧ 43 + 3 = 46 := ⟨by decide +kernel, rfl⟩
theorem dX2_restore_46 : decode cX2_restore 46 = .ok (.aload_n 0, 1) ∧ 46 + 1 = 47 := ⟨by decide +kernel, rfl⟩
theorem dX2_restore_47 : decode cX2_restore 47 = .ok (.dup, 1) ∧ 47 + 1 = 48 := ⟨by decide +kernel, rfl⟩
theorem dX2_restore_48 : decode cX2_restore 48 = .ok (.getfield 21, 3) ∧ 48 + 3 = 51 := ⟨by decide +kernel, rfl⟩
theorem dX2_restore_51 : decode cX2_restore 51 = .ok (.iconst 1, 1) ∧ 51 + 1 = 52 := ⟨by decide +kernel, rfl⟩
theorem dX2_restore_52 : decode cX2_restore 52 = .ok (.isub, 1) ∧ 52 + 1 = 53 := ⟨by decide +kernel, rfl⟩
theorem dX2_restore_53 : decode cX2_restore 53 = .ok (.putfield 21, 3) ∧ 53 + 3 = 56 := ⟨by decide +kernel, rfl⟩
theorem dX2_restore_56 : decode cX2_restore 56 = .ok (.return_, 1) ∧ 56 + 1 = 57 := ⟨by decide +kernel, rfl⟩
theorem dX2_pageAt_0 : decode cX2_pageAt 0 = .ok (.iload_n 1, 1) ∧ 0 + 1 = 1 := ⟨by decide +kernel, rfl⟩
theorem dX2_pageAt_1 : decode cX2_pageAt 1 = .ok (.ifCond .lt 21, 3) ∧ 1 + 3 = 4 ∧ ((1 : Nat) : Int) + 21 = ((22 : Nat) : Int) := ⟨by decide +kernel, rfl, rfl⟩
theorem dX2_pageAt_4 : decode cX2_pageAt 4 = .ok (.iload_n 1, 1) ∧ 4 + 1 = 5 := ⟨by decide +kernel, rfl⟩
theorem dX2_pageAt_5 : decode cX2_pageAt 5 = .ok (.aload_n 0, 1) ∧ 5 + 1 = 6 := ⟨by decide +kernel, rfl⟩
theorem dX2_pageAt_6 : decode cX2_pageAt 6 = .ok (.getfield 11, 3) ∧ 6 + 3 = 9 := ⟨by decide +kernel, rfl⟩
theorem dX2_pageAt_9 : decode cX2_pageAt 9 = .ok (.arraylength, 1) ∧ 9 + 1 = 10 := ⟨by decide +kernel, rfl⟩
theorem dX2_pageAt_10 : decode cX2_pageAt 10 = .ok (.if_icmp .ge 12, 3) ∧ 10 + 3 = 13 ∧ ((10 : Nat) : Int) + 12 = ((22 : Nat) : Int) := ⟨by decide +kernel, rfl, rfl⟩
theorem dX2_pageAt_13 : decode cX2_pageAt 13 = .ok (.aload_n 0, 1) ∧ 13 + 1 = 14 := ⟨by decide +kernel, rfl⟩
theorem dX2_pageAt_14 : decode cX2_pageAt 14 = .ok (.getfield 11, 3) ∧ 14 + 3 = 17 := ⟨by decide +kernel, rfl⟩
theorem dX2_pageAt_17 : decode cX2_pageAt 17 = .ok (.iload_n 1, 1) ∧ 17 + 1 = 18 := ⟨by decide +kernel, rfl⟩
theorem dX2_pageAt_18 : decode cX2_pageAt 18 = .ok (.aaload, 1) ∧ 18 + 1 = 19 := ⟨by decide +kernel, rfl⟩
theorem dX2_pageAt_19 : decode cX2_pageAt 19 = .ok (.goto 4, 3) ∧ ((19 : Nat) : Int) + 4 = ((23 : Nat) : Int) := ⟨by decide +kernel, rfl⟩
theorem dX2_pageAt_22 : decode cX2_pageAt 22 = .ok (.aconst_null, 1) ∧ 22 + 1 = 23 := ⟨by decide +kernel, rfl⟩
theorem dX2_pageAt_23 : decode cX2_pageAt 23 = .ok (.areturn, 1) ∧ 23 + 1 = 24 := ⟨by decide +kernel, rfl⟩
theorem dX3_init_0 : decode cX3_init 0 = .ok (.aload_n 0, 1) ∧ 0 + 1 = 1 := ⟨by decide +kernel, rfl⟩
theorem dX3_init_1 : decode cX3_init 1 = .ok (.invokespecial 3, 3) ∧ 1 + 3 = 4 := ⟨by decide +kernel, rfl⟩
theorem dX3_init_4 : decode cX3_init 4 = .ok (.aload_n 0, 1) ∧ 4 + 1 = 5 := ⟨by decide +kernel, rfl⟩
theorem dX3_init_5 : decode cX3_init 5 = .ok (.sipush 159, 3) ∧ 5 + 3 = 8 := ⟨by decide +kernel, rfl⟩
theorem dX3_init_8 : decode cX3_init 8 = .ok (.newarray .int, 2) ∧ 8 + 2 = 10 := ⟨by decide +kernel, rfl⟩
theorem dX3_init_10 : decode cX3_init 10 = .ok (.putfield 9, 3) ∧ 10 + 3 = 13 := ⟨by decide +kernel, rfl⟩
theorem dX3_init_13 : decode cX3_init 13 = .ok (.iconst 0, 1) ∧ 13 + 1 = 14 := ⟨by decide +kernel, rfl⟩
theorem dX3_init_14 : decode cX3_init 14 = .ok (.istore_n 1, 1) ∧ 14 + 1 = 15 := ⟨by decide +kernel, rfl⟩
theorem dX3_init_15 : decode cX3_init 15 = .ok (.iload_n 1, 1) ∧ 15 + 1 = 16 := ⟨by decide +kernel, rfl⟩
theorem dX3_init_16 : decode cX3_init 16 = .ok (.iconst 4, 1) ∧ 16 + 1 = 17 := ⟨by decide +kernel, rfl⟩
theorem dX3_init_17 : decode cX3_init 17 = .ok (.if_icmp .ge 28, 3) ∧ 17 + 3 = 20 ∧ ((17 : Nat) : Int) + 28 = ((45 : Nat) : Int) := ⟨by decide +kernel, rfl, rfl⟩
theorem dX3_init_20 : decode cX3_init 20 = .ok (.aload_n 0, 1) ∧ 20 + 1 = 21 := ⟨by decide +kernel, rfl⟩
theorem dX3_init_21 : decode cX3_init 21 = .ok (.sipush 148, 3) ∧ 21 + 3 = 24 := ⟨by decide +kernel, rfl⟩
theorem dX3_init_24 : decode cX3_init 24 = .ok (.iload_n 1, 1) ∧ 24 + 1 = 25 := ⟨by decide +kernel, rfl⟩
theorem dX3_init_25 : decode cX3_init 25 = .ok (.bipush (-9), 2) ∧ 25 + 2 = 27 := ⟨by decide +kernel, rfl⟩
theorem dX3_init_27 : decode cX3_init 27 = .ok (.invokevirtual 15, 3) ∧ 27 + 3 = 30 := ⟨by decide +kernel, rfl⟩
theorem dX3_init_30 : decode cX3_init 30 = .ok (.aload_n 0, 1) ∧ 30 + 1 = 31 := ⟨by decide +kernel, rfl⟩
theorem dX3_init_31 : decode cX3_init 31 = .ok (.sipush 152, 3) ∧ 31 + 3 = 34 := ⟨by decide +kernel, rfl⟩
theorem dX3_init_34 : decode cX3_init 34 = .ok (.iload_n 1, 1) ∧ 34 + 1 = 35 := ⟨by decide +kernel, rfl⟩
theorem dX3_init_35 : decode cX3_init 35 = .ok (.iload_n 1, 1) ∧ 35 + 1 = 36 := ⟨by decide +kernel, rfl⟩
theorem dX3_init_36 : decode cX3_init 36 = .ok (.invokevirtual 15, 3) ∧ 36 + 3 = 39 := ⟨by decide +kernel, rfl⟩
theorem dX3_init_39 : decode cX3_init 39 = .ok (.iinc 1 1, 3) ∧ 39 + 3 = 42 := ⟨by decide +kernel, rfl⟩
theorem dX3_init_42 : decode cX3_init 42 = .ok (.goto (-27), 3) ∧ ((42 : Nat) : Int) + (-27) = ((15 : Nat) : Int) := ⟨by decide +kernel, rfl⟩
theorem dX3_init_45 : decode cX3_init 45 = .ok (.return_, 1) ∧ 45 + 1 = 46 := ⟨by decide +kernel, rfl⟩
theorem dX3_get_0 : decode cX3_get 0 = .ok (.iload_n 1, 1) ∧ 0 + 1 = 1 := ⟨by decide +kernel, rfl⟩
theorem dX3_get_1 : decode cX3_get 1 = .ok (.iload_n 2, 1) ∧ 1 + 1 = 2 := ⟨by decide +kernel, rfl⟩
theorem dX3_get_2 : decode cX3_get 2 = .ok (.iadd, 1) ∧ 2 + 1 = 3 := ⟨by decide +kernel, rfl⟩
theorem dX3_get_3 : decode cX3_get 3 = .ok (.istore_n 3, 1) ∧ 3 + 1 = 4 := ⟨by decide +kernel, rfl⟩
theorem dX3_get_4 : decode cX3_get 4 = .ok (.iload_n 3, 1) ∧ 4 + 1 = 5 := ⟨by decide +kernel, rfl⟩
theorem dX3_get_5 : decode cX3_get 5 = .ok (.ifCond .lt 21, 3) ∧ 5 + 3 = 8 ∧ ((5 : Nat) : Int) + 21 = ((26 : Nat) : Int) := ⟨by decide +kernel, rfl, rfl⟩
theorem dX3_get_8 : decode cX3_get 8 = .ok (.iload_n 3, 1) ∧ 8 + 1 = 9 := ⟨by decide +kernel, rfl⟩
theorem dX3_get_9 : decode cX3_get 9 = .ok (.aload_n 0, 1) ∧ 9 + 1 = 10 := ⟨by decide +kernel, rfl⟩
theorem dX3_get_10 : decode cX3_get 10 = .ok (.getfield 9, 3) ∧ 10 + 3 = 13 := ⟨by decide +kernel, rfl⟩
theorem dX3_get_13 : decode cX3_get 13 = .ok (.arraylength, 1) ∧ 13 + 1 = 14 := ⟨by decide +kernel, rfl⟩
theorem dX3_get_14 : decode cX3_get 14 = .ok (.if_icmp .ge 12, 3) ∧ 14 + 3 = 17 ∧ ((14 : Nat) : Int) + 12 = ((26 : Nat) : Int) := ⟨by decide +kernel, rfl, rfl⟩
theorem dX3_get_17 : decode cX3_get 17 = .ok (.aload_n 0, 1) ∧ 17 + 1 = 18 := ⟨by decide +kernel, rfl⟩
theorem dX3_get_18 : decode cX3_get 18 = .ok (.getfield 9, 3) ∧ 18 + 3 = 21 := ⟨by decide +kernel, rfl⟩
theorem dX3_get_21 : decode cX3_get 21 = .ok (.iload_n 3, 1) ∧ 21 + 1 = 22 := ⟨by decide +kernel, rfl⟩
theorem dX3_get_22 : decode cX3_get 22 = .ok (.iaload, 1) ∧ 22 + 1 = 23 := ⟨by decide +kernel, rfl⟩
theorem dX3_get_23 : decode cX3_get 23 = .ok (.goto 4, 3) ∧ ((23 : Nat) : Int) + 4 = ((27 : Nat) : Int) := ⟨by decide +kernel, rfl⟩
theorem dX3_get_26 : decode cX3_get 26 = .ok (.iconst 0, 1) ∧ 26 + 1 = 27 := ⟨by decide +kernel, rfl⟩
theorem dX3_get_27 : decode cX3_get 27 = .ok (.ireturn, 1) ∧ 27 + 1 = 28 := ⟨by decide +kernel, rfl⟩
theorem dX3_set_0 : decode cX3_set 0 = .ok (.iload_n 1, 1) ∧ 0 + 1 = 1 := ⟨by decide +kernel, rfl⟩
theorem dX3_set_1 : decode cX3_set 1 = .ok (.iload_n 2, 1) ∧ 1 + 1 = 2 := ⟨by decide +kernel, rfl⟩
theorem dX3_set_2 : decode cX3_set 2 = .ok (.iadd, 1) ∧ 2 + 1 = 3 := ⟨by decide +kernel, rfl⟩
theorem dX3_set_3 : decode cX3_set 3 = .ok (.istore 4, 2) ∧ 3 + 2 = 5 := ⟨by decide +kernel, rfl⟩
theorem dX3_set_5 : decode cX3_set 5 = .ok (.iload 4, 2) ∧ 5 + 2 = 7 := ⟨by decide +kernel, rfl⟩
theorem dX3_set_7 : decode cX3_set 7 = .ok (.ifCond .lt 21, 3) ∧ 7 + 3 = 10 ∧ ((7 : Nat) : Int) + 21 = ((28 : Nat) : Int) := ⟨by decide +kernel, rfl, rfl⟩
theorem dX3_set_10 : decode cX3_set 10 = .ok (.iload 4, 2) ∧ 10 + 2 = 12 := ⟨by decide +kernel, rfl⟩
theorem dX3_set_12 : decode cX3_set 12 = .ok (.aload_n 0, 1) ∧ 12 + 1 = 13 := ⟨by decide +kernel, rfl⟩
theorem dX3_set_13 : decode cX3_set 13 = .ok (.getfield 9, 3) ∧ 13 + 3 = 16 := ⟨by decide +kernel, rfl⟩
theorem dX3_set_16 : decode cX3_set 16 = .ok (.arraylength, 1) ∧ 16 + 1 = 17 := ⟨by decide +kernel, rfl⟩
theorem dX3_set_17 : decode cX3_set 17 = .ok (.if_icmp .ge 11, 3) ∧ 17 + 3 = 20 ∧ ((17 : Nat) : Int) + 11 = ((28 : Nat) : Int) := ⟨by decide +kernel, rfl, rfl⟩
theorem dX3_set_20 : decode cX3_set 20 = .ok (.aload_n 0, 1) ∧ 20 + 1 = 21 := ⟨by decide +kernel, rfl⟩
theorem dX3_set_21 : decode cX3_set 21 = .ok (.getfield 9, 3) ∧ 21 + 3 = 24 := ⟨by decide +kernel, rfl⟩
theorem dX3_set_24 : decode cX3_set 24 = .ok (.iload 4, 2) ∧ 24 + 2 = 26 := ⟨by decide +kernel, rfl⟩
theorem dX3_set_26 : decode cX3_set 26 = .ok (.iload_n 3, 1) ∧ 26 + 1 = 27 := ⟨by decide +kernel, rfl⟩
theorem dX3_set_27 : decode cX3_set 27 = .ok (.iastore, 1) ∧ 27 + 1 = 28 := ⟨by decide +kernel, rfl⟩
theorem dX3_set_28 : decode cX3_set 28 = .ok (.return_, 1) ∧ 28 + 1 = 29 := ⟨by decide +kernel, rfl⟩
theorem dX3_copyFrom_0 : decode cX3_copyFrom 0 = .ok (.aload_n 1, 1) ∧ 0 + 1 = 1 := ⟨by decide +kernel, rfl⟩
theorem dX3_copyFrom_1 : decode cX3_copyFrom 1 = .ok (.getfield 9, 3) ∧ 1 + 3 = 4 := ⟨by decide +kernel, rfl⟩
theorem dX3_copyFrom_4 : decode cX3_copyFrom 4 = .ok (.iconst 0, 1) ∧ 4 + 1 = 5 := ⟨by decide +kernel, rfl⟩
theorem dX3_copyFrom_5 : decode cX3_copyFrom 5 = .ok (.aload_n 0, 1) ∧ 5 + 1 = 6 := ⟨by decide +kernel, rfl⟩
theorem dX3_copyFrom_6 : decode cX3_copyFrom 6 = .ok (.getfield 9, 3) ∧ 6 + 3 = 9 := ⟨by decide +kernel, rfl⟩
theorem dX3_copyFrom_9 : decode cX3_copyFrom 9 = .ok (.iconst 0, 1) ∧ 9 + 1 = 10 := ⟨by decide +kernel, rfl⟩
theorem dX3_copyFrom_10 : decode cX3_copyFrom 10 = .ok (.sipush 159, 3) ∧ 10 + 3 = 13 := ⟨by decide +kernel, rfl⟩
theorem dX3_copyFrom_13 : decode cX3_copyFrom 13 = .ok (.invokestatic 19, 3) ∧ 13 + 3 = 16 := ⟨by decide +kernel, rfl⟩
theorem dX3_copyFrom_16 : decode cX3_copyFrom 16 = .ok (.return_, 1) ∧ 16 + 1 = 17 := ⟨by decide +kernel, rfl⟩
theorem dX3_setOrder_0 : decode cX3_setOrder 0 = .ok (.aload_n 0, 1) ∧ 0 + 1 = 1 := ⟨by decide +kernel, rfl⟩
theorem dX3_setOrder_1 : decode cX3_setOrder 1 = .ok (.sipush 152, 3) ∧ 1 + 3 = 4 := ⟨by decide +kernel, rfl⟩
theorem dX3_setOrder_4 : decode cX3_setOrder 4 = .ok (.iconst 0, 1) ∧ 4 + 1 = 5 := ⟨by decide +kernel, rfl⟩
theorem dX3_setOrder_5 : decode cX3_setOrder 5 = .ok (.iload_n 1, 1) ∧ 5 + 1 = 6 := ⟨by decide +kernel, rfl⟩
theorem dX3_setOrder_6 : decode cX3_setOrder 6 = .ok (.invokevirtual 15, 3) ∧ 6 + 3 = 9 := ⟨by decide +kernel, rfl⟩
theorem dX3_setOrder_9 : decode cX3_setOrder 9 = .ok (.aload_n 0, 1) ∧ 9 + 1 = 10 := ⟨by decide +kernel, rfl⟩
theorem dX3_setOrder_10 : decode cX3_setOrder 10 = .ok (.sipush 152, 3) ∧ 10 + 3 = 13 := ⟨by decide +kernel, rfl⟩
theorem dX3_setOrder_13 : decode cX3_setOrder 13 = .ok (.iconst 1, 1) ∧ 13 + 1 = 14 := ⟨by decide +kernel, rfl⟩
theorem dX3_setOrder_14 : decode cX3_setOrder 14 = .ok (.iload_n 2, 1) ∧ 14 + 1 = 15 := ⟨by decide +kernel, rfl⟩
theorem dX3_setOrder_15 : decode cX3_setOrder 15 = .ok (.invokevirtual 15, 3) ∧ 15 + 3 = 18 := ⟨by decide +kernel, rfl⟩
theorem dX3_setOrder_18 : decode cX3_setOrder 18 = .ok (.aload_n 0, 1) ∧ 18 + 1 = 19 := ⟨by decide +kernel, rfl⟩
theorem dX3_setOrder_19 : decode cX3_setOrder 19 = .ok (.sipush 152, 3) ∧ 19 + 3 = 22 := ⟨by decide +kernel, rfl⟩
theorem dX3_setOrder_22 : decode cX3_setOrder 22 = .ok (.iconst 2, 1) ∧ 22 + 1 = 23 := ⟨by decide +kernel, rfl⟩
theorem dX3_setOrder_23 : decode cX3_setOrder 23 = .ok (.iload_n 3, 1) ∧ 23 + 1 = 24 := ⟨by decide +kernel, rfl⟩
theorem dX3_setOrder_24 : decode cX3_setOrder 24 = .ok (.invokevirtual 15, 3) ∧ 24 + 3 = 27 := ⟨by decide +kernel, rfl⟩
theorem dX3_setOrder_27 : decode cX3_setOrder 27 = .ok (.aload_n 0, 1) ∧ 27 + 1 = 28 := ⟨by decide +kernel, rfl⟩
theorem dX3_setOrder_28 : decode cX3_setOrder 28 = .ok (.sipush 152, 3) ∧ 28 + 3 = 31 := ⟨by decide +kernel, rfl⟩
theorem dX3_setOrder_31 : decode cX3_setOrder 31 = .ok (.iconst 3, 1) ∧ 31 + 1 = 32 := ⟨by decide +kernel, rfl⟩
theorem dX3_setOrder_32 : decode cX3_setOrder 32 = .ok (.iload 4, 2) ∧ 32 + 2 = 34 := ⟨by decide +kernel, rfl⟩
theorem dX3_setOrder_34 : decode cX3_setOrder 34 = .ok (.invokevirtual 15, 3) ∧ 34 + 3 = 37 := ⟨by decide +kernel, rfl⟩
theorem dX3_setOrder_37 : decode cX3_setOrder 37 = .ok (.return_, 1) ∧ 37 + 1 = 38 := ⟨by decide +kernel, rfl⟩
theorem dX3_dismiss_0 : decode cX3_dismiss 0 = .ok (.aload_n 0, 1) ∧ 0 + 1 = 1 := ⟨by decide +kernel, rfl⟩
theorem dX3_dismiss_1 : decode cX3_dismiss 1 = .ok (.bipush 64, 2) ∧ 1 + 2 = 3 := ⟨by decide +kernel, rfl⟩
theorem dX3_dismiss_3 : decode cX3_dismiss 3 = .ok (.iload_n 1, 1) ∧ 3 + 1 = 4 := ⟨by decide +kernel, rfl⟩
theorem dX3_dismiss_4 : decode cX3_dismiss 4 = .ok (.iload_n 2, 1) ∧ 4 + 1 = 5 := ⟨by decide +kernel, rfl⟩
theorem dX3_dismiss_5 : decode cX3_dismiss 5 = .ok (.invokevirtual 15, 3) ∧ 5 + 3 = 8 := ⟨by decide +kernel, rfl⟩
theorem dX3_dismiss_8 : decode cX3_dismiss 8 = .ok (.aload_n 0, 1) ∧ 8 + 1 = 9 := ⟨by decide +kernel, rfl⟩
theorem dX3_dismiss_9 : decode cX3_dismiss 9 = .ok (.bipush 80, 2) ∧ 9 + 2 = 11 := ⟨by decide +kernel, rfl⟩
theorem dX3_dismiss_11 : decode cX3_dismiss 11 = .ok (.iload_n 1, 1) ∧ 11 + 1 = 12 := ⟨by decide +kernel, rfl⟩
theorem dX3_dismiss_12 : decode cX3_dismiss 12 = .ok (.bipush (-9), 2) ∧ 12 + 2 = 14 := ⟨by decide +kernel, rfl⟩
theorem dX3_dismiss_14 : decode cX3_dismiss 14 = .ok (.invokevirtual 15, 3) ∧ 14 + 3 = 17 := ⟨by decide +kernel, rfl⟩
theorem dX3_dismiss_17 : decode cX3_dismiss 17 = .ok (.aload_n 0, 1) ∧ 17 + 1 = 18 := ⟨by decide +kernel, rfl⟩
theorem dX3_dismiss_18 : decode cX3_dismiss 18 = .ok (.bipush 96, 2) ∧ 18 + 2 = 20 := ⟨by decide +kernel, rfl⟩
theorem dX3_dismiss_20 : decode cX3_dismiss 20 = .ok (.iload_n 1, 1) ∧ 20 + 1 = 21 := ⟨by decide +kernel, rfl⟩
theorem dX3_dismiss_21 : decode cX3_dismiss 21 = .ok (.bipush (-9), 2) ∧ 21 + 2 = 23 := ⟨by decide +kernel, rfl⟩
theorem dX3_dismiss_23 : decode cX3_dismiss 23 = .ok (.invokevirtual 15, 3) ∧ 23 + 3 = 26 := ⟨by decide +kernel, rfl⟩
theorem dX3_dismiss_26 : decode cX3_dismiss 26 = .ok (.aload_n 0, 1) ∧ 26 + 1 = 27 := ⟨by decide +kernel, rfl⟩
theorem dX3_dismiss_27 : decode cX3_dismiss 27 = .ok (.bipush 112, 2) ∧ 27 + 2 = 29 := ⟨by decide +kernel, rfl⟩
theorem dX3_dismiss_29 : decode cX3_dismiss 29 = .ok (.iload_n 1, 1) ∧ 29 + 1 = 30 := ⟨by decide +kernel, rfl⟩
theorem dX3_dismiss_30 : decode cX3_dismiss 30 = .ok (.bipush (-9), 2) ∧ 30 + 2 = 32 := ⟨by decide +kernel, rfl⟩
theorem dX3_dismiss_32 : decode cX3_dismiss 32 = .ok (.invokevirtual 15, 3) ∧ 32 + 3 = 35 := ⟨by decide +kernel, rfl⟩
theorem dX3_dismiss_35 : decode cX3_dismiss 35 = .ok (.return_, 1) ∧ 35 + 1 = 36 := ⟨by decide +kernel, rfl⟩
theorem dX3_people_0 : decode cX3_people 0 = .ok (.aload_n 0, 1) ∧ 0 + 1 = 1 := ⟨by decide +kernel, rfl⟩
theorem dX3_people_1 : decode cX3_people 1 = .ok (.sipush 158, 3) ∧ 1 + 3 = 4 := ⟨by decide +kernel, rfl⟩
theorem dX3_people_4 : decode cX3_people 4 = .ok (.iconst 0, 1) ∧ 4 + 1 = 5 := ⟨by decide +kernel, rfl⟩
theorem dX3_people_5 : decode cX3_people 5 = .ok (.invokevirtual 25, 3) ∧ 5 + 3 = 8 := ⟨by decide +kernel, rfl⟩
theorem dX3_people_8 : decode cX3_people 8 = .ok (.ireturn, 1) ∧ 8 + 1 = 9 := ⟨by decide +kernel, rfl⟩
theorem dX3_isActive_0 : decode cX3_isActive 0 = .ok (.aload_n 0, 1) ∧ 0 + 1 = 1 := ⟨by decide +kernel, rfl⟩
theorem dX3_isActive_1 : decode cX3_isActive 1 = .ok (.bipush 64, 2) ∧ 1 + 2 = 3 := ⟨by decide +kernel, rfl⟩
theorem dX3_isActive_3 : decode cX3_isActive 3 = .ok (.iload_n 1, 1) ∧ 3 + 1 = 4 := ⟨by decide +kernel, rfl⟩
theorem dX3_isActive_4 : decode cX3_isActive 4 = .ok (.invokevirtual 25, 3) ∧ 4 + 3 = 7 := ⟨by decide +kernel, rfl⟩
theorem dX3_isActive_7 : decode cX3_isActive 7 = .ok (.iconst 2, 1) ∧ 7 + 1 = 8 := ⟨by decide +kernel, rfl⟩
theorem dX3_isActive_8 : decode cX3_isActive 8 = .ok (.if_icmp .gt 7, 3) ∧ 8 + 3 = 11 ∧ ((8 : Nat) : Int) + 7 = ((15 : Nat) : Int) := ⟨by decide +kernel, rfl, rfl⟩
theorem dX3_isActive_11 : decode cX3_isActive 11 = .ok (.iconst 1, 1) ∧ 11 + 1 = 12 := ⟨by decide +kernel, rfl⟩
theorem dX3_isActive_12 : decode cX3_isActive 12 = .ok (.goto 4, 3) ∧ ((12 : Nat) : Int) + 4 = ((16 : Nat) : Int) := ⟨by decide +kernel, rfl⟩
theorem dX3_isActive_15 : decode cX3_isActive 15 = .ok (.iconst 0, 1) ∧ 15 + 1 = 16 := ⟨by decide +kernel, rfl⟩
theorem dX3_isActive_16 : decode cX3_isActive 16 = .ok (.ireturn, 1) ∧ 16 + 1 = 17 := ⟨by decide +kernel, rfl⟩
theorem dX3_rankKey_0 : decode cX3_rankKey 0 = .ok (.bipush 99, 2) ∧ 0 + 2 = 2 := ⟨by decide +kernel, rfl⟩
theorem dX3_rankKey_2 : decode cX3_rankKey 2 = .ok (.aload_n 0, 1) ∧ 2 + 1 = 3 := ⟨by decide +kernel, rfl⟩
theorem dX3_rankKey_3 : decode cX3_rankKey 3 = .ok (.iconst 0, 1) ∧ 3 + 1 = 4 := ⟨by decide +kernel, rfl⟩
theorem dX3_rankKey_4 : decode cX3_rankKey 4 = .ok (.iload_n 1, 1) ∧ 4 + 1 = 5 := ⟨by decide +kernel, rfl⟩
theorem dX3_rankKey_5 : decode cX3_rankKey 5 = .ok (.invokevirtual 25, 3) ∧ 5 + 3 = 8 := ⟨by decide +kernel, rfl⟩
theorem dX3_rankKey_8 : decode cX3_rankKey 8 = .ok (.isub, 1) ∧ 8 + 1 = 9 := ⟨by decide +kernel, rfl⟩
theorem dX3_rankKey_9 : decode cX3_rankKey 9 = .ok (.istore_n 2, 1) ∧ 9 + 1 = 10 := ⟨by decide +kernel, rfl⟩
theorem dX3_rankKey_10 : decode cX3_rankKey 10 = .ok (.iload_n 2, 1) ∧ 10 + 1 = 11 := ⟨by decide +kernel, rfl⟩
theorem dX3_rankKey_11 : decode cX3_rankKey 11 = .ok (.sipush 1000, 3) ∧ 11 + 3 = 14 := ⟨by decide +kernel, rfl⟩
theorem dX3_rankKey_14 : decode cX3_rankKey 14 = .ok (.imul, 1) ∧ 14 + 1 = 15 := ⟨by decide +kernel, rfl⟩
theorem dX3_rankKey_15 : decode cX3_rankKey 15 = .ok (.aload_n 0, 1) ∧ 15 + 1 = 16 := ⟨by decide +kernel, rfl⟩
theorem dX3_rankKey_16 : decode cX3_rankKey 16 = .ok (.bipush 16, 2) ∧ 16 + 2 = 18 := ⟨by decide +kernel, rfl⟩
theorem dX3_rankKey_18 : decode cX3_rankKey 18 = .ok (.iload_n 1, 1) ∧ 18 + 1 = 19 := ⟨by decide +kernel, rfl⟩
theorem dX3_rankKey_19 : decode cX3_rankKey 19 = .ok (.invokevirtual 25, 3) ∧ 19 + 3 = 22 := ⟨by decide +kernel, rfl⟩
theorem dX3_rankKey_22 : decode cX3_rankKey 22 = .ok (.iadd, 1) ∧ 22 + 1 = 23 := ⟨by decide +kernel, rfl⟩
theorem dX3_rankKey_23 : decode cX3_rankKey 23 = .ok (.bipush 16, 2) ∧ 23 + 2 = 25 := ⟨by decide +kernel, rfl⟩
theorem dX3_rankKey_25 : decode cX3_rankKey 25 = .ok (.imul, 1) ∧ 25 + 1 = 26 := ⟨by decide +kernel, rfl⟩
theorem dX3_rankKey_26 : decode cX3_rankKey 26 = .ok (.iload_n 1, 1) ∧ 26 + 1 = 27 := ⟨by decide +kernel, rfl⟩
theorem dX3_rankKey_27 : decode cX3_rankKey 27 = .ok (.iadd, 1) ∧ 27 + 1 = 28 := ⟨by decide +kernel, rfl⟩
theorem dX3_rankKey_28 : decode cX3_rankKey 28 = .ok (.ireturn, 1) ∧ 28 + 1 = 29 := ⟨by decide +kernel, rfl⟩
theorem dX3_isAhead_0 : decode cX3_isAhead 0 = .ok (.aload_n 0, 1) ∧ 0 + 1 = 1 := ⟨by decide +kernel, rfl⟩
theorem dX3_isAhead_1 : decode cX3_isAhead 1 = .ok (.iload_n 1, 1) ∧ 1 + 1 = 2 := ⟨by decide +kernel, rfl⟩
theorem dX3_isAhead_2 : decode cX3_isAhead 2 = .ok (.invokevirtual 29, 3) ∧ 2 + 3 = 5 := ⟨by decide +kernel, rfl⟩
theorem dX3_isAhead_5 : decode cX3_isAhead 5 = .ok (.aload_n 0, 1) ∧ 5 + 1 = 6 := ⟨by decide +kernel, rfl⟩
theorem dX3_isAhead_6 : decode cX3_isAhead 6 = .ok (.iload_n 2, 1) ∧ 6 + 1 = 7 := ⟨by decide +kernel, rfl⟩
theorem dX3_isAhead_7 : decode cX3_isAhead 7 = .ok (.invokevirtual 29, 3) ∧ 7 + 3 = 10 := ⟨by decide +kernel, rfl⟩
theorem dX3_isAhead_10 : decode cX3_isAhead 10 = .ok (.if_icmp .ge 7, 3) ∧ 10 + 3 = 13 ∧ ((10 : Nat) : Int) + 7 = ((17 : Nat) : Int) := ⟨by decide +kernel, rfl, rfl⟩
theorem dX3_isAhead_13 : decode cX3_isAhead 13 = .ok (.iconst 1, 1) ∧ 13 + 1 = 14 := ⟨by decide +kernel, rfl⟩
theorem dX3_isAhead_14 : decode cX3_isAhead 14 = .ok (.goto 4, 3) ∧ ((14 : Nat) : Int) + 4 = ((18 : Nat) : Int) := ⟨by decide +kernel, rfl⟩
theorem dX3_isAhead_17 : decode cX3_isAhead 17 = .ok (.iconst 0, 1) ∧ 17 + 1 = 18 := ⟨by decide +kernel, rfl⟩
theorem dX3_isAhead_18 : decode cX3_isAhead 18 = .ok (.ireturn, 1) ∧ 18 + 1 = 19 := ⟨by decide +kernel, rfl⟩
theorem dX3_countAhead_0 : decode cX3_countAhead 0 = .ok (.aload_n 0, 1) ∧ 0 + 1 = 1 := ⟨by decide +kernel, rfl⟩
theorem dX3_countAhead_1 : decode cX3_countAhead 1 = .ok (.iload_n 1, 1) ∧ 1 + 1 = 2 := ⟨by decide +kernel, rfl⟩
theorem dX3_countAhead_2 : decode cX3_countAhead 2 = .ok (.invokevirtual 29, 3) ∧ 2 + 3 = 5 := ⟨by decide +kernel, rfl⟩
theorem dX3_countAhead_5 : decode cX3_countAhead 5 = .ok (.istore_n 2, 1) ∧ 5 + 1 = 6 := ⟨by decide +kernel, rfl⟩
theorem dX3_countAhead_6 : decode cX3_countAhead 6 = .ok (.iconst 0, 1) ∧ 6 + 1 = 7 := ⟨by decide +kernel, rfl⟩
theorem dX3_countAhead_7 : decode cX3_countAhead 7 = .ok (.istore_n 3, 1) ∧ 7 + 1 = 8 := ⟨by decide +kernel, rfl⟩
theorem dX3_countAhead_8 : decode cX3_countAhead 8 = .ok (.iconst 0, 1) ∧ 8 + 1 = 9 := ⟨by decide +kernel, rfl⟩
theorem dX3_countAhead_9 : decode cX3_countAhead 9 = .ok (.istore 4, 2) ∧ 9 + 2 = 11 := ⟨by decide +kernel, rfl⟩
theorem dX3_countAhead_11 : decode cX3_countAhead 11 = .ok (.iload 4, 2) ∧ 11 + 2 = 13 := ⟨by decide +kernel, rfl⟩
theorem dX3_countAhead_13 : decode cX3_countAhead 13 = .ok (.aload_n 0, 1) ∧ 13 + 1 = 14 := ⟨by decide +kernel, rfl⟩
theorem dX3_countAhead_14 : decode cX3_countAhead 14 = .ok (.invokevirtual 33, 3) ∧ 14 + 3 = 17 := ⟨by decide +kernel, rfl⟩
theorem dX3_countAhead_17 : decode cX3_countAhead 17 = .ok (.if_icmp .ge 22, 3) ∧ 17 + 3 = 20 ∧ ((17 : Nat) : Int) + 22 = ((39 : Nat) : Int) := ⟨by decide +kernel, rfl, rfl⟩
theorem dX3_countAhead_20 : decode cX3_countAhead 20 = .ok (.aload_n 0, 1) ∧ 20 + 1 = 21 := ⟨by decide +kernel, rfl⟩
theorem dX3_countAhead_21 : decode cX3_countAhead 21 = .ok (.iload 4, 2) ∧ 21 + 2 = 23 := ⟨by decide +kernel, rfl⟩
theorem dX3_countAhead_23 : decode cX3_countAhead 23 = .ok (.invokevirtual 29, 3) ∧ 23 + 3 = 26 := ⟨by decide +kernel, rfl⟩
theorem dX3_countAhead_26 : decode cX3_countAhead 26 = .ok (.iload_n 2, 1) ∧ 26 + 1 = 27 := ⟨by decide +kernel, rfl⟩
theorem dX3_countAhead_27 : decode cX3_countAhead 27 = .ok (.if_icmp .ge 6, 3) ∧ 27 + 3 = 30 ∧ ((27 : Nat) : Int) + 6 = ((33 : Nat) : Int) := ⟨by decide +kernel, rfl, rfl⟩
theorem dX3_countAhead_30 : decode cX3_countAhead 30 = .ok (.iinc 3 1, 3) ∧ 30 + 3 = 33 := ⟨by decide +kernel, rfl⟩
theorem dX3_countAhead_33 : decode cX3_countAhead 33 = .ok (.iinc 4 1, 3) ∧ 33 + 3 = 36 := ⟨by decide +kernel, rfl⟩
theorem dX3_countAhead_36 : decode cX3_countAhead 36 = .ok (.goto (-25), 3) ∧ ((36 : Nat) : Int) + (-25) = ((11 : Nat) : Int) := ⟨by decide +kernel, rfl⟩
theorem dX3_countAhead_39 : decode cX3_countAhead 39 = .ok (.iload_n 3, 1) ∧ 39 + 1 = 40 := ⟨by decide +kernel, rfl⟩
theorem dX3_countAhead_40 : decode cX3_countAhead 40 = .ok (.ireturn, 1) ∧ 40 + 1 = 41 := ⟨by decide +kernel, rfl⟩
theorem dX3_countWith_0 : decode cX3_countWith 0 = .ok (.iconst 0, 1) ∧ 0 + 1 = 1 := ⟨by decide +kernel, rfl⟩
theorem dX3_countWith_1 : decode cX3_countWith 1 = .ok (.istore_n 3, 1) ∧ 1 + 1 = 2 := ⟨by decide +kernel, rfl⟩
theorem dX3_countWith_2 : decode cX3_countWith 2 = .ok (.iconst 0, 1) ∧ 2 + 1 = 3 := ⟨by decide +kernel, rfl⟩
theorem dX3_countWith_3 : decode cX3_countWith 3 = .ok (.istore 4, 2) ∧ 3 + 2 = 5 := ⟨by decide +kernel, rfl⟩
theorem dX3_countWith_5 : decode cX3_countWith 5 = .ok (.iload 4, 2) ∧ 5 + 2 = 7 := ⟨by decide +kernel, rfl⟩
theorem dX3_countWith_7 : decode cX3_countWith 7 = .ok (.aload_n 0, 1) ∧ 7 + 1 = 8 := ⟨by decide +kernel, rfl⟩
theorem dX3_countWith_8 : decode cX3_countWith 8 = .ok (.invokevirtual 33, 3) ∧ 8 + 3 = 11 := ⟨by decide +kernel, rfl⟩
theorem dX3_countWith_11 : decode cX3_countWith 11 = .ok (.if_icmp .ge 23, 3) ∧ 11 + 3 = 14 ∧ ((11 : Nat) : Int) + 23 = ((34 : Nat) : Int) := ⟨by decide +kernel, rfl, rfl⟩
theorem dX3_countWith_14 : decode cX3_countWith 14 = .ok (.aload_n 0, 1) ∧ 14 + 1 = 15 := ⟨by decide +kernel, rfl⟩
theorem dX3_countWith_15 : decode cX3_countWith 15 = .ok (.iload_n 1, 1) ∧ 15 + 1 = 16 := ⟨by decide +kernel, rfl⟩
theorem dX3_countWith_16 : decode cX3_countWith 16 = .ok (.iload 4, 2) ∧ 16 + 2 = 18 := ⟨by decide +kernel, rfl⟩
theorem dX3_countWith_18 : decode cX3_countWith 18 = .ok (.invokevirtual 25, 3) ∧ 18 + 3 = 21 := ⟨by decide +kernel, rfl⟩
theorem dX3_countWith_21 : decode cX3_countWith 21 = .ok (.iload_n 2, 1) ∧ 21 + 1 = 22 := ⟨by decide +kernel, rfl⟩
theorem dX3_countWith_22 : decode cX3_countWith 22 = .ok (.if_icmp .ne 6, 3) ∧ 22 + 3 = 25 ∧ ((22 : Nat) : Int) + 6 = ((28 : Nat) : Int) := ⟨by decide +kernel, rfl, rfl⟩
theorem dX3_countWith_25 : decode cX3_countWith 25 = .ok (.iinc 3 1, 3) ∧ 25 + 3 = 28 := ⟨by decide +kernel, rfl⟩
theorem dX3_countWith_28 : decode cX3_countWith 28 = .ok (.iinc 4 1, 3) ∧ 28 + 3 = 31 := ⟨by decide +kernel, rfl⟩
theorem dX3_countWith_31 : decode cX3_countWith 31 = .ok (.goto (-26), 3) ∧ ((31 : Nat) : Int) + (-26) = ((5 : Nat) : Int) := ⟨by decide +kernel, rfl⟩
theorem dX3_countWith_34 : decode cX3_countWith 34 = .ok (.iload_n 3, 1) ∧ 34 + 1 = 35 := ⟨by decide +kernel, rfl⟩
theorem dX3_countWith_35 : decode cX3_countWith 35 = .ok (.ireturn, 1) ∧ 35 + 1 = 36 := ⟨by decide +kernel, rfl⟩
theorem dX3_countActive_0 : decode cX3_countActive 0 = .ok (.iconst 0, 1) ∧ 0 + 1 = 1 := ⟨by decide +kernel, rfl⟩
theorem dX3_countActive_1 : decode cX3_countActive 1 = .ok (.istore_n 1, 1) ∧ 1 + 1 = 2 := ⟨by decide +kernel, rfl⟩
theorem dX3_countActive_2 : decode cX3_countActive 2 = .ok (.iconst 0, 1) ∧ 2 + 1 = 3 := ⟨by decide +kernel, rfl⟩
theorem dX3_countActive_3 : decode cX3_countActive 3 = .ok (.istore_n 2, 1) ∧ 3 + 1 = 4 := ⟨by decide +kernel, rfl⟩
theorem dX3_countActive_4 : decode cX3_countActive 4 = .ok (.iload_n 2, 1) ∧ 4 + 1 = 5 := ⟨by decide +kernel, rfl⟩
theorem dX3_countActive_5 : decode cX3_countActive 5 = .ok (.aload_n 0, 1) ∧ 5 + 1 = 6 := ⟨by decide +kernel, rfl⟩
theorem dX3_countActive_6 : decode cX3_countActive 6 = .ok (.invokevirtual 33, 3) ∧ 6 + 3 = 9 := ⟨by decide +kernel, rfl⟩
theorem dX3_countActive_9 : decode cX3_countActive 9 = .ok (.if_icmp .ge 20, 3) ∧ 9 + 3 = 12 ∧ ((9 : Nat) : Int) + 20 = ((29 : Nat) : Int) := ⟨by decide +kernel, rfl, rfl⟩
theorem dX3_countActive_12 : decode cX3_countActive 12 = .ok (.aload_n 0, 1) ∧ 12 + 1 = 13 := ⟨by decide +kernel, rfl⟩
theorem dX3_countActive_13 : decode cX3_countActive 13 = .ok (.iload_n 2, 1) ∧ 13 + 1 = 14 := ⟨by decide +kernel, rfl⟩
theorem dX3_countActive_14 : decode cX3_countActive 14 = .ok (.invokevirtual 37, 3) ∧ 14 + 3 = 17 := ⟨by decide +kernel, rfl⟩
theorem dX3_countActive_17 : decode cX3_countActive 17 = .ok (.ifCond .eq 6, 3) ∧ 17 + 3 = 20 ∧ ((17 : Nat) : Int) + 6 = ((23 : Nat) : Int) := ⟨by decide +kernel, rfl, rfl⟩
theorem dX3_countActive_20 : decode cX3_countActive 20 = .ok (.iinc 1 1, 3) ∧ 20 + 3 = 23 := ⟨by decide +kernel, rfl⟩
theorem dX3_countActive_23 : decode cX3_countActive 23 = .ok (.iinc 2 1, 3) ∧ 23 + 3 = 26 := ⟨by decide +kernel, rfl⟩
theorem dX3_countActive_26 : decode cX3_countActive 26 = .ok (.goto (-22), 3) ∧ ((26 : Nat) : Int) + (-22) = ((4 : Nat) : Int) := ⟨by decide +kernel, rfl⟩
theorem dX3_countActive_29 : decode cX3_countActive 29 = .ok (.iload_n 1, 1) ∧ 29 + 1 = 30 := ⟨by decide +kernel, rfl⟩
theorem dX3_countActive_30 : decode cX3_countActive 30 = .ok (.ireturn, 1) ∧ 30 + 1 = 31 := ⟨by decide +kernel, rfl⟩
theorem dX4_init_0 : decode cX4_init 0 = .ok (.aload_n 0, 1) ∧ 0 + 1 = 1 := ⟨by decide +kernel, rfl⟩
theorem dX4_init_1 : decode cX4_init 1 = .ok (.invokespecial 1, 3) ∧ 1 + 3 = 4 := ⟨by decide +kernel, rfl⟩
theorem dX4_init_4 : decode cX4_init 4 = .ok (.aload_n 0, 1) ∧ 4 + 1 = 5 := ⟨by decide +kernel, rfl⟩
theorem dX4_init_5 : decode cX4_init 5 = .ok (.iconst 0, 1) ∧ 5 + 1 = 6 := ⟨by decide +kernel, rfl⟩
theorem dX4_init_6 : decode cX4_init 6 = .ok (.iload_n 1, 1) ∧ 6 + 1 = 7 := ⟨by decide +kernel, rfl⟩
theorem dX4_init_7 : decode cX4_init 7 = .ok (.invokestatic 7, 3) ∧ 7 + 3 = 10 := ⟨by decide +kernel, rfl⟩
theorem dX4_init_10 : decode cX4_init 10 = .ok (.newarray .int, 2) ∧ 10 + 2 = 12 := ⟨by decide +kernel, rfl⟩
theorem dX4_init_12 : decode cX4_init 12 = .ok (.putfield 13, 3) ∧ 12 + 3 = 15 := ⟨by decide +kernel, rfl⟩
theorem dX4_init_15 : decode cX4_init 15 = .ok (.return_, 1) ∧ 15 + 1 = 16 := ⟨by decide +kernel, rfl⟩
theorem dX4_get_0 : decode cX4_get 0 = .ok (.iload_n 1, 1) ∧ 0 + 1 = 1 := ⟨by decide +kernel, rfl⟩
theorem dX4_get_1 : decode cX4_get 1 = .ok (.ifCond .lt 21, 3) ∧ 1 + 3 = 4 ∧ ((1 : Nat) : Int) + 21 = ((22 : Nat) : Int) := ⟨by decide +kernel, rfl, rfl⟩
theorem dX4_get_4 : decode cX4_get 4 = .ok (.iload_n 1, 1) ∧ 4 + 1 = 5 := ⟨by decide +kernel, rfl⟩
theorem dX4_get_5 : decode cX4_get 5 = .ok (.aload_n 0, 1) ∧ 5 + 1 = 6 := ⟨by decide +kernel, rfl⟩
theorem dX4_get_6 : decode cX4_get 6 = .ok (.getfield 13, 3) ∧ 6 + 3 = 9 := ⟨by decide +kernel, rfl⟩
theorem dX4_get_9 : decode cX4_get 9 = .ok (.arraylength, 1) ∧ 9 + 1 = 10 := ⟨by decide +kernel, rfl⟩
theorem dX4_get_10 : decode cX4_get 10 = .ok (.if_icmp .ge 12, 3) ∧ 10 + 3 = 13 ∧ ((10 : Nat) : Int) + 12 = ((22 : Nat) : Int) := ⟨by decide +kernel, rfl, rfl⟩
theorem dX4_get_13 : decode cX4_get 13 = .ok (.aload_n 0, 1) ∧ 13 + 1 = 14 := ⟨by decide +kernel, rfl⟩
theorem dX4_get_14 : decode cX4_get 14 = .ok (.getfield 13, 3) ∧ 14 + 3 = 17 := ⟨by decide +kernel, rfl⟩
theorem dX4_get_17 : decode cX4_get 17 = .ok (.iload_n 1, 1) ∧ 17 + 1 = 18 := ⟨by decide +kernel, rfl⟩
theorem dX4_get_18 : decode cX4_get 18 = .ok (.iaload, 1) ∧ 18 + 1 = 19 := ⟨by decide +kernel, rfl⟩
theorem dX4_get_19 : decode cX4_get 19 = .ok (.goto 4, 3) ∧ ((19 : Nat) : Int) + 4 = ((23 : Nat) : Int) := ⟨by decide +kernel, rfl⟩
theorem dX4_get_22 : decode cX4_get 22 = .ok (.iconst 0, 1) ∧ 22 + 1 = 23 := ⟨by decide +kernel, rfl⟩
theorem dX4_get_23 : decode cX4_get 23 = .ok (.ireturn, 1) ∧ 23 + 1 = 24 := ⟨by decide +kernel, rfl⟩
theorem dX4_set_0 : decode cX4_set 0 = .ok (.iload_n 1, 1) ∧ 0 + 1 = 1 := ⟨by decide +kernel, rfl⟩
theorem dX4_set_1 : decode cX4_set 1 = .ok (.ifCond .lt 19, 3) ∧ 1 + 3 = 4 ∧ ((1 : Nat) : Int) + 19 = ((20 : Nat) : Int) := ⟨by decide +kernel, rfl, rfl⟩
theorem dX4_set_4 : decode cX4_set 4 = .ok (.iload_n 1, 1) ∧ 4 + 1 = 5 := ⟨by decide +kernel, rfl⟩
theorem dX4_set_5 : decode cX4_set 5 = .ok (.aload_n 0, 1) ∧ 5 + 1 = 6 := ⟨by decide +kernel, rfl⟩
theorem dX4_set_6 : decode cX4_set 6 = .ok (.getfield 13, 3) ∧ 6 + 3 = 9 := ⟨by decide +kernel, rfl⟩
theorem dX4_set_9 : decode cX4_set 9 = .ok (.arraylength, 1) ∧ 9 + 1 = 10 := ⟨by decide +kernel, rfl⟩
theorem dX4_set_10 : decode cX4_set 10 = .ok (.if_icmp .ge 10, 3) ∧ 10 + 3 = 13 ∧ ((10 : Nat) : Int) + 10 = ((20 : Nat) : Int) := ⟨by decide +kernel, rfl, rfl⟩
theorem dX4_set_13 : decode cX4_set 13 = .ok (.aload_n 0, 1) ∧ 13 + 1 = 14 := ⟨by decide +kernel, rfl⟩
theorem dX4_set_14 : decode cX4_set 14 = .ok (.getfield 13, 3) ∧ 14 + 3 = 17 := ⟨by decide +kernel, rfl⟩
theorem dX4_set_17 : decode cX4_set 17 = .ok (.iload_n 1, 1) ∧ 17 + 1 = 18 := ⟨by decide +kernel, rfl⟩
theorem dX4_set_18 : decode cX4_set 18 = .ok (.iload_n 2, 1) ∧ 18 + 1 = 19 := ⟨by decide +kernel, rfl⟩
theorem dX4_set_19 : decode cX4_set 19 = .ok (.iastore, 1) ∧ 19 + 1 = 20 := ⟨by decide +kernel, rfl⟩
theorem dX4_set_20 : decode cX4_set 20 = .ok (.return_, 1) ∧ 20 + 1 = 21 := ⟨by decide +kernel, rfl⟩
theorem dX4_add_0 : decode cX4_add 0 = .ok (.iload_n 1, 1) ∧ 0 + 1 = 1 := ⟨by decide +kernel, rfl⟩
theorem dX4_add_1 : decode cX4_add 1 = .ok (.ifCond .lt 22, 3) ∧ 1 + 3 = 4 ∧ ((1 : Nat) : Int) + 22 = ((23 : Nat) : Int) := ⟨by decide +kernel, rfl, rfl⟩
theorem dX4_add_4 : decode cX4_add 4 = .ok (.iload_n 1, 1) ∧ 4 + 1 = 5 := ⟨by decide +kernel, rfl⟩
theorem dX4_add_5 : decode cX4_add 5 = .ok (.aload_n 0, 1) ∧ 5 + 1 = 6 := ⟨by decide +kernel, rfl⟩
theorem dX4_add_6 : decode cX4_add 6 = .ok (.getfield 13, 3) ∧ 6 + 3 = 9 := ⟨by decide +kernel, rfl⟩
theorem dX4_add_9 : decode cX4_add 9 = .ok (.arraylength, 1) ∧ 9 + 1 = 10 := ⟨by decide +kernel, rfl⟩
theorem dX4_add_10 : decode cX4_add 10 = .ok (.if_icmp .ge 13, 3) ∧ 10 + 3 = 13 ∧ ((10 : Nat) : Int) + 13 = ((23 : Nat) : Int) := ⟨by decide +kernel, rfl, rfl⟩
theorem dX4_add_13 : decode cX4_add 13 = .ok (.aload_n 0, 1) ∧ 13 + 1 = 14 := ⟨by decide +kernel, rfl⟩
theorem dX4_add_14 : decode cX4_add 14 = .ok (.getfield 13, 3) ∧ 14 + 3 = 17 := ⟨by decide +kernel, rfl⟩
theorem dX4_add_17 : decode cX4_add 17 = .ok (.iload_n 1, 1) ∧ 17 + 1 = 18 := ⟨by decide +kernel, rfl⟩
theorem dX4_add_18 : decode cX4_add 18 = .ok (.dup2, 1) ∧ 18 + 1 = 19 := ⟨by decide +kernel, rfl⟩
theorem dX4_add_19 : decode cX4_add 19 = .ok (.iaload, 1) ∧ 19 + 1 = 20 := ⟨by decide +kernel, rfl⟩
theorem dX4_add_20 : decode cX4_add 20 = .ok (.iload_n 2, 1) ∧ 20 + 1 = 21 := ⟨by decide +kernel, rfl⟩
theorem dX4_add_21 : decode cX4_add 21 = .ok (.iadd, 1) ∧ 21 + 1 = 22 := ⟨by decide +kernel, rfl⟩
theorem dX4_add_22 : decode cX4_add 22 = .ok (.iastore, 1) ∧ 22 + 1 = 23 := ⟨by decide +kernel, rfl⟩
theorem dX4_add_23 : decode cX4_add 23 = .ok (.return_, 1) ∧ 23 + 1 = 24 := ⟨by decide +kernel, rfl⟩
theorem dX4_fill_0 : decode cX4_fill 0 = .ok (.iconst 0, 1) ∧ 0 + 1 = 1 := ⟨by decide +kernel, rfl⟩
theorem dX4_fill_1 : decode cX4_fill 1 = .ok (.istore_n 2, 1) ∧ 1 + 1 = 2 := ⟨by decide +kernel, rfl⟩
theorem dX4_fill_2 : decode cX4_fill 2 = .ok (.iload_n 2, 1) ∧ 2 + 1 = 3 := ⟨by decide +kernel, rfl⟩
theorem dX4_fill_3 : decode cX4_fill 3 = .ok (.aload_n 0, 1) ∧ 3 + 1 = 4 := ⟨by decide +kernel, rfl⟩
theorem dX4_fill_4 : decode cX4_fill 4 = .ok (.getfield 13, 3) ∧ 4 + 3 = 7 := ⟨by decide +kernel, rfl⟩
theorem dX4_fill_7 : decode cX4_fill 7 = .ok (.arraylength, 1) ∧ 7 + 1 = 8 := ⟨by decide +kernel, rfl⟩
theorem dX4_fill_8 : decode cX4_fill 8 = .ok (.if_icmp .ge 16, 3) ∧ 8 + 3 = 11 ∧ ((8 : Nat) : Int) + 16 = ((24 : Nat) : Int) := ⟨by decide +kernel, rfl, rfl⟩
theorem dX4_fill_11 : decode cX4_fill 11 = .ok (.aload_n 0, 1) ∧ 11 + 1 = 12 := ⟨by decide +kernel, rfl⟩
theorem dX4_fill_12 : decode cX4_fill 12 = .ok (.getfield 13, 3) ∧ 12 + 3 = 15 := ⟨by decide +kernel, rfl⟩
theorem dX4_fill_15 : decode cX4_fill 15 = .ok (.iload_n 2, 1) ∧ 15 + 1 = 16 := ⟨by decide +kernel, rfl⟩
theorem dX4_fill_16 : decode cX4_fill 16 = .ok (.iload_n 1, 1) ∧ 16 + 1 = 17 := ⟨by decide +kernel, rfl⟩
theorem dX4_fill_17 : decode cX4_fill 17 = .ok (.iastore, 1) ∧ 17 + 1 = 18 := ⟨by decide +kernel, rfl⟩
theorem dX4_fill_18 : decode cX4_fill 18 = .ok (.iinc 2 1, 3) ∧ 18 + 3 = 21 := ⟨by decide +kernel, rfl⟩
theorem dX4_fill_21 : decode cX4_fill 21 = .ok (.goto (-19), 3) ∧ ((21 : Nat) : Int) + (-19) = ((2 : Nat) : Int) := ⟨by decide +kernel, rfl⟩
theorem dX4_fill_24 : decode cX4_fill 24 = .ok (.return_, 1) ∧ 24 + 1 = 25 := ⟨by decide +kernel, rfl⟩
theorem dX5_init_0 : decode cX5_init 0 = .ok (.aload_n 0, 1) ∧ 0 + 1 = 1 := ⟨by decide +kernel, rfl⟩
theorem dX5_init_1 : decode cX5_init 1 = .ok (.invokespecial 3, 3) ∧ 1 + 3 = 4 := ⟨by decide +kernel, rfl⟩
theorem dX5_init_4 : decode cX5_init 4 = .ok (.aload_n 0, 1) ∧ 4 + 1 = 5 := ⟨by decide +kernel, rfl⟩
theorem dX5_init_5 : decode cX5_init 5 = .ok (.bipush 16, 2) ∧ 5 + 2 = 7 := ⟨by decide +kernel, rfl⟩
theorem dX5_init_7 : decode cX5_init 7 = .ok (.newarray .int, 2) ∧ 7 + 2 = 9 := ⟨by decide +kernel, rfl⟩
theorem dX5_init_9 : decode cX5_init 9 = .ok (.putfield 9, 3) ∧ 9 + 3 = 12 := ⟨by decide +kernel, rfl⟩
theorem dX5_init_12 : decode cX5_init 12 = .ok (.aload_n 0, 1) ∧ 12 + 1 = 13 := ⟨by decide +kernel, rfl⟩
theorem dX5_init_13 : decode cX5_init 13 = .ok (.new 15, 3) ∧ 13 + 3 = 16 := ⟨by decide +kernel, rfl⟩
theorem dX5_init_16 : decode cX5_init 16 = .ok (.dup, 1) ∧ 16 + 1 = 17 := ⟨by decide +kernel, rfl⟩
theorem dX5_init_17 : decode cX5_init 17 = .ok (.iconst 4, 1) ∧ 17 + 1 = 18 := ⟨by decide +kernel, rfl⟩
theorem dX5_init_18 : decode cX5_init 18 = .ok (.invokespecial 17, 3) ∧ 18 + 3 = 21 := ⟨by decide +kernel, rfl⟩
theorem dX5_init_21 : decode cX5_init 21 = .ok (.putfield 20, 3) ∧ 21 + 3 = 24 := ⟨by decide +kernel, rfl⟩
theorem dX5_init_24 : decode cX5_init 24 = .ok (.return_, 1) ∧ 24 + 1 = 25 := ⟨by decide +kernel, rfl⟩
theorem dX5_begin_0 : decode cX5_begin 0 = .ok (.iconst 0, 1) ∧ 0 + 1 = 1 := ⟨by decide +kernel, rfl⟩
theorem dX5_begin_1 : decode cX5_begin 1 = .ok (.istore_n 3, 1) ∧ 1 + 1 = 2 := ⟨by decide +kernel, rfl⟩
theorem dX5_begin_2 : decode cX5_begin 2 = .ok (.iload_n 3, 1) ∧ 2 + 1 = 3 := ⟨by decide +kernel, rfl⟩
theorem dX5_begin_3 : decode cX5_begin 3 = .ok (.aload_n 0, 1) ∧ 3 + 1 = 4 := ⟨by decide +kernel, rfl⟩
theorem dX5_begin_4 : decode cX5_begin 4 = .ok (.getfield 9, 3) ∧ 4 + 3 = 7 := ⟨by decide +kernel, rfl⟩
theorem dX5_begin_7 : decode cX5_begin 7 = .ok (.arraylength, 1) ∧ 7 + 1 = 8 := ⟨by decide +kernel, rfl⟩
theorem dX5_begin_8 : decode cX5_begin 8 = .ok (.if_icmp .ge 16, 3) ∧ 8 + 3 = 11 ∧ ((8 : Nat) : Int) + 16 = ((24 : Nat) : Int) := ⟨by decide +kernel, rfl, rfl⟩
theorem dX5_begin_11 : decode cX5_begin 11 = .ok (.aload_n 0, 1) ∧ 11 + 1 = 12 := ⟨by decide +kernel, rfl⟩
theorem dX5_begin_12 : decode cX5_begin 12 = .ok (.getfield 9, 3) ∧ 12 + 3 = 15 := ⟨by decide +kernel, rfl⟩
theorem dX5_begin_15 : decode cX5_begin 15 = .ok (.iload_n 3, 1) ∧ 15 + 1 = 16 := ⟨by decide +kernel, rfl⟩
theorem dX5_begin_16 : decode cX5_begin 16 = .ok (.iconst 0, 1) ∧ 16 + 1 = 17 := ⟨by decide +kernel, rfl⟩
theorem dX5_begin_17 : decode cX5_begin 17 = .ok (.iastore, 1) ∧ 17 + 1 = 18 := ⟨by decide +kernel, rfl⟩
theorem dX5_begin_18 : decode cX5_begin 18 = .ok (.iinc 3 1, 3) ∧ 18 + 3 = 21 := ⟨by decide +kernel, rfl⟩
theorem dX5_begin_21 : decode cX5_begin 21 = .ok (.goto (-19), 3) ∧ ((21 : Nat) : Int) + (-19) = ((2 : Nat) : Int) := ⟨by decide +kernel, rfl⟩
theorem dX5_begin_24 : decode cX5_begin 24 = .ok (.aload_n 0, 1) ∧ 24 + 1 = 25 := ⟨by decide +kernel, rfl⟩
theorem dX5_begin_25 : decode cX5_begin 25 = .ok (.getfield 20, 3) ∧ 25 + 3 = 28 := ⟨by decide +kernel, rfl⟩
theorem dX5_begin_28 : decode cX5_begin 28 = .ok (.iconst 0, 1) ∧ 28 + 1 = 29 := ⟨by decide +kernel, rfl⟩
theorem dX5_begin_29 : decode cX5_begin 29 = .ok (.invokevirtual 24, 3) ∧ 29 + 3 = 32 := ⟨by decide +kernel, rfl⟩
theorem dX5_begin_32 : decode cX5_begin 32 = .ok (.iconst 0, 1) ∧ 32 + 1 = 33 := ⟨by decide +kernel, rfl⟩
theorem dX5_begin_33 : decode cX5_begin 33 = .ok (.istore_n 3, 1) ∧ 33 + 1 = 34 := ⟨by decide +kernel, rfl⟩
theorem dX5_begin_34 : decode cX5_begin 34 = .ok (.iload_n 3, 1) ∧ 34 + 1 = 35 := ⟨by decide +kernel, rfl⟩
theorem dX5_begin_35 : decode cX5_begin 35 = .ok (.iconst 4, 1) ∧ 35 + 1 = 36 := ⟨by decide +kernel, rfl⟩
theorem dX5_begin_36 : decode cX5_begin 36 = .ok (.if_icmp .ge 20, 3) ∧ 36 + 3 = 39 ∧ ((36 : Nat) : Int) + 20 = ((56 : Nat) : Int) := ⟨by decide +kernel, rfl, rfl⟩
theorem dX5_begin_39 : decode cX5_begin 39 = .ok (.aload_n 0, 1) ∧ 39 + 1 = 40 := ⟨by decide +kernel, rfl⟩
theorem dX5_begin_40 : decode cX5_begin 40 = .ok (.iload_n 3, 1) ∧ 40 + 1 = 41 := ⟨by decide +kernel, rfl⟩
theorem dX5_begin_41 : decode cX5_begin 41 = .ok (.aload_n 1, 1) ∧ 41 + 1 = 42 := ⟨by decide +kernel, rfl⟩
theorem dX5_begin_42 : decode cX5_begin 42 = .ok (.iload_n 2, 1) ∧ 42 + 1 = 43 := ⟨by decide +kernel, rfl⟩
theorem dX5_begin_43 : decode cX5_begin 43 = .ok (.iload_n 3, 1) ∧ 43 + 1 = 44 := ⟨by decide +kernel, rfl⟩
theorem dX5_begin_44 : decode cX5_begin 44 = .ok (.invokevirtual 27, 3) ∧ 44 + 3 = 47 := ⟨by decide +kernel, rfl⟩
theorem dX5_begin_47 : decode cX5_begin 47 = .ok (.invokevirtual 33, 3) ∧ 47 + 3 = 50 := ⟨by decide +kernel, rfl⟩
theorem dX5_begin_50 : decode cX5_begin 50 = .ok (.iinc 3 1, 3) ∧ 50 + 3 = 53 := ⟨by decide +kernel, rfl⟩
theorem dX5_begin_53 : decode cX5_begin 53 = .ok (.goto (-19), 3) ∧ ((53 : Nat) : Int) + (-19) = ((34 : Nat) : Int) := ⟨by decide +kernel, rfl⟩
theorem dX5_begin_56 : decode cX5_begin 56 = .ok (.return_, 1) ∧ 56 + 1 = 57 := ⟨by decide +kernel, rfl⟩
theorem dX5_add_0 : decode cX5_add 0 = .ok (.iconst 0, 1) ∧ 0 + 1 = 1 := ⟨by decide +kernel, rfl⟩
theorem dX5_add_1 : decode cX5_add 1 = .ok (.istore_n 3, 1) ∧ 1 + 1 = 2 := ⟨by decide +kernel, rfl⟩
theorem dX5_add_2 : decode cX5_add 2 = .ok (.iload_n 3, 1) ∧ 2 + 1 = 3 := ⟨by decide +kernel, rfl⟩
theorem dX5_add_3 : decode cX5_add 3 = .ok (.aload_n 0, 1) ∧ 3 + 1 = 4 := ⟨by decide +kernel, rfl⟩
theorem dX5_add_4 : decode cX5_add 4 = .ok (.getfield 9, 3) ∧ 4 + 3 = 7 := ⟨by decide +kernel, rfl⟩
theorem dX5_add_7 : decode cX5_add 7 = .ok (.arraylength, 1) ∧ 7 + 1 = 8 := ⟨by decide +kernel, rfl⟩
theorem dX5_add_8 : decode cX5_add 8 = .ok (.if_icmp .ge 27, 3) ∧ 8 + 3 = 11 ∧ ((8 : Nat) : Int) + 27 = ((35 : Nat) : Int) := ⟨by decide +kernel, rfl, rfl⟩
theorem dX5_add_11 : decode cX5_add 11 = .ok (.iload_n 1, 1) ∧ 11 + 1 = 12 := ⟨by decide +kernel, rfl⟩
theorem dX5_add_12 : decode cX5_add 12 = .ok (.iload_n 3, 1) ∧ 12 + 1 = 13 := ⟨by decide +kernel, rfl⟩
theorem dX5_add_13 : decode cX5_add 13 = .ok (.iconst (-1), 1) ∧ 13 + 1 = 14 := ⟨by decide +kernel, rfl⟩
theorem dX5_add_14 : decode cX5_add 14 = .ok (.ixor, 1) ∧ 14 + 1 = 15 := ⟨by decide +kernel, rfl⟩
theorem dX5_add_15 : decode cX5_add 15 = .ok (.iand, 1) ∧ 15 + 1 = 16 := ⟨by decide +kernel, rfl⟩
theorem dX5_add_16 : decode cX5_add 16 = .ok (.ifCond .eq 13, 3) ∧ 16 + 3 = 19 ∧ ((16 : Nat) : Int) + 13 = ((29 : Nat) : Int) := ⟨by decide +kernel, rfl, rfl⟩
theorem dX5_add_19 : decode cX5_add 19 = .ok (.aload_n 0, 1) ∧ 19 + 1 = 20 := ⟨by decide +kernel, rfl⟩
theorem dX5_add_20 : decode cX5_add 20 = .ok (.getfield 9, 3) ∧ 20 + 3 = 23 := ⟨by decide +kernel, rfl⟩
theorem dX5_add_23 : decode cX5_add 23 = .ok (.iload_n 3, 1) ∧ 23 + 1 = 24 := ⟨by decide +kernel, rfl⟩
theorem dX5_add_24 : decode cX5_add 24 = .ok (.dup2, 1) ∧ 24 + 1 = 25 := ⟨by decide +kernel, rfl⟩
theorem dX5_add_25 : decode cX5_add 25 = .ok (.iaload, 1) ∧ 25 + 1 = 26 := ⟨by decide +kernel, rfl⟩
theorem dX5_add_26 : decode cX5_add 26 = .ok (.iload_n 2, 1) ∧ 26 + 1 = 27 := ⟨by decide +kernel, rfl⟩
theorem dX5_add_27 : decode cX5_add 27 = .ok (.iadd, 1) ∧ 27 + 1 = 28 := ⟨by decide +kernel, rfl⟩
theorem dX5_add_28 : decode cX5_add 28 = .ok (.iastore, 1) ∧ 28 + 1 = 29 := ⟨by decide +kernel, rfl⟩
theorem dX5_add_29 : decode cX5_add 29 = .ok (.iinc 3 1, 3) ∧ 29 + 3 = 32 := ⟨by decide +kernel, rfl⟩
theorem dX5_add_32 : decode cX5_add 32 = .ok (.goto (-30), 3) ∧ ((32 : Nat) : Int) + (-30) = ((2 : Nat) : Int) := ⟨by decide +kernel, rfl⟩
theorem dX5_add_35 : decode cX5_add 35 = .ok (.return_, 1) ∧ 35 + 1 = 36 := ⟨by decide +kernel, rfl⟩
theorem dX5_fill_0 : decode cX5_fill 0 = .ok (.bipush 16, 2) ∧ 0 + 2 = 2 := ⟨by decide +kernel, rfl⟩
theorem dX5_fill_2 : decode cX5_fill 2 = .ok (.istore_n 1, 1) ∧ 2 + 1 = 3 := ⟨by decide +kernel, rfl⟩
theorem dX5_fill_3 : decode cX5_fill 3 = .ok (.iconst 0, 1) ∧ 3 + 1 = 4 := ⟨by decide +kernel, rfl⟩
theorem dX5_fill_4 : decode cX5_fill 4 = .ok (.istore_n 2, 1) ∧ 4 + 1 = 5 := ⟨by decide +kernel, rfl⟩
theorem dX5_fill_5 : decode cX5_fill 5 = .ok (.iload_n 2, 1) ∧ 5 + 1 = 6 := ⟨by decide +kernel, rfl⟩
theorem dX5_fill_6 : decode cX5_fill 6 = .ok (.aload_n 0, 1) ∧ 6 + 1 = 7 := ⟨by decide +kernel, rfl⟩
theorem dX5_fill_7 : decode cX5_fill 7 = .ok (.getfield 9, 3) ∧ 7 + 3 = 10 := ⟨by decide +kernel, rfl⟩
theorem dX5_fill_10 : decode cX5_fill 10 = .ok (.arraylength, 1) ∧ 10 + 1 = 11 := ⟨by decide +kernel, rfl⟩
theorem dX5_fill_11 : decode cX5_fill 11 = .ok (.if_icmp .ge 20, 3) ∧ 11 + 3 = 14 ∧ ((11 : Nat) : Int) + 20 = ((31 : Nat) : Int) := ⟨by decide +kernel, rfl, rfl⟩
theorem dX5_fill_14 : decode cX5_fill 14 = .ok (.iload_n 1, 1) ∧ 14 + 1 = 15 := ⟨by decide +kernel, rfl⟩
theorem dX5_fill_15 : decode cX5_fill 15 = .ok (.aload_n 0, 1) ∧ 15 + 1 = 16 := ⟨by decide +kernel, rfl⟩
theorem dX5_fill_16 : decode cX5_fill 16 = .ok (.getfield 9, 3) ∧ 16 + 3 = 19 := ⟨by decide +kernel, rfl⟩
theorem dX5_fill_19 : decode cX5_fill 19 = .ok (.iload_n 2, 1) ∧ 19 + 1 = 20 := ⟨by decide +kernel, rfl⟩
theorem dX5_fill_20 : decode cX5_fill 20 = .ok (.iaload, 1) ∧ 20 + 1 = 21 := ⟨by decide +kernel, rfl⟩
theorem dX5_fill_21 : decode cX5_fill 21 = .ok (.invokestatic 37, 3) ∧ 21 + 3 = 24 := ⟨by decide +kernel, rfl⟩
theorem dX5_fill_24 : decode cX5_fill 24 = .ok (.istore_n 1, 1) ∧ 24 + 1 = 25 := ⟨by decide +kernel, rfl⟩
theorem dX5_fill_25 : decode cX5_fill 25 = .ok (.iinc 2 1, 3) ∧ 25 + 3 = 28 := ⟨by decide +kernel, rfl⟩
theorem dX5_fill_28 : decode cX5_fill 28 = .ok (.goto (-23), 3) ∧ ((28 : Nat) : Int) + (-23) = ((5 : Nat) : Int) := ⟨by decide +kernel, rfl⟩
theorem dX5_fill_31 : decode cX5_fill 31 = .ok (.iload_n 1, 1) ∧ 31 + 1 = 32 := ⟨by decide +kernel, rfl⟩
theorem dX5_fill_32 : decode cX5_fill 32 = .ok (.ireturn, 1) ∧ 32 + 1 = 33 := ⟨by decide +kernel, rfl⟩
theorem dX5_assign_0 : decode cX5_assign 0 = .ok (.aload_n 0, 1) ∧ 0 + 1 = 1 := ⟨by decide +kernel, rfl⟩
theorem dX5_assign_1 : decode cX5_assign 1 = .ok (.invokevirtual 42, 3) ∧ 1 + 3 = 4 := ⟨by decide +kernel, rfl⟩
theorem dX5_assign_4 : decode cX5_assign 4 = .ok (.iconst 1, 1) ∧ 4 + 1 = 5 := ⟨by decide +kernel, rfl⟩
theorem dX5_assign_5 : decode cX5_assign 5 = .ok (.isub, 1) ∧ 5 + 1 = 6 := ⟨by decide +kernel, rfl⟩
theorem dX5_assign_6 : decode cX5_assign 6 = .ok (.istore_n 2, 1) ∧ 6 + 1 = 7 := ⟨by decide +kernel, rfl⟩
theorem dX5_assign_7 : decode cX5_assign 7 = .ok (.aload_n 0, 1) ∧ 7 + 1 = 8 := ⟨by decide +kernel, rfl⟩
theorem dX5_assign_8 : decode cX5_assign 8 = .ok (.iload_n 1, 1) ∧ 8 + 1 = 9 := ⟨by decide +kernel, rfl⟩
theorem dX5_assign_9 : decode cX5_assign 9 = .ok (.iconst (-1), 1) ∧ 9 + 1 = 10 := ⟨by decide +kernel, rfl⟩
theorem dX5_assign_10 : decode cX5_assign 10 = .ok (.invokevirtual 45, 3) ∧ 10 + 3 = 13 := ⟨by decide +kernel, rfl⟩
theorem dX5_assign_13 : decode cX5_assign 13 = .ok (.iconst 0, 1) ∧ 13 + 1 = 14 := ⟨by decide +kernel, rfl⟩
theorem dX5_assign_14 : decode cX5_assign 14 = .ok (.istore_n 3, 1) ∧ 14 + 1 = 15 := ⟨by decide +kernel, rfl⟩
theorem dX5_assign_15 : decode cX5_assign 15 = .ok (.iload_n 3, 1) ∧ 15 + 1 = 16 := ⟨by decide +kernel, rfl⟩
theorem dX5_assign_16 : decode cX5_assign 16 = .ok (.iconst 4, 1) ∧ 16 + 1 = 17 := ⟨by decide +kernel, rfl⟩
theorem dX5_assign_17 : decode cX5_assign 17 = .ok (.if_icmp .ge 51, 3) ∧ 17 + 3 = 20 ∧ ((17 : Nat) : Int) + 51 = ((68 : Nat) : Int) := ⟨by decide +kernel, rfl, rfl⟩
theorem dX5_assign_20 : decode cX5_assign 20 = .ok (.iload_n 1, 1) ∧ 20 + 1 = 21 := ⟨by decide +kernel, rfl⟩
theorem dX5_assign_21 : decode cX5_assign 21 = .ok (.iload_n 3, 1) ∧ 21 + 1 = 22 := ⟨by decide +kernel, rfl⟩
theorem dX5_assign_22 : decode cX5_assign 22 = .ok (.ishr, 1) ∧ 22 + 1 = 23 := ⟨by decide +kernel, rfl⟩
theorem dX5_assign_23 : decode cX5_assign 23 = .ok (.iconst 1, 1) ∧ 23 + 1 = 24 := ⟨by decide +kernel, rfl⟩
theorem dX5_assign_24 : decode cX5_assign 24 = .ok (.iand, 1) ∧ 24 + 1 = 25 := ⟨by decide +kernel, rfl⟩
theorem dX5_assign_25 : decode cX5_assign 25 = .ok (.iconst 1, 1) ∧ 25 + 1 = 26 := ⟨by decide +kernel, rfl⟩
theorem dX5_assign_26 : decode cX5_assign 26 = .ok (.if_icmp .ne 36, 3) ∧ 26 + 3 = 29 ∧ ((26 : Nat) : Int) + 36 = ((62 : Nat) : Int) := ⟨by decide +kernel, rfl, rfl⟩
theorem dX5_assign_29 : decode cX5_assign 29 = .ok (.aload_n 0, 1) ∧ 29 + 1 = 30 := ⟨by decide +kernel, rfl⟩
theorem dX5_assign_30 : decode cX5_assign 30 = .ok (.getfield 20, 3) ∧ 30 + 3 = 33 := ⟨by decide +kernel, rfl⟩
theorem dX5_assign_33 : decode cX5_assign 33 = .ok (.iload_n 3, 1) ∧ 33 + 1 = 34 := ⟨by decide +kernel, rfl⟩
theorem dX5_assign_34 : decode cX5_assign 34 = .ok (.invokevirtual 48, 3) ∧ 34 + 3 = 37 := ⟨by decide +kernel, rfl⟩
theorem dX5_assign_37 : decode cX5_assign 37 = .ok (.ifCond .le 25, 3) ∧ 37 + 3 = 40 ∧ ((37 : Nat) : Int) + 25 = ((62 : Nat) : Int) := ⟨by decide +kernel, rfl, rfl⟩
theorem dX5_assign_40 : decode cX5_assign 40 = .ok (.aload_n 0, 1) ∧ 40 + 1 = 41 := ⟨by decide +kernel, rfl⟩
theorem dX5_assign_41 : decode cX5_assign 41 = .ok (.iload_n 3, 1) ∧ 41 + 1 = 42 := ⟨by decide +kernel, rfl⟩
theorem dX5_assign_42 : decode cX5_assign 42 = .ok (.iconst (-1), 1) ∧ 42 + 1 = 43 := ⟨by decide +kernel, rfl⟩
theorem dX5_assign_43 : decode cX5_assign 43 = .ok (.invokevirtual 33, 3) ∧ 43 + 3 = 46 := ⟨by decide +kernel, rfl⟩
theorem dX5_assign_46 : decode cX5_assign 46 = .ok (.aload_n 0, 1) ∧ 46 + 1 = 47 := ⟨by decide +kernel, rfl⟩
theorem dX5_assign_47 : decode cX5_assign 47 = .ok (.invokevirtual 42, 3) ∧ 47 + 3 = 50 := ⟨by decide +kernel, rfl⟩
theorem dX5_assign_50 : decode cX5_assign 50 = .ok (.iload_n 2, 1) ∧ 50 + 1 = 51 := ⟨by decide +kernel, rfl⟩
theorem dX5_assign_51 : decode cX5_assign 51 = .ok (.if_icmp .ne 5, 3) ∧ 51 + 3 = 54 ∧ ((51 : Nat) : Int) + 5 = ((56 : Nat) : Int) := ⟨by decide +kernel, rfl, rfl⟩
theorem dX5_assign_54 : decode cX5_assign 54 = .ok (.iload_n 3, 1) ∧ 54 + 1 = 55 := ⟨by decide +kernel, rfl⟩
theorem dX5_assign_55 : decode cX5_assign 55 = .ok (.ireturn, 1) ∧ 55 + 1 = 56 := ⟨by decide +kernel, rfl⟩
theorem dX5_assign_56 : decode cX5_assign 56 = .ok (.aload_n 0, 1) ∧ 56 + 1 = 57 := ⟨by decide +kernel, rfl⟩
theorem dX5_assign_57 : decode cX5_assign 57 = .ok (.iload_n 3, 1) ∧ 57 + 1 = 58 := ⟨by decide +kernel, rfl⟩
theorem dX5_assign_58 : decode cX5_assign 58 = .ok (.iconst 1, 1) ∧ 58 + 1 = 59 := ⟨by decide +kernel, rfl⟩
theorem dX5_assign_59 : decode cX5_assign 59 = .ok (.invokevirtual 33, 3) ∧ 59 + 3 = 62 := ⟨by decide +kernel, rfl⟩
theorem dX5_assign_62 : decode cX5_assign 62 = .ok (.iinc 3 1, 3) ∧ 62 + 3 = 65 := ⟨by decide +kernel, rfl⟩
theorem dX5_assign_65 : decode cX5_assign 65 = .ok (.goto (-50), 3) ∧ ((65 : Nat) : Int) + (-50) = ((15 : Nat) : Int) := ⟨by decide +kernel, rfl⟩
theorem dX5_assign_68 : decode cX5_assign 68 = .ok (.bipush (-9), 2) ∧ 68 + 2 = 70 := ⟨by decide +kernel, rfl⟩
theorem dX5_assign_70 : decode cX5_assign 70 = .ok (.ireturn, 1) ∧ 70 + 1 = 71 := ⟨by decide +kernel, rfl⟩
theorem dX5_changeLeft_0 : decode cX5_changeLeft 0 = .ok (.aload_n 0, 1) ∧ 0 + 1 = 1 := ⟨by decide +kernel, rfl⟩
theorem dX5_changeLeft_1 : decode cX5_changeLeft 1 = .ok (.getfield 20, 3) ∧ 1 + 3 = 4 := ⟨by decide +kernel, rfl⟩
theorem dX5_changeLeft_4 : decode cX5_changeLeft 4 = .ok (.iload_n 1, 1) ∧ 4 + 1 = 5 := ⟨by decide +kernel, rfl⟩
theorem dX5_changeLeft_5 : decode cX5_changeLeft 5 = .ok (.iload_n 2, 1) ∧ 5 + 1 = 6 := ⟨by decide +kernel, rfl⟩
theorem dX5_changeLeft_6 : decode cX5_changeLeft 6 = .ok (.invokevirtual 52, 3) ∧ 6 + 3 = 9 := ⟨by decide +kernel, rfl⟩
theorem dX5_changeLeft_9 : decode cX5_changeLeft 9 = .ok (.iconst 0, 1) ∧ 9 + 1 = 10 := ⟨by decide +kernel, rfl⟩
theorem dX5_changeLeft_10 : decode cX5_changeLeft 10 = .ok (.istore_n 3, 1) ∧ 10 + 1 = 11 := ⟨by decide +kernel, rfl⟩
theorem dX5_changeLeft_11 : decode cX5_changeLeft 11 = .ok (.iload_n 3, 1) ∧ 11 + 1 = 12 := ⟨by decide +kernel, rfl⟩
theorem dX5_changeLeft_12 : decode cX5_changeLeft 12 = .ok (.aload_n 0, 1) ∧ 12 + 1 = 13 := ⟨by decide +kernel, rfl⟩
theorem dX5_changeLeft_13 : decode cX5_changeLeft 13 = .ok (.getfield 9, 3) ∧ 13 + 3 = 16 := ⟨by decide +kernel, rfl⟩
theorem dX5_changeLeft_16 : decode cX5_changeLeft 16 = .ok (.arraylength, 1) ∧ 16 + 1 = 17 := ⟨by decide +kernel, rfl⟩
theorem dX5_changeLeft_17 : decode cX5_changeLeft 17 = .ok (.if_icmp .ge 28, 3) ∧ 17 + 3 = 20 ∧ ((17 : Nat) : Int) + 28 = ((45 : Nat) : Int) := ⟨by decide +kernel, rfl, rfl⟩
theorem dX5_changeLeft_20 : decode cX5_changeLeft 20 = .ok (.iload_n 3, 1) ∧ 20 + 1 = 21 := ⟨by decide +kernel, rfl⟩
theorem dX5_changeLeft_21 : decode cX5_changeLeft 21 = .ok (.iload_n 1, 1) ∧ 21 + 1 = 22 := ⟨by decide +kernel, rfl⟩
theorem dX5_changeLeft_22 : decode cX5_changeLeft 22 = .ok (.ishr, 1) ∧ 22 + 1 = 23 := ⟨by decide +kernel, rfl⟩
theorem dX5_changeLeft_23 : decode cX5_changeLeft 23 = .ok (.iconst 1, 1) ∧ 23 + 1 = 24 := ⟨by decide +kernel, rfl⟩
theorem dX5_changeLeft_24 : decode cX5_changeLeft 24 = .ok (.iand, 1) ∧ 24 + 1 = 25 := ⟨by decide +kernel, rfl⟩
theorem dX5_changeLeft_25 : decode cX5_changeLeft 25 = .ok (.iconst 1, 1) ∧ 25 + 1 = 26 := ⟨by decide +kernel, rfl⟩
theorem dX5_changeLeft_26 : decode cX5_changeLeft 26 = .ok (.if_icmp .ne 13, 3) ∧ 26 + 3 = 29 ∧ ((26 : Nat) : Int) + 13 = ((39 : Nat) : Int) := ⟨by decide +kernel, rfl, rfl⟩
theorem dX5_changeLeft_29 : decode cX5_changeLeft 29 = .ok (.aload_n 0, 1) ∧ 29 + 1 = 30 := ⟨by decide +kernel, rfl⟩
theorem dX5_changeLeft_30 : decode cX5_changeLeft 30 = .ok (.getfield 9, 3) ∧ 30 + 3 = 33 := ⟨by decide +kernel, rfl⟩
theorem dX5_changeLeft_33 : decode cX5_changeLeft 33 = .ok (.iload_n 3, 1) ∧ 33 + 1 = 34 := ⟨by decide +kernel, rfl⟩
theorem dX5_changeLeft_34 : decode cX5_changeLeft 34 = .ok (.dup2, 1) ∧ 34 + 1 = 35 := ⟨by decide +kernel, rfl⟩
theorem dX5_changeLeft_35 : decode cX5_changeLeft 35 = .ok (.iaload, 1) ∧ 35 + 1 = 36 := ⟨by decide +kernel, rfl⟩
theorem dX5_changeLeft_36 : decode cX5_changeLeft 36 = .ok (.iload_n 2, 1) ∧ 36 + 1 = 37 := ⟨by decide +kernel, rfl⟩
theorem dX5_changeLeft_37 : decode cX5_changeLeft 37 = .ok (.iadd, 1) ∧ 37 + 1 = 38 := ⟨by decide +kernel, rfl⟩
theorem dX5_changeLeft_38 : decode cX5_changeLeft 38 = .ok (.iastore, 1) ∧ 38 + 1 = 39 := ⟨by decide +kernel, rfl⟩
theorem dX5_changeLeft_39 : decode cX5_changeLeft 39 = .ok (.iinc 3 1, 3) ∧ 39 + 3 = 42 := ⟨by decide +kernel, rfl⟩
theorem dX5_changeLeft_42 : decode cX5_changeLeft 42 = .ok (.goto (-31), 3) ∧ ((42 : Nat) : Int) + (-31) = ((11 : Nat) : Int) := ⟨by decide +kernel, rfl⟩
theorem dX5_changeLeft_45 : decode cX5_changeLeft 45 = .ok (.return_, 1) ∧ 45 + 1 = 46 := ⟨by decide +kernel, rfl⟩
theorem dJ6_bitCount_0f7a4_0 : decode cJ6_bitCount_0f7a4 0 = .ok (.iload_n 0, 1) ∧ 0 + 1 = 1 := ⟨by decide +kernel, rfl⟩
theorem dJ6_bitCount_0f7a4_1 : decode cJ6_bitCount_0f7a4 1 = .ok (.iload_n 0, 1) ∧ 1 + 1 = 2 := ⟨by decide +kernel, rfl⟩
theorem dJ6_bitCount_0f7a4_2 : decode cJ6_bitCount_0f7a4 2 = .ok (.iconst 1, 1) ∧ 2 + 1 = 3 := ⟨by decide +kernel, rfl⟩
theorem dJ6_bitCount_0f7a4_3 : decode cJ6_bitCount_0f7a4 3 = .ok (.iushr, 1) ∧ 3 + 1 = 4 := ⟨by decide +kernel, rfl⟩
theorem dJ6_bitCount_0f7a4_4 : decode cJ6_bitCount_0f7a4 4 = .ok (.ldc_w 265, 3) ∧ 4 + 3 = 7 := ⟨by decide +kernel, rfl⟩
theorem dJ6_bitCount_0f7a4_7 : decode cJ6_bitCount_0f7a4 7 = .ok (.iand, 1) ∧ 7 + 1 = 8 := ⟨by decide +kernel, rfl⟩
theorem dJ6_bitCount_0f7a4_8 : decode cJ6_bitCount_0f7a4 8 = .ok (.isub, 1) ∧ 8 + 1 = 9 := ⟨by decide +kernel, rfl⟩
theorem dJ6_bitCount_0f7a4_9 : decode cJ6_bitCount_0f7a4 9 = .ok (.istore_n 0, 1) ∧ 9 + 1 = 10 := ⟨by decide +kernel, rfl⟩
theorem dJ6_bitCount_0f7a4_10 : decode cJ6_bitCount_0f7a4 10 = .ok (.iload_n 0, 1) ∧ 10 + 1 = 11 := ⟨by decide +kernel, rfl⟩
theorem dJ6_bitCount_0f7a4_11 : decode cJ6_bitCount_0f7a4 11 = .ok (.ldc_w 266, 3) ∧ 11 + 3 = 14 := ⟨by decide +kernel, rfl⟩
theorem dJ6_bitCount_0f7a4_14 : decode cJ6_bitCount_0f7a4 14 = .ok (.iand, 1) ∧ 14 + 1 = 15 := ⟨by decide +kernel, rfl⟩
theorem dJ6_bitCount_0f7a4_15 : decode cJ6_bitCount_0f7a4 15 = .ok (.iload_n 0, 1) ∧ 15 + 1 = 16 := ⟨by decide +kernel, rfl⟩
theorem dJ6_bitCount_0f7a4_16 : decode cJ6_bitCount_0f7a4 16 = .ok (.iconst 2, 1) ∧ 16 + 1 = 17 := ⟨by decide +kernel, rfl⟩
theorem dJ6_bitCount_0f7a4_17 : decode cJ6_bitCount_0f7a4 17 = .ok (.iushr, 1) ∧ 17 + 1 = 18 := ⟨by decide +kernel, rfl⟩
theorem dJ6_bitCount_0f7a4_18 : decode cJ6_bitCount_0f7a4 18 = .ok (.ldc_w 266, 3) ∧ 18 + 3 = 21 := ⟨by decide +kernel, rfl⟩
theorem dJ6_bitCount_0f7a4_21 : decode cJ6_bitCount_0f7a4 21 = .ok (.iand, 1) ∧ 21 + 1 = 22 := ⟨by decide +kernel, rfl⟩
theorem dJ6_bitCount_0f7a4_22 : decode cJ6_bitCount_0f7a4 22 = .ok (.iadd, 1) ∧ 22 + 1 = 23 := ⟨by decide +kernel, rfl⟩
theorem dJ6_bitCount_0f7a4_23 : decode cJ6_bitCount_0f7a4 23 = .ok (.istore_n 0, 1) ∧ 23 + 1 = 24 := ⟨by decide +kernel, rfl⟩
theorem dJ6_bitCount_0f7a4_24 : decode cJ6_bitCount_0f7a4 24 = .ok (.iload_n 0, 1) ∧ 24 + 1 = 25 := ⟨by decide +kernel, rfl⟩
theorem dJ6_bitCount_0f7a4_25 : decode cJ6_bitCount_0f7a4 25 = .ok (.iload_n 0, 1) ∧ 25 + 1 = 26 := ⟨by decide +kernel, rfl⟩
theorem dJ6_bitCount_0f7a4_26 : decode cJ6_bitCount_0f7a4 26 = .ok (.iconst 4, 1) ∧ 26 + 1 = 27 := ⟨by decide +kernel, rfl⟩
theorem dJ6_bitCount_0f7a4_27 : decode cJ6_bitCount_0f7a4 27 = .ok (.iushr, 1) ∧ 27 + 1 = 28 := ⟨by decide +kernel, rfl⟩
theorem dJ6_bitCount_0f7a4_28 : decode cJ6_bitCount_0f7a4 28 = .ok (.iadd, 1) ∧ 28 + 1 = 29 := ⟨by decide +kernel, rfl⟩
theorem dJ6_bitCount_0f7a4_29 : decode cJ6_bitCount_0f7a4 29 = .ok (.ldc_w 267, 3) ∧ 29 + 3 = 32 := ⟨by decide +kernel, rfl⟩
theorem dJ6_bitCount_0f7a4_32 : decode cJ6_bitCount_0f7a4 32 = .ok (.iand, 1) ∧ 32 + 1 = 33 := ⟨by decide +kernel, rfl⟩
theorem dJ6_bitCount_0f7a4_33 : decode cJ6_bitCount_0f7a4 33 = .ok (.istore_n 0, 1) ∧ 33 + 1 = 34 := ⟨by decide +kernel, rfl⟩
theorem dJ6_bitCount_0f7a4_34 : decode cJ6_bitCount_0f7a4 34 = .ok (.iload_n 0, 1) ∧ 34 + 1 = 35 := ⟨by decide +kernel, rfl⟩
theorem dJ6_bitCount_0f7a4_35 : decode cJ6_bitCount_0f7a4 35 = .ok (.iload_n 0, 1) ∧ 35 + 1 = 36 := ⟨by decide +kernel, rfl⟩
theorem dJ6_bitCount_0f7a4_36 : decode cJ6_bitCount_0f7a4 36 = .ok (.bipush 8, 2) ∧ 36 + 2 = 38 := ⟨by decide +kernel, rfl⟩
theorem dJ6_bitCount_0f7a4_38 : decode cJ6_bitCount_0f7a4 38 = .ok (.iushr, 1) ∧ 38 + 1 = 39 := ⟨by decide +kernel, rfl⟩
theorem dJ6_bitCount_0f7a4_39 : decode cJ6_bitCount_0f7a4 39 = .ok (.iadd, 1) ∧ 39 + 1 = 40 := ⟨by decide +kernel, rfl⟩
theorem dJ6_bitCount_0f7a4_40 : decode cJ6_bitCount_0f7a4 40 = .ok (.istore_n 0, 1) ∧ 40 + 1 = 41 := ⟨by decide +kernel, rfl⟩
theorem dJ6_bitCount_0f7a4_41 : decode cJ6_bitCount_0f7a4 41 = .ok (.iload_n 0, 1) ∧ 41 + 1 = 42 := ⟨by decide +kernel, rfl⟩
theorem dJ6_bitCount_0f7a4_42 : decode cJ6_bitCount_0f7a4 42 = .ok (.iload_n 0, 1) ∧ 42 + 1 = 43 := ⟨by decide +kernel, rfl⟩
theorem dJ6_bitCount_0f7a4_43 : decode cJ6_bitCount_0f7a4 43 = .ok (.bipush 16, 2) ∧ 43 + 2 = 45 := ⟨by decide +kernel, rfl⟩
theorem dJ6_bitCount_0f7a4_45 : decode cJ6_bitCount_0f7a4 45 = .ok (.iushr, 1) ∧ 45 + 1 = 46 := ⟨by decide +kernel, rfl⟩
theorem dJ6_bitCount_0f7a4_46 : decode cJ6_bitCount_0f7a4 46 = .ok (.iadd, 1) ∧ 46 + 1 = 47 := ⟨by decide +kernel, rfl⟩
theorem dJ6_bitCount_0f7a4_47 : decode cJ6_bitCount_0f7a4 47 = .ok (.istore_n 0, 1) ∧ 47 + 1 = 48 := ⟨by decide +kernel, rfl⟩
theorem dJ6_bitCount_0f7a4_48 : decode cJ6_bitCount_0f7a4 48 = .ok (.iload_n 0, 1) ∧ 48 + 1 = 49 := ⟨by decide +kernel, rfl⟩
theorem dJ6_bitCount_0f7a4_49 : decode cJ6_bitCount_0f7a4 49 = .ok (.bipush 63, 2) ∧ 49 + 2 = 51 := ⟨by decide +kernel, rfl⟩
theorem dJ6_bitCount_0f7a4_51 : decode cJ6_bitCount_0f7a4 51 = .ok (.iand, 1) ∧ 51 + 1 = 52 := ⟨by decide +kernel, rfl⟩
theorem dJ6_bitCount_0f7a4_52 : decode cJ6_bitCount_0f7a4 52 = .ok (.ireturn, 1) ∧ 52 + 1 = 53 := ⟨by decide +kernel, rfl⟩
