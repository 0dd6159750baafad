theorem dX7_takeIn_0 : decode cX7_takeIn 0 = .ok (.aload_n 0, 1) ∧ 0 + 1 = 1 := ⟨by decide +kernel, rfl⟩
theorem dX7_takeIn_1 : decode cX7_takeIn 1 = .ok (.iload_n 1, 1) ∧ 1 + 1 = 2 := ⟨by decide +kernel, rfl⟩
theorem dX7_takeIn_2 : decode cX7_takeIn 2 = .ok (.invokevirtual 154, 3) ∧ 2 + 3 = 5 := ⟨by decide +kernel, rfl⟩
theorem dX7_takeIn_5 : decode cX7_takeIn 5 = .ok (.aload_n 0, 1) ∧ 5 + 1 = 6 := ⟨by decide +kernel, rfl⟩
theorem dX7_takeIn_6 : decode cX7_takeIn 6 = .ok (.getfield 123, 3) ∧ 6 + 3 = 9 := ⟨by decide +kernel, rfl⟩
theorem dX7_takeIn_9 : decode cX7_takeIn 9 = .ok (.aload_n 0, 1) ∧ 9 + 1 = 10 := ⟨by decide +kernel, rfl⟩
theorem dX7_takeIn_10 : decode cX7_takeIn 10 = .ok (.getfield 19, 3) ∧ 10 + 3 = 13 := ⟨by decide +kernel, rfl⟩
theorem dX7_takeIn_13 : decode cX7_takeIn 13 = .ok (.iload_n 1, 1) ∧ 13 + 1 = 14 := ⟨by decide +kernel, rfl⟩
theorem dX7_takeIn_14 : decode cX7_takeIn 14 = .ok (.iaload, 1) ∧ 14 + 1 = 15 := ⟨by decide +kernel, rfl⟩
theorem dX7_takeIn_15 : decode cX7_takeIn 15 = .ok (.if_icmp .ge 10, 3) ∧ 15 + 3 = 18 ∧ ((15 : Nat) : Int) + 10 = ((25 : Nat) : Int) := ⟨by decide +kernel, rfl, rfl⟩
theorem dX7_takeIn_18 : decode cX7_takeIn 18 = .ok (.aload_n 0, 1) ∧ 18 + 1 = 19 := ⟨by decide +kernel, rfl⟩
theorem dX7_takeIn_19 : decode cX7_takeIn 19 = .ok (.getfield 123, 3) ∧ 19 + 3 = 22 := ⟨by decide +kernel, rfl⟩
theorem dX7_takeIn_22 : decode cX7_takeIn 22 = .ok (.goto 9, 3) ∧ ((22 : Nat) : Int) + 9 = ((31 : Nat) : Int) := ⟨by decide +kernel, rfl⟩
theorem dX7_takeIn_25 : decode cX7_takeIn 25 = .ok (.aload_n 0, 1) ∧ 25 + 1 = 26 := ⟨by decide +kernel, rfl⟩
theorem dX7_takeIn_26 : decode cX7_takeIn 26 = .ok (.getfield 19, 3) ∧ 26 + 3 = 29 := ⟨by decide +kernel, rfl⟩
theorem dX7_takeIn_29 : decode cX7_takeIn 29 = .ok (.iload_n 1, 1) ∧ 29 + 1 = 30 := ⟨by decide +kernel, rfl⟩
theorem dX7_takeIn_30 : decode cX7_takeIn 30 = .ok (.iaload, 1) ∧ 30 + 1 = 31 := ⟨by decide +kernel, rfl⟩
theorem dX7_takeIn_31 : decode cX7_takeIn 31 = .ok (.istore_n 2, 1) ∧ 31 + 1 = 32 := ⟨by decide +kernel, rfl⟩
theorem dX7_takeIn_32 : decode cX7_takeIn 32 = .ok (.aload_n 0, 1) ∧ 32 + 1 = 33 := ⟨by decide +kernel, rfl⟩
theorem dX7_takeIn_33 : decode cX7_takeIn 33 = .ok (.getfield 7, 3) ∧ 33 + 3 = 36 := ⟨by decide +kernel, rfl⟩
theorem dX7_takeIn_36 : decode cX7_takeIn 36 = .ok (.sipush 156, 3) ∧ 36 + 3 = 39 := ⟨by decide +kernel, rfl⟩
theorem dX7_takeIn_39 : decode cX7_takeIn 39 = .ok (.iaload, 1) ∧ 39 + 1 = 40 := ⟨by decide +kernel, rfl⟩
theorem dX7_takeIn_40 : decode cX7_takeIn 40 = .ok (.ifCond .ne 12, 3) ∧ 40 + 3 = 43 ∧ ((40 : Nat) : Int) + 12 = ((52 : Nat) : Int) := ⟨by decide +kernel, rfl, rfl⟩
theorem dX7_takeIn_43 : decode cX7_takeIn 43 = .ok (.aload_n 0, 1) ∧ 43 + 1 = 44 := ⟨by decide +kernel, rfl⟩
theorem dX7_takeIn_44 : decode cX7_takeIn 44 = .ok (.iload_n 1, 1) ∧ 44 + 1 = 45 := ⟨by decide +kernel, rfl⟩
theorem dX7_takeIn_45 : decode cX7_takeIn 45 = .ok (.iload_n 2, 1) ∧ 45 + 1 = 46 := ⟨by decide +kernel, rfl⟩
theorem dX7_takeIn_46 : decode cX7_takeIn 46 = .ok (.invokevirtual 157, 3) ∧ 46 + 3 = 49 := ⟨by decide +kernel, rfl⟩
theorem dX7_takeIn_49 : decode cX7_takeIn 49 = .ok (.goto 29, 3) ∧ ((49 : Nat) : Int) + 29 = ((78 : Nat) : Int) := ⟨by decide +kernel, rfl⟩
theorem dX7_takeIn_52 : decode cX7_takeIn 52 = .ok (.aload_n 0, 1) ∧ 52 + 1 = 53 := ⟨by decide +kernel, rfl⟩
theorem dX7_takeIn_53 : decode cX7_takeIn 53 = .ok (.getfield 7, 3) ∧ 53 + 3 = 56 := ⟨by decide +kernel, rfl⟩
theorem dX7_takeIn_56 : decode cX7_takeIn 56 = .ok (.sipush 156, 3) ∧ 56 + 3 = 59 := ⟨by decide +kernel, rfl⟩
theorem dX7_takeIn_59 : decode cX7_takeIn 59 = .ok (.iaload, 1) ∧ 59 + 1 = 60 := ⟨by decide +kernel, rfl⟩
theorem dX7_takeIn_60 : decode cX7_takeIn 60 = .ok (.iconst 1, 1) ∧ 60 + 1 = 61 := ⟨by decide +kernel, rfl⟩
theorem dX7_takeIn_61 : decode cX7_takeIn 61 = .ok (.if_icmp .ne 12, 3) ∧ 61 + 3 = 64 ∧ ((61 : Nat) : Int) + 12 = ((73 : Nat) : Int) := ⟨by decide +kernel, rfl, rfl⟩
theorem dX7_takeIn_64 : decode cX7_takeIn 64 = .ok (.aload_n 0, 1) ∧ 64 + 1 = 65 := ⟨by decide +kernel, rfl⟩
theorem dX7_takeIn_65 : decode cX7_takeIn 65 = .ok (.iload_n 1, 1) ∧ 65 + 1 = 66 := ⟨by decide +kernel, rfl⟩
theorem dX7_takeIn_66 : decode cX7_takeIn 66 = .ok (.iload_n 2, 1) ∧ 66 + 1 = 67 := ⟨by decide +kernel, rfl⟩
theorem dX7_takeIn_67 : decode cX7_takeIn 67 = .ok (.invokevirtual 160, 3) ∧ 67 + 3 = 70 := ⟨by decide +kernel, rfl⟩
theorem dX7_takeIn_70 : decode cX7_takeIn 70 = .ok (.goto 8, 3) ∧ ((70 : Nat) : Int) + 8 = ((78 : Nat) : Int) := ⟨by decide +kernel, rfl⟩
theorem dX7_takeIn_73 : decode cX7_takeIn 73 = .ok (.aload_n 0, 1) ∧ 73 + 1 = 74 := ⟨by decide +kernel, rfl⟩
theorem dX7_takeIn_74 : decode cX7_takeIn 74 = .ok (.iload_n 2, 1) ∧ 74 + 1 = 75 := ⟨by decide +kernel, rfl⟩
theorem dX7_takeIn_75 : decode cX7_takeIn 75 = .ok (.invokevirtual 151, 3) ∧ 75 + 3 = 78 := ⟨by decide +kernel, rfl⟩
theorem dX7_takeIn_78 : decode cX7_takeIn 78 = .ok (.iconst 0, 1) ∧ 78 + 1 = 79 := ⟨by decide +kernel, rfl⟩
theorem dX7_takeIn_79 : decode cX7_takeIn 79 = .ok (.istore_n 3, 1) ∧ 79 + 1 = 80 := ⟨by decide +kernel, rfl⟩
theorem dX7_takeIn_80 : decode cX7_takeIn 80 = .ok (.iload_n 3, 1) ∧ 80 + 1 = 81 := ⟨by decide +kernel, rfl⟩
theorem dX7_takeIn_81 : decode cX7_takeIn 81 = .ok (.aload_n 0, 1) ∧ 81 + 1 = 82 := ⟨by decide +kernel, rfl⟩
theorem dX7_takeIn_82 : decode cX7_takeIn 82 = .ok (.getfield 123, 3) ∧ 82 + 3 = 85 := ⟨by decide +kernel, rfl⟩
theorem dX7_takeIn_85 : decode cX7_takeIn 85 = .ok (.if_icmp .ge 40, 3) ∧ 85 + 3 = 88 ∧ ((85 : Nat) : Int) + 40 = ((125 : Nat) : Int) := ⟨by decide +kernel, rfl, rfl⟩
theorem dX7_takeIn_88 : decode cX7_takeIn 88 = .ok (.aload_n 0, 1) ∧ 88 + 1 = 89 := ⟨by decide +kernel, rfl⟩
theorem dX7_takeIn_89 : decode cX7_takeIn 89 = .ok (.getfield 44, 3) ∧ 89 + 3 = 92 := ⟨by decide +kernel, rfl⟩
theorem dX7_takeIn_92 : decode cX7_takeIn 92 = .ok (.iload_n 3, 1) ∧ 92 + 1 = 93 := ⟨by decide +kernel, rfl⟩
theorem dX7_takeIn_93 : decode cX7_takeIn 93 = .ok (.baload, 1) ∧ 93 + 1 = 94 := ⟨by decide +kernel, rfl⟩
theorem dX7_takeIn_94 : decode cX7_takeIn 94 = .ok (.ifCond .eq 25, 3) ∧ 94 + 3 = 97 ∧ ((94 : Nat) : Int) + 25 = ((119 : Nat) : Int) := ⟨by decide +kernel, rfl, rfl⟩
theorem dX7_takeIn_97 : decode cX7_takeIn 97 = .ok (.aload_n 0, 1) ∧ 97 + 1 = 98 := ⟨by decide +kernel, rfl⟩
theorem dX7_takeIn_98 : decode cX7_takeIn 98 = .ok (.getfield 31, 3) ∧ 98 + 3 = 101 := ⟨by decide +kernel, rfl⟩
theorem dX7_takeIn_101 : decode cX7_takeIn 101 = .ok (.aload_n 0, 1) ∧ 101 + 1 = 102 := ⟨by decide +kernel, rfl⟩
theorem dX7_takeIn_102 : decode cX7_takeIn 102 = .ok (.getfield 41, 3) ∧ 102 + 3 = 105 := ⟨by decide +kernel, rfl⟩
theorem dX7_takeIn_105 : decode cX7_takeIn 105 = .ok (.iload_n 3, 1) ∧ 105 + 1 = 106 := ⟨by decide +kernel, rfl⟩
theorem dX7_takeIn_106 : decode cX7_takeIn 106 = .ok (.iaload, 1) ∧ 106 + 1 = 107 := ⟨by decide +kernel, rfl⟩
theorem dX7_takeIn_107 : decode cX7_takeIn 107 = .ok (.iload_n 1, 1) ∧ 107 + 1 = 108 := ⟨by decide +kernel, rfl⟩
theorem dX7_takeIn_108 : decode cX7_takeIn 108 = .ok (.iastore, 1) ∧ 108 + 1 = 109 := ⟨by decide +kernel, rfl⟩
theorem dX7_takeIn_109 : decode cX7_takeIn 109 = .ok (.aload_n 0, 1) ∧ 109 + 1 = 110 := ⟨by decide +kernel, rfl⟩
theorem dX7_takeIn_110 : decode cX7_takeIn 110 = .ok (.getfield 25, 3) ∧ 110 + 3 = 113 := ⟨by decide +kernel, rfl⟩
theorem dX7_takeIn_113 : decode cX7_takeIn 113 = .ok (.iload_n 1, 1) ∧ 113 + 1 = 114 := ⟨by decide +kernel, rfl⟩
theorem dX7_takeIn_114 : decode cX7_takeIn 114 = .ok (.dup2, 1) ∧ 114 + 1 = 115 := ⟨by decide +kernel, rfl⟩
theorem dX7_takeIn_115 : decode cX7_takeIn 115 = .ok (.iaload, 1) ∧ 115 + 1 = 116 := ⟨by decide +kernel, rfl⟩
theorem dX7_takeIn_116 : decode cX7_takeIn 116 = .ok (.iconst 1, 1) ∧ 116 + 1 = 117 := ⟨by decide +kernel, rfl⟩
theorem dX7_takeIn_117 : decode cX7_takeIn 117 = .ok (.iadd, 1) ∧ 117 + 1 = 118 := ⟨by decide +kernel, rfl⟩
theorem dX7_takeIn_118 : decode cX7_takeIn 118 = .ok (.iastore, 1) ∧ 118 + 1 = 119 := ⟨by decide +kernel, rfl⟩
theorem dX7_takeIn_119 : decode cX7_takeIn 119 = .ok (.iinc 3 1, 3) ∧ 119 + 3 = 122 := ⟨by decide +kernel, rfl⟩
theorem dX7_takeIn_122 : decode cX7_takeIn 122 = .ok (.goto (-42), 3) ∧ ((122 : Nat) : Int) + (-42) = ((80 : Nat) : Int) := ⟨by decide +kernel, rfl⟩
theorem dX7_takeIn_125 : decode cX7_takeIn 125 = .ok (.return_, 1) ∧ 125 + 1 = 126 := ⟨by decide +kernel, rfl⟩
theorem dX7_countIn_0 : decode cX7_countIn 0 = .ok (.aload_n 0, 1) ∧ 0 + 1 = 1 := ⟨by decide +kernel, rfl⟩
theorem dX7_countIn_1 : decode cX7_countIn 1 = .ok (.iload_n 1, 1) ∧ 1 + 1 = 2 := ⟨by decide +kernel, rfl⟩
theorem dX7_countIn_2 : decode cX7_countIn 2 = .ok (.invokevirtual 132, 3) ∧ 2 + 3 = 5 := ⟨by decide +kernel, rfl⟩
theorem dX7_countIn_5 : decode cX7_countIn 5 = .ok (.aload_n 0, 1) ∧ 5 + 1 = 6 := ⟨by decide +kernel, rfl⟩
theorem dX7_countIn_6 : decode cX7_countIn 6 = .ok (.invokevirtual 135, 3) ∧ 6 + 3 = 9 := ⟨by decide +kernel, rfl⟩
theorem dX7_countIn_9 : decode cX7_countIn 9 = .ok (.aload_n 0, 1) ∧ 9 + 1 = 10 := ⟨by decide +kernel, rfl⟩
theorem dX7_countIn_10 : decode cX7_countIn 10 = .ok (.invokevirtual 138, 3) ∧ 10 + 3 = 13 := ⟨by decide +kernel, rfl⟩
theorem dX7_countIn_13 : decode cX7_countIn 13 = .ok (.iconst 0, 1) ∧ 13 + 1 = 14 := ⟨by decide +kernel, rfl⟩
theorem dX7_countIn_14 : decode cX7_countIn 14 = .ok (.istore_n 2, 1) ∧ 14 + 1 = 15 := ⟨by decide +kernel, rfl⟩
theorem dX7_countIn_15 : decode cX7_countIn 15 = .ok (.iload_n 2, 1) ∧ 15 + 1 = 16 := ⟨by decide +kernel, rfl⟩
theorem dX7_countIn_16 : decode cX7_countIn 16 = .ok (.aload_n 0, 1) ∧ 16 + 1 = 17 := ⟨by decide +kernel, rfl⟩
theorem dX7_countIn_17 : decode cX7_countIn 17 = .ok (.getfield 7, 3) ∧ 17 + 3 = 20 := ⟨by decide +kernel, rfl⟩
theorem dX7_countIn_20 : decode cX7_countIn 20 = .ok (.sipush 157, 3) ∧ 20 + 3 = 23 := ⟨by decide +kernel, rfl⟩
theorem dX7_countIn_23 : decode cX7_countIn 23 = .ok (.iaload, 1) ∧ 23 + 1 = 24 := ⟨by decide +kernel, rfl⟩
theorem dX7_countIn_24 : decode cX7_countIn 24 = .ok (.if_icmp .ge 34, 3) ∧ 24 + 3 = 27 ∧ ((24 : Nat) : Int) + 34 = ((58 : Nat) : Int) := ⟨by decide +kernel, rfl, rfl⟩
theorem dX7_countIn_27 : decode cX7_countIn 27 = .ok (.aload_n 0, 1) ∧ 27 + 1 = 28 := ⟨by decide +kernel, rfl⟩
theorem dX7_countIn_28 : decode cX7_countIn 28 = .ok (.aload_n 0, 1) ∧ 28 + 1 = 29 := ⟨by decide +kernel, rfl⟩
theorem dX7_countIn_29 : decode cX7_countIn 29 = .ok (.getfield 16, 3) ∧ 29 + 3 = 32 := ⟨by decide +kernel, rfl⟩
theorem dX7_countIn_32 : decode cX7_countIn 32 = .ok (.iload_n 2, 1) ∧ 32 + 1 = 33 := ⟨by decide +kernel, rfl⟩
theorem dX7_countIn_33 : decode cX7_countIn 33 = .ok (.iaload, 1) ∧ 33 + 1 = 34 := ⟨by decide +kernel, rfl⟩
theorem dX7_countIn_34 : decode cX7_countIn 34 = .ok (.iload_n 1, 1) ∧ 34 + 1 = 35 := ⟨by decide +kernel, rfl⟩
theorem dX7_countIn_35 : decode cX7_countIn 35 = .ok (.invokevirtual 163, 3) ∧ 35 + 3 = 38 := ⟨by decide +kernel, rfl⟩
theorem dX7_countIn_38 : decode cX7_countIn 38 = .ok (.ifCond .eq 14, 3) ∧ 38 + 3 = 41 ∧ ((38 : Nat) : Int) + 14 = ((52 : Nat) : Int) := ⟨by decide +kernel, rfl, rfl⟩
theorem dX7_countIn_41 : decode cX7_countIn 41 = .ok (.aload_n 0, 1) ∧ 41 + 1 = 42 := ⟨by decide +kernel, rfl⟩
theorem dX7_countIn_42 : decode cX7_countIn 42 = .ok (.aload_n 0, 1) ∧ 42 + 1 = 43 := ⟨by decide +kernel, rfl⟩
theorem dX7_countIn_43 : decode cX7_countIn 43 = .ok (.getfield 16, 3) ∧ 43 + 3 = 46 := ⟨by decide +kernel, rfl⟩
theorem dX7_countIn_46 : decode cX7_countIn 46 = .ok (.iload_n 2, 1) ∧ 46 + 1 = 47 := ⟨by decide +kernel, rfl⟩
theorem dX7_countIn_47 : decode cX7_countIn 47 = .ok (.iaload, 1) ∧ 47 + 1 = 48 := ⟨by decide +kernel, rfl⟩
theorem dX7_countIn_48 : decode cX7_countIn 48 = .ok (.iconst 1, 1) ∧ 48 + 1 = 49 := ⟨by decide +kernel, rfl⟩
theorem dX7_countIn_49 : decode cX7_countIn 49 = .ok (.invokevirtual 147, 3) ∧ 49 + 3 = 52 := ⟨by decide +kernel, rfl⟩
theorem dX7_countIn_52 : decode cX7_countIn 52 = .ok (.iinc 2 1, 3) ∧ 52 + 3 = 55 := ⟨by decide +kernel, rfl⟩
theorem dX7_countIn_55 : decode cX7_countIn 55 = .ok (.goto (-40), 3) ∧ ((55 : Nat) : Int) + (-40) = ((15 : Nat) : Int) := ⟨by decide +kernel, rfl⟩
theorem dX7_countIn_58 : decode cX7_countIn 58 = .ok (.aload_n 0, 1) ∧ 58 + 1 = 59 := ⟨by decide +kernel, rfl⟩
theorem dX7_countIn_59 : decode cX7_countIn 59 = .ok (.bipush (-9), 2) ∧ 59 + 2 = 61 := ⟨by decide +kernel, rfl⟩
theorem dX7_countIn_61 : decode cX7_countIn 61 = .ok (.invokevirtual 144, 3) ∧ 61 + 3 = 64 := ⟨by decide +kernel, rfl⟩
theorem dX7_countIn_64 : decode cX7_countIn 64 = .ok (.istore_n 2, 1) ∧ 64 + 1 = 65 := ⟨by decide +kernel, rfl⟩
theorem dX7_countIn_65 : decode cX7_countIn 65 = .ok (.iconst 0, 1) ∧ 65 + 1 = 66 := ⟨by decide +kernel, rfl⟩
theorem dX7_countIn_66 : decode cX7_countIn 66 = .ok (.istore_n 3, 1) ∧ 66 + 1 = 67 := ⟨by decide +kernel, rfl⟩
theorem dX7_countIn_67 : decode cX7_countIn 67 = .ok (.iload_n 3, 1) ∧ 67 + 1 = 68 := ⟨by decide +kernel, rfl⟩
theorem dX7_countIn_68 : decode cX7_countIn 68 = .ok (.aload_n 0, 1) ∧ 68 + 1 = 69 := ⟨by decide +kernel, rfl⟩
theorem dX7_countIn_69 : decode cX7_countIn 69 = .ok (.getfield 7, 3) ∧ 69 + 3 = 72 := ⟨by decide +kernel, rfl⟩
theorem dX7_countIn_72 : decode cX7_countIn 72 = .ok (.sipush 157, 3) ∧ 72 + 3 = 75 := ⟨by decide +kernel, rfl⟩
theorem dX7_countIn_75 : decode cX7_countIn 75 = .ok (.iaload, 1) ∧ 75 + 1 = 76 := ⟨by decide +kernel, rfl⟩
theorem dX7_countIn_76 : decode cX7_countIn 76 = .ok (.if_icmp .ge 70, 3) ∧ 76 + 3 = 79 ∧ ((76 : Nat) : Int) + 70 = ((146 : Nat) : Int) := ⟨by decide +kernel, rfl, rfl⟩
theorem dX7_countIn_79 : decode cX7_countIn 79 = .ok (.aload_n 0, 1) ∧ 79 + 1 = 80 := ⟨by decide +kernel, rfl⟩
theorem dX7_countIn_80 : decode cX7_countIn 80 = .ok (.getfield 16, 3) ∧ 80 + 3 = 83 := ⟨by decide +kernel, rfl⟩
theorem dX7_countIn_83 : decode cX7_countIn 83 = .ok (.iload_n 3, 1) ∧ 83 + 1 = 84 := ⟨by decide +kernel, rfl⟩
theorem dX7_countIn_84 : decode cX7_countIn 84 = .ok (.iaload, 1) ∧ 84 + 1 = 85 := ⟨by decide +kernel, rfl⟩
theorem dX7_countIn_85 : decode cX7_countIn 85 = .ok (.istore 4, 2) ∧ 85 + 2 = 87 := ⟨by decide +kernel, rfl⟩
theorem dX7_countIn_87 : decode cX7_countIn 87 = .ok (.aload_n 0, 1) ∧ 87 + 1 = 88 := ⟨by decide +kernel, rfl⟩
theorem dX7_countIn_88 : decode cX7_countIn 88 = .ok (.iload 4, 2) ∧ 88 + 2 = 90 := ⟨by decide +kernel, rfl⟩
theorem dX7_countIn_90 : decode cX7_countIn 90 = .ok (.iload_n 1, 1) ∧ 90 + 1 = 91 := ⟨by decide +kernel, rfl⟩
theorem dX7_countIn_91 : decode cX7_countIn 91 = .ok (.invokevirtual 163, 3) ∧ 91 + 3 = 94 := ⟨by decide +kernel, rfl⟩
theorem dX7_countIn_94 : decode cX7_countIn 94 = .ok (.ifCond .eq 46, 3) ∧ 94 + 3 = 97 ∧ ((94 : Nat) : Int) + 46 = ((140 : Nat) : Int) := ⟨by decide +kernel, rfl, rfl⟩
theorem dX7_countIn_97 : decode cX7_countIn 97 = .ok (.aload_n 0, 1) ∧ 97 + 1 = 98 := ⟨by decide +kernel, rfl⟩
theorem dX7_countIn_98 : decode cX7_countIn 98 = .ok (.iload 4, 2) ∧ 98 + 2 = 100 := ⟨by decide +kernel, rfl⟩
theorem dX7_countIn_100 : decode cX7_countIn 100 = .ok (.iconst (-1), 1) ∧ 100 + 1 = 101 := ⟨by decide +kernel, rfl⟩
theorem dX7_countIn_101 : decode cX7_countIn 101 = .ok (.invokevirtual 147, 3) ∧ 101 + 3 = 104 := ⟨by decide +kernel, rfl⟩
theorem dX7_countIn_104 : decode cX7_countIn 104 = .ok (.aload_n 0, 1) ∧ 104 + 1 = 105 := ⟨by decide +kernel, rfl⟩
theorem dX7_countIn_105 : decode cX7_countIn 105 = .ok (.getfield 34, 3) ∧ 105 + 3 = 108 := ⟨by decide +kernel, rfl⟩
theorem dX7_countIn_108 : decode cX7_countIn 108 = .ok (.iload 4, 2) ∧ 108 + 2 = 110 := ⟨by decide +kernel, rfl⟩
theorem dX7_countIn_110 : decode cX7_countIn 110 = .ok (.aload_n 0, 1) ∧ 110 + 1 = 111 := ⟨by decide +kernel, rfl⟩
theorem dX7_countIn_111 : decode cX7_countIn 111 = .ok (.iload 4, 2) ∧ 111 + 2 = 113 := ⟨by decide +kernel, rfl⟩
theorem dX7_countIn_113 : decode cX7_countIn 113 = .ok (.iload_n 2, 1) ∧ 113 + 1 = 114 := ⟨by decide +kernel, rfl⟩
theorem dX7_countIn_114 : decode cX7_countIn 114 = .ok (.iconst 1, 1) ∧ 114 + 1 = 115 := ⟨by decide +kernel, rfl⟩
theorem dX7_countIn_115 : decode cX7_countIn 115 = .ok (.isub, 1) ∧ 115 + 1 = 116 := ⟨by decide +kernel, rfl⟩
theorem dX7_countIn_116 : decode cX7_countIn 116 = .ok (.invokevirtual 166, 3) ∧ 116 + 3 = 119 := ⟨by decide +kernel, rfl⟩
theorem dX7_countIn_119 : decode cX7_countIn 119 = .ok (.iastore, 1) ∧ 119 + 1 = 120 := ⟨by decide +kernel, rfl⟩
theorem dX7_countIn_120 : decode cX7_countIn 120 = .ok (.iload_n 2, 1) ∧ 120 + 1 = 121 := ⟨by decide +kernel, rfl⟩
theorem dX7_countIn_121 : decode cX7_countIn 121 = .ok (.aload_n 0, 1) ∧ 121 + 1 = 122 := ⟨by decide +kernel, rfl⟩
theorem dX7_countIn_122 : decode cX7_countIn 122 = .ok (.getfield 34, 3) ∧ 122 + 3 = 125 := ⟨by decide +kernel, rfl⟩
theorem dX7_countIn_125 : decode cX7_countIn 125 = .ok (.iload 4, 2) ∧ 125 + 2 = 127 := ⟨by decide +kernel, rfl⟩
theorem dX7_countIn_127 : decode cX7_countIn 127 = .ok (.iaload, 1) ∧ 127 + 1 = 128 := ⟨by decide +kernel, rfl⟩
theorem dX7_countIn_128 : decode cX7_countIn 128 = .ok (.bipush (-9), 2) ∧ 128 + 2 = 130 := ⟨by decide +kernel, rfl⟩
theorem dX7_countIn_130 : decode cX7_countIn 130 = .ok (.if_icmp .ne 7, 3) ∧ 130 + 3 = 133 ∧ ((130 : Nat) : Int) + 7 = ((137 : Nat) : Int) := ⟨by decide +kernel, rfl, rfl⟩
theorem dX7_countIn_133 : decode cX7_countIn 133 = .ok (.iconst 0, 1) ∧ 133 + 1 = 134 := ⟨by decide +kernel, rfl⟩
theorem dX7_countIn_134 : decode cX7_countIn 134 = .ok (.goto 4, 3) ∧ ((134 : Nat) : Int) + 4 = ((138 : Nat) : Int) := ⟨by decide +kernel, rfl⟩
theorem dX7_countIn_137 : decode cX7_countIn 137 = .ok (.iconst 1, 1) ∧ 137 + 1 = 138 := ⟨by decide +kernel, rfl⟩
theorem dX7_countIn_138 : decode cX7_countIn 138 = .ok (.isub, 1) ∧ 138 + 1 = 139 := ⟨by decide +kernel, rfl⟩
theorem dX7_countIn_139 : decode cX7_countIn 139 = .ok (.istore_n 2, 1) ∧ 139 + 1 = 140 := ⟨by decide +kernel, rfl⟩
theorem dX7_countIn_140 : decode cX7_countIn 140 = .ok (.iinc 3 1, 3) ∧ 140 + 3 = 143 := ⟨by decide +kernel, rfl⟩
theorem dX7_countIn_143 : decode cX7_countIn 143 = .ok (.goto (-76), 3) ∧ ((143 : Nat) : Int) + (-76) = ((67 : Nat) : Int) := ⟨by decide +kernel, rfl⟩
theorem dX7_countIn_146 : decode cX7_countIn 146 = .ok (.return_, 1) ∧ 146 + 1 = 147 := ⟨by decide +kernel, rfl⟩
theorem dX7_firstGroup_0 : decode cX7_firstGroup 0 = .ok (.iconst 0, 1) ∧ 0 + 1 = 1 := ⟨by decide +kernel, rfl⟩
theorem dX7_firstGroup_1 : decode cX7_firstGroup 1 = .ok (.istore_n 3, 1) ∧ 1 + 1 = 2 := ⟨by decide +kernel, rfl⟩
theorem dX7_firstGroup_2 : decode cX7_firstGroup 2 = .ok (.iload_n 3, 1) ∧ 2 + 1 = 3 := ⟨by decide +kernel, rfl⟩
theorem dX7_firstGroup_3 : decode cX7_firstGroup 3 = .ok (.iconst 4, 1) ∧ 3 + 1 = 4 := ⟨by decide +kernel, rfl⟩
theorem dX7_firstGroup_4 : decode cX7_firstGroup 4 = .ok (.if_icmp .ge 68, 3) ∧ 4 + 3 = 7 ∧ ((4 : Nat) : Int) + 68 = ((72 : Nat) : Int) := ⟨by decide +kernel, rfl, rfl⟩
theorem dX7_firstGroup_7 : decode cX7_firstGroup 7 = .ok (.aload_n 0, 1) ∧ 7 + 1 = 8 := ⟨by decide +kernel, rfl⟩
theorem dX7_firstGroup_8 : decode cX7_firstGroup 8 = .ok (.iload_n 1, 1) ∧ 8 + 1 = 9 := ⟨by decide +kernel, rfl⟩
theorem dX7_firstGroup_9 : decode cX7_firstGroup 9 = .ok (.iconst 3, 1) ∧ 9 + 1 = 10 := ⟨by decide +kernel, rfl⟩
theorem dX7_firstGroup_10 : decode cX7_firstGroup 10 = .ok (.invokevirtual 103, 3) ∧ 10 + 3 = 13 := ⟨by decide +kernel, rfl⟩
theorem dX7_firstGroup_13 : decode cX7_firstGroup 13 = .ok (.iload_n 3, 1) ∧ 13 + 1 = 14 := ⟨by decide +kernel, rfl⟩
theorem dX7_firstGroup_14 : decode cX7_firstGroup 14 = .ok (.invokestatic 120, 3) ∧ 14 + 3 = 17 := ⟨by decide +kernel, rfl⟩
theorem dX7_firstGroup_17 : decode cX7_firstGroup 17 = .ok (.iconst 1, 1) ∧ 17 + 1 = 18 := ⟨by decide +kernel, rfl⟩
theorem dX7_firstGroup_18 : decode cX7_firstGroup 18 = .ok (.if_icmp .ne 48, 3) ∧ 18 + 3 = 21 ∧ ((18 : Nat) : Int) + 48 = ((66 : Nat) : Int) := ⟨by decide +kernel, rfl, rfl⟩
theorem dX7_firstGroup_21 : decode cX7_firstGroup 21 = .ok (.aload_n 0, 1) ∧ 21 + 1 = 22 := ⟨by decide +kernel, rfl⟩
theorem dX7_firstGroup_22 : decode cX7_firstGroup 22 = .ok (.getfield 56, 3) ∧ 22 + 3 = 25 := ⟨by decide +kernel, rfl⟩
theorem dX7_firstGroup_25 : decode cX7_firstGroup 25 = .ok (.iload_n 3, 1) ∧ 25 + 1 = 26 := ⟨by decide +kernel, rfl⟩
theorem dX7_firstGroup_26 : decode cX7_firstGroup 26 = .ok (.iaload, 1) ∧ 26 + 1 = 27 := ⟨by decide +kernel, rfl⟩
theorem dX7_firstGroup_27 : decode cX7_firstGroup 27 = .ok (.ifCond .le 39, 3) ∧ 27 + 3 = 30 ∧ ((27 : Nat) : Int) + 39 = ((66 : Nat) : Int) := ⟨by decide +kernel, rfl, rfl⟩
theorem dX7_firstGroup_30 : decode cX7_firstGroup 30 = .ok (.aload_n 0, 1) ∧ 30 + 1 = 31 := ⟨by decide +kernel, rfl⟩
theorem dX7_firstGroup_31 : decode cX7_firstGroup 31 = .ok (.getfield 56, 3) ∧ 31 + 3 = 34 := ⟨by decide +kernel, rfl⟩
theorem dX7_firstGroup_34 : decode cX7_firstGroup 34 = .ok (.iload_n 3, 1) ∧ 34 + 1 = 35 := ⟨by decide +kernel, rfl⟩
theorem dX7_firstGroup_35 : decode cX7_firstGroup 35 = .ok (.dup2, 1) ∧ 35 + 1 = 36 := ⟨by decide +kernel, rfl⟩
theorem dX7_firstGroup_36 : decode cX7_firstGroup 36 = .ok (.iaload, 1) ∧ 36 + 1 = 37 := ⟨by decide +kernel, rfl⟩
theorem dX7_firstGroup_37 : decode cX7_firstGroup 37 = .ok (.iconst 1, 1) ∧ 37 + 1 = 38 := ⟨by decide +kernel, rfl⟩
theorem dX7_firstGroup_38 : decode cX7_firstGroup 38 = .ok (.isub, 1) ∧ 38 + 1 = 39 := ⟨by decide +kernel, rfl⟩
theorem dX7_firstGroup_39 : decode cX7_firstGroup 39 = .ok (.iastore, 1) ∧ 39 + 1 = 40 := ⟨by decide +kernel, rfl⟩
theorem dX7_firstGroup_40 : decode cX7_firstGroup 40 = .ok (.aload_n 0, 1) ∧ 40 + 1 = 41 := ⟨by decide +kernel, rfl⟩
theorem dX7_firstGroup_41 : decode cX7_firstGroup 41 = .ok (.invokevirtual 135, 3) ∧ 41 + 3 = 44 := ⟨by decide +kernel, rfl⟩
theorem dX7_firstGroup_44 : decode cX7_firstGroup 44 = .ok (.aload_n 0, 1) ∧ 44 + 1 = 45 := ⟨by decide +kernel, rfl⟩
theorem dX7_firstGroup_45 : decode cX7_firstGroup 45 = .ok (.bipush (-9), 2) ∧ 45 + 2 = 47 := ⟨by decide +kernel, rfl⟩
theorem dX7_firstGroup_47 : decode cX7_firstGroup 47 = .ok (.invokevirtual 144, 3) ∧ 47 + 3 = 50 := ⟨by decide +kernel, rfl⟩
theorem dX7_firstGroup_50 : decode cX7_firstGroup 50 = .ok (.iload_n 2, 1) ∧ 50 + 1 = 51 := ⟨by decide +kernel, rfl⟩
theorem dX7_firstGroup_51 : decode cX7_firstGroup 51 = .ok (.if_icmp .lt 5, 3) ∧ 51 + 3 = 54 ∧ ((51 : Nat) : Int) + 5 = ((56 : Nat) : Int) := ⟨by decide +kernel, rfl, rfl⟩
theorem dX7_firstGroup_54 : decode cX7_firstGroup 54 = .ok (.iload_n 3, 1) ∧ 54 + 1 = 55 := ⟨by decide +kernel, rfl⟩
theorem dX7_firstGroup_55 : decode cX7_firstGroup 55 = .ok (.ireturn, 1) ∧ 55 + 1 = 56 := ⟨by decide +kernel, rfl⟩
theorem dX7_firstGroup_56 : decode cX7_firstGroup 56 = .ok (.aload_n 0, 1) ∧ 56 + 1 = 57 := ⟨by decide +kernel, rfl⟩
theorem dX7_firstGroup_57 : decode cX7_firstGroup 57 = .ok (.getfield 56, 3) ∧ 57 + 3 = 60 := ⟨by decide +kernel, rfl⟩
theorem dX7_firstGroup_60 : decode cX7_firstGroup 60 = .ok (.iload_n 3, 1) ∧ 60 + 1 = 61 := ⟨by decide +kernel, rfl⟩
theorem dX7_firstGroup_61 : decode cX7_firstGroup 61 = .ok (.dup2, 1) ∧ 61 + 1 = 62 := ⟨by decide +kernel, rfl⟩
theorem dX7_firstGroup_62 : decode cX7_firstGroup 62 = .ok (.iaload, 1) ∧ 62 + 1 = 63 := ⟨by decide +kernel, rfl⟩
theorem dX7_firstGroup_63 : decode cX7_firstGroup 63 = .ok (.iconst 1, 1) ∧ 63 + 1 = 64 := ⟨by decide +kernel, rfl⟩
theorem dX7_firstGroup_64 : decode cX7_firstGroup 64 = .ok (.iadd, 1) ∧ 64 + 1 = 65 := ⟨by decide +kernel, rfl⟩
theorem dX7_firstGroup_65 : decode cX7_firstGroup 65 = .ok (.iastore, 1) ∧ 65 + 1 = 66 := ⟨by decide +kernel, rfl⟩
theorem dX7_firstGroup_66 : decode cX7_firstGroup 66 = .ok (.iinc 3 1, 3) ∧ 66 + 3 = 69 := ⟨by decide +kernel, rfl⟩
theorem dX7_firstGroup_69 : decode cX7_firstGroup 69 = .ok (.goto (-67), 3) ∧ ((69 : Nat) : Int) + (-67) = ((2 : Nat) : Int) := ⟨by decide +kernel, rfl⟩
theorem dX7_firstGroup_72 : decode cX7_firstGroup 72 = .ok (.aload_n 0, 1) ∧ 72 + 1 = 73 := ⟨by decide +kernel, rfl⟩
theorem dX7_firstGroup_73 : decode cX7_firstGroup 73 = .ok (.invokevirtual 135, 3) ∧ 73 + 3 = 76 := ⟨by decide +kernel, rfl⟩
theorem dX7_firstGroup_76 : decode cX7_firstGroup 76 = .ok (.bipush (-9), 2) ∧ 76 + 2 = 78 := ⟨by decide +kernel, rfl⟩
theorem dX7_firstGroup_78 : decode cX7_firstGroup 78 = .ok (.ireturn, 1) ∧ 78 + 1 = 79 := ⟨by decide +kernel, rfl⟩
theorem dX7_bestOf_0 : decode cX7_bestOf 0 = .ok (.iconst 0, 1) ∧ 0 + 1 = 1 := ⟨by decide +kernel, rfl⟩
theorem dX7_bestOf_1 : decode cX7_bestOf 1 = .ok (.istore_n 2, 1) ∧ 1 + 1 = 2 := ⟨by decide +kernel, rfl⟩
theorem dX7_bestOf_2 : decode cX7_bestOf 2 = .ok (.iload_n 2, 1) ∧ 2 + 1 = 3 := ⟨by decide +kernel, rfl⟩
theorem dX7_bestOf_3 : decode cX7_bestOf 3 = .ok (.aload_n 0, 1) ∧ 3 + 1 = 4 := ⟨by decide +kernel, rfl⟩
theorem dX7_bestOf_4 : decode cX7_bestOf 4 = .ok (.getfield 7, 3) ∧ 4 + 3 = 7 := ⟨by decide +kernel, rfl⟩
theorem dX7_bestOf_7 : decode cX7_bestOf 7 = .ok (.sipush 157, 3) ∧ 7 + 3 = 10 := ⟨by decide +kernel, rfl⟩
theorem dX7_bestOf_10 : decode cX7_bestOf 10 = .ok (.iaload, 1) ∧ 10 + 1 = 11 := ⟨by decide +kernel, rfl⟩
theorem dX7_bestOf_11 : decode cX7_bestOf 11 = .ok (.if_icmp .ge 46, 3) ∧ 11 + 3 = 14 ∧ ((11 : Nat) : Int) + 46 = ((57 : Nat) : Int) := ⟨by decide +kernel, rfl, rfl⟩
theorem dX7_bestOf_14 : decode cX7_bestOf 14 = .ok (.aload_n 0, 1) ∧ 14 + 1 = 15 := ⟨by decide +kernel, rfl⟩
theorem dX7_bestOf_15 : decode cX7_bestOf 15 = .ok (.getfield 16, 3) ∧ 15 + 3 = 18 := ⟨by decide +kernel, rfl⟩
theorem dX7_bestOf_18 : decode cX7_bestOf 18 = .ok (.iload_n 2, 1) ∧ 18 + 1 = 19 := ⟨by decide +kernel, rfl⟩
theorem dX7_bestOf_19 : decode cX7_bestOf 19 = .ok (.iaload, 1) ∧ 19 + 1 = 20 := ⟨by decide +kernel, rfl⟩
theorem dX7_bestOf_20 : decode cX7_bestOf 20 = .ok (.istore_n 3, 1) ∧ 20 + 1 = 21 := ⟨by decide +kernel, rfl⟩
theorem dX7_bestOf_21 : decode cX7_bestOf 21 = .ok (.aload_n 0, 1) ∧ 21 + 1 = 22 := ⟨by decide +kernel, rfl⟩
theorem dX7_bestOf_22 : decode cX7_bestOf 22 = .ok (.iload_n 3, 1) ∧ 22 + 1 = 23 := ⟨by decide +kernel, rfl⟩
theorem dX7_bestOf_23 : decode cX7_bestOf 23 = .ok (.invokevirtual 126, 3) ∧ 23 + 3 = 26 := ⟨by decide +kernel, rfl⟩
theorem dX7_bestOf_26 : decode cX7_bestOf 26 = .ok (.ifCond .eq 25, 3) ∧ 26 + 3 = 29 ∧ ((26 : Nat) : Int) + 25 = ((51 : Nat) : Int) := ⟨by decide +kernel, rfl, rfl⟩
theorem dX7_bestOf_29 : decode cX7_bestOf 29 = .ok (.aload_n 0, 1) ∧ 29 + 1 = 30 := ⟨by decide +kernel, rfl⟩
theorem dX7_bestOf_30 : decode cX7_bestOf 30 = .ok (.getfield 31, 3) ∧ 30 + 3 = 33 := ⟨by decide +kernel, rfl⟩
theorem dX7_bestOf_33 : decode cX7_bestOf 33 = .ok (.iload_n 3, 1) ∧ 33 + 1 = 34 := ⟨by decide +kernel, rfl⟩
theorem dX7_bestOf_34 : decode cX7_bestOf 34 = .ok (.iaload, 1) ∧ 34 + 1 = 35 := ⟨by decide +kernel, rfl⟩
theorem dX7_bestOf_35 : decode cX7_bestOf 35 = .ok (.bipush (-9), 2) ∧ 35 + 2 = 37 := ⟨by decide +kernel, rfl⟩
theorem dX7_bestOf_37 : decode cX7_bestOf 37 = .ok (.if_icmp .ne 14, 3) ∧ 37 + 3 = 40 ∧ ((37 : Nat) : Int) + 14 = ((51 : Nat) : Int) := ⟨by decide +kernel, rfl, rfl⟩
theorem dX7_bestOf_40 : decode cX7_bestOf 40 = .ok (.aload_n 0, 1) ∧ 40 + 1 = 41 := ⟨by decide +kernel, rfl⟩
theorem dX7_bestOf_41 : decode cX7_bestOf 41 = .ok (.iload_n 3, 1) ∧ 41 + 1 = 42 := ⟨by decide +kernel, rfl⟩
theorem dX7_bestOf_42 : decode cX7_bestOf 42 = .ok (.iload_n 1, 1) ∧ 42 + 1 = 43 := ⟨by decide +kernel, rfl⟩
theorem dX7_bestOf_43 : decode cX7_bestOf 43 = .ok (.invokevirtual 129, 3) ∧ 43 + 3 = 46 := ⟨by decide +kernel, rfl⟩
theorem dX7_bestOf_46 : decode cX7_bestOf 46 = .ok (.ifCond .eq 5, 3) ∧ 46 + 3 = 49 ∧ ((46 : Nat) : Int) + 5 = ((51 : Nat) : Int) := ⟨by decide +kernel, rfl, rfl⟩
theorem dX7_bestOf_49 : decode cX7_bestOf 49 = .ok (.iload_n 3, 1) ∧ 49 + 1 = 50 := ⟨by decide +kernel, rfl⟩
theorem dX7_bestOf_50 : decode cX7_bestOf 50 = .ok (.ireturn, 1) ∧ 50 + 1 = 51 := ⟨by decide +kernel, rfl⟩
theorem dX7_bestOf_51 : decode cX7_bestOf 51 = .ok (.iinc 2 1, 3) ∧ 51 + 3 = 54 := ⟨by decide +kernel, rfl⟩
theorem dX7_bestOf_54 : decode cX7_bestOf 54 = .ok (.goto (-52), 3) ∧ ((54 : Nat) : Int) + (-52) = ((2 : Nat) : Int) := ⟨by decide +kernel, rfl⟩
theorem dX7_bestOf_57 : decode cX7_bestOf 57 = .ok (.bipush (-9), 2) ∧ 57 + 2 = 59 := ⟨by decide +kernel, rfl⟩
theorem dX7_bestOf_59 : decode cX7_bestOf 59 = .ok (.ireturn, 1) ∧ 59 + 1 = 60 := ⟨by decide +kernel, rfl⟩
theorem dX7_heirOf_0 : decode cX7_heirOf 0 = .ok (.iconst 1, 1) ∧ 0 + 1 = 1 := ⟨by decide +kernel, rfl⟩
theorem dX7_heirOf_1 : decode cX7_heirOf 1 = .ok (.iload_n 1, 1) ∧ 1 + 1 = 2 := ⟨by decide +kernel, rfl⟩
theorem dX7_heirOf_2 : decode cX7_heirOf 2 = .ok (.ishl, 1) ∧ 2 + 1 = 3 := ⟨by decide +kernel, rfl⟩
theorem dX7_heirOf_3 : decode cX7_heirOf 3 = .ok (.istore_n 2, 1) ∧ 3 + 1 = 4 := ⟨by decide +kernel, rfl⟩
theorem dX7_heirOf_4 : decode cX7_heirOf 4 = .ok (.aload_n 0, 1) ∧ 4 + 1 = 5 := ⟨by decide +kernel, rfl⟩
theorem dX7_heirOf_5 : decode cX7_heirOf 5 = .ok (.getfield 7, 3) ∧ 5 + 3 = 8 := ⟨by decide +kernel, rfl⟩
theorem dX7_heirOf_8 : decode cX7_heirOf 8 = .ok (.sipush 148, 3) ∧ 8 + 3 = 11 := ⟨by decide +kernel, rfl⟩
theorem dX7_heirOf_11 : decode cX7_heirOf 11 = .ok (.iload_n 1, 1) ∧ 11 + 1 = 12 := ⟨by decide +kernel, rfl⟩
theorem dX7_heirOf_12 : decode cX7_heirOf 12 = .ok (.iadd, 1) ∧ 12 + 1 = 13 := ⟨by decide +kernel, rfl⟩
theorem dX7_heirOf_13 : decode cX7_heirOf 13 = .ok (.iaload, 1) ∧ 13 + 1 = 14 := ⟨by decide +kernel, rfl⟩
theorem dX7_heirOf_14 : decode cX7_heirOf 14 = .ok (.istore_n 3, 1) ∧ 14 + 1 = 15 := ⟨by decide +kernel, rfl⟩
theorem dX7_heirOf_15 : decode cX7_heirOf 15 = .ok (.iload_n 3, 1) ∧ 15 + 1 = 16 := ⟨by decide +kernel, rfl⟩
theorem dX7_heirOf_16 : decode cX7_heirOf 16 = .ok (.bipush (-9), 2) ∧ 16 + 2 = 18 := ⟨by decide +kernel, rfl⟩
theorem dX7_heirOf_18 : decode cX7_heirOf 18 = .ok (.if_icmp .eq 48, 3) ∧ 18 + 3 = 21 ∧ ((18 : Nat) : Int) + 48 = ((66 : Nat) : Int) := ⟨by decide +kernel, rfl, rfl⟩
theorem dX7_heirOf_21 : decode cX7_heirOf 21 = .ok (.iload_n 2, 1) ∧ 21 + 1 = 22 := ⟨by decide +kernel, rfl⟩
theorem dX7_heirOf_22 : decode cX7_heirOf 22 = .ok (.iload_n 3, 1) ∧ 22 + 1 = 23 := ⟨by decide +kernel, rfl⟩
theorem dX7_heirOf_23 : decode cX7_heirOf 23 = .ok (.invokestatic 120, 3) ∧ 23 + 3 = 26 := ⟨by decide +kernel, rfl⟩
theorem dX7_heirOf_26 : decode cX7_heirOf 26 = .ok (.ifCond .ne 40, 3) ∧ 26 + 3 = 29 ∧ ((26 : Nat) : Int) + 40 = ((66 : Nat) : Int) := ⟨by decide +kernel, rfl, rfl⟩
theorem dX7_heirOf_29 : decode cX7_heirOf 29 = .ok (.aload_n 0, 1) ∧ 29 + 1 = 30 := ⟨by decide +kernel, rfl⟩
theorem dX7_heirOf_30 : decode cX7_heirOf 30 = .ok (.iload_n 3, 1) ∧ 30 + 1 = 31 := ⟨by decide +kernel, rfl⟩
theorem dX7_heirOf_31 : decode cX7_heirOf 31 = .ok (.invokevirtual 169, 3) ∧ 31 + 3 = 34 := ⟨by decide +kernel, rfl⟩
theorem dX7_heirOf_34 : decode cX7_heirOf 34 = .ok (.istore 4, 2) ∧ 34 + 2 = 36 := ⟨by decide +kernel, rfl⟩
theorem dX7_heirOf_36 : decode cX7_heirOf 36 = .ok (.iload 4, 2) ∧ 36 + 2 = 38 := ⟨by decide +kernel, rfl⟩
theorem dX7_heirOf_38 : decode cX7_heirOf 38 = .ok (.bipush (-9), 2) ∧ 38 + 2 = 40 := ⟨by decide +kernel, rfl⟩
theorem dX7_heirOf_40 : decode cX7_heirOf 40 = .ok (.if_icmp .eq 6, 3) ∧ 40 + 3 = 43 ∧ ((40 : Nat) : Int) + 6 = ((46 : Nat) : Int) := ⟨by decide +kernel, rfl, rfl⟩
theorem dX7_heirOf_43 : decode cX7_heirOf 43 = .ok (.iload 4, 2) ∧ 43 + 2 = 45 := ⟨by decide +kernel, rfl⟩
theorem dX7_heirOf_45 : decode cX7_heirOf 45 = .ok (.ireturn, 1) ∧ 45 + 1 = 46 := ⟨by decide +kernel, rfl⟩
theorem dX7_heirOf_46 : decode cX7_heirOf 46 = .ok (.iload_n 2, 1) ∧ 46 + 1 = 47 := ⟨by decide +kernel, rfl⟩
theorem dX7_heirOf_47 : decode cX7_heirOf 47 = .ok (.iconst 1, 1) ∧ 47 + 1 = 48 := ⟨by decide +kernel, rfl⟩
theorem dX7_heirOf_48 : decode cX7_heirOf 48 = .ok (.iload_n 3, 1) ∧ 48 + 1 = 49 := ⟨by decide +kernel, rfl⟩
theorem dX7_heirOf_49 : decode cX7_heirOf 49 = .ok (.ishl, 1) ∧ 49 + 1 = 50 := ⟨by decide +kernel, rfl⟩
theorem dX7_heirOf_50 : decode cX7_heirOf 50 = .ok (.ior, 1) ∧ 50 + 1 = 51 := ⟨by decide +kernel, rfl⟩
theorem dX7_heirOf_51 : decode cX7_heirOf 51 = .ok (.istore_n 2, 1) ∧ 51 + 1 = 52 := ⟨by decide +kernel, rfl⟩
theorem dX7_heirOf_52 : decode cX7_heirOf 52 = .ok (.aload_n 0, 1) ∧ 52 + 1 = 53 := ⟨by decide +kernel, rfl⟩
theorem dX7_heirOf_53 : decode cX7_heirOf 53 = .ok (.getfield 7, 3) ∧ 53 + 3 = 56 := ⟨by decide +kernel, rfl⟩
theorem dX7_heirOf_56 : decode cX7_heirOf 56 = .ok (.sipush 148, 3) ∧ 56 + 3 = 59 := ⟨by decide +kernel, rfl⟩
theorem dX7_heirOf_59 : decode cX7_heirOf 59 = .ok (.iload_n 3, 1) ∧ 59 + 1 = 60 := ⟨by decide +kernel, rfl⟩
theorem dX7_heirOf_60 : decode cX7_heirOf 60 = .ok (.iadd, 1) ∧ 60 + 1 = 61 := ⟨by decide +kernel, rfl⟩
theorem dX7_heirOf_61 : decode cX7_heirOf 61 = .ok (.iaload, 1) ∧ 61 + 1 = 62 := ⟨by decide +kernel, rfl⟩
theorem dX7_heirOf_62 : decode cX7_heirOf 62 = .ok (.istore_n 3, 1) ∧ 62 + 1 = 63 := ⟨by decide +kernel, rfl⟩
theorem dX7_heirOf_63 : decode cX7_heirOf 63 = .ok (.goto (-48), 3) ∧ ((63 : Nat) : Int) + (-48) = ((15 : Nat) : Int) := ⟨by decide +kernel, rfl⟩
theorem dX7_heirOf_66 : decode cX7_heirOf 66 = .ok (.bipush (-9), 2) ∧ 66 + 2 = 68 := ⟨by decide +kernel, rfl⟩
theorem dX7_heirOf_68 : decode cX7_heirOf 68 = .ok (.ireturn, 1) ∧ 68 + 1 = 69 := ⟨by decide +kernel, rfl⟩
theorem dX7_handOn_0 : decode cX7_handOn 0 = .ok (.aload_n 0, 1) ∧ 0 + 1 = 1 := ⟨by decide +kernel, rfl⟩
theorem dX7_handOn_1 : decode cX7_handOn 1 = .ok (.getfield 25, 3) ∧ 1 + 3 = 4 := ⟨by decide +kernel, rfl⟩
theorem dX7_handOn_4 : decode cX7_handOn 4 = .ok (.iload_n 1, 1) ∧ 4 + 1 = 5 := ⟨by decide +kernel, rfl⟩
theorem dX7_handOn_5 : decode cX7_handOn 5 = .ok (.iaload, 1) ∧ 5 + 1 = 6 := ⟨by decide +kernel, rfl⟩
theorem dX7_handOn_6 : decode cX7_handOn 6 = .ok (.istore_n 2, 1) ∧ 6 + 1 = 7 := ⟨by decide +kernel, rfl⟩
theorem dX7_handOn_7 : decode cX7_handOn 7 = .ok (.iload_n 2, 1) ∧ 7 + 1 = 8 := ⟨by decide +kernel, rfl⟩
theorem dX7_handOn_8 : decode cX7_handOn 8 = .ok (.aload_n 0, 1) ∧ 8 + 1 = 9 := ⟨by decide +kernel, rfl⟩
theorem dX7_handOn_9 : decode cX7_handOn 9 = .ok (.getfield 19, 3) ∧ 9 + 3 = 12 := ⟨by decide +kernel, rfl⟩
theorem dX7_handOn_12 : decode cX7_handOn 12 = .ok (.iload_n 1, 1) ∧ 12 + 1 = 13 := ⟨by decide +kernel, rfl⟩
theorem dX7_handOn_13 : decode cX7_handOn 13 = .ok (.iaload, 1) ∧ 13 + 1 = 14 := ⟨by decide +kernel, rfl⟩
theorem dX7_handOn_14 : decode cX7_handOn 14 = .ok (.if_icmp .ge 45, 3) ∧ 14 + 3 = 17 ∧ ((14 : Nat) : Int) + 45 = ((59 : Nat) : Int) := ⟨by decide +kernel, rfl, rfl⟩
theorem dX7_handOn_17 : decode cX7_handOn 17 = .ok (.aload_n 0, 1) ∧ 17 + 1 = 18 := ⟨by decide +kernel, rfl⟩
theorem dX7_handOn_18 : decode cX7_handOn 18 = .ok (.iload_n 1, 1) ∧ 18 + 1 = 19 := ⟨by decide +kernel, rfl⟩
theorem dX7_handOn_19 : decode cX7_handOn 19 = .ok (.invokevirtual 172, 3) ∧ 19 + 3 = 22 := ⟨by decide +kernel, rfl⟩
theorem dX7_handOn_22 : decode cX7_handOn 22 = .ok (.istore_n 3, 1) ∧ 22 + 1 = 23 := ⟨by decide +kernel, rfl⟩
theorem dX7_handOn_23 : decode cX7_handOn 23 = .ok (.iload_n 3, 1) ∧ 23 + 1 = 24 := ⟨by decide +kernel, rfl⟩
theorem dX7_handOn_24 : decode cX7_handOn 24 = .ok (.bipush (-9), 2) ∧ 24 + 2 = 26 := ⟨by decide +kernel, rfl⟩
theorem dX7_handOn_26 : decode cX7_handOn 26 = .ok (.if_icmp .eq 27, 3) ∧ 26 + 3 = 29 ∧ ((26 : Nat) : Int) + 27 = ((53 : Nat) : Int) := ⟨by decide +kernel, rfl, rfl⟩
theorem dX7_handOn_29 : decode cX7_handOn 29 = .ok (.aload_n 0, 1) ∧ 29 + 1 = 30 := ⟨by decide +kernel, rfl⟩
theorem dX7_handOn_30 : decode cX7_handOn 30 = .ok (.getfield 31, 3) ∧ 30 + 3 = 33 := ⟨by decide +kernel, rfl⟩
theorem dX7_handOn_33 : decode cX7_handOn 33 = .ok (.iload_n 3, 1) ∧ 33 + 1 = 34 := ⟨by decide +kernel, rfl⟩
theorem dX7_handOn_34 : decode cX7_handOn 34 = .ok (.iload_n 1, 1) ∧ 34 + 1 = 35 := ⟨by decide +kernel, rfl⟩
theorem dX7_handOn_35 : decode cX7_handOn 35 = .ok (.iastore, 1) ∧ 35 + 1 = 36 := ⟨by decide +kernel, rfl⟩
theorem dX7_handOn_36 : decode cX7_handOn 36 = .ok (.aload_n 0, 1) ∧ 36 + 1 = 37 := ⟨by decide +kernel, rfl⟩
theorem dX7_handOn_37 : decode cX7_handOn 37 = .ok (.getfield 37, 3) ∧ 37 + 3 = 40 := ⟨by decide +kernel, rfl⟩
theorem dX7_handOn_40 : decode cX7_handOn 40 = .ok (.iload_n 3, 1) ∧ 40 + 1 = 41 := ⟨by decide +kernel, rfl⟩
theorem dX7_handOn_41 : decode cX7_handOn 41 = .ok (.iconst 1, 1) ∧ 41 + 1 = 42 := ⟨by decide +kernel, rfl⟩
theorem dX7_handOn_42 : decode cX7_handOn 42 = .ok (.bastore, 1) ∧ 42 + 1 = 43 := ⟨by decide +kernel, rfl⟩
theorem dX7_handOn_43 : decode cX7_handOn 43 = .ok (.aload_n 0, 1) ∧ 43 + 1 = 44 := ⟨by decide +kernel, rfl⟩
theorem dX7_handOn_44 : decode cX7_handOn 44 = .ok (.getfield 28, 3) ∧ 44 + 3 = 47 := ⟨by decide +kernel, rfl⟩
theorem dX7_handOn_47 : decode cX7_handOn 47 = .ok (.iload_n 1, 1) ∧ 47 + 1 = 48 := ⟨by decide +kernel, rfl⟩
theorem dX7_handOn_48 : decode cX7_handOn 48 = .ok (.dup2, 1) ∧ 48 + 1 = 49 := ⟨by decide +kernel, rfl⟩
theorem dX7_handOn_49 : decode cX7_handOn 49 = .ok (.iaload, 1) ∧ 49 + 1 = 50 := ⟨by decide +kernel, rfl⟩
theorem dX7_handOn_50 : decode cX7_handOn 50 = .ok (.iconst 1, 1) ∧ 50 + 1 = 51 := ⟨by decide +kernel, rfl⟩
theorem dX7_handOn_51 : decode cX7_handOn 51 = .ok (.isub, 1) ∧ 51 + 1 = 52 := ⟨by decide +kernel, rfl⟩
theorem dX7_handOn_52 : decode cX7_handOn 52 = .ok (.iastore, 1) ∧ 52 + 1 = 53 := ⟨by decide +kernel, rfl⟩
theorem dX7_handOn_53 : decode cX7_handOn 53 = .ok (.iinc 2 1, 3) ∧ 53 + 3 = 56 := ⟨by decide +kernel, rfl⟩
theorem dX7_handOn_56 : decode cX7_handOn 56 = .ok (.goto (-49), 3) ∧ ((56 : Nat) : Int) + (-49) = ((7 : Nat) : Int) := ⟨by decide +kernel, rfl⟩
theorem dX7_handOn_59 : decode cX7_handOn 59 = .ok (.return_, 1) ∧ 59 + 1 = 60 := ⟨by decide +kernel, rfl⟩
theorem dX7_choose_0 : decode cX7_choose 0 = .ok (.aload_n 0, 1) ∧ 0 + 1 = 1 := ⟨by decide +kernel, rfl⟩
theorem dX7_choose_1 : decode cX7_choose 1 = .ok (.invokevirtual 175, 3) ∧ 1 + 3 = 4 := ⟨by decide +kernel, rfl⟩
theorem dX7_choose_4 : decode cX7_choose 4 = .ok (.iconst 0, 1) ∧ 4 + 1 = 5 := ⟨by decide +kernel, rfl⟩
theorem dX7_choose_5 : decode cX7_choose 5 = .ok (.istore_n 1, 1) ∧ 5 + 1 = 6 := ⟨by decide +kernel, rfl⟩
theorem dX7_choose_6 : decode cX7_choose 6 = .ok (.iload_n 1, 1) ∧ 6 + 1 = 7 := ⟨by decide +kernel, rfl⟩
theorem dX7_choose_7 : decode cX7_choose 7 = .ok (.aload_n 0, 1) ∧ 7 + 1 = 8 := ⟨by decide +kernel, rfl⟩
theorem dX7_choose_8 : decode cX7_choose 8 = .ok (.getfield 7, 3) ∧ 8 + 3 = 11 := ⟨by decide +kernel, rfl⟩
theorem dX7_choose_11 : decode cX7_choose 11 = .ok (.sipush 157, 3) ∧ 11 + 3 = 14 := ⟨by decide +kernel, rfl⟩
theorem dX7_choose_14 : decode cX7_choose 14 = .ok (.iaload, 1) ∧ 14 + 1 = 15 := ⟨by decide +kernel, rfl⟩
theorem dX7_choose_15 : decode cX7_choose 15 = .ok (.if_icmp .ge 43, 3) ∧ 15 + 3 = 18 ∧ ((15 : Nat) : Int) + 43 = ((58 : Nat) : Int) := ⟨by decide +kernel, rfl, rfl⟩
theorem dX7_choose_18 : decode cX7_choose 18 = .ok (.aload_n 0, 1) ∧ 18 + 1 = 19 := ⟨by decide +kernel, rfl⟩
theorem dX7_choose_19 : decode cX7_choose 19 = .ok (.getfield 16, 3) ∧ 19 + 3 = 22 := ⟨by decide +kernel, rfl⟩
theorem dX7_choose_22 : decode cX7_choose 22 = .ok (.aload_n 0, 1) ∧ 22 + 1 = 23 := ⟨by decide +kernel, rfl⟩
theorem dX7_choose_23 : decode cX7_choose 23 = .ok (.iload_n 1, 1) ∧ 23 + 1 = 24 := ⟨by decide +kernel, rfl⟩
theorem dX7_choose_24 : decode cX7_choose 24 = .ok (.invokevirtual 110, 3) ∧ 24 + 3 = 27 := ⟨by decide +kernel, rfl⟩
theorem dX7_choose_27 : decode cX7_choose 27 = .ok (.iload_n 1, 1) ∧ 27 + 1 = 28 := ⟨by decide +kernel, rfl⟩
theorem dX7_choose_28 : decode cX7_choose 28 = .ok (.iastore, 1) ∧ 28 + 1 = 29 := ⟨by decide +kernel, rfl⟩
theorem dX7_choose_29 : decode cX7_choose 29 = .ok (.aload_n 0, 1) ∧ 29 + 1 = 30 := ⟨by decide +kernel, rfl⟩
theorem dX7_choose_30 : decode cX7_choose 30 = .ok (.getfield 31, 3) ∧ 30 + 3 = 33 := ⟨by decide +kernel, rfl⟩
theorem dX7_choose_33 : decode cX7_choose 33 = .ok (.iload_n 1, 1) ∧ 33 + 1 = 34 := ⟨by decide +kernel, rfl⟩
theorem dX7_choose_34 : decode cX7_choose 34 = .ok (.bipush (-9), 2) ∧ 34 + 2 = 36 := ⟨by decide +kernel, rfl⟩
theorem dX7_choose_36 : decode cX7_choose 36 = .ok (.iastore, 1) ∧ 36 + 1 = 37 := ⟨by decide +kernel, rfl⟩
theorem dX7_choose_37 : decode cX7_choose 37 = .ok (.aload_n 0, 1) ∧ 37 + 1 = 38 := ⟨by decide +kernel, rfl⟩
theorem dX7_choose_38 : decode cX7_choose 38 = .ok (.getfield 34, 3) ∧ 38 + 3 = 41 := ⟨by decide +kernel, rfl⟩
theorem dX7_choose_41 : decode cX7_choose 41 = .ok (.iload_n 1, 1) ∧ 41 + 1 = 42 := ⟨by decide +kernel, rfl⟩
theorem dX7_choose_42 : decode cX7_choose 42 = .ok (.bipush (-9), 2) ∧ 42 + 2 = 44 := ⟨by decide +kernel, rfl⟩
theorem dX7_choose_44 : decode cX7_choose 44 = .ok (.iastore, 1) ∧ 44 + 1 = 45 := ⟨by decide +kernel, rfl⟩
theorem dX7_choose_45 : decode cX7_choose 45 = .ok (.aload_n 0, 1) ∧ 45 + 1 = 46 := ⟨by decide +kernel, rfl⟩
theorem dX7_choose_46 : decode cX7_choose 46 = .ok (.getfield 37, 3) ∧ 46 + 3 = 49 := ⟨by decide +kernel, rfl⟩
theorem dX7_choose_49 : decode cX7_choose 49 = .ok (.iload_n 1, 1) ∧ 49 + 1 = 50 := ⟨by decide +kernel, rfl⟩
theorem dX7_choose_50 : decode cX7_choose 50 = .ok (.iconst 0, 1) ∧ 50 + 1 = 51 := ⟨by decide +kernel, rfl⟩
theorem dX7_choose_51 : decode cX7_choose 51 = .ok (.bastore, 1) ∧ 51 + 1 = 52 := ⟨by decide +kernel, rfl⟩
theorem dX7_choose_52 : decode cX7_choose 52 = .ok (.iinc 1 1, 3) ∧ 52 + 3 = 55 := ⟨by decide +kernel, rfl⟩
theorem dX7_choose_55 : decode cX7_choose 55 = .ok (.goto (-49), 3) ∧ ((55 : Nat) : Int) + (-49) = ((6 : Nat) : Int) := ⟨by decide +kernel, rfl⟩
theorem dX7_choose_58 : decode cX7_choose 58 = .ok (.iconst 0, 1) ∧ 58 + 1 = 59 := ⟨by decide +kernel, rfl⟩
theorem dX7_choose_59 : decode cX7_choose 59 = .ok (.istore_n 1, 1) ∧ 59 + 1 = 60 := ⟨by decide +kernel, rfl⟩
theorem dX7_choose_60 : decode cX7_choose 60 = .ok (.iload_n 1, 1) ∧ 60 + 1 = 61 := ⟨by decide +kernel, rfl⟩
theorem dX7_choose_61 : decode cX7_choose 61 = .ok (.iconst 4, 1) ∧ 61 + 1 = 62 := ⟨by decide +kernel, rfl⟩
theorem dX7_choose_62 : decode cX7_choose 62 = .ok (.if_icmp .ge 44, 3) ∧ 62 + 3 = 65 ∧ ((62 : Nat) : Int) + 44 = ((106 : Nat) : Int) := ⟨by decide +kernel, rfl, rfl⟩
theorem dX7_choose_65 : decode cX7_choose 65 = .ok (.aload_n 0, 1) ∧ 65 + 1 = 66 := ⟨by decide +kernel, rfl⟩
theorem dX7_choose_66 : decode cX7_choose 66 = .ok (.getfield 7, 3) ∧ 66 + 3 = 69 := ⟨by decide +kernel, rfl⟩
theorem dX7_choose_69 : decode cX7_choose 69 = .ok (.sipush 152, 3) ∧ 69 + 3 = 72 := ⟨by decide +kernel, rfl⟩
theorem dX7_choose_72 : decode cX7_choose 72 = .ok (.iload_n 1, 1) ∧ 72 + 1 = 73 := ⟨by decide +kernel, rfl⟩
theorem dX7_choose_73 : decode cX7_choose 73 = .ok (.iadd, 1) ∧ 73 + 1 = 74 := ⟨by decide +kernel, rfl⟩
theorem dX7_choose_74 : decode cX7_choose 74 = .ok (.iaload, 1) ∧ 74 + 1 = 75 := ⟨by decide +kernel, rfl⟩
theorem dX7_choose_75 : decode cX7_choose 75 = .ok (.istore_n 2, 1) ∧ 75 + 1 = 76 := ⟨by decide +kernel, rfl⟩
theorem dX7_choose_76 : decode cX7_choose 76 = .ok (.aload_n 0, 1) ∧ 76 + 1 = 77 := ⟨by decide +kernel, rfl⟩
theorem dX7_choose_77 : decode cX7_choose 77 = .ok (.iload_n 2, 1) ∧ 77 + 1 = 78 := ⟨by decide +kernel, rfl⟩
theorem dX7_choose_78 : decode cX7_choose 78 = .ok (.invokevirtual 178, 3) ∧ 78 + 3 = 81 := ⟨by decide +kernel, rfl⟩
theorem dX7_choose_81 : decode cX7_choose 81 = .ok (.aload_n 0, 1) ∧ 81 + 1 = 82 := ⟨by decide +kernel, rfl⟩
theorem dX7_choose_82 : decode cX7_choose 82 = .ok (.getfield 28, 3) ∧ 82 + 3 = 85 := ⟨by decide +kernel, rfl⟩
theorem dX7_choose_85 : decode cX7_choose 85 = .ok (.iload_n 2, 1) ∧ 85 + 1 = 86 := ⟨by decide +kernel, rfl⟩
theorem dX7_choose_86 : decode cX7_choose 86 = .ok (.aload_n 0, 1) ∧ 86 + 1 = 87 := ⟨by decide +kernel, rfl⟩
theorem dX7_choose_87 : decode cX7_choose 87 = .ok (.getfield 19, 3) ∧ 87 + 3 = 90 := ⟨by decide +kernel, rfl⟩
theorem dX7_choose_90 : decode cX7_choose 90 = .ok (.iload_n 2, 1) ∧ 90 + 1 = 91 := ⟨by decide +kernel, rfl⟩
theorem dX7_choose_91 : decode cX7_choose 91 = .ok (.iaload, 1) ∧ 91 + 1 = 92 := ⟨by decide +kernel, rfl⟩
theorem dX7_choose_92 : decode cX7_choose 92 = .ok (.aload_n 0, 1) ∧ 92 + 1 = 93 := ⟨by decide +kernel, rfl⟩
theorem dX7_choose_93 : decode cX7_choose 93 = .ok (.getfield 25, 3) ∧ 93 + 3 = 96 := ⟨by decide +kernel, rfl⟩
theorem dX7_choose_96 : decode cX7_choose 96 = .ok (.iload_n 2, 1) ∧ 96 + 1 = 97 := ⟨by decide +kernel, rfl⟩
theorem dX7_choose_97 : decode cX7_choose 97 = .ok (.iaload, 1) ∧ 97 + 1 = 98 := ⟨by decide +kernel, rfl⟩
theorem dX7_choose_98 : decode cX7_choose 98 = .ok (.isub, 1) ∧ 98 + 1 = 99 := ⟨by decide +kernel, rfl⟩
theorem dX7_choose_99 : decode cX7_choose 99 = .ok (.iastore, 1) ∧ 99 + 1 = 100 := ⟨by decide +kernel, rfl⟩
theorem dX7_choose_100 : decode cX7_choose 100 = .ok (.iinc 1 1, 3) ∧ 100 + 3 = 103 := ⟨by decide +kernel, rfl⟩
theorem dX7_choose_103 : decode cX7_choose 103 = .ok (.goto (-43), 3) ∧ ((103 : Nat) : Int) + (-43) = ((60 : Nat) : Int) := ⟨by decide +kernel, rfl⟩
theorem dX7_choose_106 : decode cX7_choose 106 = .ok (.iconst 0, 1) ∧ 106 + 1 = 107 := ⟨by decide +kernel, rfl⟩
theorem dX7_choose_107 : decode cX7_choose 107 = .ok (.istore_n 1, 1) ∧ 107 + 1 = 108 := ⟨by decide +kernel, rfl⟩
theorem dX7_choose_108 : decode cX7_choose 108 = .ok (.iload_n 1, 1) ∧ 108 + 1 = 109 := ⟨by decide +kernel, rfl⟩
theorem dX7_choose_109 : decode cX7_choose 109 = .ok (.iconst 4, 1) ∧ 109 + 1 = 110 := ⟨by decide +kernel, rfl⟩
theorem dX7_choose_110 : decode cX7_choose 110 = .ok (.if_icmp .ge 23, 3) ∧ 110 + 3 = 113 ∧ ((110 : Nat) : Int) + 23 = ((133 : Nat) : Int) := ⟨by decide +kernel, rfl, rfl⟩
theorem dX7_choose_113 : decode cX7_choose 113 = .ok (.aload_n 0, 1) ∧ 113 + 1 = 114 := ⟨by decide +kernel, rfl⟩
theorem dX7_choose_114 : decode cX7_choose 114 = .ok (.aload_n 0, 1) ∧ 114 + 1 = 115 := ⟨by decide +kernel, rfl⟩
theorem dX7_choose_115 : decode cX7_choose 115 = .ok (.getfield 7, 3) ∧ 115 + 3 = 118 := ⟨by decide +kernel, rfl⟩
theorem dX7_choose_118 : decode cX7_choose 118 = .ok (.sipush 152, 3) ∧ 118 + 3 = 121 := ⟨by decide +kernel, rfl⟩
theorem dX7_choose_121 : decode cX7_choose 121 = .ok (.iload_n 1, 1) ∧ 121 + 1 = 122 := ⟨by decide +kernel, rfl⟩
theorem dX7_choose_122 : decode cX7_choose 122 = .ok (.iadd, 1) ∧ 122 + 1 = 123 := ⟨by decide +kernel, rfl⟩
theorem dX7_choose_123 : decode cX7_choose 123 = .ok (.iaload, 1) ∧ 123 + 1 = 124 := ⟨by decide +kernel, rfl⟩
theorem dX7_choose_124 : decode cX7_choose 124 = .ok (.invokevirtual 181, 3) ∧ 124 + 3 = 127 := ⟨by decide +kernel, rfl⟩
theorem dX7_choose_127 : decode cX7_choose 127 = .ok (.iinc 1 1, 3) ∧ 127 + 3 = 130 := ⟨by decide +kernel, rfl⟩
theorem dX7_choose_130 : decode cX7_choose 130 = .ok (.goto (-22), 3) ∧ ((130 : Nat) : Int) + (-22) = ((108 : Nat) : Int) := ⟨by decide +kernel, rfl⟩
theorem dX7_choose_133 : decode cX7_choose 133 = .ok (.return_, 1) ∧ 133 + 1 = 134 := ⟨by decide +kernel, rfl⟩
theorem dX7_chooseAll_0 : decode cX7_chooseAll 0 = .ok (.aload_n 0, 1) ∧ 0 + 1 = 1 := ⟨by decide +kernel, rfl⟩
theorem dX7_chooseAll_1 : decode cX7_chooseAll 1 = .ok (.invokevirtual 184, 3) ∧ 1 + 3 = 4 := ⟨by decide +kernel, rfl⟩
theorem dX7_chooseAll_4 : decode cX7_chooseAll 4 = .ok (.iconst 0, 1) ∧ 4 + 1 = 5 := ⟨by decide +kernel, rfl⟩
theorem dX7_chooseAll_5 : decode cX7_chooseAll 5 = .ok (.istore_n 1, 1) ∧ 5 + 1 = 6 := ⟨by decide +kernel, rfl⟩
theorem dX7_chooseAll_6 : decode cX7_chooseAll 6 = .ok (.iload_n 1, 1) ∧ 6 + 1 = 7 := ⟨by decide +kernel, rfl⟩
theorem dX7_chooseAll_7 : decode cX7_chooseAll 7 = .ok (.iconst 4, 1) ∧ 7 + 1 = 8 := ⟨by decide +kernel, rfl⟩
theorem dX7_chooseAll_8 : decode cX7_chooseAll 8 = .ok (.if_icmp .ge 26, 3) ∧ 8 + 3 = 11 ∧ ((8 : Nat) : Int) + 26 = ((34 : Nat) : Int) := ⟨by decide +kernel, rfl, rfl⟩
theorem dX7_chooseAll_11 : decode cX7_chooseAll 11 = .ok (.aload_n 0, 1) ∧ 11 + 1 = 12 := ⟨by decide +kernel, rfl⟩
theorem dX7_chooseAll_12 : decode cX7_chooseAll 12 = .ok (.getfield 7, 3) ∧ 12 + 3 = 15 := ⟨by decide +kernel, rfl⟩
theorem dX7_chooseAll_15 : decode cX7_chooseAll 15 = .ok (.sipush 156, 3) ∧ 15 + 3 = 18 := ⟨by decide +kernel, rfl⟩
theorem dX7_chooseAll_18 : decode cX7_chooseAll 18 = .ok (.iaload, 1) ∧ 18 + 1 = 19 := ⟨by decide +kernel, rfl⟩
theorem dX7_chooseAll_19 : decode cX7_chooseAll 19 = .ok (.iconst 1, 1) ∧ 19 + 1 = 20 := ⟨by decide +kernel, rfl⟩
theorem dX7_chooseAll_20 : decode cX7_chooseAll 20 = .ok (.if_icmp .eq 14, 3) ∧ 20 + 3 = 23 ∧ ((20 : Nat) : Int) + 14 = ((34 : Nat) : Int) := ⟨by decide +kernel, rfl, rfl⟩
theorem dX7_chooseAll_23 : decode cX7_chooseAll 23 = .ok (.aload_n 0, 1) ∧ 23 + 1 = 24 := ⟨by decide +kernel, rfl⟩
theorem dX7_chooseAll_24 : decode cX7_chooseAll 24 = .ok (.iload_n 1, 1) ∧ 24 + 1 = 25 := ⟨by decide +kernel, rfl⟩
theorem dX7_chooseAll_25 : decode cX7_chooseAll 25 = .ok (.invokevirtual 187, 3) ∧ 25 + 3 = 28 := ⟨by decide +kernel, rfl⟩
theorem dX7_chooseAll_28 : decode cX7_chooseAll 28 = .ok (.iinc 1 1, 3) ∧ 28 + 3 = 31 := ⟨by decide +kernel, rfl⟩
theorem dX7_chooseAll_31 : decode cX7_chooseAll 31 = .ok (.goto (-25), 3) ∧ ((31 : Nat) : Int) + (-25) = ((6 : Nat) : Int) := ⟨by decide +kernel, rfl⟩
theorem dX7_chooseAll_34 : decode cX7_chooseAll 34 = .ok (.return_, 1) ∧ 34 + 1 = 35 := ⟨by decide +kernel, rfl⟩
theorem dX7_chosen_0 : decode cX7_chosen 0 = .ok (.iconst 0, 1) ∧ 0 + 1 = 1 := ⟨by decide +kernel, rfl⟩
theorem dX7_chosen_1 : decode cX7_chosen 1 = .ok (.istore_n 1, 1) ∧ 1 + 1 = 2 := ⟨by decide +kernel, rfl⟩
theorem dX7_chosen_2 : decode cX7_chosen 2 = .ok (.iconst 0, 1) ∧ 2 + 1 = 3 := ⟨by decide +kernel, rfl⟩
theorem dX7_chosen_3 : decode cX7_chosen 3 = .ok (.istore_n 2, 1) ∧ 3 + 1 = 4 := ⟨by decide +kernel, rfl⟩
theorem dX7_chosen_4 : decode cX7_chosen 4 = .ok (.iload_n 2, 1) ∧ 4 + 1 = 5 := ⟨by decide +kernel, rfl⟩
theorem dX7_chosen_5 : decode cX7_chosen 5 = .ok (.aload_n 0, 1) ∧ 5 + 1 = 6 := ⟨by decide +kernel, rfl⟩
theorem dX7_chosen_6 : decode cX7_chosen 6 = .ok (.getfield 7, 3) ∧ 6 + 3 = 9 := ⟨by decide +kernel, rfl⟩
theorem dX7_chosen_9 : decode cX7_chosen 9 = .ok (.sipush 157, 3) ∧ 9 + 3 = 12 := ⟨by decide +kernel, rfl⟩
theorem dX7_chosen_12 : decode cX7_chosen 12 = .ok (.iaload, 1) ∧ 12 + 1 = 13 := ⟨by decide +kernel, rfl⟩
theorem dX7_chosen_13 : decode cX7_chosen 13 = .ok (.if_icmp .ge 30, 3) ∧ 13 + 3 = 16 ∧ ((13 : Nat) : Int) + 30 = ((43 : Nat) : Int) := ⟨by decide +kernel, rfl, rfl⟩
theorem dX7_chosen_16 : decode cX7_chosen 16 = .ok (.iload_n 1, 1) ∧ 16 + 1 = 17 := ⟨by decide +kernel, rfl⟩
theorem dX7_chosen_17 : decode cX7_chosen 17 = .ok (.aload_n 0, 1) ∧ 17 + 1 = 18 := ⟨by decide +kernel, rfl⟩
theorem dX7_chosen_18 : decode cX7_chosen 18 = .ok (.getfield 31, 3) ∧ 18 + 3 = 21 := ⟨by decide +kernel, rfl⟩
theorem dX7_chosen_21 : decode cX7_chosen 21 = .ok (.iload_n 2, 1) ∧ 21 + 1 = 22 := ⟨by decide +kernel, rfl⟩
theorem dX7_chosen_22 : decode cX7_chosen 22 = .ok (.iaload, 1) ∧ 22 + 1 = 23 := ⟨by decide +kernel, rfl⟩
theorem dX7_chosen_23 : decode cX7_chosen 23 = .ok (.bipush (-9), 2) ∧ 23 + 2 = 25 := ⟨by decide +kernel, rfl⟩
theorem dX7_chosen_25 : decode cX7_chosen 25 = .ok (.if_icmp .ne 7, 3) ∧ 25 + 3 = 28 ∧ ((25 : Nat) : Int) + 7 = ((32 : Nat) : Int) := ⟨by decide +kernel, rfl, rfl⟩
theorem dX7_chosen_28 : decode cX7_chosen 28 = .ok (.iconst 0, 1) ∧ 28 + 1 = 29 := ⟨by decide +kernel, rfl⟩
theorem dX7_chosen_29 : decode cX7_chosen 29 = .ok (.goto 6, 3) ∧ ((29 : Nat) : Int) + 6 = ((35 : Nat) : Int) := ⟨by decide +kernel, rfl⟩
theorem dX7_chosen_32 : decode cX7_chosen 32 = .ok (.iconst 1, 1) ∧ 32 + 1 = 33 := ⟨by decide +kernel, rfl⟩
theorem dX7_chosen_33 : decode cX7_chosen 33 = .ok (.iload_n 2, 1) ∧ 33 + 1 = 34 := ⟨by decide +kernel, rfl⟩
theorem dX7_chosen_34 : decode cX7_chosen 34 = .ok (.ishl, 1) ∧ 34 + 1 = 35 := ⟨by decide +kernel, rfl⟩
theorem dX7_chosen_35 : decode cX7_chosen 35 = .ok (.ior, 1) ∧ 35 + 1 = 36 := ⟨by decide +kernel, rfl⟩
theorem dX7_chosen_36 : decode cX7_chosen 36 = .ok (.istore_n 1, 1) ∧ 36 + 1 = 37 := ⟨by decide +kernel, rfl⟩
theorem dX7_chosen_37 : decode cX7_chosen 37 = .ok (.iinc 2 1, 3) ∧ 37 + 3 = 40 := ⟨by decide +kernel, rfl⟩
theorem dX7_chosen_40 : decode cX7_chosen 40 = .ok (.goto (-36), 3) ∧ ((40 : Nat) : Int) + (-36) = ((4 : Nat) : Int) := ⟨by decide +kernel, rfl⟩
theorem dX7_chosen_43 : decode cX7_chosen 43 = .ok (.iload_n 1, 1) ∧ 43 + 1 = 44 := ⟨by decide +kernel, rfl⟩
theorem dX7_chosen_44 : decode cX7_chosen 44 = .ok (.ireturn, 1) ∧ 44 + 1 = 45 := ⟨by decide +kernel, rfl⟩
theorem dX7_seat_0 : decode cX7_seat 0 = .ok (.aload_n 0, 1) ∧ 0 + 1 = 1 := ⟨by decide +kernel, rfl⟩
theorem dX7_seat_1 : decode cX7_seat 1 = .ok (.iload_n 1, 1) ∧ 1 + 1 = 2 := ⟨by decide +kernel, rfl⟩
theorem dX7_seat_2 : decode cX7_seat 2 = .ok (.invokevirtual 92, 3) ∧ 2 + 3 = 5 := ⟨by decide +kernel, rfl⟩
theorem dX7_seat_5 : decode cX7_seat 5 = .ok (.ifCond .ne 5, 3) ∧ 5 + 3 = 8 ∧ ((5 : Nat) : Int) + 5 = ((10 : Nat) : Int) := ⟨by decide +kernel, rfl, rfl⟩
theorem dX7_seat_8 : decode cX7_seat 8 = .ok (.iconst (-1), 1) ∧ 8 + 1 = 9 := ⟨by decide +kernel, rfl⟩
theorem dX7_seat_9 : decode cX7_seat 9 = .ok (.ireturn, 1) ∧ 9 + 1 = 10 := ⟨by decide +kernel, rfl⟩
theorem dX7_seat_10 : decode cX7_seat 10 = .ok (.aload_n 0, 1) ∧ 10 + 1 = 11 := ⟨by decide +kernel, rfl⟩
theorem dX7_seat_11 : decode cX7_seat 11 = .ok (.invokevirtual 184, 3) ∧ 11 + 3 = 14 := ⟨by decide +kernel, rfl⟩
theorem dX7_seat_14 : decode cX7_seat 14 = .ok (.aload_n 0, 1) ∧ 14 + 1 = 15 := ⟨by decide +kernel, rfl⟩
theorem dX7_seat_15 : decode cX7_seat 15 = .ok (.getfield 31, 3) ∧ 15 + 3 = 18 := ⟨by decide +kernel, rfl⟩
theorem dX7_seat_18 : decode cX7_seat 18 = .ok (.iload_n 1, 1) ∧ 18 + 1 = 19 := ⟨by decide +kernel, rfl⟩
theorem dX7_seat_19 : decode cX7_seat 19 = .ok (.iaload, 1) ∧ 19 + 1 = 20 := ⟨by decide +kernel, rfl⟩
theorem dX7_seat_20 : decode cX7_seat 20 = .ok (.ireturn, 1) ∧ 20 + 1 = 21 := ⟨by decide +kernel, rfl⟩
theorem dX7_counted_0 : decode cX7_counted 0 = .ok (.aload_n 0, 1) ∧ 0 + 1 = 1 := ⟨by decide +kernel, rfl⟩
theorem dX7_counted_1 : decode cX7_counted 1 = .ok (.iload_n 1, 1) ∧ 1 + 1 = 2 := ⟨by decide +kernel, rfl⟩
theorem dX7_counted_2 : decode cX7_counted 2 = .ok (.invokevirtual 92, 3) ∧ 2 + 3 = 5 := ⟨by decide +kernel, rfl⟩
theorem dX7_counted_5 : decode cX7_counted 5 = .ok (.ifCond .ne 5, 3) ∧ 5 + 3 = 8 ∧ ((5 : Nat) : Int) + 5 = ((10 : Nat) : Int) := ⟨by decide +kernel, rfl, rfl⟩
theorem dX7_counted_8 : decode cX7_counted 8 = .ok (.iconst (-1), 1) ∧ 8 + 1 = 9 := ⟨by decide +kernel, rfl⟩
theorem dX7_counted_9 : decode cX7_counted 9 = .ok (.ireturn, 1) ∧ 9 + 1 = 10 := ⟨by decide +kernel, rfl⟩
theorem dX7_counted_10 : decode cX7_counted 10 = .ok (.aload_n 0, 1) ∧ 10 + 1 = 11 := ⟨by decide +kernel, rfl⟩
theorem dX7_counted_11 : decode cX7_counted 11 = .ok (.invokevirtual 190, 3) ∧ 11 + 3 = 14 := ⟨by decide +kernel, rfl⟩
theorem dX7_counted_14 : decode cX7_counted 14 = .ok (.aload_n 0, 1) ∧ 14 + 1 = 15 := ⟨by decide +kernel, rfl⟩
theorem dX7_counted_15 : decode cX7_counted 15 = .ok (.getfield 34, 3) ∧ 15 + 3 = 18 := ⟨by decide +kernel, rfl⟩
theorem dX7_counted_18 : decode cX7_counted 18 = .ok (.iload_n 1, 1) ∧ 18 + 1 = 19 := ⟨by decide +kernel, rfl⟩
theorem dX7_counted_19 : decode cX7_counted 19 = .ok (.iaload, 1) ∧ 19 + 1 = 20 := ⟨by decide +kernel, rfl⟩
theorem dX7_counted_20 : decode cX7_counted 20 = .ok (.ireturn, 1) ∧ 20 + 1 = 21 := ⟨by decide +kernel, rfl⟩
theorem dX7_handed_0 : decode cX7_handed 0 = .ok (.aload_n 0, 1) ∧ 0 + 1 = 1 := ⟨by decide +kernel, rfl⟩
theorem dX7_handed_1 : decode cX7_handed 1 = .ok (.iload_n 1, 1) ∧ 1 + 1 = 2 := ⟨by decide +kernel, rfl⟩
theorem dX7_handed_2 : decode cX7_handed 2 = .ok (.invokevirtual 92, 3) ∧ 2 + 3 = 5 := ⟨by decide +kernel, rfl⟩
theorem dX7_handed_5 : decode cX7_handed 5 = .ok (.ifCond .ne 5, 3) ∧ 5 + 3 = 8 ∧ ((5 : Nat) : Int) + 5 = ((10 : Nat) : Int) := ⟨by decide +kernel, rfl, rfl⟩
theorem dX7_handed_8 : decode cX7_handed 8 = .ok (.iconst (-1), 1) ∧ 8 + 1 = 9 := ⟨by decide +kernel, rfl⟩
theorem dX7_handed_9 : decode cX7_handed 9 = .ok (.ireturn, 1) ∧ 9 + 1 = 10 := ⟨by decide +kernel, rfl⟩
theorem dX7_handed_10 : decode cX7_handed 10 = .ok (.aload_n 0, 1) ∧ 10 + 1 = 11 := ⟨by decide +kernel, rfl⟩
theorem dX7_handed_11 : decode cX7_handed 11 = .ok (.invokevirtual 184, 3) ∧ 11 + 3 = 14 := ⟨by decide +kernel, rfl⟩
theorem dX7_handed_14 : decode cX7_handed 14 = .ok (.aload_n 0, 1) ∧ 14 + 1 = 15 := ⟨by decide +kernel, rfl⟩
theorem dX7_handed_15 : decode cX7_handed 15 = .ok (.getfield 37, 3) ∧ 15 + 3 = 18 := ⟨by decide +kernel, rfl⟩
theorem dX7_handed_18 : decode cX7_handed 18 = .ok (.iload_n 1, 1) ∧ 18 + 1 = 19 := ⟨by decide +kernel, rfl⟩
theorem dX7_handed_19 : decode cX7_handed 19 = .ok (.baload, 1) ∧ 19 + 1 = 20 := ⟨by decide +kernel, rfl⟩
theorem dX7_handed_20 : decode cX7_handed 20 = .ok (.ifCond .eq 7, 3) ∧ 20 + 3 = 23 ∧ ((20 : Nat) : Int) + 7 = ((27 : Nat) : Int) := ⟨by decide +kernel, rfl, rfl⟩
theorem dX7_handed_23 : decode cX7_handed 23 = .ok (.iconst 1, 1) ∧ 23 + 1 = 24 := ⟨by decide +kernel, rfl⟩
theorem dX7_handed_24 : decode cX7_handed 24 = .ok (.goto 4, 3) ∧ ((24 : Nat) : Int) + 4 = ((28 : Nat) : Int) := ⟨by decide +kernel, rfl⟩
theorem dX7_handed_27 : decode cX7_handed 27 = .ok (.iconst 0, 1) ∧ 27 + 1 = 28 := ⟨by decide +kernel, rfl⟩
theorem dX7_handed_28 : decode cX7_handed 28 = .ok (.ireturn, 1) ∧ 28 + 1 = 29 := ⟨by decide +kernel, rfl⟩
theorem dX7_isTakenIn_0 : decode cX7_isTakenIn 0 = .ok (.aload_n 0, 1) ∧ 0 + 1 = 1 := ⟨by decide +kernel, rfl⟩
theorem dX7_isTakenIn_1 : decode cX7_isTakenIn 1 = .ok (.getfield 31, 3) ∧ 1 + 3 = 4 := ⟨by decide +kernel, rfl⟩
theorem dX7_isTakenIn_4 : decode cX7_isTakenIn 4 = .ok (.iload_n 1, 1) ∧ 4 + 1 = 5 := ⟨by decide +kernel, rfl⟩
theorem dX7_isTakenIn_5 : decode cX7_isTakenIn 5 = .ok (.iaload, 1) ∧ 5 + 1 = 6 := ⟨by decide +kernel, rfl⟩
theorem dX7_isTakenIn_6 : decode cX7_isTakenIn 6 = .ok (.iload_n 2, 1) ∧ 6 + 1 = 7 := ⟨by decide +kernel, rfl⟩
theorem dX7_isTakenIn_7 : decode cX7_isTakenIn 7 = .ok (.if_icmp .ne 16, 3) ∧ 7 + 3 = 10 ∧ ((7 : Nat) : Int) + 16 = ((23 : Nat) : Int) := ⟨by decide +kernel, rfl, rfl⟩
theorem dX7_isTakenIn_10 : decode cX7_isTakenIn 10 = .ok (.aload_n 0, 1) ∧ 10 + 1 = 11 := ⟨by decide +kernel, rfl⟩
theorem dX7_isTakenIn_11 : decode cX7_isTakenIn 11 = .ok (.getfield 37, 3) ∧ 11 + 3 = 14 := ⟨by decide +kernel, rfl⟩
theorem dX7_isTakenIn_14 : decode cX7_isTakenIn 14 = .ok (.iload_n 1, 1) ∧ 14 + 1 = 15 := ⟨by decide +kernel, rfl⟩
theorem dX7_isTakenIn_15 : decode cX7_isTakenIn 15 = .ok (.baload, 1) ∧ 15 + 1 = 16 := ⟨by decide +kernel, rfl⟩
theorem dX7_isTakenIn_16 : decode cX7_isTakenIn 16 = .ok (.ifCond .ne 7, 3) ∧ 16 + 3 = 19 ∧ ((16 : Nat) : Int) + 7 = ((23 : Nat) : Int) := ⟨by decide +kernel, rfl, rfl⟩
theorem dX7_isTakenIn_19 : decode cX7_isTakenIn 19 = .ok (.iconst 1, 1) ∧ 19 + 1 = 20 := ⟨by decide +kernel, rfl⟩
theorem dX7_isTakenIn_20 : decode cX7_isTakenIn 20 = .ok (.goto 4, 3) ∧ ((20 : Nat) : Int) + 4 = ((24 : Nat) : Int) := ⟨by decide +kernel, rfl⟩
theorem dX7_isTakenIn_23 : decode cX7_isTakenIn 23 = .ok (.iconst 0, 1) ∧ 23 + 1 = 24 := ⟨by decide +kernel, rfl⟩
theorem dX7_isTakenIn_24 : decode cX7_isTakenIn 24 = .ok (.ireturn, 1) ∧ 24 + 1 = 25 := ⟨by decide +kernel, rfl⟩
theorem dX7_taken_0 : decode cX7_taken 0 = .ok (.iload_n 1, 1) ∧ 0 + 1 = 1 := ⟨by decide +kernel, rfl⟩
theorem dX7_taken_1 : decode cX7_taken 1 = .ok (.invokestatic 80, 3) ∧ 1 + 3 = 4 := ⟨by decide +kernel, rfl⟩
theorem dX7_taken_4 : decode cX7_taken 4 = .ok (.ifCond .ne 5, 3) ∧ 4 + 3 = 7 ∧ ((4 : Nat) : Int) + 5 = ((9 : Nat) : Int) := ⟨by decide +kernel, rfl, rfl⟩
theorem dX7_taken_7 : decode cX7_taken 7 = .ok (.iconst (-1), 1) ∧ 7 + 1 = 8 := ⟨by decide +kernel, rfl⟩
theorem dX7_taken_8 : decode cX7_taken 8 = .ok (.ireturn, 1) ∧ 8 + 1 = 9 := ⟨by decide +kernel, rfl⟩
theorem dX7_taken_9 : decode cX7_taken 9 = .ok (.iload_n 2, 1) ∧ 9 + 1 = 10 := ⟨by decide +kernel, rfl⟩
theorem dX7_taken_10 : decode cX7_taken 10 = .ok (.iconst 0, 1) ∧ 10 + 1 = 11 := ⟨by decide +kernel, rfl⟩
theorem dX7_taken_11 : decode cX7_taken 11 = .ok (.bipush 8, 2) ∧ 11 + 2 = 13 := ⟨by decide +kernel, rfl⟩
theorem dX7_taken_13 : decode cX7_taken 13 = .ok (.invokestatic 66, 3) ∧ 13 + 3 = 16 := ⟨by decide +kernel, rfl⟩
theorem dX7_taken_16 : decode cX7_taken 16 = .ok (.ifCond .ne 6, 3) ∧ 16 + 3 = 19 ∧ ((16 : Nat) : Int) + 6 = ((22 : Nat) : Int) := ⟨by decide +kernel, rfl, rfl⟩
theorem dX7_taken_19 : decode cX7_taken 19 = .ok (.bipush (-2), 2) ∧ 19 + 2 = 21 := ⟨by decide +kernel, rfl⟩
theorem dX7_taken_21 : decode cX7_taken 21 = .ok (.ireturn, 1) ∧ 21 + 1 = 22 := ⟨by decide +kernel, rfl⟩
theorem dX7_taken_22 : decode cX7_taken 22 = .ok (.aload_n 0, 1) ∧ 22 + 1 = 23 := ⟨by decide +kernel, rfl⟩
theorem dX7_taken_23 : decode cX7_taken 23 = .ok (.invokevirtual 184, 3) ∧ 23 + 3 = 26 := ⟨by decide +kernel, rfl⟩
theorem dX7_taken_26 : decode cX7_taken 26 = .ok (.iconst 0, 1) ∧ 26 + 1 = 27 := ⟨by decide +kernel, rfl⟩
theorem dX7_taken_27 : decode cX7_taken 27 = .ok (.istore_n 3, 1) ∧ 27 + 1 = 28 := ⟨by decide +kernel, rfl⟩
theorem dX7_taken_28 : decode cX7_taken 28 = .ok (.iconst 0, 1) ∧ 28 + 1 = 29 := ⟨by decide +kernel, rfl⟩
theorem dX7_taken_29 : decode cX7_taken 29 = .ok (.istore 4, 2) ∧ 29 + 2 = 31 := ⟨by decide +kernel, rfl⟩
theorem dX7_taken_31 : decode cX7_taken 31 = .ok (.iload 4, 2) ∧ 31 + 2 = 33 := ⟨by decide +kernel, rfl⟩
theorem dX7_taken_33 : decode cX7_taken 33 = .ok (.aload_n 0, 1) ∧ 33 + 1 = 34 := ⟨by decide +kernel, rfl⟩
theorem dX7_taken_34 : decode cX7_taken 34 = .ok (.getfield 7, 3) ∧ 34 + 3 = 37 := ⟨by decide +kernel, rfl⟩
theorem dX7_taken_37 : decode cX7_taken 37 = .ok (.sipush 157, 3) ∧ 37 + 3 = 40 := ⟨by decide +kernel, rfl⟩
theorem dX7_taken_40 : decode cX7_taken 40 = .ok (.iaload, 1) ∧ 40 + 1 = 41 := ⟨by decide +kernel, rfl⟩
theorem dX7_taken_41 : decode cX7_taken 41 = .ok (.if_icmp .ge 40, 3) ∧ 41 + 3 = 44 ∧ ((41 : Nat) : Int) + 40 = ((81 : Nat) : Int) := ⟨by decide +kernel, rfl, rfl⟩
theorem dX7_taken_44 : decode cX7_taken 44 = .ok (.aload_n 0, 1) ∧ 44 + 1 = 45 := ⟨by decide +kernel, rfl⟩
theorem dX7_taken_45 : decode cX7_taken 45 = .ok (.aload_n 0, 1) ∧ 45 + 1 = 46 := ⟨by decide +kernel, rfl⟩
theorem dX7_taken_46 : decode cX7_taken 46 = .ok (.getfield 16, 3) ∧ 46 + 3 = 49 := ⟨by decide +kernel, rfl⟩
theorem dX7_taken_49 : decode cX7_taken 49 = .ok (.iload 4, 2) ∧ 49 + 2 = 51 := ⟨by decide +kernel, rfl⟩
theorem dX7_taken_51 : decode cX7_taken 51 = .ok (.iaload, 1) ∧ 51 + 1 = 52 := ⟨by decide +kernel, rfl⟩
theorem dX7_taken_52 : decode cX7_taken 52 = .ok (.iload_n 1, 1) ∧ 52 + 1 = 53 := ⟨by decide +kernel, rfl⟩
theorem dX7_taken_53 : decode cX7_taken 53 = .ok (.invokevirtual 163, 3) ∧ 53 + 3 = 56 := ⟨by decide +kernel, rfl⟩
theorem dX7_taken_56 : decode cX7_taken 56 = .ok (.ifCond .eq 19, 3) ∧ 56 + 3 = 59 ∧ ((56 : Nat) : Int) + 19 = ((75 : Nat) : Int) := ⟨by decide +kernel, rfl, rfl⟩
theorem dX7_taken_59 : decode cX7_taken 59 = .ok (.iload_n 3, 1) ∧ 59 + 1 = 60 := ⟨by decide +kernel, rfl⟩
theorem dX7_taken_60 : decode cX7_taken 60 = .ok (.iload_n 2, 1) ∧ 60 + 1 = 61 := ⟨by decide +kernel, rfl⟩
theorem dX7_taken_61 : decode cX7_taken 61 = .ok (.if_icmp .ne 11, 3) ∧ 61 + 3 = 64 ∧ ((61 : Nat) : Int) + 11 = ((72 : Nat) : Int) := ⟨by decide +kernel, rfl, rfl⟩
theorem dX7_taken_64 : decode cX7_taken 64 = .ok (.aload_n 0, 1) ∧ 64 + 1 = 65 := ⟨by decide +kernel, rfl⟩
theorem dX7_taken_65 : decode cX7_taken 65 = .ok (.getfield 16, 3) ∧ 65 + 3 = 68 := ⟨by decide +kernel, rfl⟩
theorem dX7_taken_68 : decode cX7_taken 68 = .ok (.iload 4, 2) ∧ 68 + 2 = 70 := ⟨by decide +kernel, rfl⟩
theorem dX7_taken_70 : decode cX7_taken 70 = .ok (.iaload, 1) ∧ 70 + 1 = 71 := ⟨by decide +kernel, rfl⟩
theorem dX7_taken_71 : decode cX7_taken 71 = .ok (.ireturn, 1) ∧ 71 + 1 = 72 := ⟨by decide +kernel, rfl⟩
theorem dX7_taken_72 : decode cX7_taken 72 = .ok (.iinc 3 1, 3) ∧ 72 + 3 = 75 := ⟨by decide +kernel, rfl⟩
theorem dX7_taken_75 : decode cX7_taken 75 = .ok (.iinc 4 1, 3) ∧ 75 + 3 = 78 := ⟨by decide +kernel, rfl⟩
theorem dX7_taken_78 : decode cX7_taken 78 = .ok (.goto (-47), 3) ∧ ((78 : Nat) : Int) + (-47) = ((31 : Nat) : Int) := ⟨by decide +kernel, rfl⟩
theorem dX7_taken_81 : decode cX7_taken 81 = .ok (.bipush (-9), 2) ∧ 81 + 2 = 83 := ⟨by decide +kernel, rfl⟩
theorem dX7_taken_83 : decode cX7_taken 83 = .ok (.ireturn, 1) ∧ 83 + 1 = 84 := ⟨by decide +kernel, rfl⟩
theorem dX7_fillOf_0 : decode cX7_fillOf 0 = .ok (.aload_n 0, 1) ∧ 0 + 1 = 1 := ⟨by decide +kernel, rfl⟩
theorem dX7_fillOf_1 : decode cX7_fillOf 1 = .ok (.iload_n 1, 1) ∧ 1 + 1 = 2 := ⟨by decide +kernel, rfl⟩
theorem dX7_fillOf_2 : decode cX7_fillOf 2 = .ok (.invokevirtual 132, 3) ∧ 2 + 3 = 5 := ⟨by decide +kernel, rfl⟩
theorem dX7_fillOf_5 : decode cX7_fillOf 5 = .ok (.aload_n 0, 1) ∧ 5 + 1 = 6 := ⟨by decide +kernel, rfl⟩
theorem dX7_fillOf_6 : decode cX7_fillOf 6 = .ok (.invokevirtual 135, 3) ∧ 6 + 3 = 9 := ⟨by decide +kernel, rfl⟩
theorem dX7_fillOf_9 : decode cX7_fillOf 9 = .ok (.aload_n 0, 1) ∧ 9 + 1 = 10 := ⟨by decide +kernel, rfl⟩
theorem dX7_fillOf_10 : decode cX7_fillOf 10 = .ok (.invokevirtual 138, 3) ∧ 10 + 3 = 13 := ⟨by decide +kernel, rfl⟩
theorem dX7_fillOf_13 : decode cX7_fillOf 13 = .ok (.iconst 0, 1) ∧ 13 + 1 = 14 := ⟨by decide +kernel, rfl⟩
theorem dX7_fillOf_14 : decode cX7_fillOf 14 = .ok (.istore_n 2, 1) ∧ 14 + 1 = 15 := ⟨by decide +kernel, rfl⟩
theorem dX7_fillOf_15 : decode cX7_fillOf 15 = .ok (.iload_n 2, 1) ∧ 15 + 1 = 16 := ⟨by decide +kernel, rfl⟩
theorem dX7_fillOf_16 : decode cX7_fillOf 16 = .ok (.aload_n 0, 1) ∧ 16 + 1 = 17 := ⟨by decide +kernel, rfl⟩
theorem dX7_fillOf_17 : decode cX7_fillOf 17 = .ok (.getfield 7, 3) ∧ 17 + 3 = 20 := ⟨by decide +kernel, rfl⟩
theorem dX7_fillOf_20 : decode cX7_fillOf 20 = .ok (.sipush 157, 3) ∧ 20 + 3 = 23 := ⟨by decide +kernel, rfl⟩
theorem dX7_fillOf_23 : decode cX7_fillOf 23 = .ok (.iaload, 1) ∧ 23 + 1 = 24 := ⟨by decide +kernel, rfl⟩
theorem dX7_fillOf_24 : decode cX7_fillOf 24 = .ok (.if_icmp .ge 24, 3) ∧ 24 + 3 = 27 ∧ ((24 : Nat) : Int) + 24 = ((48 : Nat) : Int) := ⟨by decide +kernel, rfl, rfl⟩
theorem dX7_fillOf_27 : decode cX7_fillOf 27 = .ok (.aload_n 0, 1) ∧ 27 + 1 = 28 := ⟨by decide +kernel, rfl⟩
theorem dX7_fillOf_28 : decode cX7_fillOf 28 = .ok (.iload_n 2, 1) ∧ 28 + 1 = 29 := ⟨by decide +kernel, rfl⟩
theorem dX7_fillOf_29 : decode cX7_fillOf 29 = .ok (.iload_n 1, 1) ∧ 29 + 1 = 30 := ⟨by decide +kernel, rfl⟩
theorem dX7_fillOf_30 : decode cX7_fillOf 30 = .ok (.invokevirtual 163, 3) ∧ 30 + 3 = 33 := ⟨by decide +kernel, rfl⟩
theorem dX7_fillOf_33 : decode cX7_fillOf 33 = .ok (.ifCond .eq 9, 3) ∧ 33 + 3 = 36 ∧ ((33 : Nat) : Int) + 9 = ((42 : Nat) : Int) := ⟨by decide +kernel, rfl, rfl⟩
theorem dX7_fillOf_36 : decode cX7_fillOf 36 = .ok (.aload_n 0, 1) ∧ 36 + 1 = 37 := ⟨by decide +kernel, rfl⟩
theorem dX7_fillOf_37 : decode cX7_fillOf 37 = .ok (.iload_n 2, 1) ∧ 37 + 1 = 38 := ⟨by decide +kernel, rfl⟩
theorem dX7_fillOf_38 : decode cX7_fillOf 38 = .ok (.iconst 1, 1) ∧ 38 + 1 = 39 := ⟨by decide +kernel, rfl⟩
theorem dX7_fillOf_39 : decode cX7_fillOf 39 = .ok (.invokevirtual 147, 3) ∧ 39 + 3 = 42 := ⟨by decide +kernel, rfl⟩
theorem dX7_fillOf_42 : decode cX7_fillOf 42 = .ok (.iinc 2 1, 3) ∧ 42 + 3 = 45 := ⟨by decide +kernel, rfl⟩
theorem dX7_fillOf_45 : decode cX7_fillOf 45 = .ok (.goto (-30), 3) ∧ ((45 : Nat) : Int) + (-30) = ((15 : Nat) : Int) := ⟨by decide +kernel, rfl⟩
theorem dX7_fillOf_48 : decode cX7_fillOf 48 = .ok (.aload_n 0, 1) ∧ 48 + 1 = 49 := ⟨by decide +kernel, rfl⟩
theorem dX7_fillOf_49 : decode cX7_fillOf 49 = .ok (.bipush (-9), 2) ∧ 49 + 2 = 51 := ⟨by decide +kernel, rfl⟩
theorem dX7_fillOf_51 : decode cX7_fillOf 51 = .ok (.invokevirtual 144, 3) ∧ 51 + 3 = 54 := ⟨by decide +kernel, rfl⟩
theorem dX7_fillOf_54 : decode cX7_fillOf 54 = .ok (.ireturn, 1) ∧ 54 + 1 = 55 := ⟨by decide +kernel, rfl⟩
theorem dX7_countedIn_0 : decode cX7_countedIn 0 = .ok (.iconst 0, 1) ∧ 0 + 1 = 1 := ⟨by decide +kernel, rfl⟩
theorem dX7_countedIn_1 : decode cX7_countedIn 1 = .ok (.istore_n 3, 1) ∧ 1 + 1 = 2 := ⟨by decide +kernel, rfl⟩
theorem dX7_countedIn_2 : decode cX7_countedIn 2 = .ok (.iconst 0, 1) ∧ 2 + 1 = 3 := ⟨by decide +kernel, rfl⟩
theorem dX7_countedIn_3 : decode cX7_countedIn 3 = .ok (.istore 4, 2) ∧ 3 + 2 = 5 := ⟨by decide +kernel, rfl⟩
theorem dX7_countedIn_5 : decode cX7_countedIn 5 = .ok (.iload 4, 2) ∧ 5 + 2 = 7 := ⟨by decide +kernel, rfl⟩
theorem dX7_countedIn_7 : decode cX7_countedIn 7 = .ok (.aload_n 0, 1) ∧ 7 + 1 = 8 := ⟨by decide +kernel, rfl⟩
theorem dX7_countedIn_8 : decode cX7_countedIn 8 = .ok (.getfield 7, 3) ∧ 8 + 3 = 11 := ⟨by decide +kernel, rfl⟩
theorem dX7_countedIn_11 : decode cX7_countedIn 11 = .ok (.sipush 157, 3) ∧ 11 + 3 = 14 := ⟨by decide +kernel, rfl⟩
theorem dX7_countedIn_14 : decode cX7_countedIn 14 = .ok (.iaload, 1) ∧ 14 + 1 = 15 := ⟨by decide +kernel, rfl⟩
theorem dX7_countedIn_15 : decode cX7_countedIn 15 = .ok (.if_icmp .ge 68, 3) ∧ 15 + 3 = 18 ∧ ((15 : Nat) : Int) + 68 = ((83 : Nat) : Int) := ⟨by decide +kernel, rfl, rfl⟩
theorem dX7_countedIn_18 : decode cX7_countedIn 18 = .ok (.aload_n 0, 1) ∧ 18 + 1 = 19 := ⟨by decide +kernel, rfl⟩
theorem dX7_countedIn_19 : decode cX7_countedIn 19 = .ok (.iload 4, 2) ∧ 19 + 2 = 21 := ⟨by decide +kernel, rfl⟩
theorem dX7_countedIn_21 : decode cX7_countedIn 21 = .ok (.iload_n 1, 1) ∧ 21 + 1 = 22 := ⟨by decide +kernel, rfl⟩
theorem dX7_countedIn_22 : decode cX7_countedIn 22 = .ok (.invokevirtual 163, 3) ∧ 22 + 3 = 25 := ⟨by decide +kernel, rfl⟩
theorem dX7_countedIn_25 : decode cX7_countedIn 25 = .ok (.ifCond .eq 19, 3) ∧ 25 + 3 = 28 ∧ ((25 : Nat) : Int) + 19 = ((44 : Nat) : Int) := ⟨by decide +kernel, rfl, rfl⟩
theorem dX7_countedIn_28 : decode cX7_countedIn 28 = .ok (.aload_n 0, 1) ∧ 28 + 1 = 29 := ⟨by decide +kernel, rfl⟩
theorem dX7_countedIn_29 : decode cX7_countedIn 29 = .ok (.getfield 34, 3) ∧ 29 + 3 = 32 := ⟨by decide +kernel, rfl⟩
theorem dX7_countedIn_32 : decode cX7_countedIn 32 = .ok (.iload 4, 2) ∧ 32 + 2 = 34 := ⟨by decide +kernel, rfl⟩
theorem dX7_countedIn_34 : decode cX7_countedIn 34 = .ok (.iaload, 1) ∧ 34 + 1 = 35 := ⟨by decide +kernel, rfl⟩
theorem dX7_countedIn_35 : decode cX7_countedIn 35 = .ok (.bipush (-9), 2) ∧ 35 + 2 = 37 := ⟨by decide +kernel, rfl⟩
theorem dX7_countedIn_37 : decode cX7_countedIn 37 = .ok (.if_icmp .eq 7, 3) ∧ 37 + 3 = 40 ∧ ((37 : Nat) : Int) + 7 = ((44 : Nat) : Int) := ⟨by decide +kernel, rfl, rfl⟩
theorem dX7_countedIn_40 : decode cX7_countedIn 40 = .ok (.iconst 1, 1) ∧ 40 + 1 = 41 := ⟨by decide +kernel, rfl⟩
theorem dX7_countedIn_41 : decode cX7_countedIn 41 = .ok (.goto 4, 3) ∧ ((41 : Nat) : Int) + 4 = ((45 : Nat) : Int) := ⟨by decide +kernel, rfl⟩
theorem dX7_countedIn_44 : decode cX7_countedIn 44 = .ok (.iconst 0, 1) ∧ 44 + 1 = 45 := ⟨by decide +kernel, rfl⟩
theorem dX7_countedIn_45 : decode cX7_countedIn 45 = .ok (.istore 5, 2) ∧ 45 + 2 = 47 := ⟨by decide +kernel, rfl⟩
theorem dX7_countedIn_47 : decode cX7_countedIn 47 = .ok (.iload_n 3, 1) ∧ 47 + 1 = 48 := ⟨by decide +kernel, rfl⟩
theorem dX7_countedIn_48 : decode cX7_countedIn 48 = .ok (.iload 5, 2) ∧ 48 + 2 = 50 := ⟨by decide +kernel, rfl⟩
theorem dX7_countedIn_50 : decode cX7_countedIn 50 = .ok (.ifCond .eq 24, 3) ∧ 50 + 3 = 53 ∧ ((50 : Nat) : Int) + 24 = ((74 : Nat) : Int) := ⟨by decide +kernel, rfl, rfl⟩
theorem dX7_countedIn_53 : decode cX7_countedIn 53 = .ok (.iload_n 2, 1) ∧ 53 + 1 = 54 := ⟨by decide +kernel, rfl⟩
theorem dX7_countedIn_54 : decode cX7_countedIn 54 = .ok (.bipush (-9), 2) ∧ 54 + 2 = 56 := ⟨by decide +kernel, rfl⟩
theorem dX7_countedIn_56 : decode cX7_countedIn 56 = .ok (.if_icmp .eq 14, 3) ∧ 56 + 3 = 59 ∧ ((56 : Nat) : Int) + 14 = ((70 : Nat) : Int) := ⟨by decide +kernel, rfl, rfl⟩
theorem dX7_countedIn_59 : decode cX7_countedIn 59 = .ok (.aload_n 0, 1) ∧ 59 + 1 = 60 := ⟨by decide +kernel, rfl⟩
theorem dX7_countedIn_60 : decode cX7_countedIn 60 = .ok (.getfield 34, 3) ∧ 60 + 3 = 63 := ⟨by decide +kernel, rfl⟩
theorem dX7_countedIn_63 : decode cX7_countedIn 63 = .ok (.iload 4, 2) ∧ 63 + 2 = 65 := ⟨by decide +kernel, rfl⟩
theorem dX7_countedIn_65 : decode cX7_countedIn 65 = .ok (.iaload, 1) ∧ 65 + 1 = 66 := ⟨by decide +kernel, rfl⟩
theorem dX7_countedIn_66 : decode cX7_countedIn 66 = .ok (.iload_n 2, 1) ∧ 66 + 1 = 67 := ⟨by decide +kernel, rfl⟩
theorem dX7_countedIn_67 : decode cX7_countedIn 67 = .ok (.if_icmp .ne 7, 3) ∧ 67 + 3 = 70 ∧ ((67 : Nat) : Int) + 7 = ((74 : Nat) : Int) := ⟨by decide +kernel, rfl, rfl⟩
theorem dX7_countedIn_70 : decode cX7_countedIn 70 = .ok (.iconst 1, 1) ∧ 70 + 1 = 71 := ⟨by decide +kernel, rfl⟩
theorem dX7_countedIn_71 : decode cX7_countedIn 71 = .ok (.goto 4, 3) ∧ ((71 : Nat) : Int) + 4 = ((75 : Nat) : Int) := ⟨by decide +kernel, rfl⟩
theorem dX7_countedIn_74 : decode cX7_countedIn 74 = .ok (.iconst 0, 1) ∧ 74 + 1 = 75 := ⟨by decide +kernel, rfl⟩
theorem dX7_countedIn_75 : decode cX7_countedIn 75 = .ok (.iadd, 1) ∧ 75 + 1 = 76 := ⟨by decide +kernel, rfl⟩
theorem dX7_countedIn_76 : decode cX7_countedIn 76 = .ok (.istore_n 3, 1) ∧ 76 + 1 = 77 := ⟨by decide +kernel, rfl⟩
theorem dX7_countedIn_77 : decode cX7_countedIn 77 = .ok (.iinc 4 1, 3) ∧ 77 + 3 = 80 := ⟨by decide +kernel, rfl⟩
theorem dX7_countedIn_80 : decode cX7_countedIn 80 = .ok (.goto (-75), 3) ∧ ((80 : Nat) : Int) + (-75) = ((5 : Nat) : Int) := ⟨by decide +kernel, rfl⟩
theorem dX7_countedIn_83 : decode cX7_countedIn 83 = .ok (.iload_n 3, 1) ∧ 83 + 1 = 84 := ⟨by decide +kernel, rfl⟩
theorem dX7_countedIn_84 : decode cX7_countedIn 84 = .ok (.ireturn, 1) ∧ 84 + 1 = 85 := ⟨by decide +kernel, rfl⟩
theorem dX7_worstMark_0 : decode cX7_worstMark 0 = .ok (.bipush (-9), 2) ∧ 0 + 2 = 2 := ⟨by decide +kernel, rfl⟩
theorem dX7_worstMark_2 : decode cX7_worstMark 2 = .ok (.istore_n 2, 1) ∧ 2 + 1 = 3 := ⟨by decide +kernel, rfl⟩
theorem dX7_worstMark_3 : decode cX7_worstMark 3 = .ok (.iconst 0, 1) ∧ 3 + 1 = 4 := ⟨by decide +kernel, rfl⟩
theorem dX7_worstMark_4 : decode cX7_worstMark 4 = .ok (.istore_n 3, 1) ∧ 4 + 1 = 5 := ⟨by decide +kernel, rfl⟩
theorem dX7_worstMark_5 : decode cX7_worstMark 5 = .ok (.iload_n 3, 1) ∧ 5 + 1 = 6 := ⟨by decide +kernel, rfl⟩
theorem dX7_worstMark_6 : decode cX7_worstMark 6 = .ok (.aload_n 0, 1) ∧ 6 + 1 = 7 := ⟨by decide +kernel, rfl⟩
theorem dX7_worstMark_7 : decode cX7_worstMark 7 = .ok (.getfield 7, 3) ∧ 7 + 3 = 10 := ⟨by decide +kernel, rfl⟩
theorem dX7_worstMark_10 : decode cX7_worstMark 10 = .ok (.sipush 157, 3) ∧ 10 + 3 = 13 := ⟨by decide +kernel, rfl⟩
theorem dX7_worstMark_13 : decode cX7_worstMark 13 = .ok (.iaload, 1) ∧ 13 + 1 = 14 := ⟨by decide +kernel, rfl⟩
theorem dX7_worstMark_14 : decode cX7_worstMark 14 = .ok (.if_icmp .ge 39, 3) ∧ 14 + 3 = 17 ∧ ((14 : Nat) : Int) + 39 = ((53 : Nat) : Int) := ⟨by decide +kernel, rfl, rfl⟩
theorem dX7_worstMark_17 : decode cX7_worstMark 17 = .ok (.aload_n 0, 1) ∧ 17 + 1 = 18 := ⟨by decide +kernel, rfl⟩
theorem dX7_worstMark_18 : decode cX7_worstMark 18 = .ok (.aload_n 0, 1) ∧ 18 + 1 = 19 := ⟨by decide +kernel, rfl⟩
theorem dX7_worstMark_19 : decode cX7_worstMark 19 = .ok (.getfield 16, 3) ∧ 19 + 3 = 22 := ⟨by decide +kernel, rfl⟩
theorem dX7_worstMark_22 : decode cX7_worstMark 22 = .ok (.iload_n 3, 1) ∧ 22 + 1 = 23 := ⟨by decide +kernel, rfl⟩
theorem dX7_worstMark_23 : decode cX7_worstMark 23 = .ok (.iaload, 1) ∧ 23 + 1 = 24 := ⟨by decide +kernel, rfl⟩
theorem dX7_worstMark_24 : decode cX7_worstMark 24 = .ok (.iload_n 1, 1) ∧ 24 + 1 = 25 := ⟨by decide +kernel, rfl⟩
theorem dX7_worstMark_25 : decode cX7_worstMark 25 = .ok (.invokevirtual 163, 3) ∧ 25 + 3 = 28 := ⟨by decide +kernel, rfl⟩
theorem dX7_worstMark_28 : decode cX7_worstMark 28 = .ok (.ifCond .eq 17, 3) ∧ 28 + 3 = 31 ∧ ((28 : Nat) : Int) + 17 = ((45 : Nat) : Int) := ⟨by decide +kernel, rfl, rfl⟩
theorem dX7_worstMark_31 : decode cX7_worstMark 31 = .ok (.aload_n 0, 1) ∧ 31 + 1 = 32 := ⟨by decide +kernel, rfl⟩
theorem dX7_worstMark_32 : decode cX7_worstMark 32 = .ok (.aload_n 0, 1) ∧ 32 + 1 = 33 := ⟨by decide +kernel, rfl⟩
theorem dX7_worstMark_33 : decode cX7_worstMark 33 = .ok (.getfield 16, 3) ∧ 33 + 3 = 36 := ⟨by decide +kernel, rfl⟩
theorem dX7_worstMark_36 : decode cX7_worstMark 36 = .ok (.iload_n 3, 1) ∧ 36 + 1 = 37 := ⟨by decide +kernel, rfl⟩
theorem dX7_worstMark_37 : decode cX7_worstMark 37 = .ok (.iaload, 1) ∧ 37 + 1 = 38 := ⟨by decide +kernel, rfl⟩
theorem dX7_worstMark_38 : decode cX7_worstMark 38 = .ok (.iconst 0, 1) ∧ 38 + 1 = 39 := ⟨by decide +kernel, rfl⟩
theorem dX7_worstMark_39 : decode cX7_worstMark 39 = .ok (.invokevirtual 103, 3) ∧ 39 + 3 = 42 := ⟨by decide +kernel, rfl⟩
theorem dX7_worstMark_42 : decode cX7_worstMark 42 = .ok (.goto 4, 3) ∧ ((42 : Nat) : Int) + 4 = ((46 : Nat) : Int) := ⟨by decide +kernel, rfl⟩
theorem dX7_worstMark_45 : decode cX7_worstMark 45 = .ok (.iload_n 2, 1) ∧ 45 + 1 = 46 := ⟨by decide +kernel, rfl⟩
theorem dX7_worstMark_46 : decode cX7_worstMark 46 = .ok (.istore_n 2, 1) ∧ 46 + 1 = 47 := ⟨by decide +kernel, rfl⟩
theorem dX7_worstMark_47 : decode cX7_worstMark 47 = .ok (.iinc 3 1, 3) ∧ 47 + 3 = 50 := ⟨by decide +kernel, rfl⟩
theorem dX7_worstMark_50 : decode cX7_worstMark 50 = .ok (.goto (-45), 3) ∧ ((50 : Nat) : Int) + (-45) = ((5 : Nat) : Int) := ⟨by decide +kernel, rfl⟩
theorem dX7_worstMark_53 : decode cX7_worstMark 53 = .ok (.iload_n 2, 1) ∧ 53 + 1 = 54 := ⟨by decide +kernel, rfl⟩
theorem dX7_worstMark_54 : decode cX7_worstMark 54 = .ok (.ireturn, 1) ∧ 54 + 1 = 55 := ⟨by decide +kernel, rfl⟩
theorem dX7_ofKind_0 : decode cX7_ofKind 0 = .ok (.iload_n 1, 1) ∧ 0 + 1 = 1 := ⟨by decide +kernel, rfl⟩
theorem dX7_ofKind_1 : decode cX7_ofKind 1 = .ok (.invokestatic 80, 3) ∧ 1 + 3 = 4 := ⟨by decide +kernel, rfl⟩
theorem dX7_ofKind_4 : decode cX7_ofKind 4 = .ok (.ifCond .ne 5, 3) ∧ 4 + 3 = 7 ∧ ((4 : Nat) : Int) + 5 = ((9 : Nat) : Int) := ⟨by decide +kernel, rfl, rfl⟩
theorem dX7_ofKind_7 : decode cX7_ofKind 7 = .ok (.iconst (-1), 1) ∧ 7 + 1 = 8 := ⟨by decide +kernel, rfl⟩
theorem dX7_ofKind_8 : decode cX7_ofKind 8 = .ok (.ireturn, 1) ∧ 8 + 1 = 9 := ⟨by decide +kernel, rfl⟩
theorem dX7_ofKind_9 : decode cX7_ofKind 9 = .ok (.iload_n 2, 1) ∧ 9 + 1 = 10 := ⟨by decide +kernel, rfl⟩
theorem dX7_ofKind_10 : decode cX7_ofKind 10 = .ok (.iconst 0, 1) ∧ 10 + 1 = 11 := ⟨by decide +kernel, rfl⟩
theorem dX7_ofKind_11 : decode cX7_ofKind 11 = .ok (.iconst 5, 1) ∧ 11 + 1 = 12 := ⟨by decide +kernel, rfl⟩
theorem dX7_ofKind_12 : decode cX7_ofKind 12 = .ok (.invokestatic 66, 3) ∧ 12 + 3 = 15 := ⟨by decide +kernel, rfl⟩
theorem dX7_ofKind_15 : decode cX7_ofKind 15 = .ok (.ifCond .ne 28, 3) ∧ 15 + 3 = 18 ∧ ((15 : Nat) : Int) + 28 = ((43 : Nat) : Int) := ⟨by decide +kernel, rfl, rfl⟩
theorem dX7_ofKind_18 : decode cX7_ofKind 18 = .ok (.iload_n 2, 1) ∧ 18 + 1 = 19 := ⟨by decide +kernel, rfl⟩
theorem dX7_ofKind_19 : decode cX7_ofKind 19 = .ok (.bipush 10, 2) ∧ 19 + 2 = 21 := ⟨by decide +kernel, rfl⟩
theorem dX7_ofKind_21 : decode cX7_ofKind 21 = .ok (.bipush 13, 2) ∧ 21 + 2 = 23 := ⟨by decide +kernel, rfl⟩
theorem dX7_ofKind_23 : decode cX7_ofKind 23 = .ok (.invokestatic 66, 3) ∧ 23 + 3 = 26 := ⟨by decide +kernel, rfl⟩
theorem dX7_ofKind_26 : decode cX7_ofKind 26 = .ok (.ifCond .ne 17, 3) ∧ 26 + 3 = 29 ∧ ((26 : Nat) : Int) + 17 = ((43 : Nat) : Int) := ⟨by decide +kernel, rfl, rfl⟩
theorem dX7_ofKind_29 : decode cX7_ofKind 29 = .ok (.iload_n 2, 1) ∧ 29 + 1 = 30 := ⟨by decide +kernel, rfl⟩
theorem dX7_ofKind_30 : decode cX7_ofKind 30 = .ok (.bipush 20, 2) ∧ 30 + 2 = 32 := ⟨by decide +kernel, rfl⟩
theorem dX7_ofKind_32 : decode cX7_ofKind 32 = .ok (.bipush 23, 2) ∧ 32 + 2 = 34 := ⟨by decide +kernel, rfl⟩
theorem dX7_ofKind_34 : decode cX7_ofKind 34 = .ok (.invokestatic 66, 3) ∧ 34 + 3 = 37 := ⟨by decide +kernel, rfl⟩
theorem dX7_ofKind_37 : decode cX7_ofKind 37 = .ok (.ifCond .ne 6, 3) ∧ 37 + 3 = 40 ∧ ((37 : Nat) : Int) + 6 = ((43 : Nat) : Int) := ⟨by decide +kernel, rfl, rfl⟩
theorem dX7_ofKind_40 : decode cX7_ofKind 40 = .ok (.bipush (-2), 2) ∧ 40 + 2 = 42 := ⟨by decide +kernel, rfl⟩
theorem dX7_ofKind_42 : decode cX7_ofKind 42 = .ok (.ireturn, 1) ∧ 42 + 1 = 43 := ⟨by decide +kernel, rfl⟩
theorem dX7_ofKind_43 : decode cX7_ofKind 43 = .ok (.aload_n 0, 1) ∧ 43 + 1 = 44 := ⟨by decide +kernel, rfl⟩
theorem dX7_ofKind_44 : decode cX7_ofKind 44 = .ok (.invokevirtual 190, 3) ∧ 44 + 3 = 47 := ⟨by decide +kernel, rfl⟩
theorem dX7_ofKind_47 : decode cX7_ofKind 47 = .ok (.iload_n 2, 1) ∧ 47 + 1 = 48 := ⟨by decide +kernel, rfl⟩
theorem dX7_ofKind_48 : decode cX7_ofKind 48 = .ok (.tableswitch 81 0 5 #[40, 47, 54, 62, 69, 75], 40) := by decide +kernel
theorem dX7_ofKind_88 : decode cX7_ofKind 88 = .ok (.aload_n 0, 1) ∧ 88 + 1 = 89 := ⟨by decide +kernel, rfl⟩
theorem dX7_ofKind_89 : decode cX7_ofKind 89 = .ok (.getfield 19, 3) ∧ 89 + 3 = 92 := ⟨by decide +kernel, rfl⟩
theorem dX7_ofKind_92 : decode cX7_ofKind 92 = .ok (.iload_n 1, 1) ∧ 92 + 1 = 93 := ⟨by decide +kernel, rfl⟩
theorem dX7_ofKind_93 : decode cX7_ofKind 93 = .ok (.iaload, 1) ∧ 93 + 1 = 94 := ⟨by decide +kernel, rfl⟩
theorem dX7_ofKind_94 : decode cX7_ofKind 94 = .ok (.ireturn, 1) ∧ 94 + 1 = 95 := ⟨by decide +kernel, rfl⟩
theorem dX7_ofKind_95 : decode cX7_ofKind 95 = .ok (.aload_n 0, 1) ∧ 95 + 1 = 96 := ⟨by decide +kernel, rfl⟩
theorem dX7_ofKind_96 : decode cX7_ofKind 96 = .ok (.getfield 25, 3) ∧ 96 + 3 = 99 := ⟨by decide +kernel, rfl⟩
theorem dX7_ofKind_99 : decode cX7_ofKind 99 = .ok (.iload_n 1, 1) ∧ 99 + 1 = 100 := ⟨by decide +kernel, rfl⟩
theorem dX7_ofKind_100 : decode cX7_ofKind 100 = .ok (.iaload, 1) ∧ 100 + 1 = 101 := ⟨by decide +kernel, rfl⟩
theorem dX7_ofKind_101 : decode cX7_ofKind 101 = .ok (.ireturn, 1) ∧ 101 + 1 = 102 := ⟨by decide +kernel, rfl⟩
theorem dX7_ofKind_102 : decode cX7_ofKind 102 = .ok (.aload_n 0, 1) ∧ 102 + 1 = 103 := ⟨by decide +kernel, rfl⟩
theorem dX7_ofKind_103 : decode cX7_ofKind 103 = .ok (.iload_n 1, 1) ∧ 103 + 1 = 104 := ⟨by decide +kernel, rfl⟩
theorem dX7_ofKind_104 : decode cX7_ofKind 104 = .ok (.bipush (-9), 2) ∧ 104 + 2 = 106 := ⟨by decide +kernel, rfl⟩
theorem dX7_ofKind_106 : decode cX7_ofKind 106 = .ok (.invokevirtual 193, 3) ∧ 106 + 3 = 109 := ⟨by decide +kernel, rfl⟩
theorem dX7_ofKind_109 : decode cX7_ofKind 109 = .ok (.ireturn, 1) ∧ 109 + 1 = 110 := ⟨by decide +kernel, rfl⟩
theorem dX7_ofKind_110 : decode cX7_ofKind 110 = .ok (.aload_n 0, 1) ∧ 110 + 1 = 111 := ⟨by decide +kernel, rfl⟩
theorem dX7_ofKind_111 : decode cX7_ofKind 111 = .ok (.getfield 28, 3) ∧ 111 + 3 = 114 := ⟨by decide +kernel, rfl⟩
theorem dX7_ofKind_114 : decode cX7_ofKind 114 = .ok (.iload_n 1, 1) ∧ 114 + 1 = 115 := ⟨by decide +kernel, rfl⟩
theorem dX7_ofKind_115 : decode cX7_ofKind 115 = .ok (.iaload, 1) ∧ 115 + 1 = 116 := ⟨by decide +kernel, rfl⟩
theorem dX7_ofKind_116 : decode cX7_ofKind 116 = .ok (.ireturn, 1) ∧ 116 + 1 = 117 := ⟨by decide +kernel, rfl⟩
theorem dX7_ofKind_117 : decode cX7_ofKind 117 = .ok (.aload_n 0, 1) ∧ 117 + 1 = 118 := ⟨by decide +kernel, rfl⟩
theorem dX7_ofKind_118 : decode cX7_ofKind 118 = .ok (.iload_n 1, 1) ∧ 118 + 1 = 119 := ⟨by decide +kernel, rfl⟩
theorem dX7_ofKind_119 : decode cX7_ofKind 119 = .ok (.invokevirtual 196, 3) ∧ 119 + 3 = 122 := ⟨by decide +kernel, rfl⟩
theorem dX7_ofKind_122 : decode cX7_ofKind 122 = .ok (.ireturn, 1) ∧ 122 + 1 = 123 := ⟨by decide +kernel, rfl⟩
theorem dX7_ofKind_123 : decode cX7_ofKind 123 = .ok (.aload_n 0, 1) ∧ 123 + 1 = 124 := ⟨by decide +kernel, rfl⟩
theorem dX7_ofKind_124 : decode cX7_ofKind 124 = .ok (.iload_n 1, 1) ∧ 124 + 1 = 125 := ⟨by decide +kernel, rfl⟩
theorem dX7_ofKind_125 : decode cX7_ofKind 125 = .ok (.invokevirtual 199, 3) ∧ 125 + 3 = 128 := ⟨by decide +kernel, rfl⟩
theorem dX7_ofKind_128 : decode cX7_ofKind 128 = .ok (.ireturn, 1) ∧ 128 + 1 = 129 := ⟨by decide +kernel, rfl⟩
theorem dX7_ofKind_129 : decode cX7_ofKind 129 = .ok (.iload_n 2, 1) ∧ 129 + 1 = 130 := ⟨by decide +kernel, rfl⟩
theorem dX7_ofKind_130 : decode cX7_ofKind 130 = .ok (.bipush 20, 2) ∧ 130 + 2 = 132 := ⟨by decide +kernel, rfl⟩
theorem dX7_ofKind_132 : decode cX7_ofKind 132 = .ok (.if_icmp .ge 19, 3) ∧ 132 + 3 = 135 ∧ ((132 : Nat) : Int) + 19 = ((151 : Nat) : Int) := ⟨by decide +kernel, rfl, rfl⟩
theorem dX7_ofKind_135 : decode cX7_ofKind 135 = .ok (.aload_n 0, 1) ∧ 135 + 1 = 136 := ⟨by decide +kernel, rfl⟩
theorem dX7_ofKind_136 : decode cX7_ofKind 136 = .ok (.getfield 22, 3) ∧ 136 + 3 = 139 := ⟨by decide +kernel, rfl⟩
theorem dX7_ofKind_139 : decode cX7_ofKind 139 = .ok (.iconst 4, 1) ∧ 139 + 1 = 140 := ⟨by decide +kernel, rfl⟩
theorem dX7_ofKind_140 : decode cX7_ofKind 140 = .ok (.iload_n 1, 1) ∧ 140 + 1 = 141 := ⟨by decide +kernel, rfl⟩
theorem dX7_ofKind_141 : decode cX7_ofKind 141 = .ok (.imul, 1) ∧ 141 + 1 = 142 := ⟨by decide +kernel, rfl⟩
theorem dX7_ofKind_142 : decode cX7_ofKind 142 = .ok (.iload_n 2, 1) ∧ 142 + 1 = 143 := ⟨by decide +kernel, rfl⟩
theorem dX7_ofKind_143 : decode cX7_ofKind 143 = .ok (.iadd, 1) ∧ 143 + 1 = 144 := ⟨by decide +kernel, rfl⟩
theorem dX7_ofKind_144 : decode cX7_ofKind 144 = .ok (.bipush 10, 2) ∧ 144 + 2 = 146 := ⟨by decide +kernel, rfl⟩
theorem dX7_ofKind_146 : decode cX7_ofKind 146 = .ok (.isub, 1) ∧ 146 + 1 = 147 := ⟨by decide +kernel, rfl⟩
theorem dX7_ofKind_147 : decode cX7_ofKind 147 = .ok (.iaload, 1) ∧ 147 + 1 = 148 := ⟨by decide +kernel, rfl⟩
theorem dX7_ofKind_148 : decode cX7_ofKind 148 = .ok (.goto 12, 3) ∧ ((148 : Nat) : Int) + 12 = ((160 : Nat) : Int) := ⟨by decide +kernel, rfl⟩
theorem dX7_ofKind_151 : decode cX7_ofKind 151 = .ok (.aload_n 0, 1) ∧ 151 + 1 = 152 := ⟨by decide +kernel, rfl⟩
theorem dX7_ofKind_152 : decode cX7_ofKind 152 = .ok (.iload_n 1, 1) ∧ 152 + 1 = 153 := ⟨by decide +kernel, rfl⟩
theorem dX7_ofKind_153 : decode cX7_ofKind 153 = .ok (.iload_n 2, 1) ∧ 153 + 1 = 154 := ⟨by decide +kernel, rfl⟩
theorem dX7_ofKind_154 : decode cX7_ofKind 154 = .ok (.bipush 20, 2) ∧ 154 + 2 = 156 := ⟨by decide +kernel, rfl⟩
theorem dX7_ofKind_156 : decode cX7_ofKind 156 = .ok (.isub, 1) ∧ 156 + 1 = 157 := ⟨by decide +kernel, rfl⟩
theorem dX7_ofKind_157 : decode cX7_ofKind 157 = .ok (.invokevirtual 193, 3) ∧ 157 + 3 = 160 := ⟨by decide +kernel, rfl⟩
theorem dX7_ofKind_160 : decode cX7_ofKind 160 = .ok (.ireturn, 1) ∧ 160 + 1 = 161 := ⟨by decide +kernel, rfl⟩
theorem dX7_usedOf_0 : decode cX7_usedOf 0 = .ok (.iload_n 0, 1) ∧ 0 + 1 = 1 := ⟨by decide +kernel, rfl⟩
theorem dX7_usedOf_1 : decode cX7_usedOf 1 = .ok (.istore_n 2, 1) ∧ 1 + 1 = 2 := ⟨by decide +kernel, rfl⟩
theorem dX7_usedOf_2 : decode cX7_usedOf 2 = .ok (.iconst 0, 1) ∧ 2 + 1 = 3 := ⟨by decide +kernel, rfl⟩
theorem dX7_usedOf_3 : decode cX7_usedOf 3 = .ok (.istore_n 3, 1) ∧ 3 + 1 = 4 := ⟨by decide +kernel, rfl⟩
theorem dX7_usedOf_4 : decode cX7_usedOf 4 = .ok (.iload_n 3, 1) ∧ 4 + 1 = 5 := ⟨by decide +kernel, rfl⟩
theorem dX7_usedOf_5 : decode cX7_usedOf 5 = .ok (.iload_n 1, 1) ∧ 5 + 1 = 6 := ⟨by decide +kernel, rfl⟩
theorem dX7_usedOf_6 : decode cX7_usedOf 6 = .ok (.if_icmp .ge 14, 3) ∧ 6 + 3 = 9 ∧ ((6 : Nat) : Int) + 14 = ((20 : Nat) : Int) := ⟨by decide +kernel, rfl, rfl⟩
theorem dX7_usedOf_9 : decode cX7_usedOf 9 = .ok (.iload_n 2, 1) ∧ 9 + 1 = 10 := ⟨by decide +kernel, rfl⟩
theorem dX7_usedOf_10 : decode cX7_usedOf 10 = .ok (.bipush 6, 2) ∧ 10 + 2 = 12 := ⟨by decide +kernel, rfl⟩
theorem dX7_usedOf_12 : decode cX7_usedOf 12 = .ok (.idiv, 1) ∧ 12 + 1 = 13 := ⟨by decide +kernel, rfl⟩
theorem dX7_usedOf_13 : decode cX7_usedOf 13 = .ok (.istore_n 2, 1) ∧ 13 + 1 = 14 := ⟨by decide +kernel, rfl⟩
theorem dX7_usedOf_14 : decode cX7_usedOf 14 = .ok (.iinc 3 1, 3) ∧ 14 + 3 = 17 := ⟨by decide +kernel, rfl⟩
theorem dX7_usedOf_17 : decode cX7_usedOf 17 = .ok (.goto (-13), 3) ∧ ((17 : Nat) : Int) + (-13) = ((4 : Nat) : Int) := ⟨by decide +kernel, rfl⟩
theorem dX7_usedOf_20 : decode cX7_usedOf 20 = .ok (.iload_n 2, 1) ∧ 20 + 1 = 21 := ⟨by decide +kernel, rfl⟩
theorem dX7_usedOf_21 : decode cX7_usedOf 21 = .ok (.bipush 6, 2) ∧ 21 + 2 = 23 := ⟨by decide +kernel, rfl⟩
theorem dX7_usedOf_23 : decode cX7_usedOf 23 = .ok (.irem, 1) ∧ 23 + 1 = 24 := ⟨by decide +kernel, rfl⟩
theorem dX7_usedOf_24 : decode cX7_usedOf 24 = .ok (.ireturn, 1) ∧ 24 + 1 = 25 := ⟨by decide +kernel, rfl⟩
theorem dX7_sixes_0 : decode cX7_sixes 0 = .ok (.iload_n 0, 1) ∧ 0 + 1 = 1 := ⟨by decide +kernel, rfl⟩
theorem dX7_sixes_1 : decode cX7_sixes 1 = .ok (.ifCond .ne 7, 3) ∧ 1 + 3 = 4 ∧ ((1 : Nat) : Int) + 7 = ((8 : Nat) : Int) := ⟨by decide +kernel, rfl, rfl⟩
theorem dX7_sixes_4 : decode cX7_sixes 4 = .ok (.iconst 1, 1) ∧ 4 + 1 = 5 := ⟨by decide +kernel, rfl⟩
theorem dX7_sixes_5 : decode cX7_sixes 5 = .ok (.goto 26, 3) ∧ ((5 : Nat) : Int) + 26 = ((31 : Nat) : Int) := ⟨by decide +kernel, rfl⟩
theorem dX7_sixes_8 : decode cX7_sixes 8 = .ok (.iload_n 0, 1) ∧ 8 + 1 = 9 := ⟨by decide +kernel, rfl⟩
theorem dX7_sixes_9 : decode cX7_sixes 9 = .ok (.iconst 1, 1) ∧ 9 + 1 = 10 := ⟨by decide +kernel, rfl⟩
theorem dX7_sixes_10 : decode cX7_sixes 10 = .ok (.if_icmp .ne 8, 3) ∧ 10 + 3 = 13 ∧ ((10 : Nat) : Int) + 8 = ((18 : Nat) : Int) := ⟨by decide +kernel, rfl, rfl⟩
theorem dX7_sixes_13 : decode cX7_sixes 13 = .ok (.bipush 6, 2) ∧ 13 + 2 = 15 := ⟨by decide +kernel, rfl⟩
theorem dX7_sixes_15 : decode cX7_sixes 15 = .ok (.goto 16, 3) ∧ ((15 : Nat) : Int) + 16 = ((31 : Nat) : Int) := ⟨by decide +kernel, rfl⟩
theorem dX7_sixes_18 : decode cX7_sixes 18 = .ok (.iload_n 0, 1) ∧ 18 + 1 = 19 := ⟨by decide +kernel, rfl⟩
theorem dX7_sixes_19 : decode cX7_sixes 19 = .ok (.iconst 2, 1) ∧ 19 + 1 = 20 := ⟨by decide +kernel, rfl⟩
theorem dX7_sixes_20 : decode cX7_sixes 20 = .ok (.if_icmp .ne 8, 3) ∧ 20 + 3 = 23 ∧ ((20 : Nat) : Int) + 8 = ((28 : Nat) : Int) := ⟨by decide +kernel, rfl, rfl⟩
theorem dX7_sixes_23 : decode cX7_sixes 23 = .ok (.bipush 36, 2) ∧ 23 + 2 = 25 := ⟨by decide +kernel, rfl⟩
theorem dX7_sixes_25 : decode cX7_sixes 25 = .ok (.goto 6, 3) ∧ ((25 : Nat) : Int) + 6 = ((31 : Nat) : Int) := ⟨by decide +kernel, rfl⟩
theorem dX7_sixes_28 : decode cX7_sixes 28 = .ok (.sipush 216, 3) ∧ 28 + 3 = 31 := ⟨by decide +kernel, rfl⟩
theorem dX7_sixes_31 : decode cX7_sixes 31 = .ok (.ireturn, 1) ∧ 31 + 1 = 32 := ⟨by decide +kernel, rfl⟩
theorem dX7_addWays_0 : decode cX7_addWays 0 = .ok (.sipush 1295, 3) ∧ 0 + 3 = 3 := ⟨by decide +kernel, rfl⟩
theorem dX7_addWays_3 : decode cX7_addWays 3 = .ok (.istore_n 3, 1) ∧ 3 + 1 = 4 := ⟨by decide +kernel, rfl⟩
theorem dX7_addWays_4 : decode cX7_addWays 4 = .ok (.iload_n 3, 1) ∧ 4 + 1 = 5 := ⟨by decide +kernel, rfl⟩
theorem dX7_addWays_5 : decode cX7_addWays 5 = .ok (.ifCond .lt 103, 3) ∧ 5 + 3 = 8 ∧ ((5 : Nat) : Int) + 103 = ((108 : Nat) : Int) := ⟨by decide +kernel, rfl, rfl⟩
theorem dX7_addWays_8 : decode cX7_addWays 8 = .ok (.iconst 0, 1) ∧ 8 + 1 = 9 := ⟨by decide +kernel, rfl⟩
theorem dX7_addWays_9 : decode cX7_addWays 9 = .ok (.istore 4, 2) ∧ 9 + 2 = 11 := ⟨by decide +kernel, rfl⟩
theorem dX7_addWays_11 : decode cX7_addWays 11 = .ok (.iload 4, 2) ∧ 11 + 2 = 13 := ⟨by decide +kernel, rfl⟩
theorem dX7_addWays_13 : decode cX7_addWays 13 = .ok (.iconst 4, 1) ∧ 13 + 1 = 14 := ⟨by decide +kernel, rfl⟩
theorem dX7_addWays_14 : decode cX7_addWays 14 = .ok (.if_icmp .ge 88, 3) ∧ 14 + 3 = 17 ∧ ((14 : Nat) : Int) + 88 = ((102 : Nat) : Int) := ⟨by decide +kernel, rfl, rfl⟩
theorem dX7_addWays_17 : decode cX7_addWays 17 = .ok (.aload_n 0, 1) ∧ 17 + 1 = 18 := ⟨by decide +kernel, rfl⟩
theorem dX7_addWays_18 : decode cX7_addWays 18 = .ok (.getfield 59, 3) ∧ 18 + 3 = 21 := ⟨by decide +kernel, rfl⟩
theorem dX7_addWays_21 : decode cX7_addWays 21 = .ok (.iload_n 3, 1) ∧ 21 + 1 = 22 := ⟨by decide +kernel, rfl⟩
theorem dX7_addWays_22 : decode cX7_addWays 22 = .ok (.laload, 1) ∧ 22 + 1 = 23 := ⟨by decide +kernel, rfl⟩
theorem dX7_addWays_23 : decode cX7_addWays 23 = .ok (.lconst 0, 1) ∧ 23 + 1 = 24 := ⟨by decide +kernel, rfl⟩
theorem dX7_addWays_24 : decode cX7_addWays 24 = .ok (.lcmp, 1) ∧ 24 + 1 = 25 := ⟨by decide +kernel, rfl⟩
theorem dX7_addWays_25 : decode cX7_addWays 25 = .ok (.ifCond .le 77, 3) ∧ 25 + 3 = 28 ∧ ((25 : Nat) : Int) + 77 = ((102 : Nat) : Int) := ⟨by decide +kernel, rfl, rfl⟩
theorem dX7_addWays_28 : decode cX7_addWays 28 = .ok (.aload_n 0, 1) ∧ 28 + 1 = 29 := ⟨by decide +kernel, rfl⟩
theorem dX7_addWays_29 : decode cX7_addWays 29 = .ok (.iload_n 1, 1) ∧ 29 + 1 = 30 := ⟨by decide +kernel, rfl⟩
theorem dX7_addWays_30 : decode cX7_addWays 30 = .ok (.iconst 3, 1) ∧ 30 + 1 = 31 := ⟨by decide +kernel, rfl⟩
theorem dX7_addWays_31 : decode cX7_addWays 31 = .ok (.invokevirtual 103, 3) ∧ 31 + 3 = 34 := ⟨by decide +kernel, rfl⟩
theorem dX7_addWays_34 : decode cX7_addWays 34 = .ok (.iload 4, 2) ∧ 34 + 2 = 36 := ⟨by decide +kernel, rfl⟩
theorem dX7_addWays_36 : decode cX7_addWays 36 = .ok (.invokestatic 120, 3) ∧ 36 + 3 = 39 := ⟨by decide +kernel, rfl⟩
theorem dX7_addWays_39 : decode cX7_addWays 39 = .ok (.iconst 1, 1) ∧ 39 + 1 = 40 := ⟨by decide +kernel, rfl⟩
theorem dX7_addWays_40 : decode cX7_addWays 40 = .ok (.if_icmp .ne 27, 3) ∧ 40 + 3 = 43 ∧ ((40 : Nat) : Int) + 27 = ((67 : Nat) : Int) := ⟨by decide +kernel, rfl, rfl⟩
theorem dX7_addWays_43 : decode cX7_addWays 43 = .ok (.iload_n 3, 1) ∧ 43 + 1 = 44 := ⟨by decide +kernel, rfl⟩
theorem dX7_addWays_44 : decode cX7_addWays 44 = .ok (.iload 4, 2) ∧ 44 + 2 = 46 := ⟨by decide +kernel, rfl⟩
theorem dX7_addWays_46 : decode cX7_addWays 46 = .ok (.invokestatic 202, 3) ∧ 46 + 3 = 49 := ⟨by decide +kernel, rfl⟩
theorem dX7_addWays_49 : decode cX7_addWays 49 = .ok (.aload_n 0, 1) ∧ 49 + 1 = 50 := ⟨by decide +kernel, rfl⟩
theorem dX7_addWays_50 : decode cX7_addWays 50 = .ok (.getfield 22, 3) ∧ 50 + 3 = 53 := ⟨by decide +kernel, rfl⟩
theorem dX7_addWays_53 : decode cX7_addWays 53 = .ok (.iconst 4, 1) ∧ 53 + 1 = 54 := ⟨by decide +kernel, rfl⟩
theorem dX7_addWays_54 : decode cX7_addWays 54 = .ok (.iload_n 2, 1) ∧ 54 + 1 = 55 := ⟨by decide +kernel, rfl⟩
theorem dX7_addWays_55 : decode cX7_addWays 55 = .ok (.imul, 1) ∧ 55 + 1 = 56 := ⟨by decide +kernel, rfl⟩
theorem dX7_addWays_56 : decode cX7_addWays 56 = .ok (.iload 4, 2) ∧ 56 + 2 = 58 := ⟨by decide +kernel, rfl⟩
theorem dX7_addWays_58 : decode cX7_addWays 58 = .ok (.iadd, 1) ∧ 58 + 1 = 59 := ⟨by decide +kernel, rfl⟩
theorem dX7_addWays_59 : decode cX7_addWays 59 = .ok (.iaload, 1) ∧ 59 + 1 = 60 := ⟨by decide +kernel, rfl⟩
theorem dX7_addWays_60 : decode cX7_addWays 60 = .ok (.if_icmp .ge 7, 3) ∧ 60 + 3 = 63 ∧ ((60 : Nat) : Int) + 7 = ((67 : Nat) : Int) := ⟨by decide +kernel, rfl, rfl⟩
theorem dX7_addWays_63 : decode cX7_addWays 63 = .ok (.iconst 1, 1) ∧ 63 + 1 = 64 := ⟨by decide +kernel, rfl⟩
theorem dX7_addWays_64 : decode cX7_addWays 64 = .ok (.goto 4, 3) ∧ ((64 : Nat) : Int) + 4 = ((68 : Nat) : Int) := ⟨by decide +kernel, rfl⟩
theorem dX7_addWays_67 : decode cX7_addWays 67 = .ok (.iconst 0, 1) ∧ 67 + 1 = 68 := ⟨by decide +kernel, rfl⟩
theorem dX7_addWays_68 : decode cX7_addWays 68 = .ok (.istore 5, 2) ∧ 68 + 2 = 70 := ⟨by decide +kernel, rfl⟩
theorem dX7_addWays_70 : decode cX7_addWays 70 = .ok (.iload 5, 2) ∧ 70 + 2 = 72 := ⟨by decide +kernel, rfl⟩
theorem dX7_addWays_72 : decode cX7_addWays 72 = .ok (.ifCond .eq 24, 3) ∧ 72 + 3 = 75 ∧ ((72 : Nat) : Int) + 24 = ((96 : Nat) : Int) := ⟨by decide +kernel, rfl, rfl⟩
theorem dX7_addWays_75 : decode cX7_addWays 75 = .ok (.aload_n 0, 1) ∧ 75 + 1 = 76 := ⟨by decide +kernel, rfl⟩
theorem dX7_addWays_76 : decode cX7_addWays 76 = .ok (.getfield 59, 3) ∧ 76 + 3 = 79 := ⟨by decide +kernel, rfl⟩
theorem dX7_addWays_79 : decode cX7_addWays 79 = .ok (.iload_n 3, 1) ∧ 79 + 1 = 80 := ⟨by decide +kernel, rfl⟩
theorem dX7_addWays_80 : decode cX7_addWays 80 = .ok (.iload 4, 2) ∧ 80 + 2 = 82 := ⟨by decide +kernel, rfl⟩
theorem dX7_addWays_82 : decode cX7_addWays 82 = .ok (.invokestatic 205, 3) ∧ 82 + 3 = 85 := ⟨by decide +kernel, rfl⟩
theorem dX7_addWays_85 : decode cX7_addWays 85 = .ok (.iadd, 1) ∧ 85 + 1 = 86 := ⟨by decide +kernel, rfl⟩
theorem dX7_addWays_86 : decode cX7_addWays 86 = .ok (.dup2, 1) ∧ 86 + 1 = 87 := ⟨by decide +kernel, rfl⟩
theorem dX7_addWays_87 : decode cX7_addWays 87 = .ok (.laload, 1) ∧ 87 + 1 = 88 := ⟨by decide +kernel, rfl⟩
theorem dX7_addWays_88 : decode cX7_addWays 88 = .ok (.aload_n 0, 1) ∧ 88 + 1 = 89 := ⟨by decide +kernel, rfl⟩
theorem dX7_addWays_89 : decode cX7_addWays 89 = .ok (.getfield 59, 3) ∧ 89 + 3 = 92 := ⟨by decide +kernel, rfl⟩
theorem dX7_addWays_92 : decode cX7_addWays 92 = .ok (.iload_n 3, 1) ∧ 92 + 1 = 93 := ⟨by decide +kernel, rfl⟩
theorem dX7_addWays_93 : decode cX7_addWays 93 = .ok (.laload, 1) ∧ 93 + 1 = 94 := ⟨by decide +kernel, rfl⟩
theorem dX7_addWays_94 : decode cX7_addWays 94 = .ok (.ladd, 1) ∧ 94 + 1 = 95 := ⟨by decide +kernel, rfl⟩
theorem dX7_addWays_95 : decode cX7_addWays 95 = .ok (.lastore, 1) ∧ 95 + 1 = 96 := ⟨by decide +kernel, rfl⟩
theorem dX7_addWays_96 : decode cX7_addWays 96 = .ok (.iinc 4 1, 3) ∧ 96 + 3 = 99 := ⟨by decide +kernel, rfl⟩
theorem dX7_addWays_99 : decode cX7_addWays 99 = .ok (.goto (-88), 3) ∧ ((99 : Nat) : Int) + (-88) = ((11 : Nat) : Int) := ⟨by decide +kernel, rfl⟩
theorem dX7_addWays_102 : decode cX7_addWays 102 = .ok (.iinc 3 (-1), 3) ∧ 102 + 3 = 105 := ⟨by decide +kernel, rfl⟩
theorem dX7_addWays_105 : decode cX7_addWays 105 = .ok (.goto (-101), 3) ∧ ((105 : Nat) : Int) + (-101) = ((4 : Nat) : Int) := ⟨by decide +kernel, rfl⟩
theorem dX7_addWays_108 : decode cX7_addWays 108 = .ok (.return_, 1) ∧ 108 + 1 = 109 := ⟨by decide +kernel, rfl⟩
theorem dX7_ways_0 : decode cX7_ways 0 = .ok (.iload_n 1, 1) ∧ 0 + 1 = 1 := ⟨by decide +kernel, rfl⟩
theorem dX7_ways_1 : decode cX7_ways 1 = .ok (.invokestatic 80, 3) ∧ 1 + 3 = 4 := ⟨by decide +kernel, rfl⟩
theorem dX7_ways_4 : decode cX7_ways 4 = .ok (.ifCond .ne 7, 3) ∧ 4 + 3 = 7 ∧ ((4 : Nat) : Int) + 7 = ((11 : Nat) : Int) := ⟨by decide +kernel, rfl, rfl⟩
theorem dX7_ways_7 : decode cX7_ways 7 = .ok (.ldc2_w 208, 3) ∧ 7 + 3 = 10 := ⟨by decide +kernel, rfl⟩
theorem dX7_ways_10 : decode cX7_ways 10 = .ok (.lreturn, 1) ∧ 10 + 1 = 11 := ⟨by decide +kernel, rfl⟩
theorem dX7_ways_11 : decode cX7_ways 11 = .ok (.aload_n 0, 1) ∧ 11 + 1 = 12 := ⟨by decide +kernel, rfl⟩
theorem dX7_ways_12 : decode cX7_ways 12 = .ok (.invokevirtual 184, 3) ∧ 12 + 3 = 15 := ⟨by decide +kernel, rfl⟩
theorem dX7_ways_15 : decode cX7_ways 15 = .ok (.iconst 0, 1) ∧ 15 + 1 = 16 := ⟨by decide +kernel, rfl⟩
theorem dX7_ways_16 : decode cX7_ways 16 = .ok (.istore_n 2, 1) ∧ 16 + 1 = 17 := ⟨by decide +kernel, rfl⟩
theorem dX7_ways_17 : decode cX7_ways 17 = .ok (.iload_n 2, 1) ∧ 17 + 1 = 18 := ⟨by decide +kernel, rfl⟩
theorem dX7_ways_18 : decode cX7_ways 18 = .ok (.sipush 1296, 3) ∧ 18 + 3 = 21 := ⟨by decide +kernel, rfl⟩
theorem dX7_ways_21 : decode cX7_ways 21 = .ok (.if_icmp .ge 24, 3) ∧ 21 + 3 = 24 ∧ ((21 : Nat) : Int) + 24 = ((45 : Nat) : Int) := ⟨by decide +kernel, rfl, rfl⟩
theorem dX7_ways_24 : decode cX7_ways 24 = .ok (.aload_n 0, 1) ∧ 24 + 1 = 25 := ⟨by decide +kernel, rfl⟩
theorem dX7_ways_25 : decode cX7_ways 25 = .ok (.getfield 59, 3) ∧ 25 + 3 = 28 := ⟨by decide +kernel, rfl⟩
theorem dX7_ways_28 : decode cX7_ways 28 = .ok (.iload_n 2, 1) ∧ 28 + 1 = 29 := ⟨by decide +kernel, rfl⟩
theorem dX7_ways_29 : decode cX7_ways 29 = .ok (.iload_n 2, 1) ∧ 29 + 1 = 30 := ⟨by decide +kernel, rfl⟩
theorem dX7_ways_30 : decode cX7_ways 30 = .ok (.ifCond .ne 7, 3) ∧ 30 + 3 = 33 ∧ ((30 : Nat) : Int) + 7 = ((37 : Nat) : Int) := ⟨by decide +kernel, rfl, rfl⟩
theorem dX7_ways_33 : decode cX7_ways 33 = .ok (.lconst 1, 1) ∧ 33 + 1 = 34 := ⟨by decide +kernel, rfl⟩
theorem dX7_ways_34 : decode cX7_ways 34 = .ok (.goto 4, 3) ∧ ((34 : Nat) : Int) + 4 = ((38 : Nat) : Int) := ⟨by decide +kernel, rfl⟩
theorem dX7_ways_37 : decode cX7_ways 37 = .ok (.lconst 0, 1) ∧ 37 + 1 = 38 := ⟨by decide +kernel, rfl⟩
theorem dX7_ways_38 : decode cX7_ways 38 = .ok (.lastore, 1) ∧ 38 + 1 = 39 := ⟨by decide +kernel, rfl⟩
theorem dX7_ways_39 : decode cX7_ways 39 = .ok (.iinc 2 1, 3) ∧ 39 + 3 = 42 := ⟨by decide +kernel, rfl⟩
theorem dX7_ways_42 : decode cX7_ways 42 = .ok (.goto (-25), 3) ∧ ((42 : Nat) : Int) + (-25) = ((17 : Nat) : Int) := ⟨by decide +kernel, rfl⟩
theorem dX7_ways_45 : decode cX7_ways 45 = .ok (.iconst 0, 1) ∧ 45 + 1 = 46 := ⟨by decide +kernel, rfl⟩
theorem dX7_ways_46 : decode cX7_ways 46 = .ok (.istore_n 2, 1) ∧ 46 + 1 = 47 := ⟨by decide +kernel, rfl⟩
theorem dX7_ways_47 : decode cX7_ways 47 = .ok (.iload_n 2, 1) ∧ 47 + 1 = 48 := ⟨by decide +kernel, rfl⟩
theorem dX7_ways_48 : decode cX7_ways 48 = .ok (.aload_n 0, 1) ∧ 48 + 1 = 49 := ⟨by decide +kernel, rfl⟩
theorem dX7_ways_49 : decode cX7_ways 49 = .ok (.getfield 7, 3) ∧ 49 + 3 = 52 := ⟨by decide +kernel, rfl⟩
theorem dX7_ways_52 : decode cX7_ways 52 = .ok (.sipush 157, 3) ∧ 52 + 3 = 55 := ⟨by decide +kernel, rfl⟩
theorem dX7_ways_55 : decode cX7_ways 55 = .ok (.iaload, 1) ∧ 55 + 1 = 56 := ⟨by decide +kernel, rfl⟩
theorem dX7_ways_56 : decode cX7_ways 56 = .ok (.if_icmp .ge 24, 3) ∧ 56 + 3 = 59 ∧ ((56 : Nat) : Int) + 24 = ((80 : Nat) : Int) := ⟨by decide +kernel, rfl, rfl⟩
theorem dX7_ways_59 : decode cX7_ways 59 = .ok (.aload_n 0, 1) ∧ 59 + 1 = 60 := ⟨by decide +kernel, rfl⟩
theorem dX7_ways_60 : decode cX7_ways 60 = .ok (.iload_n 2, 1) ∧ 60 + 1 = 61 := ⟨by decide +kernel, rfl⟩
theorem dX7_ways_61 : decode cX7_ways 61 = .ok (.iload_n 1, 1) ∧ 61 + 1 = 62 := ⟨by decide +kernel, rfl⟩
theorem dX7_ways_62 : decode cX7_ways 62 = .ok (.invokevirtual 163, 3) ∧ 62 + 3 = 65 := ⟨by decide +kernel, rfl⟩
theorem dX7_ways_65 : decode cX7_ways 65 = .ok (.ifCond .eq 9, 3) ∧ 65 + 3 = 68 ∧ ((65 : Nat) : Int) + 9 = ((74 : Nat) : Int) := ⟨by decide +kernel, rfl, rfl⟩
theorem dX7_ways_68 : decode cX7_ways 68 = .ok (.aload_n 0, 1) ∧ 68 + 1 = 69 := ⟨by decide +kernel, rfl⟩
theorem dX7_ways_69 : decode cX7_ways 69 = .ok (.iload_n 2, 1) ∧ 69 + 1 = 70 := ⟨by decide +kernel, rfl⟩
theorem dX7_ways_70 : decode cX7_ways 70 = .ok (.iload_n 1, 1) ∧ 70 + 1 = 71 := ⟨by decide +kernel, rfl⟩
theorem dX7_ways_71 : decode cX7_ways 71 = .ok (.invokevirtual 210, 3) ∧ 71 + 3 = 74 := ⟨by decide +kernel, rfl⟩
theorem dX7_ways_74 : decode cX7_ways 74 = .ok (.iinc 2 1, 3) ∧ 74 + 3 = 77 := ⟨by decide +kernel, rfl⟩
theorem dX7_ways_77 : decode cX7_ways 77 = .ok (.goto (-30), 3) ∧ ((77 : Nat) : Int) + (-30) = ((47 : Nat) : Int) := ⟨by decide +kernel, rfl⟩
theorem dX7_ways_80 : decode cX7_ways 80 = .ok (.aload_n 0, 1) ∧ 80 + 1 = 81 := ⟨by decide +kernel, rfl⟩
theorem dX7_ways_81 : decode cX7_ways 81 = .ok (.iload_n 1, 1) ∧ 81 + 1 = 82 := ⟨by decide +kernel, rfl⟩
theorem dX7_ways_82 : decode cX7_ways 82 = .ok (.invokevirtual 199, 3) ∧ 82 + 3 = 85 := ⟨by decide +kernel, rfl⟩
theorem dX7_ways_85 : decode cX7_ways 85 = .ok (.istore_n 2, 1) ∧ 85 + 1 = 86 := ⟨by decide +kernel, rfl⟩
theorem dX7_ways_86 : decode cX7_ways 86 = .ok (.lconst 0, 1) ∧ 86 + 1 = 87 := ⟨by decide +kernel, rfl⟩
theorem dX7_ways_87 : decode cX7_ways 87 = .ok (.lstore_n 3, 1) ∧ 87 + 1 = 88 := ⟨by decide +kernel, rfl⟩
theorem dX7_ways_88 : decode cX7_ways 88 = .ok (.iconst 0, 1) ∧ 88 + 1 = 89 := ⟨by decide +kernel, rfl⟩
theorem dX7_ways_89 : decode cX7_ways 89 = .ok (.istore 5, 2) ∧ 89 + 2 = 91 := ⟨by decide +kernel, rfl⟩
theorem dX7_ways_91 : decode cX7_ways 91 = .ok (.iload 5, 2) ∧ 91 + 2 = 93 := ⟨by decide +kernel, rfl⟩
theorem dX7_ways_93 : decode cX7_ways 93 = .ok (.sipush 1296, 3) ∧ 93 + 3 = 96 := ⟨by decide +kernel, rfl⟩
theorem dX7_ways_96 : decode cX7_ways 96 = .ok (.if_icmp .ge 58, 3) ∧ 96 + 3 = 99 ∧ ((96 : Nat) : Int) + 58 = ((154 : Nat) : Int) := ⟨by decide +kernel, rfl, rfl⟩
theorem dX7_ways_99 : decode cX7_ways 99 = .ok (.iload 5, 2) ∧ 99 + 2 = 101 := ⟨by decide +kernel, rfl⟩
theorem dX7_ways_101 : decode cX7_ways 101 = .ok (.iconst 0, 1) ∧ 101 + 1 = 102 := ⟨by decide +kernel, rfl⟩
theorem dX7_ways_102 : decode cX7_ways 102 = .ok (.invokestatic 202, 3) ∧ 102 + 3 = 105 := ⟨by decide +kernel, rfl⟩
theorem dX7_ways_105 : decode cX7_ways 105 = .ok (.iload 5, 2) ∧ 105 + 2 = 107 := ⟨by decide +kernel, rfl⟩
theorem dX7_ways_107 : decode cX7_ways 107 = .ok (.iconst 1, 1) ∧ 107 + 1 = 108 := ⟨by decide +kernel, rfl⟩
theorem dX7_ways_108 : decode cX7_ways 108 = .ok (.invokestatic 202, 3) ∧ 108 + 3 = 111 := ⟨by decide +kernel, rfl⟩
theorem dX7_ways_111 : decode cX7_ways 111 = .ok (.iadd, 1) ∧ 111 + 1 = 112 := ⟨by decide +kernel, rfl⟩
theorem dX7_ways_112 : decode cX7_ways 112 = .ok (.iload 5, 2) ∧ 112 + 2 = 114 := ⟨by decide +kernel, rfl⟩
theorem dX7_ways_114 : decode cX7_ways 114 = .ok (.iconst 2, 1) ∧ 114 + 1 = 115 := ⟨by decide +kernel, rfl⟩
theorem dX7_ways_115 : decode cX7_ways 115 = .ok (.invokestatic 202, 3) ∧ 115 + 3 = 118 := ⟨by decide +kernel, rfl⟩
theorem dX7_ways_118 : decode cX7_ways 118 = .ok (.iadd, 1) ∧ 118 + 1 = 119 := ⟨by decide +kernel, rfl⟩
theorem dX7_ways_119 : decode cX7_ways 119 = .ok (.iload 5, 2) ∧ 119 + 2 = 121 := ⟨by decide +kernel, rfl⟩
theorem dX7_ways_121 : decode cX7_ways 121 = .ok (.iconst 3, 1) ∧ 121 + 1 = 122 := ⟨by decide +kernel, rfl⟩
theorem dX7_ways_122 : decode cX7_ways 122 = .ok (.invokestatic 202, 3) ∧ 122 + 3 = 125 := ⟨by decide +kernel, rfl⟩
theorem dX7_ways_125 : decode cX7_ways 125 = .ok (.iadd, 1) ∧ 125 + 1 = 126 := ⟨by decide +kernel, rfl⟩
theorem dX7_ways_126 : decode cX7_ways 126 = .ok (.istore 6, 2) ∧ 126 + 2 = 128 := ⟨by decide +kernel, rfl⟩
theorem dX7_ways_128 : decode cX7_ways 128 = .ok (.lload_n 3, 1) ∧ 128 + 1 = 129 := ⟨by decide +kernel, rfl⟩
theorem dX7_ways_129 : decode cX7_ways 129 = .ok (.iload 6, 2) ∧ 129 + 2 = 131 := ⟨by decide +kernel, rfl⟩
theorem dX7_ways_131 : decode cX7_ways 131 = .ok (.iload_n 2, 1) ∧ 131 + 1 = 132 := ⟨by decide +kernel, rfl⟩
theorem dX7_ways_132 : decode cX7_ways 132 = .ok (.if_icmp .ne 13, 3) ∧ 132 + 3 = 135 ∧ ((132 : Nat) : Int) + 13 = ((145 : Nat) : Int) := ⟨by decide +kernel, rfl, rfl⟩
theorem dX7_ways_135 : decode cX7_ways 135 = .ok (.aload_n 0, 1) ∧ 135 + 1 = 136 := ⟨by decide +kernel, rfl⟩
theorem dX7_ways_136 : decode cX7_ways 136 = .ok (.getfield 59, 3) ∧ 136 + 3 = 139 := ⟨by decide +kernel, rfl⟩
theorem dX7_ways_139 : decode cX7_ways 139 = .ok (.iload 5, 2) ∧ 139 + 2 = 141 := ⟨by decide +kernel, rfl⟩
theorem dX7_ways_141 : decode cX7_ways 141 = .ok (.laload, 1) ∧ 141 + 1 = 142 := ⟨by decide +kernel, rfl⟩
theorem dX7_ways_142 : decode cX7_ways 142 = .ok (.goto 4, 3) ∧ ((142 : Nat) : Int) + 4 = ((146 : Nat) : Int) := ⟨by decide +kernel, rfl⟩
theorem dX7_ways_145 : decode cX7_ways 145 = .ok (.lconst 0, 1) ∧ 145 + 1 = 146 := ⟨by decide +kernel, rfl⟩
theorem dX7_ways_146 : decode cX7_ways 146 = .ok (.ladd, 1) ∧ 146 + 1 = 147 := ⟨by decide +kernel, rfl⟩
theorem dX7_ways_147 : decode cX7_ways 147 = .ok (.lstore_n 3, 1) ∧ 147 + 1 = 148 := ⟨by decide +kernel, rfl⟩
theorem dX7_ways_148 : decode cX7_ways 148 = .ok (.iinc 5 1, 3) ∧ 148 + 3 = 151 := ⟨by decide +kernel, rfl⟩
theorem dX7_ways_151 : decode cX7_ways 151 = .ok (.goto (-60), 3) ∧ ((151 : Nat) : Int) + (-60) = ((91 : Nat) : Int) := ⟨by decide +kernel, rfl⟩
theorem dX7_ways_154 : decode cX7_ways 154 = .ok (.lload_n 3, 1) ∧ 154 + 1 = 155 := ⟨by decide +kernel, rfl⟩
theorem dX7_ways_155 : decode cX7_ways 155 = .ok (.lreturn, 1) ∧ 155 + 1 = 156 := ⟨by decide +kernel, rfl⟩
theorem dX7_countedInAll_0 : decode cX7_countedInAll 0 = .ok (.iconst 0, 1) ∧ 0 + 1 = 1 := ⟨by decide +kernel, rfl⟩
theorem dX7_countedInAll_1 : decode cX7_countedInAll 1 = .ok (.istore_n 1, 1) ∧ 1 + 1 = 2 := ⟨by decide +kernel, rfl⟩
theorem dX7_countedInAll_2 : decode cX7_countedInAll 2 = .ok (.iconst 0, 1) ∧ 2 + 1 = 3 := ⟨by decide +kernel, rfl⟩
theorem dX7_countedInAll_3 : decode cX7_countedInAll 3 = .ok (.istore_n 2, 1) ∧ 3 + 1 = 4 := ⟨by decide +kernel, rfl⟩
theorem dX7_countedInAll_4 : decode cX7_countedInAll 4 = .ok (.iload_n 2, 1) ∧ 4 + 1 = 5 := ⟨by decide +kernel, rfl⟩
theorem dX7_countedInAll_5 : decode cX7_countedInAll 5 = .ok (.iconst 4, 1) ∧ 5 + 1 = 6 := ⟨by decide +kernel, rfl⟩
theorem dX7_countedInAll_6 : decode cX7_countedInAll 6 = .ok (.if_icmp .ge 19, 3) ∧ 6 + 3 = 9 ∧ ((6 : Nat) : Int) + 19 = ((25 : Nat) : Int) := ⟨by decide +kernel, rfl, rfl⟩
theorem dX7_countedInAll_9 : decode cX7_countedInAll 9 = .ok (.iload_n 1, 1) ∧ 9 + 1 = 10 := ⟨by decide +kernel, rfl⟩
theorem dX7_countedInAll_10 : decode cX7_countedInAll 10 = .ok (.aload_n 0, 1) ∧ 10 + 1 = 11 := ⟨by decide +kernel, rfl⟩
theorem dX7_countedInAll_11 : decode cX7_countedInAll 11 = .ok (.iload_n 2, 1) ∧ 11 + 1 = 12 := ⟨by decide +kernel, rfl⟩
theorem dX7_countedInAll_12 : decode cX7_countedInAll 12 = .ok (.bipush (-9), 2) ∧ 12 + 2 = 14 := ⟨by decide +kernel, rfl⟩
theorem dX7_countedInAll_14 : decode cX7_countedInAll 14 = .ok (.invokevirtual 193, 3) ∧ 14 + 3 = 17 := ⟨by decide +kernel, rfl⟩
theorem dX7_countedInAll_17 : decode cX7_countedInAll 17 = .ok (.iadd, 1) ∧ 17 + 1 = 18 := ⟨by decide +kernel, rfl⟩
theorem dX7_countedInAll_18 : decode cX7_countedInAll 18 = .ok (.istore_n 1, 1) ∧ 18 + 1 = 19 := ⟨by decide +kernel, rfl⟩
theorem dX7_countedInAll_19 : decode cX7_countedInAll 19 = .ok (.iinc 2 1, 3) ∧ 19 + 3 = 22 := ⟨by decide +kernel, rfl⟩
theorem dX7_countedInAll_22 : decode cX7_countedInAll 22 = .ok (.goto (-18), 3) ∧ ((22 : Nat) : Int) + (-18) = ((4 : Nat) : Int) := ⟨by decide +kernel, rfl⟩
theorem dX7_countedInAll_25 : decode cX7_countedInAll 25 = .ok (.iload_n 1, 1) ∧ 25 + 1 = 26 := ⟨by decide +kernel, rfl⟩
theorem dX7_countedInAll_26 : decode cX7_countedInAll 26 = .ok (.ireturn, 1) ∧ 26 + 1 = 27 := ⟨by decide +kernel, rfl⟩
theorem dX7_marksOf_0 : decode cX7_marksOf 0 = .ok (.iconst 0, 1) ∧ 0 + 1 = 1 := ⟨by decide +kernel, rfl⟩
theorem dX7_marksOf_1 : decode cX7_marksOf 1 = .ok (.istore_n 2, 1) ∧ 1 + 1 = 2 := ⟨by decide +kernel, rfl⟩
theorem dX7_marksOf_2 : decode cX7_marksOf 2 = .ok (.iconst 0, 1) ∧ 2 + 1 = 3 := ⟨by decide +kernel, rfl⟩
theorem dX7_marksOf_3 : decode cX7_marksOf 3 = .ok (.istore_n 3, 1) ∧ 3 + 1 = 4 := ⟨by decide +kernel, rfl⟩
theorem dX7_marksOf_4 : decode cX7_marksOf 4 = .ok (.iload_n 3, 1) ∧ 4 + 1 = 5 := ⟨by decide +kernel, rfl⟩
theorem dX7_marksOf_5 : decode cX7_marksOf 5 = .ok (.aload_n 0, 1) ∧ 5 + 1 = 6 := ⟨by decide +kernel, rfl⟩
theorem dX7_marksOf_6 : decode cX7_marksOf 6 = .ok (.getfield 7, 3) ∧ 6 + 3 = 9 := ⟨by decide +kernel, rfl⟩
theorem dX7_marksOf_9 : decode cX7_marksOf 9 = .ok (.sipush 157, 3) ∧ 9 + 3 = 12 := ⟨by decide +kernel, rfl⟩
theorem dX7_marksOf_12 : decode cX7_marksOf 12 = .ok (.iaload, 1) ∧ 12 + 1 = 13 := ⟨by decide +kernel, rfl⟩
theorem dX7_marksOf_13 : decode cX7_marksOf 13 = .ok (.if_icmp .ge 24, 3) ∧ 13 + 3 = 16 ∧ ((13 : Nat) : Int) + 24 = ((37 : Nat) : Int) := ⟨by decide +kernel, rfl, rfl⟩
theorem dX7_marksOf_16 : decode cX7_marksOf 16 = .ok (.iload_n 2, 1) ∧ 16 + 1 = 17 := ⟨by decide +kernel, rfl⟩
theorem dX7_marksOf_17 : decode cX7_marksOf 17 = .ok (.iload_n 1, 1) ∧ 17 + 1 = 18 := ⟨by decide +kernel, rfl⟩
theorem dX7_marksOf_18 : decode cX7_marksOf 18 = .ok (.iload_n 3, 1) ∧ 18 + 1 = 19 := ⟨by decide +kernel, rfl⟩
theorem dX7_marksOf_19 : decode cX7_marksOf 19 = .ok (.invokestatic 120, 3) ∧ 19 + 3 = 22 := ⟨by decide +kernel, rfl⟩
theorem dX7_marksOf_22 : decode cX7_marksOf 22 = .ok (.aload_n 0, 1) ∧ 22 + 1 = 23 := ⟨by decide +kernel, rfl⟩
theorem dX7_marksOf_23 : decode cX7_marksOf 23 = .ok (.iload_n 3, 1) ∧ 23 + 1 = 24 := ⟨by decide +kernel, rfl⟩
theorem dX7_marksOf_24 : decode cX7_marksOf 24 = .ok (.iconst 0, 1) ∧ 24 + 1 = 25 := ⟨by decide +kernel, rfl⟩
theorem dX7_marksOf_25 : decode cX7_marksOf 25 = .ok (.invokevirtual 103, 3) ∧ 25 + 3 = 28 := ⟨by decide +kernel, rfl⟩
theorem dX7_marksOf_28 : decode cX7_marksOf 28 = .ok (.imul, 1) ∧ 28 + 1 = 29 := ⟨by decide +kernel, rfl⟩
theorem dX7_marksOf_29 : decode cX7_marksOf 29 = .ok (.iadd, 1) ∧ 29 + 1 = 30 := ⟨by decide +kernel, rfl⟩
theorem dX7_marksOf_30 : decode cX7_marksOf 30 = .ok (.istore_n 2, 1) ∧ 30 + 1 = 31 := ⟨by decide +kernel, rfl⟩
theorem dX7_marksOf_31 : decode cX7_marksOf 31 = .ok (.iinc 3 1, 3) ∧ 31 + 3 = 34 := ⟨by decide +kernel, rfl⟩
theorem dX7_marksOf_34 : decode cX7_marksOf 34 = .ok (.goto (-30), 3) ∧ ((34 : Nat) : Int) + (-30) = ((4 : Nat) : Int) := ⟨by decide +kernel, rfl⟩
theorem dX7_marksOf_37 : decode cX7_marksOf 37 = .ok (.iload_n 2, 1) ∧ 37 + 1 = 38 := ⟨by decide +kernel, rfl⟩
theorem dX7_marksOf_38 : decode cX7_marksOf 38 = .ok (.ireturn, 1) ∧ 38 + 1 = 39 := ⟨by decide +kernel, rfl⟩
theorem dX7_by_0 : decode cX7_by 0 = .ok (.iload_n 1, 1) ∧ 0 + 1 = 1 := ⟨by decide +kernel, rfl⟩
theorem dX7_by_1 : decode cX7_by 1 = .ok (.iconst 0, 1) ∧ 1 + 1 = 2 := ⟨by decide +kernel, rfl⟩
theorem dX7_by_2 : decode cX7_by 2 = .ok (.iconst 2, 1) ∧ 2 + 1 = 3 := ⟨by decide +kernel, rfl⟩
theorem dX7_by_3 : decode cX7_by 3 = .ok (.invokestatic 66, 3) ∧ 3 + 3 = 6 := ⟨by decide +kernel, rfl⟩
theorem dX7_by_6 : decode cX7_by 6 = .ok (.ifCond .eq 12, 3) ∧ 6 + 3 = 9 ∧ ((6 : Nat) : Int) + 12 = ((18 : Nat) : Int) := ⟨by decide +kernel, rfl, rfl⟩
theorem dX7_by_9 : decode cX7_by 9 = .ok (.iload_n 2, 1) ∧ 9 + 1 = 10 := ⟨by decide +kernel, rfl⟩
theorem dX7_by_10 : decode cX7_by 10 = .ok (.iconst 0, 1) ∧ 10 + 1 = 11 := ⟨by decide +kernel, rfl⟩
theorem dX7_by_11 : decode cX7_by 11 = .ok (.iconst 3, 1) ∧ 11 + 1 = 12 := ⟨by decide +kernel, rfl⟩
theorem dX7_by_12 : decode cX7_by 12 = .ok (.invokestatic 66, 3) ∧ 12 + 3 = 15 := ⟨by decide +kernel, rfl⟩
theorem dX7_by_15 : decode cX7_by 15 = .ok (.ifCond .ne 6, 3) ∧ 15 + 3 = 18 ∧ ((15 : Nat) : Int) + 6 = ((21 : Nat) : Int) := ⟨by decide +kernel, rfl, rfl⟩
theorem dX7_by_18 : decode cX7_by 18 = .ok (.bipush (-2), 2) ∧ 18 + 2 = 20 := ⟨by decide +kernel, rfl⟩
theorem dX7_by_20 : decode cX7_by 20 = .ok (.ireturn, 1) ∧ 20 + 1 = 21 := ⟨by decide +kernel, rfl⟩
theorem dX7_by_21 : decode cX7_by 21 = .ok (.aload_n 0, 1) ∧ 21 + 1 = 22 := ⟨by decide +kernel, rfl⟩
theorem dX7_by_22 : decode cX7_by 22 = .ok (.getfield 7, 3) ∧ 22 + 3 = 25 := ⟨by decide +kernel, rfl⟩
theorem dX7_by_25 : decode cX7_by 25 = .ok (.sipush 156, 3) ∧ 25 + 3 = 28 := ⟨by decide +kernel, rfl⟩
theorem dX7_by_28 : decode cX7_by 28 = .ok (.iaload, 1) ∧ 28 + 1 = 29 := ⟨by decide +kernel, rfl⟩
theorem dX7_by_29 : decode cX7_by 29 = .ok (.istore_n 3, 1) ∧ 29 + 1 = 30 := ⟨by decide +kernel, rfl⟩
theorem dX7_by_30 : decode cX7_by 30 = .ok (.aload_n 0, 1) ∧ 30 + 1 = 31 := ⟨by decide +kernel, rfl⟩
theorem dX7_by_31 : decode cX7_by 31 = .ok (.getfield 7, 3) ∧ 31 + 3 = 34 := ⟨by decide +kernel, rfl⟩
theorem dX7_by_34 : decode cX7_by 34 = .ok (.sipush 156, 3) ∧ 34 + 3 = 37 := ⟨by decide +kernel, rfl⟩
theorem dX7_by_37 : decode cX7_by 37 = .ok (.iload_n 1, 1) ∧ 37 + 1 = 38 := ⟨by decide +kernel, rfl⟩
theorem dX7_by_38 : decode cX7_by 38 = .ok (.iastore, 1) ∧ 38 + 1 = 39 := ⟨by decide +kernel, rfl⟩
theorem dX7_by_39 : decode cX7_by 39 = .ok (.aload_n 0, 1) ∧ 39 + 1 = 40 := ⟨by decide +kernel, rfl⟩
theorem dX7_by_40 : decode cX7_by 40 = .ok (.invokevirtual 190, 3) ∧ 40 + 3 = 43 := ⟨by decide +kernel, rfl⟩
theorem dX7_by_43 : decode cX7_by 43 = .ok (.aload_n 0, 1) ∧ 43 + 1 = 44 := ⟨by decide +kernel, rfl⟩
theorem dX7_by_44 : decode cX7_by 44 = .ok (.getfield 7, 3) ∧ 44 + 3 = 47 := ⟨by decide +kernel, rfl⟩
theorem dX7_by_47 : decode cX7_by 47 = .ok (.sipush 156, 3) ∧ 47 + 3 = 50 := ⟨by decide +kernel, rfl⟩
theorem dX7_by_50 : decode cX7_by 50 = .ok (.iload_n 3, 1) ∧ 50 + 1 = 51 := ⟨by decide +kernel, rfl⟩
theorem dX7_by_51 : decode cX7_by 51 = .ok (.iastore, 1) ∧ 51 + 1 = 52 := ⟨by decide +kernel, rfl⟩
theorem dX7_by_52 : decode cX7_by 52 = .ok (.iload_n 2, 1) ∧ 52 + 1 = 53 := ⟨by decide +kernel, rfl⟩
theorem dX7_by_53 : decode cX7_by 53 = .ok (.tableswitch 49 0 2 #[27, 32, 40], 27) := by decide +kernel
theorem dX7_by_80 : decode cX7_by 80 = .ok (.aload_n 0, 1) ∧ 80 + 1 = 81 := ⟨by decide +kernel, rfl⟩
theorem dX7_by_81 : decode cX7_by 81 = .ok (.invokevirtual 213, 3) ∧ 81 + 3 = 84 := ⟨by decide +kernel, rfl⟩
theorem dX7_by_84 : decode cX7_by 84 = .ok (.ireturn, 1) ∧ 84 + 1 = 85 := ⟨by decide +kernel, rfl⟩
theorem dX7_by_85 : decode cX7_by 85 = .ok (.aload_n 0, 1) ∧ 85 + 1 = 86 := ⟨by decide +kernel, rfl⟩
theorem dX7_by_86 : decode cX7_by 86 = .ok (.invokevirtual 213, 3) ∧ 86 + 3 = 89 := ⟨by decide +kernel, rfl⟩
theorem dX7_by_89 : decode cX7_by 89 = .ok (.invokestatic 217, 3) ∧ 89 + 3 = 92 := ⟨by decide +kernel, rfl⟩
theorem dX7_by_92 : decode cX7_by 92 = .ok (.ireturn, 1) ∧ 92 + 1 = 93 := ⟨by decide +kernel, rfl⟩
theorem dX7_by_93 : decode cX7_by 93 = .ok (.aload_n 0, 1) ∧ 93 + 1 = 94 := ⟨by decide +kernel, rfl⟩
theorem dX7_by_94 : decode cX7_by 94 = .ok (.aload_n 0, 1) ∧ 94 + 1 = 95 := ⟨by decide +kernel, rfl⟩
theorem dX7_by_95 : decode cX7_by 95 = .ok (.invokevirtual 213, 3) ∧ 95 + 3 = 98 := ⟨by decide +kernel, rfl⟩
theorem dX7_by_98 : decode cX7_by 98 = .ok (.invokevirtual 220, 3) ∧ 98 + 3 = 101 := ⟨by decide +kernel, rfl⟩
theorem dX7_by_101 : decode cX7_by 101 = .ok (.ireturn, 1) ∧ 101 + 1 = 102 := ⟨by decide +kernel, rfl⟩
theorem dX7_by_102 : decode cX7_by 102 = .ok (.aload_n 0, 1) ∧ 102 + 1 = 103 := ⟨by decide +kernel, rfl⟩
theorem dX7_by_103 : decode cX7_by 103 = .ok (.invokevirtual 223, 3) ∧ 103 + 3 = 106 := ⟨by decide +kernel, rfl⟩
theorem dX7_by_106 : decode cX7_by 106 = .ok (.ireturn, 1) ∧ 106 + 1 = 107 := ⟨by decide +kernel, rfl⟩
theorem dX7_sure_0 : decode cX7_sure 0 = .ok (.iload_n 1, 1) ∧ 0 + 1 = 1 := ⟨by decide +kernel, rfl⟩
theorem dX7_sure_1 : decode cX7_sure 1 = .ok (.iconst 0, 1) ∧ 1 + 1 = 2 := ⟨by decide +kernel, rfl⟩
theorem dX7_sure_2 : decode cX7_sure 2 = .ok (.iconst 1, 1) ∧ 2 + 1 = 3 := ⟨by decide +kernel, rfl⟩
theorem dX7_sure_3 : decode cX7_sure 3 = .ok (.invokestatic 66, 3) ∧ 3 + 3 = 6 := ⟨by decide +kernel, rfl⟩
theorem dX7_sure_6 : decode cX7_sure 6 = .ok (.ifCond .ne 6, 3) ∧ 6 + 3 = 9 ∧ ((6 : Nat) : Int) + 6 = ((12 : Nat) : Int) := ⟨by decide +kernel, rfl, rfl⟩
theorem dX7_sure_9 : decode cX7_sure 9 = .ok (.bipush (-2), 2) ∧ 9 + 2 = 11 := ⟨by decide +kernel, rfl⟩
theorem dX7_sure_11 : decode cX7_sure 11 = .ok (.ireturn, 1) ∧ 11 + 1 = 12 := ⟨by decide +kernel, rfl⟩
theorem dX7_sure_12 : decode cX7_sure 12 = .ok (.aload_n 0, 1) ∧ 12 + 1 = 13 := ⟨by decide +kernel, rfl⟩
theorem dX7_sure_13 : decode cX7_sure 13 = .ok (.getfield 7, 3) ∧ 13 + 3 = 16 := ⟨by decide +kernel, rfl⟩
theorem dX7_sure_16 : decode cX7_sure 16 = .ok (.sipush 152, 3) ∧ 16 + 3 = 19 := ⟨by decide +kernel, rfl⟩
theorem dX7_sure_19 : decode cX7_sure 19 = .ok (.iaload, 1) ∧ 19 + 1 = 20 := ⟨by decide +kernel, rfl⟩
theorem dX7_sure_20 : decode cX7_sure 20 = .ok (.iconst 4, 1) ∧ 20 + 1 = 21 := ⟨by decide +kernel, rfl⟩
theorem dX7_sure_21 : decode cX7_sure 21 = .ok (.aload_n 0, 1) ∧ 21 + 1 = 22 := ⟨by decide +kernel, rfl⟩
theorem dX7_sure_22 : decode cX7_sure 22 = .ok (.getfield 7, 3) ∧ 22 + 3 = 25 := ⟨by decide +kernel, rfl⟩
theorem dX7_sure_25 : decode cX7_sure 25 = .ok (.sipush 153, 3) ∧ 25 + 3 = 28 := ⟨by decide +kernel, rfl⟩
theorem dX7_sure_28 : decode cX7_sure 28 = .ok (.iaload, 1) ∧ 28 + 1 = 29 := ⟨by decide +kernel, rfl⟩
theorem dX7_sure_29 : decode cX7_sure 29 = .ok (.imul, 1) ∧ 29 + 1 = 30 := ⟨by decide +kernel, rfl⟩
theorem dX7_sure_30 : decode cX7_sure 30 = .ok (.iadd, 1) ∧ 30 + 1 = 31 := ⟨by decide +kernel, rfl⟩
theorem dX7_sure_31 : decode cX7_sure 31 = .ok (.bipush 16, 2) ∧ 31 + 2 = 33 := ⟨by decide +kernel, rfl⟩
theorem dX7_sure_33 : decode cX7_sure 33 = .ok (.aload_n 0, 1) ∧ 33 + 1 = 34 := ⟨by decide +kernel, rfl⟩
theorem dX7_sure_34 : decode cX7_sure 34 = .ok (.getfield 7, 3) ∧ 34 + 3 = 37 := ⟨by decide +kernel, rfl⟩
theorem dX7_sure_37 : decode cX7_sure 37 = .ok (.sipush 154, 3) ∧ 37 + 3 = 40 := ⟨by decide +kernel, rfl⟩
theorem dX7_sure_40 : decode cX7_sure 40 = .ok (.iaload, 1) ∧ 40 + 1 = 41 := ⟨by decide +kernel, rfl⟩
theorem dX7_sure_41 : decode cX7_sure 41 = .ok (.imul, 1) ∧ 41 + 1 = 42 := ⟨by decide +kernel, rfl⟩
theorem dX7_sure_42 : decode cX7_sure 42 = .ok (.iadd, 1) ∧ 42 + 1 = 43 := ⟨by decide +kernel, rfl⟩
theorem dX7_sure_43 : decode cX7_sure 43 = .ok (.bipush 64, 2) ∧ 43 + 2 = 45 := ⟨by decide +kernel, rfl⟩
theorem dX7_sure_45 : decode cX7_sure 45 = .ok (.aload_n 0, 1) ∧ 45 + 1 = 46 := ⟨by decide +kernel, rfl⟩
theorem dX7_sure_46 : decode cX7_sure 46 = .ok (.getfield 7, 3) ∧ 46 + 3 = 49 := ⟨by decide +kernel, rfl⟩
theorem dX7_sure_49 : decode cX7_sure 49 = .ok (.sipush 155, 3) ∧ 49 + 3 = 52 := ⟨by decide +kernel, rfl⟩
theorem dX7_sure_52 : decode cX7_sure 52 = .ok (.iaload, 1) ∧ 52 + 1 = 53 := ⟨by decide +kernel, rfl⟩
theorem dX7_sure_53 : decode cX7_sure 53 = .ok (.imul, 1) ∧ 53 + 1 = 54 := ⟨by decide +kernel, rfl⟩
theorem dX7_sure_54 : decode cX7_sure 54 = .ok (.iadd, 1) ∧ 54 + 1 = 55 := ⟨by decide +kernel, rfl⟩
theorem dX7_sure_55 : decode cX7_sure 55 = .ok (.istore_n 2, 1) ∧ 55 + 1 = 56 := ⟨by decide +kernel, rfl⟩
theorem dX7_sure_56 : decode cX7_sure 56 = .ok (.iconst 1, 1) ∧ 56 + 1 = 57 := ⟨by decide +kernel, rfl⟩
theorem dX7_sure_57 : decode cX7_sure 57 = .ok (.aload_n 0, 1) ∧ 57 + 1 = 58 := ⟨by decide +kernel, rfl⟩
theorem dX7_sure_58 : decode cX7_sure 58 = .ok (.getfield 7, 3) ∧ 58 + 3 = 61 := ⟨by decide +kernel, rfl⟩
theorem dX7_sure_61 : decode cX7_sure 61 = .ok (.sipush 157, 3) ∧ 61 + 3 = 64 := ⟨by decide +kernel, rfl⟩
theorem dX7_sure_64 : decode cX7_sure 64 = .ok (.iaload, 1) ∧ 64 + 1 = 65 := ⟨by decide +kernel, rfl⟩
theorem dX7_sure_65 : decode cX7_sure 65 = .ok (.ishl, 1) ∧ 65 + 1 = 66 := ⟨by decide +kernel, rfl⟩
theorem dX7_sure_66 : decode cX7_sure 66 = .ok (.iconst 1, 1) ∧ 66 + 1 = 67 := ⟨by decide +kernel, rfl⟩
theorem dX7_sure_67 : decode cX7_sure 67 = .ok (.isub, 1) ∧ 67 + 1 = 68 := ⟨by decide +kernel, rfl⟩
theorem dX7_sure_68 : decode cX7_sure 68 = .ok (.istore_n 3, 1) ∧ 68 + 1 = 69 := ⟨by decide +kernel, rfl⟩
theorem dX7_sure_69 : decode cX7_sure 69 = .ok (.iconst 0, 1) ∧ 69 + 1 = 70 := ⟨by decide +kernel, rfl⟩
theorem dX7_sure_70 : decode cX7_sure 70 = .ok (.istore 4, 2) ∧ 70 + 2 = 72 := ⟨by decide +kernel, rfl⟩
theorem dX7_sure_72 : decode cX7_sure 72 = .ok (.iconst 0, 1) ∧ 72 + 1 = 73 := ⟨by decide +kernel, rfl⟩
theorem dX7_sure_73 : decode cX7_sure 73 = .ok (.istore 5, 2) ∧ 73 + 2 = 75 := ⟨by decide +kernel, rfl⟩
theorem dX7_sure_75 : decode cX7_sure 75 = .ok (.iload 5, 2) ∧ 75 + 2 = 77 := ⟨by decide +kernel, rfl⟩
theorem dX7_sure_77 : decode cX7_sure 77 = .ok (.sipush 256, 3) ∧ 77 + 3 = 80 := ⟨by decide +kernel, rfl⟩
theorem dX7_sure_80 : decode cX7_sure 80 = .ok (.if_icmp .ge 38, 3) ∧ 80 + 3 = 83 ∧ ((80 : Nat) : Int) + 38 = ((118 : Nat) : Int) := ⟨by decide +kernel, rfl, rfl⟩
theorem dX7_sure_83 : decode cX7_sure 83 = .ok (.aload_n 0, 1) ∧ 83 + 1 = 84 := ⟨by decide +kernel, rfl⟩
theorem dX7_sure_84 : decode cX7_sure 84 = .ok (.iload 5, 2) ∧ 84 + 2 = 86 := ⟨by decide +kernel, rfl⟩
theorem dX7_sure_86 : decode cX7_sure 86 = .ok (.invokevirtual 226, 3) ∧ 86 + 3 = 89 := ⟨by decide +kernel, rfl⟩
theorem dX7_sure_89 : decode cX7_sure 89 = .ok (.ifCond .eq 23, 3) ∧ 89 + 3 = 92 ∧ ((89 : Nat) : Int) + 23 = ((112 : Nat) : Int) := ⟨by decide +kernel, rfl, rfl⟩
theorem dX7_sure_92 : decode cX7_sure 92 = .ok (.aload_n 0, 1) ∧ 92 + 1 = 93 := ⟨by decide +kernel, rfl⟩
theorem dX7_sure_93 : decode cX7_sure 93 = .ok (.invokevirtual 184, 3) ∧ 93 + 3 = 96 := ⟨by decide +kernel, rfl⟩
theorem dX7_sure_96 : decode cX7_sure 96 = .ok (.iload_n 3, 1) ∧ 96 + 1 = 97 := ⟨by decide +kernel, rfl⟩
theorem dX7_sure_97 : decode cX7_sure 97 = .ok (.aload_n 0, 1) ∧ 97 + 1 = 98 := ⟨by decide +kernel, rfl⟩
theorem dX7_sure_98 : decode cX7_sure 98 = .ok (.invokevirtual 213, 3) ∧ 98 + 3 = 101 := ⟨by decide +kernel, rfl⟩
theorem dX7_sure_101 : decode cX7_sure 101 = .ok (.iand, 1) ∧ 101 + 1 = 102 := ⟨by decide +kernel, rfl⟩
theorem dX7_sure_102 : decode cX7_sure 102 = .ok (.istore_n 3, 1) ∧ 102 + 1 = 103 := ⟨by decide +kernel, rfl⟩
theorem dX7_sure_103 : decode cX7_sure 103 = .ok (.iload 4, 2) ∧ 103 + 2 = 105 := ⟨by decide +kernel, rfl⟩
theorem dX7_sure_105 : decode cX7_sure 105 = .ok (.aload_n 0, 1) ∧ 105 + 1 = 106 := ⟨by decide +kernel, rfl⟩
theorem dX7_sure_106 : decode cX7_sure 106 = .ok (.invokevirtual 213, 3) ∧ 106 + 3 = 109 := ⟨by decide +kernel, rfl⟩
theorem dX7_sure_109 : decode cX7_sure 109 = .ok (.ior, 1) ∧ 109 + 1 = 110 := ⟨by decide +kernel, rfl⟩
theorem dX7_sure_110 : decode cX7_sure 110 = .ok (.istore 4, 2) ∧ 110 + 2 = 112 := ⟨by decide +kernel, rfl⟩
theorem dX7_sure_112 : decode cX7_sure 112 = .ok (.iinc 5 1, 3) ∧ 112 + 3 = 115 := ⟨by decide +kernel, rfl⟩
theorem dX7_sure_115 : decode cX7_sure 115 = .ok (.goto (-40), 3) ∧ ((115 : Nat) : Int) + (-40) = ((75 : Nat) : Int) := ⟨by decide +kernel, rfl⟩
theorem dX7_sure_118 : decode cX7_sure 118 = .ok (.aload_n 0, 1) ∧ 118 + 1 = 119 := ⟨by decide +kernel, rfl⟩
theorem dX7_sure_119 : decode cX7_sure 119 = .ok (.iload_n 2, 1) ∧ 119 + 1 = 120 := ⟨by decide +kernel, rfl⟩
theorem dX7_sure_120 : decode cX7_sure 120 = .ok (.invokevirtual 226, 3) ∧ 120 + 3 = 123 := ⟨by decide +kernel, rfl⟩
theorem dX7_sure_123 : decode cX7_sure 123 = .ok (.pop, 1) ∧ 123 + 1 = 124 := ⟨by decide +kernel, rfl⟩
theorem dX7_sure_124 : decode cX7_sure 124 = .ok (.iload_n 1, 1) ∧ 124 + 1 = 125 := ⟨by decide +kernel, rfl⟩
theorem dX7_sure_125 : decode cX7_sure 125 = .ok (.ifCond .ne 7, 3) ∧ 125 + 3 = 128 ∧ ((125 : Nat) : Int) + 7 = ((132 : Nat) : Int) := ⟨by decide +kernel, rfl, rfl⟩
theorem dX7_sure_128 : decode cX7_sure 128 = .ok (.iload_n 3, 1) ∧ 128 + 1 = 129 := ⟨by decide +kernel, rfl⟩
theorem dX7_sure_129 : decode cX7_sure 129 = .ok (.goto 5, 3) ∧ ((129 : Nat) : Int) + 5 = ((134 : Nat) : Int) := ⟨by decide +kernel, rfl⟩
theorem dX7_sure_132 : decode cX7_sure 132 = .ok (.iload 4, 2) ∧ 132 + 2 = 134 := ⟨by decide +kernel, rfl⟩
theorem dX7_sure_134 : decode cX7_sure 134 = .ok (.ireturn, 1) ∧ 134 + 1 = 135 := ⟨by decide +kernel, rfl⟩
theorem dX7_sets_0 : decode cX7_sets 0 = .ok (.iconst 0, 1) ∧ 0 + 1 = 1 := ⟨by decide +kernel, rfl⟩
theorem dX7_sets_1 : decode cX7_sets 1 = .ok (.istore_n 2, 1) ∧ 1 + 1 = 2 := ⟨by decide +kernel, rfl⟩
theorem dX7_sets_2 : decode cX7_sets 2 = .ok (.iconst 0, 1) ∧ 2 + 1 = 3 := ⟨by decide +kernel, rfl⟩
theorem dX7_sets_3 : decode cX7_sets 3 = .ok (.istore_n 3, 1) ∧ 3 + 1 = 4 := ⟨by decide +kernel, rfl⟩
theorem dX7_sets_4 : decode cX7_sets 4 = .ok (.iload_n 3, 1) ∧ 4 + 1 = 5 := ⟨by decide +kernel, rfl⟩
theorem dX7_sets_5 : decode cX7_sets 5 = .ok (.iconst 4, 1) ∧ 5 + 1 = 6 := ⟨by decide +kernel, rfl⟩
theorem dX7_sets_6 : decode cX7_sets 6 = .ok (.if_icmp .ge 21, 3) ∧ 6 + 3 = 9 ∧ ((6 : Nat) : Int) + 21 = ((27 : Nat) : Int) := ⟨by decide +kernel, rfl, rfl⟩
theorem dX7_sets_9 : decode cX7_sets 9 = .ok (.iload_n 2, 1) ∧ 9 + 1 = 10 := ⟨by decide +kernel, rfl⟩
theorem dX7_sets_10 : decode cX7_sets 10 = .ok (.iconst 1, 1) ∧ 10 + 1 = 11 := ⟨by decide +kernel, rfl⟩
theorem dX7_sets_11 : decode cX7_sets 11 = .ok (.iload_n 1, 1) ∧ 11 + 1 = 12 := ⟨by decide +kernel, rfl⟩
theorem dX7_sets_12 : decode cX7_sets 12 = .ok (.iconst 2, 1) ∧ 12 + 1 = 13 := ⟨by decide +kernel, rfl⟩
theorem dX7_sets_13 : decode cX7_sets 13 = .ok (.iload_n 3, 1) ∧ 13 + 1 = 14 := ⟨by decide +kernel, rfl⟩
theorem dX7_sets_14 : decode cX7_sets 14 = .ok (.imul, 1) ∧ 14 + 1 = 15 := ⟨by decide +kernel, rfl⟩
theorem dX7_sets_15 : decode cX7_sets 15 = .ok (.ishr, 1) ∧ 15 + 1 = 16 := ⟨by decide +kernel, rfl⟩
theorem dX7_sets_16 : decode cX7_sets 16 = .ok (.iconst 3, 1) ∧ 16 + 1 = 17 := ⟨by decide +kernel, rfl⟩
theorem dX7_sets_17 : decode cX7_sets 17 = .ok (.iand, 1) ∧ 17 + 1 = 18 := ⟨by decide +kernel, rfl⟩
theorem dX7_sets_18 : decode cX7_sets 18 = .ok (.ishl, 1) ∧ 18 + 1 = 19 := ⟨by decide +kernel, rfl⟩
theorem dX7_sets_19 : decode cX7_sets 19 = .ok (.ior, 1) ∧ 19 + 1 = 20 := ⟨by decide +kernel, rfl⟩
theorem dX7_sets_20 : decode cX7_sets 20 = .ok (.istore_n 2, 1) ∧ 20 + 1 = 21 := ⟨by decide +kernel, rfl⟩
theorem dX7_sets_21 : decode cX7_sets 21 = .ok (.iinc 3 1, 3) ∧ 21 + 3 = 24 := ⟨by decide +kernel, rfl⟩
theorem dX7_sets_24 : decode cX7_sets 24 = .ok (.goto (-20), 3) ∧ ((24 : Nat) : Int) + (-20) = ((4 : Nat) : Int) := ⟨by decide +kernel, rfl⟩
theorem dX7_sets_27 : decode cX7_sets 27 = .ok (.iconst 0, 1) ∧ 27 + 1 = 28 := ⟨by decide +kernel, rfl⟩
theorem dX7_sets_28 : decode cX7_sets 28 = .ok (.istore_n 3, 1) ∧ 28 + 1 = 29 := ⟨by decide +kernel, rfl⟩
theorem dX7_sets_29 : decode cX7_sets 29 = .ok (.iload_n 3, 1) ∧ 29 + 1 = 30 := ⟨by decide +kernel, rfl⟩
theorem dX7_sets_30 : decode cX7_sets 30 = .ok (.iconst 4, 1) ∧ 30 + 1 = 31 := ⟨by decide +kernel, rfl⟩
theorem dX7_sets_31 : decode cX7_sets 31 = .ok (.if_icmp .ge 32, 3) ∧ 31 + 3 = 34 ∧ ((31 : Nat) : Int) + 32 = ((63 : Nat) : Int) := ⟨by decide +kernel, rfl, rfl⟩
theorem dX7_sets_34 : decode cX7_sets 34 = .ok (.iload_n 2, 1) ∧ 34 + 1 = 35 := ⟨by decide +kernel, rfl⟩
theorem dX7_sets_35 : decode cX7_sets 35 = .ok (.bipush 15, 2) ∧ 35 + 2 = 37 := ⟨by decide +kernel, rfl⟩
theorem dX7_sets_37 : decode cX7_sets 37 = .ok (.if_icmp .ne 26, 3) ∧ 37 + 3 = 40 ∧ ((37 : Nat) : Int) + 26 = ((63 : Nat) : Int) := ⟨by decide +kernel, rfl, rfl⟩
theorem dX7_sets_40 : decode cX7_sets 40 = .ok (.aload_n 0, 1) ∧ 40 + 1 = 41 := ⟨by decide +kernel, rfl⟩
theorem dX7_sets_41 : decode cX7_sets 41 = .ok (.getfield 7, 3) ∧ 41 + 3 = 44 := ⟨by decide +kernel, rfl⟩
theorem dX7_sets_44 : decode cX7_sets 44 = .ok (.sipush 152, 3) ∧ 44 + 3 = 47 := ⟨by decide +kernel, rfl⟩
theorem dX7_sets_47 : decode cX7_sets 47 = .ok (.iload_n 3, 1) ∧ 47 + 1 = 48 := ⟨by decide +kernel, rfl⟩
theorem dX7_sets_48 : decode cX7_sets 48 = .ok (.iadd, 1) ∧ 48 + 1 = 49 := ⟨by decide +kernel, rfl⟩
theorem dX7_sets_49 : decode cX7_sets 49 = .ok (.iload_n 1, 1) ∧ 49 + 1 = 50 := ⟨by decide +kernel, rfl⟩
theorem dX7_sets_50 : decode cX7_sets 50 = .ok (.iconst 2, 1) ∧ 50 + 1 = 51 := ⟨by decide +kernel, rfl⟩
theorem dX7_sets_51 : decode cX7_sets 51 = .ok (.iload_n 3, 1) ∧ 51 + 1 = 52 := ⟨by decide +kernel, rfl⟩
theorem dX7_sets_52 : decode cX7_sets 52 = .ok (.imul, 1) ∧ 52 + 1 = 53 := ⟨by decide +kernel, rfl⟩
theorem dX7_sets_53 : decode cX7_sets 53 = .ok (.ishr, 1) ∧ 53 + 1 = 54 := ⟨by decide +kernel, rfl⟩
theorem dX7_sets_54 : decode cX7_sets 54 = .ok (.iconst 3, 1) ∧ 54 + 1 = 55 := ⟨by decide +kernel, rfl⟩
theorem dX7_sets_55 : decode cX7_sets 55 = .ok (.iand, 1) ∧ 55 + 1 = 56 := ⟨by decide +kernel, rfl⟩
theorem dX7_sets_56 : decode cX7_sets 56 = .ok (.iastore, 1) ∧ 56 + 1 = 57 := ⟨by decide +kernel, rfl⟩
theorem dX7_sets_57 : decode cX7_sets 57 = .ok (.iinc 3 1, 3) ∧ 57 + 3 = 60 := ⟨by decide +kernel, rfl⟩
theorem dX7_sets_60 : decode cX7_sets 60 = .ok (.goto (-31), 3) ∧ ((60 : Nat) : Int) + (-31) = ((29 : Nat) : Int) := ⟨by decide +kernel, rfl⟩
theorem dX7_sets_63 : decode cX7_sets 63 = .ok (.iload_n 2, 1) ∧ 63 + 1 = 64 := ⟨by decide +kernel, rfl⟩
theorem dX7_sets_64 : decode cX7_sets 64 = .ok (.bipush 15, 2) ∧ 64 + 2 = 66 := ⟨by decide +kernel, rfl⟩
theorem dX7_sets_66 : decode cX7_sets 66 = .ok (.if_icmp .ne 7, 3) ∧ 66 + 3 = 69 ∧ ((66 : Nat) : Int) + 7 = ((73 : Nat) : Int) := ⟨by decide +kernel, rfl, rfl⟩
theorem dX7_sets_69 : decode cX7_sets 69 = .ok (.iconst 1, 1) ∧ 69 + 1 = 70 := ⟨by decide +kernel, rfl⟩
theorem dX7_sets_70 : decode cX7_sets 70 = .ok (.goto 4, 3) ∧ ((70 : Nat) : Int) + 4 = ((74 : Nat) : Int) := ⟨by decide +kernel, rfl⟩
theorem dX7_sets_73 : decode cX7_sets 73 = .ok (.iconst 0, 1) ∧ 73 + 1 = 74 := ⟨by decide +kernel, rfl⟩
theorem dX7_sets_74 : decode cX7_sets 74 = .ok (.ireturn, 1) ∧ 74 + 1 = 75 := ⟨by decide +kernel, rfl⟩
theorem dX7_isChosen_0 : decode cX7_isChosen 0 = .ok (.aload_n 0, 1) ∧ 0 + 1 = 1 := ⟨by decide +kernel, rfl⟩
theorem dX7_isChosen_1 : decode cX7_isChosen 1 = .ok (.invokevirtual 184, 3) ∧ 1 + 3 = 4 := ⟨by decide +kernel, rfl⟩
theorem dX7_isChosen_4 : decode cX7_isChosen 4 = .ok (.aload_n 0, 1) ∧ 4 + 1 = 5 := ⟨by decide +kernel, rfl⟩
theorem dX7_isChosen_5 : decode cX7_isChosen 5 = .ok (.getfield 31, 3) ∧ 5 + 3 = 8 := ⟨by decide +kernel, rfl⟩
theorem dX7_isChosen_8 : decode cX7_isChosen 8 = .ok (.iload_n 1, 1) ∧ 8 + 1 = 9 := ⟨by decide +kernel, rfl⟩
theorem dX7_isChosen_9 : decode cX7_isChosen 9 = .ok (.iaload, 1) ∧ 9 + 1 = 10 := ⟨by decide +kernel, rfl⟩
theorem dX7_isChosen_10 : decode cX7_isChosen 10 = .ok (.bipush (-9), 2) ∧ 10 + 2 = 12 := ⟨by decide +kernel, rfl⟩
theorem dX7_isChosen_12 : decode cX7_isChosen 12 = .ok (.if_icmp .eq 7, 3) ∧ 12 + 3 = 15 ∧ ((12 : Nat) : Int) + 7 = ((19 : Nat) : Int) := ⟨by decide +kernel, rfl, rfl⟩
theorem dX7_isChosen_15 : decode cX7_isChosen 15 = .ok (.iconst 1, 1) ∧ 15 + 1 = 16 := ⟨by decide +kernel, rfl⟩
theorem dX7_isChosen_16 : decode cX7_isChosen 16 = .ok (.goto 4, 3) ∧ ((16 : Nat) : Int) + 4 = ((20 : Nat) : Int) := ⟨by decide +kernel, rfl⟩
theorem dX7_isChosen_19 : decode cX7_isChosen 19 = .ok (.iconst 0, 1) ∧ 19 + 1 = 20 := ⟨by decide +kernel, rfl⟩
theorem dX7_isChosen_20 : decode cX7_isChosen 20 = .ok (.ireturn, 1) ∧ 20 + 1 = 21 := ⟨by decide +kernel, rfl⟩
theorem dX7_thresholdOf_0 : decode cX7_thresholdOf 0 = .ok (.aload_n 0, 1) ∧ 0 + 1 = 1 := ⟨by decide +kernel, rfl⟩
theorem dX7_thresholdOf_1 : decode cX7_thresholdOf 1 = .ok (.iload_n 1, 1) ∧ 1 + 1 = 2 := ⟨by decide +kernel, rfl⟩
theorem dX7_thresholdOf_2 : decode cX7_thresholdOf 2 = .ok (.iconst 0, 1) ∧ 2 + 1 = 3 := ⟨by decide +kernel, rfl⟩
theorem dX7_thresholdOf_3 : decode cX7_thresholdOf 3 = .ok (.invokevirtual 103, 3) ∧ 3 + 3 = 6 := ⟨by decide +kernel, rfl⟩
theorem dX7_thresholdOf_6 : decode cX7_thresholdOf 6 = .ok (.istore_n 2, 1) ∧ 6 + 1 = 7 := ⟨by decide +kernel, rfl⟩
theorem dX7_thresholdOf_7 : decode cX7_thresholdOf 7 = .ok (.bipush (-9), 2) ∧ 7 + 2 = 9 := ⟨by decide +kernel, rfl⟩
theorem dX7_thresholdOf_9 : decode cX7_thresholdOf 9 = .ok (.istore_n 3, 1) ∧ 9 + 1 = 10 := ⟨by decide +kernel, rfl⟩
theorem dX7_thresholdOf_10 : decode cX7_thresholdOf 10 = .ok (.iconst 0, 1) ∧ 10 + 1 = 11 := ⟨by decide +kernel, rfl⟩
theorem dX7_thresholdOf_11 : decode cX7_thresholdOf 11 = .ok (.istore 4, 2) ∧ 11 + 2 = 13 := ⟨by decide +kernel, rfl⟩
theorem dX7_thresholdOf_13 : decode cX7_thresholdOf 13 = .ok (.iload 4, 2) ∧ 13 + 2 = 15 := ⟨by decide +kernel, rfl⟩
theorem dX7_thresholdOf_15 : decode cX7_thresholdOf 15 = .ok (.bipush 99, 2) ∧ 15 + 2 = 17 := ⟨by decide +kernel, rfl⟩
theorem dX7_thresholdOf_17 : decode cX7_thresholdOf 17 = .ok (.if_icmp .gt 39, 3) ∧ 17 + 3 = 20 ∧ ((17 : Nat) : Int) + 39 = ((56 : Nat) : Int) := ⟨by decide +kernel, rfl, rfl⟩
theorem dX7_thresholdOf_20 : decode cX7_thresholdOf 20 = .ok (.iload_n 3, 1) ∧ 20 + 1 = 21 := ⟨by decide +kernel, rfl⟩
theorem dX7_thresholdOf_21 : decode cX7_thresholdOf 21 = .ok (.bipush (-9), 2) ∧ 21 + 2 = 23 := ⟨by decide +kernel, rfl⟩
theorem dX7_thresholdOf_23 : decode cX7_thresholdOf 23 = .ok (.if_icmp .ne 33, 3) ∧ 23 + 3 = 26 ∧ ((23 : Nat) : Int) + 33 = ((56 : Nat) : Int) := ⟨by decide +kernel, rfl, rfl⟩
theorem dX7_thresholdOf_26 : decode cX7_thresholdOf 26 = .ok (.aload_n 0, 1) ∧ 26 + 1 = 27 := ⟨by decide +kernel, rfl⟩
theorem dX7_thresholdOf_27 : decode cX7_thresholdOf 27 = .ok (.iload_n 1, 1) ∧ 27 + 1 = 28 := ⟨by decide +kernel, rfl⟩
theorem dX7_thresholdOf_28 : decode cX7_thresholdOf 28 = .ok (.iconst 0, 1) ∧ 28 + 1 = 29 := ⟨by decide +kernel, rfl⟩
theorem dX7_thresholdOf_29 : decode cX7_thresholdOf 29 = .ok (.iload 4, 2) ∧ 29 + 2 = 31 := ⟨by decide +kernel, rfl⟩
theorem dX7_thresholdOf_31 : decode cX7_thresholdOf 31 = .ok (.invokevirtual 84, 3) ∧ 31 + 3 = 34 := ⟨by decide +kernel, rfl⟩
theorem dX7_thresholdOf_34 : decode cX7_thresholdOf 34 = .ok (.aload_n 0, 1) ∧ 34 + 1 = 35 := ⟨by decide +kernel, rfl⟩
theorem dX7_thresholdOf_35 : decode cX7_thresholdOf 35 = .ok (.iload_n 1, 1) ∧ 35 + 1 = 36 := ⟨by decide +kernel, rfl⟩
theorem dX7_thresholdOf_36 : decode cX7_thresholdOf 36 = .ok (.invokevirtual 229, 3) ∧ 36 + 3 = 39 := ⟨by decide +kernel, rfl⟩
theorem dX7_thresholdOf_39 : decode cX7_thresholdOf 39 = .ok (.ifCond .eq 8, 3) ∧ 39 + 3 = 42 ∧ ((39 : Nat) : Int) + 8 = ((47 : Nat) : Int) := ⟨by decide +kernel, rfl, rfl⟩
theorem dX7_thresholdOf_42 : decode cX7_thresholdOf 42 = .ok (.iload 4, 2) ∧ 42 + 2 = 44 := ⟨by decide +kernel, rfl⟩
theorem dX7_thresholdOf_44 : decode cX7_thresholdOf 44 = .ok (.goto 5, 3) ∧ ((44 : Nat) : Int) + 5 = ((49 : Nat) : Int) := ⟨by decide +kernel, rfl⟩
theorem dX7_thresholdOf_47 : decode cX7_thresholdOf 47 = .ok (.bipush (-9), 2) ∧ 47 + 2 = 49 := ⟨by decide +kernel, rfl⟩
theorem dX7_thresholdOf_49 : decode cX7_thresholdOf 49 = .ok (.istore_n 3, 1) ∧ 49 + 1 = 50 := ⟨by decide +kernel, rfl⟩
theorem dX7_thresholdOf_50 : decode cX7_thresholdOf 50 = .ok (.iinc 4 1, 3) ∧ 50 + 3 = 53 := ⟨by decide +kernel, rfl⟩
theorem dX7_thresholdOf_53 : decode cX7_thresholdOf 53 = .ok (.goto (-40), 3) ∧ ((53 : Nat) : Int) + (-40) = ((13 : Nat) : Int) := ⟨by decide +kernel, rfl⟩
theorem dX7_thresholdOf_56 : decode cX7_thresholdOf 56 = .ok (.aload_n 0, 1) ∧ 56 + 1 = 57 := ⟨by decide +kernel, rfl⟩
theorem dX7_thresholdOf_57 : decode cX7_thresholdOf 57 = .ok (.iload_n 1, 1) ∧ 57 + 1 = 58 := ⟨by decide +kernel, rfl⟩
theorem dX7_thresholdOf_58 : decode cX7_thresholdOf 58 = .ok (.iconst 0, 1) ∧ 58 + 1 = 59 := ⟨by decide +kernel, rfl⟩
theorem dX7_thresholdOf_59 : decode cX7_thresholdOf 59 = .ok (.iload_n 2, 1) ∧ 59 + 1 = 60 := ⟨by decide +kernel, rfl⟩
theorem dX7_thresholdOf_60 : decode cX7_thresholdOf 60 = .ok (.invokevirtual 84, 3) ∧ 60 + 3 = 63 := ⟨by decide +kernel, rfl⟩
theorem dX7_thresholdOf_63 : decode cX7_thresholdOf 63 = .ok (.iload_n 3, 1) ∧ 63 + 1 = 64 := ⟨by decide +kernel, rfl⟩
theorem dX7_thresholdOf_64 : decode cX7_thresholdOf 64 = .ok (.ireturn, 1) ∧ 64 + 1 = 65 := ⟨by decide +kernel, rfl⟩
theorem dX7_threshold_0 : decode cX7_threshold 0 = .ok (.aload_n 0, 1) ∧ 0 + 1 = 1 := ⟨by decide +kernel, rfl⟩
theorem dX7_threshold_1 : decode cX7_threshold 1 = .ok (.iload_n 1, 1) ∧ 1 + 1 = 2 := ⟨by decide +kernel, rfl⟩
theorem dX7_threshold_2 : decode cX7_threshold 2 = .ok (.invokevirtual 92, 3) ∧ 2 + 3 = 5 := ⟨by decide +kernel, rfl⟩
theorem dX7_threshold_5 : decode cX7_threshold 5 = .ok (.ifCond .ne 5, 3) ∧ 5 + 3 = 8 ∧ ((5 : Nat) : Int) + 5 = ((10 : Nat) : Int) := ⟨by decide +kernel, rfl, rfl⟩
theorem dX7_threshold_8 : decode cX7_threshold 8 = .ok (.iconst (-1), 1) ∧ 8 + 1 = 9 := ⟨by decide +kernel, rfl⟩
theorem dX7_threshold_9 : decode cX7_threshold 9 = .ok (.ireturn, 1) ∧ 9 + 1 = 10 := ⟨by decide +kernel, rfl⟩
theorem dX7_threshold_10 : decode cX7_threshold 10 = .ok (.aload_n 0, 1) ∧ 10 + 1 = 11 := ⟨by decide +kernel, rfl⟩
theorem dX7_threshold_11 : decode cX7_threshold 11 = .ok (.iload_n 1, 1) ∧ 11 + 1 = 12 := ⟨by decide +kernel, rfl⟩
theorem dX7_threshold_12 : decode cX7_threshold 12 = .ok (.invokevirtual 126, 3) ∧ 12 + 3 = 15 := ⟨by decide +kernel, rfl⟩
theorem dX7_threshold_15 : decode cX7_threshold 15 = .ok (.ifCond .eq 11, 3) ∧ 15 + 3 = 18 ∧ ((15 : Nat) : Int) + 11 = ((26 : Nat) : Int) := ⟨by decide +kernel, rfl, rfl⟩
theorem dX7_threshold_18 : decode cX7_threshold 18 = .ok (.aload_n 0, 1) ∧ 18 + 1 = 19 := ⟨by decide +kernel, rfl⟩
theorem dX7_threshold_19 : decode cX7_threshold 19 = .ok (.iload_n 1, 1) ∧ 19 + 1 = 20 := ⟨by decide +kernel, rfl⟩
theorem dX7_threshold_20 : decode cX7_threshold 20 = .ok (.invokevirtual 232, 3) ∧ 20 + 3 = 23 := ⟨by decide +kernel, rfl⟩
theorem dX7_threshold_23 : decode cX7_threshold 23 = .ok (.goto 5, 3) ∧ ((23 : Nat) : Int) + 5 = ((28 : Nat) : Int) := ⟨by decide +kernel, rfl⟩
theorem dX7_threshold_26 : decode cX7_threshold 26 = .ok (.bipush (-3), 2) ∧ 26 + 2 = 28 := ⟨by decide +kernel, rfl⟩
theorem dX7_threshold_28 : decode cX7_threshold 28 = .ok (.ireturn, 1) ∧ 28 + 1 = 29 := ⟨by decide +kernel, rfl⟩
theorem dX7_claim_0 : decode cX7_claim 0 = .ok (.aload_n 0, 1) ∧ 0 + 1 = 1 := ⟨by decide +kernel, rfl⟩
theorem dX7_claim_1 : decode cX7_claim 1 = .ok (.iload_n 1, 1) ∧ 1 + 1 = 2 := ⟨by decide +kernel, rfl⟩
theorem dX7_claim_2 : decode cX7_claim 2 = .ok (.invokevirtual 92, 3) ∧ 2 + 3 = 5 := ⟨by decide +kernel, rfl⟩
theorem dX7_claim_5 : decode cX7_claim 5 = .ok (.ifCond .ne 5, 3) ∧ 5 + 3 = 8 ∧ ((5 : Nat) : Int) + 5 = ((10 : Nat) : Int) := ⟨by decide +kernel, rfl, rfl⟩
theorem dX7_claim_8 : decode cX7_claim 8 = .ok (.iconst (-1), 1) ∧ 8 + 1 = 9 := ⟨by decide +kernel, rfl⟩
theorem dX7_claim_9 : decode cX7_claim 9 = .ok (.ireturn, 1) ∧ 9 + 1 = 10 := ⟨by decide +kernel, rfl⟩
theorem dX7_claim_10 : decode cX7_claim 10 = .ok (.aload_n 0, 1) ∧ 10 + 1 = 11 := ⟨by decide +kernel, rfl⟩
theorem dX7_claim_11 : decode cX7_claim 11 = .ok (.iload_n 1, 1) ∧ 11 + 1 = 12 := ⟨by decide +kernel, rfl⟩
theorem dX7_claim_12 : decode cX7_claim 12 = .ok (.invokevirtual 126, 3) ∧ 12 + 3 = 15 := ⟨by decide +kernel, rfl⟩
theorem dX7_claim_15 : decode cX7_claim 15 = .ok (.ifCond .ne 6, 3) ∧ 15 + 3 = 18 ∧ ((15 : Nat) : Int) + 6 = ((21 : Nat) : Int) := ⟨by decide +kernel, rfl, rfl⟩
theorem dX7_claim_18 : decode cX7_claim 18 = .ok (.bipush (-3), 2) ∧ 18 + 2 = 20 := ⟨by decide +kernel, rfl⟩
theorem dX7_claim_20 : decode cX7_claim 20 = .ok (.ireturn, 1) ∧ 20 + 1 = 21 := ⟨by decide +kernel, rfl⟩
theorem dX7_claim_21 : decode cX7_claim 21 = .ok (.aload_n 0, 1) ∧ 21 + 1 = 22 := ⟨by decide +kernel, rfl⟩
theorem dX7_claim_22 : decode cX7_claim 22 = .ok (.iload_n 1, 1) ∧ 22 + 1 = 23 := ⟨by decide +kernel, rfl⟩
theorem dX7_claim_23 : decode cX7_claim 23 = .ok (.iconst 3, 1) ∧ 23 + 1 = 24 := ⟨by decide +kernel, rfl⟩
theorem dX7_claim_24 : decode cX7_claim 24 = .ok (.invokevirtual 103, 3) ∧ 24 + 3 = 27 := ⟨by decide +kernel, rfl⟩
theorem dX7_claim_27 : decode cX7_claim 27 = .ok (.istore_n 2, 1) ∧ 27 + 1 = 28 := ⟨by decide +kernel, rfl⟩
theorem dX7_claim_28 : decode cX7_claim 28 = .ok (.bipush (-9), 2) ∧ 28 + 2 = 30 := ⟨by decide +kernel, rfl⟩
theorem dX7_claim_30 : decode cX7_claim 30 = .ok (.istore_n 3, 1) ∧ 30 + 1 = 31 := ⟨by decide +kernel, rfl⟩
theorem dX7_claim_31 : decode cX7_claim 31 = .ok (.iconst 0, 1) ∧ 31 + 1 = 32 := ⟨by decide +kernel, rfl⟩
theorem dX7_claim_32 : decode cX7_claim 32 = .ok (.istore 4, 2) ∧ 32 + 2 = 34 := ⟨by decide +kernel, rfl⟩
theorem dX7_claim_34 : decode cX7_claim 34 = .ok (.iload 4, 2) ∧ 34 + 2 = 36 := ⟨by decide +kernel, rfl⟩
theorem dX7_claim_36 : decode cX7_claim 36 = .ok (.bipush 16, 2) ∧ 36 + 2 = 38 := ⟨by decide +kernel, rfl⟩
theorem dX7_claim_38 : decode cX7_claim 38 = .ok (.if_icmp .ge 71, 3) ∧ 38 + 3 = 41 ∧ ((38 : Nat) : Int) + 71 = ((109 : Nat) : Int) := ⟨by decide +kernel, rfl, rfl⟩
theorem dX7_claim_41 : decode cX7_claim 41 = .ok (.iload_n 3, 1) ∧ 41 + 1 = 42 := ⟨by decide +kernel, rfl⟩
theorem dX7_claim_42 : decode cX7_claim 42 = .ok (.bipush (-9), 2) ∧ 42 + 2 = 44 := ⟨by decide +kernel, rfl⟩
theorem dX7_claim_44 : decode cX7_claim 44 = .ok (.if_icmp .eq 15, 3) ∧ 44 + 3 = 47 ∧ ((44 : Nat) : Int) + 15 = ((59 : Nat) : Int) := ⟨by decide +kernel, rfl, rfl⟩
theorem dX7_claim_47 : decode cX7_claim 47 = .ok (.iload 4, 2) ∧ 47 + 2 = 49 := ⟨by decide +kernel, rfl⟩
theorem dX7_claim_49 : decode cX7_claim 49 = .ok (.invokestatic 217, 3) ∧ 49 + 3 = 52 := ⟨by decide +kernel, rfl⟩
theorem dX7_claim_52 : decode cX7_claim 52 = .ok (.iload_n 3, 1) ∧ 52 + 1 = 53 := ⟨by decide +kernel, rfl⟩
theorem dX7_claim_53 : decode cX7_claim 53 = .ok (.invokestatic 217, 3) ∧ 53 + 3 = 56 := ⟨by decide +kernel, rfl⟩
theorem dX7_claim_56 : decode cX7_claim 56 = .ok (.if_icmp .ge 7, 3) ∧ 56 + 3 = 59 ∧ ((56 : Nat) : Int) + 7 = ((63 : Nat) : Int) := ⟨by decide +kernel, rfl, rfl⟩
theorem dX7_claim_59 : decode cX7_claim 59 = .ok (.iconst 1, 1) ∧ 59 + 1 = 60 := ⟨by decide +kernel, rfl⟩
theorem dX7_claim_60 : decode cX7_claim 60 = .ok (.goto 4, 3) ∧ ((60 : Nat) : Int) + 4 = ((64 : Nat) : Int) := ⟨by decide +kernel, rfl⟩
theorem dX7_claim_63 : decode cX7_claim 63 = .ok (.iconst 0, 1) ∧ 63 + 1 = 64 := ⟨by decide +kernel, rfl⟩
theorem dX7_claim_64 : decode cX7_claim 64 = .ok (.istore 5, 2) ∧ 64 + 2 = 66 := ⟨by decide +kernel, rfl⟩
theorem dX7_claim_66 : decode cX7_claim 66 = .ok (.iload 4, 2) ∧ 66 + 2 = 68 := ⟨by decide +kernel, rfl⟩
theorem dX7_claim_68 : decode cX7_claim 68 = .ok (.iload_n 2, 1) ∧ 68 + 1 = 69 := ⟨by decide +kernel, rfl⟩
theorem dX7_claim_69 : decode cX7_claim 69 = .ok (.iand, 1) ∧ 69 + 1 = 70 := ⟨by decide +kernel, rfl⟩
theorem dX7_claim_70 : decode cX7_claim 70 = .ok (.ifCond .ne 33, 3) ∧ 70 + 3 = 73 ∧ ((70 : Nat) : Int) + 33 = ((103 : Nat) : Int) := ⟨by decide +kernel, rfl, rfl⟩
theorem dX7_claim_73 : decode cX7_claim 73 = .ok (.iload 5, 2) ∧ 73 + 2 = 75 := ⟨by decide +kernel, rfl⟩
theorem dX7_claim_75 : decode cX7_claim 75 = .ok (.ifCond .eq 28, 3) ∧ 75 + 3 = 78 ∧ ((75 : Nat) : Int) + 28 = ((103 : Nat) : Int) := ⟨by decide +kernel, rfl, rfl⟩
theorem dX7_claim_78 : decode cX7_claim 78 = .ok (.aload_n 0, 1) ∧ 78 + 1 = 79 := ⟨by decide +kernel, rfl⟩
theorem dX7_claim_79 : decode cX7_claim 79 = .ok (.iload_n 1, 1) ∧ 79 + 1 = 80 := ⟨by decide +kernel, rfl⟩
theorem dX7_claim_80 : decode cX7_claim 80 = .ok (.iconst 3, 1) ∧ 80 + 1 = 81 := ⟨by decide +kernel, rfl⟩
theorem dX7_claim_81 : decode cX7_claim 81 = .ok (.iload_n 2, 1) ∧ 81 + 1 = 82 := ⟨by decide +kernel, rfl⟩
theorem dX7_claim_82 : decode cX7_claim 82 = .ok (.iload 4, 2) ∧ 82 + 2 = 84 := ⟨by decide +kernel, rfl⟩
theorem dX7_claim_84 : decode cX7_claim 84 = .ok (.ior, 1) ∧ 84 + 1 = 85 := ⟨by decide +kernel, rfl⟩
theorem dX7_claim_85 : decode cX7_claim 85 = .ok (.invokevirtual 84, 3) ∧ 85 + 3 = 88 := ⟨by decide +kernel, rfl⟩
theorem dX7_claim_88 : decode cX7_claim 88 = .ok (.aload_n 0, 1) ∧ 88 + 1 = 89 := ⟨by decide +kernel, rfl⟩
theorem dX7_claim_89 : decode cX7_claim 89 = .ok (.iload_n 1, 1) ∧ 89 + 1 = 90 := ⟨by decide +kernel, rfl⟩
theorem dX7_claim_90 : decode cX7_claim 90 = .ok (.invokevirtual 229, 3) ∧ 90 + 3 = 93 := ⟨by decide +kernel, rfl⟩
theorem dX7_claim_93 : decode cX7_claim 93 = .ok (.ifCond .eq 8, 3) ∧ 93 + 3 = 96 ∧ ((93 : Nat) : Int) + 8 = ((101 : Nat) : Int) := ⟨by decide +kernel, rfl, rfl⟩
theorem dX7_claim_96 : decode cX7_claim 96 = .ok (.iload 4, 2) ∧ 96 + 2 = 98 := ⟨by decide +kernel, rfl⟩
theorem dX7_claim_98 : decode cX7_claim 98 = .ok (.goto 4, 3) ∧ ((98 : Nat) : Int) + 4 = ((102 : Nat) : Int) := ⟨by decide +kernel, rfl⟩
theorem dX7_claim_101 : decode cX7_claim 101 = .ok (.iload_n 3, 1) ∧ 101 + 1 = 102 := ⟨by decide +kernel, rfl⟩
theorem dX7_claim_102 : decode cX7_claim 102 = .ok (.istore_n 3, 1) ∧ 102 + 1 = 103 := ⟨by decide +kernel, rfl⟩
theorem dX7_claim_103 : decode cX7_claim 103 = .ok (.iinc 4 1, 3) ∧ 103 + 3 = 106 := ⟨by decide +kernel, rfl⟩
theorem dX7_claim_106 : decode cX7_claim 106 = .ok (.goto (-72), 3) ∧ ((106 : Nat) : Int) + (-72) = ((34 : Nat) : Int) := ⟨by decide +kernel, rfl⟩
theorem dX7_claim_109 : decode cX7_claim 109 = .ok (.aload_n 0, 1) ∧ 109 + 1 = 110 := ⟨by decide +kernel, rfl⟩
theorem dX7_claim_110 : decode cX7_claim 110 = .ok (.iload_n 1, 1) ∧ 110 + 1 = 111 := ⟨by decide +kernel, rfl⟩
theorem dX7_claim_111 : decode cX7_claim 111 = .ok (.iconst 3, 1) ∧ 111 + 1 = 112 := ⟨by decide +kernel, rfl⟩
theorem dX7_claim_112 : decode cX7_claim 112 = .ok (.iload_n 2, 1) ∧ 112 + 1 = 113 := ⟨by decide +kernel, rfl⟩
theorem dX7_claim_113 : decode cX7_claim 113 = .ok (.invokevirtual 84, 3) ∧ 113 + 3 = 116 := ⟨by decide +kernel, rfl⟩
theorem dX7_claim_116 : decode cX7_claim 116 = .ok (.iload_n 3, 1) ∧ 116 + 1 = 117 := ⟨by decide +kernel, rfl⟩
theorem dX7_claim_117 : decode cX7_claim 117 = .ok (.ireturn, 1) ∧ 117 + 1 = 118 := ⟨by decide +kernel, rfl⟩
theorem dX7_successor_0 : decode cX7_successor 0 = .ok (.aload_n 0, 1) ∧ 0 + 1 = 1 := ⟨by decide +kernel, rfl⟩
theorem dX7_successor_1 : decode cX7_successor 1 = .ok (.iload_n 1, 1) ∧ 1 + 1 = 2 := ⟨by decide +kernel, rfl⟩
theorem dX7_successor_2 : decode cX7_successor 2 = .ok (.invokevirtual 92, 3) ∧ 2 + 3 = 5 := ⟨by decide +kernel, rfl⟩
theorem dX7_successor_5 : decode cX7_successor 5 = .ok (.ifCond .ne 5, 3) ∧ 5 + 3 = 8 ∧ ((5 : Nat) : Int) + 5 = ((10 : Nat) : Int) := ⟨by decide +kernel, rfl, rfl⟩
theorem dX7_successor_8 : decode cX7_successor 8 = .ok (.iconst (-1), 1) ∧ 8 + 1 = 9 := ⟨by decide +kernel, rfl⟩
theorem dX7_successor_9 : decode cX7_successor 9 = .ok (.ireturn, 1) ∧ 9 + 1 = 10 := ⟨by decide +kernel, rfl⟩
theorem dX7_successor_10 : decode cX7_successor 10 = .ok (.aload_n 0, 1) ∧ 10 + 1 = 11 := ⟨by decide +kernel, rfl⟩
theorem dX7_successor_11 : decode cX7_successor 11 = .ok (.iload_n 1, 1) ∧ 11 + 1 = 12 := ⟨by decide +kernel, rfl⟩
theorem dX7_successor_12 : decode cX7_successor 12 = .ok (.invokevirtual 126, 3) ∧ 12 + 3 = 15 := ⟨by decide +kernel, rfl⟩
theorem dX7_successor_15 : decode cX7_successor 15 = .ok (.ifCond .eq 11, 3) ∧ 15 + 3 = 18 ∧ ((15 : Nat) : Int) + 11 = ((26 : Nat) : Int) := ⟨by decide +kernel, rfl, rfl⟩
theorem dX7_successor_18 : decode cX7_successor 18 = .ok (.aload_n 0, 1) ∧ 18 + 1 = 19 := ⟨by decide +kernel, rfl⟩
theorem dX7_successor_19 : decode cX7_successor 19 = .ok (.iload_n 1, 1) ∧ 19 + 1 = 20 := ⟨by decide +kernel, rfl⟩
theorem dX7_successor_20 : decode cX7_successor 20 = .ok (.invokevirtual 229, 3) ∧ 20 + 3 = 23 := ⟨by decide +kernel, rfl⟩
theorem dX7_successor_23 : decode cX7_successor 23 = .ok (.ifCond .ne 6, 3) ∧ 23 + 3 = 26 ∧ ((23 : Nat) : Int) + 6 = ((29 : Nat) : Int) := ⟨by decide +kernel, rfl, rfl⟩
theorem dX7_successor_26 : decode cX7_successor 26 = .ok (.bipush (-3), 2) ∧ 26 + 2 = 28 := ⟨by decide +kernel, rfl⟩
theorem dX7_successor_28 : decode cX7_successor 28 = .ok (.ireturn, 1) ∧ 28 + 1 = 29 := ⟨by decide +kernel, rfl⟩
theorem dX7_successor_29 : decode cX7_successor 29 = .ok (.aload_n 0, 1) ∧ 29 + 1 = 30 := ⟨by decide +kernel, rfl⟩
theorem dX7_successor_30 : decode cX7_successor 30 = .ok (.invokevirtual 213, 3) ∧ 30 + 3 = 33 := ⟨by decide +kernel, rfl⟩
theorem dX7_successor_33 : decode cX7_successor 33 = .ok (.istore_n 2, 1) ∧ 33 + 1 = 34 := ⟨by decide +kernel, rfl⟩
theorem dX7_successor_34 : decode cX7_successor 34 = .ok (.aload_n 0, 1) ∧ 34 + 1 = 35 := ⟨by decide +kernel, rfl⟩
theorem dX7_successor_35 : decode cX7_successor 35 = .ok (.iload_n 1, 1) ∧ 35 + 1 = 36 := ⟨by decide +kernel, rfl⟩
theorem dX7_successor_36 : decode cX7_successor 36 = .ok (.iconst 4, 1) ∧ 36 + 1 = 37 := ⟨by decide +kernel, rfl⟩
theorem dX7_successor_37 : decode cX7_successor 37 = .ok (.invokevirtual 103, 3) ∧ 37 + 3 = 40 := ⟨by decide +kernel, rfl⟩
theorem dX7_successor_40 : decode cX7_successor 40 = .ok (.istore_n 3, 1) ∧ 40 + 1 = 41 := ⟨by decide +kernel, rfl⟩
theorem dX7_successor_41 : decode cX7_successor 41 = .ok (.aload_n 0, 1) ∧ 41 + 1 = 42 := ⟨by decide +kernel, rfl⟩
theorem dX7_successor_42 : decode cX7_successor 42 = .ok (.iload_n 1, 1) ∧ 42 + 1 = 43 := ⟨by decide +kernel, rfl⟩
theorem dX7_successor_43 : decode cX7_successor 43 = .ok (.iconst 4, 1) ∧ 43 + 1 = 44 := ⟨by decide +kernel, rfl⟩
theorem dX7_successor_44 : decode cX7_successor 44 = .ok (.iconst 4, 1) ∧ 44 + 1 = 45 := ⟨by decide +kernel, rfl⟩
theorem dX7_successor_45 : decode cX7_successor 45 = .ok (.invokevirtual 84, 3) ∧ 45 + 3 = 48 := ⟨by decide +kernel, rfl⟩
theorem dX7_successor_48 : decode cX7_successor 48 = .ok (.aload_n 0, 1) ∧ 48 + 1 = 49 := ⟨by decide +kernel, rfl⟩
theorem dX7_successor_49 : decode cX7_successor 49 = .ok (.invokevirtual 184, 3) ∧ 49 + 3 = 52 := ⟨by decide +kernel, rfl⟩
theorem dX7_successor_52 : decode cX7_successor 52 = .ok (.aload_n 0, 1) ∧ 52 + 1 = 53 := ⟨by decide +kernel, rfl⟩
theorem dX7_successor_53 : decode cX7_successor 53 = .ok (.iload_n 1, 1) ∧ 53 + 1 = 54 := ⟨by decide +kernel, rfl⟩
theorem dX7_successor_54 : decode cX7_successor 54 = .ok (.iconst 4, 1) ∧ 54 + 1 = 55 := ⟨by decide +kernel, rfl⟩
theorem dX7_successor_55 : decode cX7_successor 55 = .ok (.iload_n 3, 1) ∧ 55 + 1 = 56 := ⟨by decide +kernel, rfl⟩
theorem dX7_successor_56 : decode cX7_successor 56 = .ok (.invokevirtual 84, 3) ∧ 56 + 3 = 59 := ⟨by decide +kernel, rfl⟩
theorem dX7_successor_59 : decode cX7_successor 59 = .ok (.aload_n 0, 1) ∧ 59 + 1 = 60 := ⟨by decide +kernel, rfl⟩
theorem dX7_successor_60 : decode cX7_successor 60 = .ok (.invokevirtual 213, 3) ∧ 60 + 3 = 63 := ⟨by decide +kernel, rfl⟩
theorem dX7_successor_63 : decode cX7_successor 63 = .ok (.iload_n 2, 1) ∧ 63 + 1 = 64 := ⟨by decide +kernel, rfl⟩
theorem dX7_successor_64 : decode cX7_successor 64 = .ok (.iconst (-1), 1) ∧ 64 + 1 = 65 := ⟨by decide +kernel, rfl⟩
theorem dX7_successor_65 : decode cX7_successor 65 = .ok (.ixor, 1) ∧ 65 + 1 = 66 := ⟨by decide +kernel, rfl⟩
theorem dX7_successor_66 : decode cX7_successor 66 = .ok (.iand, 1) ∧ 66 + 1 = 67 := ⟨by decide +kernel, rfl⟩
theorem dX7_successor_67 : decode cX7_successor 67 = .ok (.istore 4, 2) ∧ 67 + 2 = 69 := ⟨by decide +kernel, rfl⟩
theorem dX7_successor_69 : decode cX7_successor 69 = .ok (.iconst 0, 1) ∧ 69 + 1 = 70 := ⟨by decide +kernel, rfl⟩
theorem dX7_successor_70 : decode cX7_successor 70 = .ok (.istore 5, 2) ∧ 70 + 2 = 72 := ⟨by decide +kernel, rfl⟩
theorem dX7_successor_72 : decode cX7_successor 72 = .ok (.iload 5, 2) ∧ 72 + 2 = 74 := ⟨by decide +kernel, rfl⟩
theorem dX7_successor_74 : decode cX7_successor 74 = .ok (.aload_n 0, 1) ∧ 74 + 1 = 75 := ⟨by decide +kernel, rfl⟩
theorem dX7_successor_75 : decode cX7_successor 75 = .ok (.getfield 7, 3) ∧ 75 + 3 = 78 := ⟨by decide +kernel, rfl⟩
theorem dX7_successor_78 : decode cX7_successor 78 = .ok (.sipush 157, 3) ∧ 78 + 3 = 81 := ⟨by decide +kernel, rfl⟩
theorem dX7_successor_81 : decode cX7_successor 81 = .ok (.iaload, 1) ∧ 81 + 1 = 82 := ⟨by decide +kernel, rfl⟩
theorem dX7_successor_82 : decode cX7_successor 82 = .ok (.if_icmp .ge 33, 3) ∧ 82 + 3 = 85 ∧ ((82 : Nat) : Int) + 33 = ((115 : Nat) : Int) := ⟨by decide +kernel, rfl, rfl⟩
theorem dX7_successor_85 : decode cX7_successor 85 = .ok (.iload 4, 2) ∧ 85 + 2 = 87 := ⟨by decide +kernel, rfl⟩
theorem dX7_successor_87 : decode cX7_successor 87 = .ok (.aload_n 0, 1) ∧ 87 + 1 = 88 := ⟨by decide +kernel, rfl⟩
theorem dX7_successor_88 : decode cX7_successor 88 = .ok (.getfield 16, 3) ∧ 88 + 3 = 91 := ⟨by decide +kernel, rfl⟩
theorem dX7_successor_91 : decode cX7_successor 91 = .ok (.iload 5, 2) ∧ 91 + 2 = 93 := ⟨by decide +kernel, rfl⟩
theorem dX7_successor_93 : decode cX7_successor 93 = .ok (.iaload, 1) ∧ 93 + 1 = 94 := ⟨by decide +kernel, rfl⟩
theorem dX7_successor_94 : decode cX7_successor 94 = .ok (.invokestatic 120, 3) ∧ 94 + 3 = 97 := ⟨by decide +kernel, rfl⟩
theorem dX7_successor_97 : decode cX7_successor 97 = .ok (.iconst 1, 1) ∧ 97 + 1 = 98 := ⟨by decide +kernel, rfl⟩
theorem dX7_successor_98 : decode cX7_successor 98 = .ok (.if_icmp .ne 11, 3) ∧ 98 + 3 = 101 ∧ ((98 : Nat) : Int) + 11 = ((109 : Nat) : Int) := ⟨by decide +kernel, rfl, rfl⟩
theorem dX7_successor_101 : decode cX7_successor 101 = .ok (.aload_n 0, 1) ∧ 101 + 1 = 102 := ⟨by decide +kernel, rfl⟩
theorem dX7_successor_102 : decode cX7_successor 102 = .ok (.getfield 16, 3) ∧ 102 + 3 = 105 := ⟨by decide +kernel, rfl⟩
theorem dX7_successor_105 : decode cX7_successor 105 = .ok (.iload 5, 2) ∧ 105 + 2 = 107 := ⟨by decide +kernel, rfl⟩
theorem dX7_successor_107 : decode cX7_successor 107 = .ok (.iaload, 1) ∧ 107 + 1 = 108 := ⟨by decide +kernel, rfl⟩
theorem dX7_successor_108 : decode cX7_successor 108 = .ok (.ireturn, 1) ∧ 108 + 1 = 109 := ⟨by decide +kernel, rfl⟩
theorem dX7_successor_109 : decode cX7_successor 109 = .ok (.iinc 5 1, 3) ∧ 109 + 3 = 112 := ⟨by decide +kernel, rfl⟩
theorem dX7_successor_112 : decode cX7_successor 112 = .ok (.goto (-40), 3) ∧ ((112 : Nat) : Int) + (-40) = ((72 : Nat) : Int) := ⟨by decide +kernel, rfl⟩
theorem dX7_successor_115 : decode cX7_successor 115 = .ok (.bipush (-9), 2) ∧ 115 + 2 = 117 := ⟨by decide +kernel, rfl⟩
theorem dX7_successor_117 : decode cX7_successor 117 = .ok (.ireturn, 1) ∧ 117 + 1 = 118 := ⟨by decide +kernel, rfl⟩
theorem dX7_passed_0 : decode cX7_passed 0 = .ok (.aload_n 0, 1) ∧ 0 + 1 = 1 := ⟨by decide +kernel, rfl⟩
theorem dX7_passed_1 : decode cX7_passed 1 = .ok (.iload_n 1, 1) ∧ 1 + 1 = 2 := ⟨by decide +kernel, rfl⟩
theorem dX7_passed_2 : decode cX7_passed 2 = .ok (.invokevirtual 92, 3) ∧ 2 + 3 = 5 := ⟨by decide +kernel, rfl⟩
theorem dX7_passed_5 : decode cX7_passed 5 = .ok (.ifCond .ne 5, 3) ∧ 5 + 3 = 8 ∧ ((5 : Nat) : Int) + 5 = ((10 : Nat) : Int) := ⟨by decide +kernel, rfl, rfl⟩
theorem dX7_passed_8 : decode cX7_passed 8 = .ok (.iconst (-1), 1) ∧ 8 + 1 = 9 := ⟨by decide +kernel, rfl⟩
theorem dX7_passed_9 : decode cX7_passed 9 = .ok (.ireturn, 1) ∧ 9 + 1 = 10 := ⟨by decide +kernel, rfl⟩
theorem dX7_passed_10 : decode cX7_passed 10 = .ok (.aload_n 0, 1) ∧ 10 + 1 = 11 := ⟨by decide +kernel, rfl⟩
theorem dX7_passed_11 : decode cX7_passed 11 = .ok (.iload_n 1, 1) ∧ 11 + 1 = 12 := ⟨by decide +kernel, rfl⟩
theorem dX7_passed_12 : decode cX7_passed 12 = .ok (.invokevirtual 126, 3) ∧ 12 + 3 = 15 := ⟨by decide +kernel, rfl⟩
theorem dX7_passed_15 : decode cX7_passed 15 = .ok (.ifCond .eq 11, 3) ∧ 15 + 3 = 18 ∧ ((15 : Nat) : Int) + 11 = ((26 : Nat) : Int) := ⟨by decide +kernel, rfl, rfl⟩
theorem dX7_passed_18 : decode cX7_passed 18 = .ok (.aload_n 0, 1) ∧ 18 + 1 = 19 := ⟨by decide +kernel, rfl⟩
theorem dX7_passed_19 : decode cX7_passed 19 = .ok (.iload_n 1, 1) ∧ 19 + 1 = 20 := ⟨by decide +kernel, rfl⟩
theorem dX7_passed_20 : decode cX7_passed 20 = .ok (.invokevirtual 229, 3) ∧ 20 + 3 = 23 := ⟨by decide +kernel, rfl⟩
theorem dX7_passed_23 : decode cX7_passed 23 = .ok (.ifCond .eq 6, 3) ∧ 23 + 3 = 26 ∧ ((23 : Nat) : Int) + 6 = ((29 : Nat) : Int) := ⟨by decide +kernel, rfl, rfl⟩
theorem dX7_passed_26 : decode cX7_passed 26 = .ok (.bipush (-3), 2) ∧ 26 + 2 = 28 := ⟨by decide +kernel, rfl⟩
theorem dX7_passed_28 : decode cX7_passed 28 = .ok (.ireturn, 1) ∧ 28 + 1 = 29 := ⟨by decide +kernel, rfl⟩
theorem dX7_passed_29 : decode cX7_passed 29 = .ok (.iconst 0, 1) ∧ 29 + 1 = 30 := ⟨by decide +kernel, rfl⟩
theorem dX7_passed_30 : decode cX7_passed 30 = .ok (.istore_n 2, 1) ∧ 30 + 1 = 31 := ⟨by decide +kernel, rfl⟩
theorem dX7_passed_31 : decode cX7_passed 31 = .ok (.iconst 0, 1) ∧ 31 + 1 = 32 := ⟨by decide +kernel, rfl⟩
theorem dX7_passed_32 : decode cX7_passed 32 = .ok (.istore_n 3, 1) ∧ 32 + 1 = 33 := ⟨by decide +kernel, rfl⟩
theorem dX7_passed_33 : decode cX7_passed 33 = .ok (.iload_n 3, 1) ∧ 33 + 1 = 34 := ⟨by decide +kernel, rfl⟩
theorem dX7_passed_34 : decode cX7_passed 34 = .ok (.aload_n 0, 1) ∧ 34 + 1 = 35 := ⟨by decide +kernel, rfl⟩
theorem dX7_passed_35 : decode cX7_passed 35 = .ok (.getfield 7, 3) ∧ 35 + 3 = 38 := ⟨by decide +kernel, rfl⟩
theorem dX7_passed_38 : decode cX7_passed 38 = .ok (.sipush 157, 3) ∧ 38 + 3 = 41 := ⟨by decide +kernel, rfl⟩
theorem dX7_passed_41 : decode cX7_passed 41 = .ok (.iaload, 1) ∧ 41 + 1 = 42 := ⟨by decide +kernel, rfl⟩
theorem dX7_passed_42 : decode cX7_passed 42 = .ok (.if_icmp .ge 39, 3) ∧ 42 + 3 = 45 ∧ ((42 : Nat) : Int) + 39 = ((81 : Nat) : Int) := ⟨by decide +kernel, rfl, rfl⟩
theorem dX7_passed_45 : decode cX7_passed 45 = .ok (.iload_n 2, 1) ∧ 45 + 1 = 46 := ⟨by decide +kernel, rfl⟩
theorem dX7_passed_46 : decode cX7_passed 46 = .ok (.aload_n 0, 1) ∧ 46 + 1 = 47 := ⟨by decide +kernel, rfl⟩
theorem dX7_passed_47 : decode cX7_passed 47 = .ok (.getfield 31, 3) ∧ 47 + 3 = 50 := ⟨by decide +kernel, rfl⟩
theorem dX7_passed_50 : decode cX7_passed 50 = .ok (.iload_n 3, 1) ∧ 50 + 1 = 51 := ⟨by decide +kernel, rfl⟩
theorem dX7_passed_51 : decode cX7_passed 51 = .ok (.iaload, 1) ∧ 51 + 1 = 52 := ⟨by decide +kernel, rfl⟩
theorem dX7_passed_52 : decode cX7_passed 52 = .ok (.bipush (-9), 2) ∧ 52 + 2 = 54 := ⟨by decide +kernel, rfl⟩
theorem dX7_passed_54 : decode cX7_passed 54 = .ok (.if_icmp .eq 18, 3) ∧ 54 + 3 = 57 ∧ ((54 : Nat) : Int) + 18 = ((72 : Nat) : Int) := ⟨by decide +kernel, rfl, rfl⟩
theorem dX7_passed_57 : decode cX7_passed 57 = .ok (.aload_n 0, 1) ∧ 57 + 1 = 58 := ⟨by decide +kernel, rfl⟩
theorem dX7_passed_58 : decode cX7_passed 58 = .ok (.iload_n 1, 1) ∧ 58 + 1 = 59 := ⟨by decide +kernel, rfl⟩
theorem dX7_passed_59 : decode cX7_passed 59 = .ok (.iload_n 3, 1) ∧ 59 + 1 = 60 := ⟨by decide +kernel, rfl⟩
theorem dX7_passed_60 : decode cX7_passed 60 = .ok (.invokevirtual 106, 3) ∧ 60 + 3 = 63 := ⟨by decide +kernel, rfl⟩
theorem dX7_passed_63 : decode cX7_passed 63 = .ok (.ifCond .eq 9, 3) ∧ 63 + 3 = 66 ∧ ((63 : Nat) : Int) + 9 = ((72 : Nat) : Int) := ⟨by decide +kernel, rfl, rfl⟩
theorem dX7_passed_66 : decode cX7_passed 66 = .ok (.iconst 1, 1) ∧ 66 + 1 = 67 := ⟨by decide +kernel, rfl⟩
theorem dX7_passed_67 : decode cX7_passed 67 = .ok (.iload_n 3, 1) ∧ 67 + 1 = 68 := ⟨by decide +kernel, rfl⟩
theorem dX7_passed_68 : decode cX7_passed 68 = .ok (.ishl, 1) ∧ 68 + 1 = 69 := ⟨by decide +kernel, rfl⟩
theorem dX7_passed_69 : decode cX7_passed 69 = .ok (.goto 4, 3) ∧ ((69 : Nat) : Int) + 4 = ((73 : Nat) : Int) := ⟨by decide +kernel, rfl⟩
theorem dX7_passed_72 : decode cX7_passed 72 = .ok (.iconst 0, 1) ∧ 72 + 1 = 73 := ⟨by decide +kernel, rfl⟩
theorem dX7_passed_73 : decode cX7_passed 73 = .ok (.ior, 1) ∧ 73 + 1 = 74 := ⟨by decide +kernel, rfl⟩
theorem dX7_passed_74 : decode cX7_passed 74 = .ok (.istore_n 2, 1) ∧ 74 + 1 = 75 := ⟨by decide +kernel, rfl⟩
theorem dX7_passed_75 : decode cX7_passed 75 = .ok (.iinc 3 1, 3) ∧ 75 + 3 = 78 := ⟨by decide +kernel, rfl⟩
theorem dX7_passed_78 : decode cX7_passed 78 = .ok (.goto (-45), 3) ∧ ((78 : Nat) : Int) + (-45) = ((33 : Nat) : Int) := ⟨by decide +kernel, rfl⟩
theorem dX7_passed_81 : decode cX7_passed 81 = .ok (.iload_n 2, 1) ∧ 81 + 1 = 82 := ⟨by decide +kernel, rfl⟩
theorem dX7_passed_82 : decode cX7_passed 82 = .ok (.ireturn, 1) ∧ 82 + 1 = 83 := ⟨by decide +kernel, rfl⟩
theorem dX7_whoMisses_0 : decode cX7_whoMisses 0 = .ok (.aload_n 0, 1) ∧ 0 + 1 = 1 := ⟨by decide +kernel, rfl⟩
theorem dX7_whoMisses_1 : decode cX7_whoMisses 1 = .ok (.invokevirtual 184, 3) ∧ 1 + 3 = 4 := ⟨by decide +kernel, rfl⟩
theorem dX7_whoMisses_4 : decode cX7_whoMisses 4 = .ok (.aload_n 0, 1) ∧ 4 + 1 = 5 := ⟨by decide +kernel, rfl⟩
theorem dX7_whoMisses_5 : decode cX7_whoMisses 5 = .ok (.invokevirtual 213, 3) ∧ 5 + 3 = 8 := ⟨by decide +kernel, rfl⟩
theorem dX7_whoMisses_8 : decode cX7_whoMisses 8 = .ok (.istore_n 1, 1) ∧ 8 + 1 = 9 := ⟨by decide +kernel, rfl⟩
theorem dX7_whoMisses_9 : decode cX7_whoMisses 9 = .ok (.iconst 0, 1) ∧ 9 + 1 = 10 := ⟨by decide +kernel, rfl⟩
theorem dX7_whoMisses_10 : decode cX7_whoMisses 10 = .ok (.istore_n 2, 1) ∧ 10 + 1 = 11 := ⟨by decide +kernel, rfl⟩
theorem dX7_whoMisses_11 : decode cX7_whoMisses 11 = .ok (.iconst 0, 1) ∧ 11 + 1 = 12 := ⟨by decide +kernel, rfl⟩
theorem dX7_whoMisses_12 : decode cX7_whoMisses 12 = .ok (.istore_n 3, 1) ∧ 12 + 1 = 13 := ⟨by decide +kernel, rfl⟩
theorem dX7_whoMisses_13 : decode cX7_whoMisses 13 = .ok (.iload_n 3, 1) ∧ 13 + 1 = 14 := ⟨by decide +kernel, rfl⟩
theorem dX7_whoMisses_14 : decode cX7_whoMisses 14 = .ok (.aload_n 0, 1) ∧ 14 + 1 = 15 := ⟨by decide +kernel, rfl⟩
theorem dX7_whoMisses_15 : decode cX7_whoMisses 15 = .ok (.getfield 7, 3) ∧ 15 + 3 = 18 := ⟨by decide +kernel, rfl⟩
theorem dX7_whoMisses_18 : decode cX7_whoMisses 18 = .ok (.sipush 157, 3) ∧ 18 + 3 = 21 := ⟨by decide +kernel, rfl⟩
theorem dX7_whoMisses_21 : decode cX7_whoMisses 21 = .ok (.iaload, 1) ∧ 21 + 1 = 22 := ⟨by decide +kernel, rfl⟩
theorem dX7_whoMisses_22 : decode cX7_whoMisses 22 = .ok (.if_icmp .ge 69, 3) ∧ 22 + 3 = 25 ∧ ((22 : Nat) : Int) + 69 = ((91 : Nat) : Int) := ⟨by decide +kernel, rfl, rfl⟩
theorem dX7_whoMisses_25 : decode cX7_whoMisses 25 = .ok (.aload_n 0, 1) ∧ 25 + 1 = 26 := ⟨by decide +kernel, rfl⟩
theorem dX7_whoMisses_26 : decode cX7_whoMisses 26 = .ok (.iload_n 3, 1) ∧ 26 + 1 = 27 := ⟨by decide +kernel, rfl⟩
theorem dX7_whoMisses_27 : decode cX7_whoMisses 27 = .ok (.invokevirtual 126, 3) ∧ 27 + 3 = 30 := ⟨by decide +kernel, rfl⟩
theorem dX7_whoMisses_30 : decode cX7_whoMisses 30 = .ok (.ifCond .eq 19, 3) ∧ 30 + 3 = 33 ∧ ((30 : Nat) : Int) + 19 = ((49 : Nat) : Int) := ⟨by decide +kernel, rfl, rfl⟩
theorem dX7_whoMisses_33 : decode cX7_whoMisses 33 = .ok (.iload_n 1, 1) ∧ 33 + 1 = 34 := ⟨by decide +kernel, rfl⟩
theorem dX7_whoMisses_34 : decode cX7_whoMisses 34 = .ok (.iload_n 3, 1) ∧ 34 + 1 = 35 := ⟨by decide +kernel, rfl⟩
theorem dX7_whoMisses_35 : decode cX7_whoMisses 35 = .ok (.invokestatic 120, 3) ∧ 35 + 3 = 38 := ⟨by decide +kernel, rfl⟩
theorem dX7_whoMisses_38 : decode cX7_whoMisses 38 = .ok (.ifCond .ne 11, 3) ∧ 38 + 3 = 41 ∧ ((38 : Nat) : Int) + 11 = ((49 : Nat) : Int) := ⟨by decide +kernel, rfl, rfl⟩
theorem dX7_whoMisses_41 : decode cX7_whoMisses 41 = .ok (.aload_n 0, 1) ∧ 41 + 1 = 42 := ⟨by decide +kernel, rfl⟩
theorem dX7_whoMisses_42 : decode cX7_whoMisses 42 = .ok (.iload_n 3, 1) ∧ 42 + 1 = 43 := ⟨by decide +kernel, rfl⟩
theorem dX7_whoMisses_43 : decode cX7_whoMisses 43 = .ok (.invokevirtual 232, 3) ∧ 43 + 3 = 46 := ⟨by decide +kernel, rfl⟩
theorem dX7_whoMisses_46 : decode cX7_whoMisses 46 = .ok (.goto 5, 3) ∧ ((46 : Nat) : Int) + 5 = ((51 : Nat) : Int) := ⟨by decide +kernel, rfl⟩
theorem dX7_whoMisses_49 : decode cX7_whoMisses 49 = .ok (.bipush (-9), 2) ∧ 49 + 2 = 51 := ⟨by decide +kernel, rfl⟩
theorem dX7_whoMisses_51 : decode cX7_whoMisses 51 = .ok (.istore 4, 2) ∧ 51 + 2 = 53 := ⟨by decide +kernel, rfl⟩
theorem dX7_whoMisses_53 : decode cX7_whoMisses 53 = .ok (.aload_n 0, 1) ∧ 53 + 1 = 54 := ⟨by decide +kernel, rfl⟩
theorem dX7_whoMisses_54 : decode cX7_whoMisses 54 = .ok (.getfield 63, 3) ∧ 54 + 3 = 57 := ⟨by decide +kernel, rfl⟩
theorem dX7_whoMisses_57 : decode cX7_whoMisses 57 = .ok (.iload_n 3, 1) ∧ 57 + 1 = 58 := ⟨by decide +kernel, rfl⟩
theorem dX7_whoMisses_58 : decode cX7_whoMisses 58 = .ok (.iload 4, 2) ∧ 58 + 2 = 60 := ⟨by decide +kernel, rfl⟩
theorem dX7_whoMisses_60 : decode cX7_whoMisses 60 = .ok (.aload_n 0, 1) ∧ 60 + 1 = 61 := ⟨by decide +kernel, rfl⟩
theorem dX7_whoMisses_61 : decode cX7_whoMisses 61 = .ok (.iload_n 3, 1) ∧ 61 + 1 = 62 := ⟨by decide +kernel, rfl⟩
theorem dX7_whoMisses_62 : decode cX7_whoMisses 62 = .ok (.iconst 0, 1) ∧ 62 + 1 = 63 := ⟨by decide +kernel, rfl⟩
theorem dX7_whoMisses_63 : decode cX7_whoMisses 63 = .ok (.invokevirtual 103, 3) ∧ 63 + 3 = 66 := ⟨by decide +kernel, rfl⟩
theorem dX7_whoMisses_66 : decode cX7_whoMisses 66 = .ok (.isub, 1) ∧ 66 + 1 = 67 := ⟨by decide +kernel, rfl⟩
theorem dX7_whoMisses_67 : decode cX7_whoMisses 67 = .ok (.iastore, 1) ∧ 67 + 1 = 68 := ⟨by decide +kernel, rfl⟩
theorem dX7_whoMisses_68 : decode cX7_whoMisses 68 = .ok (.iload_n 2, 1) ∧ 68 + 1 = 69 := ⟨by decide +kernel, rfl⟩
theorem dX7_whoMisses_69 : decode cX7_whoMisses 69 = .ok (.iload 4, 2) ∧ 69 + 2 = 71 := ⟨by decide +kernel, rfl⟩
theorem dX7_whoMisses_71 : decode cX7_whoMisses 71 = .ok (.bipush (-9), 2) ∧ 71 + 2 = 73 := ⟨by decide +kernel, rfl⟩
theorem dX7_whoMisses_73 : decode cX7_whoMisses 73 = .ok (.if_icmp .ne 7, 3) ∧ 73 + 3 = 76 ∧ ((73 : Nat) : Int) + 7 = ((80 : Nat) : Int) := ⟨by decide +kernel, rfl, rfl⟩
theorem dX7_whoMisses_76 : decode cX7_whoMisses 76 = .ok (.iconst 0, 1) ∧ 76 + 1 = 77 := ⟨by decide +kernel, rfl⟩
theorem dX7_whoMisses_77 : decode cX7_whoMisses 77 = .ok (.goto 6, 3) ∧ ((77 : Nat) : Int) + 6 = ((83 : Nat) : Int) := ⟨by decide +kernel, rfl⟩
theorem dX7_whoMisses_80 : decode cX7_whoMisses 80 = .ok (.iconst 1, 1) ∧ 80 + 1 = 81 := ⟨by decide +kernel, rfl⟩
theorem dX7_whoMisses_81 : decode cX7_whoMisses 81 = .ok (.iload_n 3, 1) ∧ 81 + 1 = 82 := ⟨by decide +kernel, rfl⟩
theorem dX7_whoMisses_82 : decode cX7_whoMisses 82 = .ok (.ishl, 1) ∧ 82 + 1 = 83 := ⟨by decide +kernel, rfl⟩
theorem dX7_whoMisses_83 : decode cX7_whoMisses 83 = .ok (.ior, 1) ∧ 83 + 1 = 84 := ⟨by decide +kernel, rfl⟩
theorem dX7_whoMisses_84 : decode cX7_whoMisses 84 = .ok (.istore_n 2, 1) ∧ 84 + 1 = 85 := ⟨by decide +kernel, rfl⟩
theorem dX7_whoMisses_85 : decode cX7_whoMisses 85 = .ok (.iinc 3 1, 3) ∧ 85 + 3 = 88 := ⟨by decide +kernel, rfl⟩
theorem dX7_whoMisses_88 : decode cX7_whoMisses 88 = .ok (.goto (-75), 3) ∧ ((88 : Nat) : Int) + (-75) = ((13 : Nat) : Int) := ⟨by decide +kernel, rfl⟩
theorem dX7_whoMisses_91 : decode cX7_whoMisses 91 = .ok (.iload_n 2, 1) ∧ 91 + 1 = 92 := ⟨by decide +kernel, rfl⟩
theorem dX7_whoMisses_92 : decode cX7_whoMisses 92 = .ok (.ireturn, 1) ∧ 92 + 1 = 93 := ⟨by decide +kernel, rfl⟩
theorem dX7_nearest_0 : decode cX7_nearest 0 = .ok (.iload_n 1, 1) ∧ 0 + 1 = 1 := ⟨by decide +kernel, rfl⟩
theorem dX7_nearest_1 : decode cX7_nearest 1 = .ok (.iconst 0, 1) ∧ 1 + 1 = 2 := ⟨by decide +kernel, rfl⟩
theorem dX7_nearest_2 : decode cX7_nearest 2 = .ok (.bipush 15, 2) ∧ 2 + 2 = 4 := ⟨by decide +kernel, rfl⟩
theorem dX7_nearest_4 : decode cX7_nearest 4 = .ok (.invokestatic 66, 3) ∧ 4 + 3 = 7 := ⟨by decide +kernel, rfl⟩
theorem dX7_nearest_7 : decode cX7_nearest 7 = .ok (.ifCond .ne 6, 3) ∧ 7 + 3 = 10 ∧ ((7 : Nat) : Int) + 6 = ((13 : Nat) : Int) := ⟨by decide +kernel, rfl, rfl⟩
theorem dX7_nearest_10 : decode cX7_nearest 10 = .ok (.bipush (-2), 2) ∧ 10 + 2 = 12 := ⟨by decide +kernel, rfl⟩
theorem dX7_nearest_12 : decode cX7_nearest 12 = .ok (.ireturn, 1) ∧ 12 + 1 = 13 := ⟨by decide +kernel, rfl⟩
theorem dX7_nearest_13 : decode cX7_nearest 13 = .ok (.aload_n 0, 1) ∧ 13 + 1 = 14 := ⟨by decide +kernel, rfl⟩
theorem dX7_nearest_14 : decode cX7_nearest 14 = .ok (.invokevirtual 235, 3) ∧ 14 + 3 = 17 := ⟨by decide +kernel, rfl⟩
theorem dX7_nearest_17 : decode cX7_nearest 17 = .ok (.istore_n 2, 1) ∧ 17 + 1 = 18 := ⟨by decide +kernel, rfl⟩
theorem dX7_nearest_18 : decode cX7_nearest 18 = .ok (.iconst 0, 1) ∧ 18 + 1 = 19 := ⟨by decide +kernel, rfl⟩
theorem dX7_nearest_19 : decode cX7_nearest 19 = .ok (.istore_n 3, 1) ∧ 19 + 1 = 20 := ⟨by decide +kernel, rfl⟩
theorem dX7_nearest_20 : decode cX7_nearest 20 = .ok (.iload_n 3, 1) ∧ 20 + 1 = 21 := ⟨by decide +kernel, rfl⟩
theorem dX7_nearest_21 : decode cX7_nearest 21 = .ok (.aload_n 0, 1) ∧ 21 + 1 = 22 := ⟨by decide +kernel, rfl⟩
theorem dX7_nearest_22 : decode cX7_nearest 22 = .ok (.getfield 7, 3) ∧ 22 + 3 = 25 := ⟨by decide +kernel, rfl⟩
theorem dX7_nearest_25 : decode cX7_nearest 25 = .ok (.sipush 157, 3) ∧ 25 + 3 = 28 := ⟨by decide +kernel, rfl⟩
theorem dX7_nearest_28 : decode cX7_nearest 28 = .ok (.iaload, 1) ∧ 28 + 1 = 29 := ⟨by decide +kernel, rfl⟩
theorem dX7_nearest_29 : decode cX7_nearest 29 = .ok (.if_icmp .ge 125, 3) ∧ 29 + 3 = 32 ∧ ((29 : Nat) : Int) + 125 = ((154 : Nat) : Int) := ⟨by decide +kernel, rfl, rfl⟩
theorem dX7_nearest_32 : decode cX7_nearest 32 = .ok (.iconst 0, 1) ∧ 32 + 1 = 33 := ⟨by decide +kernel, rfl⟩
theorem dX7_nearest_33 : decode cX7_nearest 33 = .ok (.istore 4, 2) ∧ 33 + 2 = 35 := ⟨by decide +kernel, rfl⟩
theorem dX7_nearest_35 : decode cX7_nearest 35 = .ok (.iconst 0, 1) ∧ 35 + 1 = 36 := ⟨by decide +kernel, rfl⟩
theorem dX7_nearest_36 : decode cX7_nearest 36 = .ok (.istore 5, 2) ∧ 36 + 2 = 38 := ⟨by decide +kernel, rfl⟩
theorem dX7_nearest_38 : decode cX7_nearest 38 = .ok (.iload 5, 2) ∧ 38 + 2 = 40 := ⟨by decide +kernel, rfl⟩
theorem dX7_nearest_40 : decode cX7_nearest 40 = .ok (.aload_n 0, 1) ∧ 40 + 1 = 41 := ⟨by decide +kernel, rfl⟩
theorem dX7_nearest_41 : decode cX7_nearest 41 = .ok (.getfield 7, 3) ∧ 41 + 3 = 44 := ⟨by decide +kernel, rfl⟩
theorem dX7_nearest_44 : decode cX7_nearest 44 = .ok (.sipush 157, 3) ∧ 44 + 3 = 47 := ⟨by decide +kernel, rfl⟩
theorem dX7_nearest_47 : decode cX7_nearest 47 = .ok (.iaload, 1) ∧ 47 + 1 = 48 := ⟨by decide +kernel, rfl⟩
theorem dX7_nearest_48 : decode cX7_nearest 48 = .ok (.if_icmp .ge 83, 3) ∧ 48 + 3 = 51 ∧ ((48 : Nat) : Int) + 83 = ((131 : Nat) : Int) := ⟨by decide +kernel, rfl, rfl⟩
theorem dX7_nearest_51 : decode cX7_nearest 51 = .ok (.aload_n 0, 1) ∧ 51 + 1 = 52 := ⟨by decide +kernel, rfl⟩
theorem dX7_nearest_52 : decode cX7_nearest 52 = .ok (.getfield 63, 3) ∧ 52 + 3 = 55 := ⟨by decide +kernel, rfl⟩
theorem dX7_nearest_55 : decode cX7_nearest 55 = .ok (.iload 5, 2) ∧ 55 + 2 = 57 := ⟨by decide +kernel, rfl⟩
theorem dX7_nearest_57 : decode cX7_nearest 57 = .ok (.iaload, 1) ∧ 57 + 1 = 58 := ⟨by decide +kernel, rfl⟩
theorem dX7_nearest_58 : decode cX7_nearest 58 = .ok (.aload_n 0, 1) ∧ 58 + 1 = 59 := ⟨by decide +kernel, rfl⟩
theorem dX7_nearest_59 : decode cX7_nearest 59 = .ok (.getfield 63, 3) ∧ 59 + 3 = 62 := ⟨by decide +kernel, rfl⟩
theorem dX7_nearest_62 : decode cX7_nearest 62 = .ok (.iload_n 3, 1) ∧ 62 + 1 = 63 := ⟨by decide +kernel, rfl⟩
theorem dX7_nearest_63 : decode cX7_nearest 63 = .ok (.iaload, 1) ∧ 63 + 1 = 64 := ⟨by decide +kernel, rfl⟩
theorem dX7_nearest_64 : decode cX7_nearest 64 = .ok (.if_icmp .lt 29, 3) ∧ 64 + 3 = 67 ∧ ((64 : Nat) : Int) + 29 = ((93 : Nat) : Int) := ⟨by decide +kernel, rfl, rfl⟩
theorem dX7_nearest_67 : decode cX7_nearest 67 = .ok (.aload_n 0, 1) ∧ 67 + 1 = 68 := ⟨by decide +kernel, rfl⟩
theorem dX7_nearest_68 : decode cX7_nearest 68 = .ok (.getfield 63, 3) ∧ 68 + 3 = 71 := ⟨by decide +kernel, rfl⟩
theorem dX7_nearest_71 : decode cX7_nearest 71 = .ok (.iload 5, 2) ∧ 71 + 2 = 73 := ⟨by decide +kernel, rfl⟩
theorem dX7_nearest_73 : decode cX7_nearest 73 = .ok (.iaload, 1) ∧ 73 + 1 = 74 := ⟨by decide +kernel, rfl⟩
theorem dX7_nearest_74 : decode cX7_nearest 74 = .ok (.aload_n 0, 1) ∧ 74 + 1 = 75 := ⟨by decide +kernel, rfl⟩
theorem dX7_nearest_75 : decode cX7_nearest 75 = .ok (.getfield 63, 3) ∧ 75 + 3 = 78 := ⟨by decide +kernel, rfl⟩
theorem dX7_nearest_78 : decode cX7_nearest 78 = .ok (.iload_n 3, 1) ∧ 78 + 1 = 79 := ⟨by decide +kernel, rfl⟩
theorem dX7_nearest_79 : decode cX7_nearest 79 = .ok (.iaload, 1) ∧ 79 + 1 = 80 := ⟨by decide +kernel, rfl⟩
theorem dX7_nearest_80 : decode cX7_nearest 80 = .ok (.if_icmp .ne 17, 3) ∧ 80 + 3 = 83 ∧ ((80 : Nat) : Int) + 17 = ((97 : Nat) : Int) := ⟨by decide +kernel, rfl, rfl⟩
theorem dX7_nearest_83 : decode cX7_nearest 83 = .ok (.aload_n 0, 1) ∧ 83 + 1 = 84 := ⟨by decide +kernel, rfl⟩
theorem dX7_nearest_84 : decode cX7_nearest 84 = .ok (.iload 5, 2) ∧ 84 + 2 = 86 := ⟨by decide +kernel, rfl⟩
theorem dX7_nearest_86 : decode cX7_nearest 86 = .ok (.iload_n 3, 1) ∧ 86 + 1 = 87 := ⟨by decide +kernel, rfl⟩
theorem dX7_nearest_87 : decode cX7_nearest 87 = .ok (.invokevirtual 106, 3) ∧ 87 + 3 = 90 := ⟨by decide +kernel, rfl⟩
theorem dX7_nearest_90 : decode cX7_nearest 90 = .ok (.ifCond .eq 7, 3) ∧ 90 + 3 = 93 ∧ ((90 : Nat) : Int) + 7 = ((97 : Nat) : Int) := ⟨by decide +kernel, rfl, rfl⟩
theorem dX7_nearest_93 : decode cX7_nearest 93 = .ok (.iconst 1, 1) ∧ 93 + 1 = 94 := ⟨by decide +kernel, rfl⟩
theorem dX7_nearest_94 : decode cX7_nearest 94 = .ok (.goto 4, 3) ∧ ((94 : Nat) : Int) + 4 = ((98 : Nat) : Int) := ⟨by decide +kernel, rfl⟩
theorem dX7_nearest_97 : decode cX7_nearest 97 = .ok (.iconst 0, 1) ∧ 97 + 1 = 98 := ⟨by decide +kernel, rfl⟩
theorem dX7_nearest_98 : decode cX7_nearest 98 = .ok (.istore 6, 2) ∧ 98 + 2 = 100 := ⟨by decide +kernel, rfl⟩
theorem dX7_nearest_100 : decode cX7_nearest 100 = .ok (.iload 4, 2) ∧ 100 + 2 = 102 := ⟨by decide +kernel, rfl⟩
theorem dX7_nearest_102 : decode cX7_nearest 102 = .ok (.iload_n 2, 1) ∧ 102 + 1 = 103 := ⟨by decide +kernel, rfl⟩
theorem dX7_nearest_103 : decode cX7_nearest 103 = .ok (.iload 5, 2) ∧ 103 + 2 = 105 := ⟨by decide +kernel, rfl⟩
theorem dX7_nearest_105 : decode cX7_nearest 105 = .ok (.invokestatic 120, 3) ∧ 105 + 3 = 108 := ⟨by decide +kernel, rfl⟩
theorem dX7_nearest_108 : decode cX7_nearest 108 = .ok (.iconst 1, 1) ∧ 108 + 1 = 109 := ⟨by decide +kernel, rfl⟩
theorem dX7_nearest_109 : decode cX7_nearest 109 = .ok (.if_icmp .ne 12, 3) ∧ 109 + 3 = 112 ∧ ((109 : Nat) : Int) + 12 = ((121 : Nat) : Int) := ⟨by decide +kernel, rfl, rfl⟩
theorem dX7_nearest_112 : decode cX7_nearest 112 = .ok (.iload 6, 2) ∧ 112 + 2 = 114 := ⟨by decide +kernel, rfl⟩
theorem dX7_nearest_114 : decode cX7_nearest 114 = .ok (.ifCond .eq 7, 3) ∧ 114 + 3 = 117 ∧ ((114 : Nat) : Int) + 7 = ((121 : Nat) : Int) := ⟨by decide +kernel, rfl, rfl⟩
theorem dX7_nearest_117 : decode cX7_nearest 117 = .ok (.iconst 1, 1) ∧ 117 + 1 = 118 := ⟨by decide +kernel, rfl⟩
theorem dX7_nearest_118 : decode cX7_nearest 118 = .ok (.goto 4, 3) ∧ ((118 : Nat) : Int) + 4 = ((122 : Nat) : Int) := ⟨by decide +kernel, rfl⟩
theorem dX7_nearest_121 : decode cX7_nearest 121 = .ok (.iconst 0, 1) ∧ 121 + 1 = 122 := ⟨by decide +kernel, rfl⟩
theorem dX7_nearest_122 : decode cX7_nearest 122 = .ok (.iadd, 1) ∧ 122 + 1 = 123 := ⟨by decide +kernel, rfl⟩
theorem dX7_nearest_123 : decode cX7_nearest 123 = .ok (.istore 4, 2) ∧ 123 + 2 = 125 := ⟨by decide +kernel, rfl⟩
theorem dX7_nearest_125 : decode cX7_nearest 125 = .ok (.iinc 5 1, 3) ∧ 125 + 3 = 128 := ⟨by decide +kernel, rfl⟩
theorem dX7_nearest_128 : decode cX7_nearest 128 = .ok (.goto (-90), 3) ∧ ((128 : Nat) : Int) + (-90) = ((38 : Nat) : Int) := ⟨by decide +kernel, rfl⟩
theorem dX7_nearest_131 : decode cX7_nearest 131 = .ok (.iload_n 2, 1) ∧ 131 + 1 = 132 := ⟨by decide +kernel, rfl⟩
theorem dX7_nearest_132 : decode cX7_nearest 132 = .ok (.iload_n 3, 1) ∧ 132 + 1 = 133 := ⟨by decide +kernel, rfl⟩
theorem dX7_nearest_133 : decode cX7_nearest 133 = .ok (.invokestatic 120, 3) ∧ 133 + 3 = 136 := ⟨by decide +kernel, rfl⟩
theorem dX7_nearest_136 : decode cX7_nearest 136 = .ok (.iconst 1, 1) ∧ 136 + 1 = 137 := ⟨by decide +kernel, rfl⟩
theorem dX7_nearest_137 : decode cX7_nearest 137 = .ok (.if_icmp .ne 11, 3) ∧ 137 + 3 = 140 ∧ ((137 : Nat) : Int) + 11 = ((148 : Nat) : Int) := ⟨by decide +kernel, rfl, rfl⟩
theorem dX7_nearest_140 : decode cX7_nearest 140 = .ok (.iload 4, 2) ∧ 140 + 2 = 142 := ⟨by decide +kernel, rfl⟩
theorem dX7_nearest_142 : decode cX7_nearest 142 = .ok (.iload_n 1, 1) ∧ 142 + 1 = 143 := ⟨by decide +kernel, rfl⟩
theorem dX7_nearest_143 : decode cX7_nearest 143 = .ok (.if_icmp .ne 5, 3) ∧ 143 + 3 = 146 ∧ ((143 : Nat) : Int) + 5 = ((148 : Nat) : Int) := ⟨by decide +kernel, rfl, rfl⟩
theorem dX7_nearest_146 : decode cX7_nearest 146 = .ok (.iload_n 3, 1) ∧ 146 + 1 = 147 := ⟨by decide +kernel, rfl⟩
theorem dX7_nearest_147 : decode cX7_nearest 147 = .ok (.ireturn, 1) ∧ 147 + 1 = 148 := ⟨by decide +kernel, rfl⟩
theorem dX7_nearest_148 : decode cX7_nearest 148 = .ok (.iinc 3 1, 3) ∧ 148 + 3 = 151 := ⟨by decide +kernel, rfl⟩
theorem dX7_nearest_151 : decode cX7_nearest 151 = .ok (.goto (-131), 3) ∧ ((151 : Nat) : Int) + (-131) = ((20 : Nat) : Int) := ⟨by decide +kernel, rfl⟩
theorem dX7_nearest_154 : decode cX7_nearest 154 = .ok (.bipush (-9), 2) ∧ 154 + 2 = 156 := ⟨by decide +kernel, rfl⟩
theorem dX7_nearest_156 : decode cX7_nearest 156 = .ok (.ireturn, 1) ∧ 156 + 1 = 157 := ⟨by decide +kernel, rfl⟩
theorem dX7_isAsGood_0 : decode cX7_isAsGood 0 = .ok (.aload_n 0, 1) ∧ 0 + 1 = 1 := ⟨by decide +kernel, rfl⟩
theorem dX7_isAsGood_1 : decode cX7_isAsGood 1 = .ok (.iload_n 3, 1) ∧ 1 + 1 = 2 := ⟨by decide +kernel, rfl⟩
theorem dX7_isAsGood_2 : decode cX7_isAsGood 2 = .ok (.invokevirtual 199, 3) ∧ 2 + 3 = 5 := ⟨by decide +kernel, rfl⟩
theorem dX7_isAsGood_5 : decode cX7_isAsGood 5 = .ok (.istore 4, 2) ∧ 5 + 2 = 7 := ⟨by decide +kernel, rfl⟩
theorem dX7_isAsGood_7 : decode cX7_isAsGood 7 = .ok (.aload_n 0, 1) ∧ 7 + 1 = 8 := ⟨by decide +kernel, rfl⟩
theorem dX7_isAsGood_8 : decode cX7_isAsGood 8 = .ok (.iload_n 2, 1) ∧ 8 + 1 = 9 := ⟨by decide +kernel, rfl⟩
theorem dX7_isAsGood_9 : decode cX7_isAsGood 9 = .ok (.iconst (-1), 1) ∧ 9 + 1 = 10 := ⟨by decide +kernel, rfl⟩
theorem dX7_isAsGood_10 : decode cX7_isAsGood 10 = .ok (.invokevirtual 147, 3) ∧ 10 + 3 = 13 := ⟨by decide +kernel, rfl⟩
theorem dX7_isAsGood_13 : decode cX7_isAsGood 13 = .ok (.aload_n 0, 1) ∧ 13 + 1 = 14 := ⟨by decide +kernel, rfl⟩
theorem dX7_isAsGood_14 : decode cX7_isAsGood 14 = .ok (.iload_n 1, 1) ∧ 14 + 1 = 15 := ⟨by decide +kernel, rfl⟩
theorem dX7_isAsGood_15 : decode cX7_isAsGood 15 = .ok (.iconst 1, 1) ∧ 15 + 1 = 16 := ⟨by decide +kernel, rfl⟩
theorem dX7_isAsGood_16 : decode cX7_isAsGood 16 = .ok (.invokevirtual 147, 3) ∧ 16 + 3 = 19 := ⟨by decide +kernel, rfl⟩
theorem dX7_isAsGood_19 : decode cX7_isAsGood 19 = .ok (.aload_n 0, 1) ∧ 19 + 1 = 20 := ⟨by decide +kernel, rfl⟩
theorem dX7_isAsGood_20 : decode cX7_isAsGood 20 = .ok (.bipush (-9), 2) ∧ 20 + 2 = 22 := ⟨by decide +kernel, rfl⟩
theorem dX7_isAsGood_22 : decode cX7_isAsGood 22 = .ok (.invokevirtual 144, 3) ∧ 22 + 3 = 25 := ⟨by decide +kernel, rfl⟩
theorem dX7_isAsGood_25 : decode cX7_isAsGood 25 = .ok (.iload 4, 2) ∧ 25 + 2 = 27 := ⟨by decide +kernel, rfl⟩
theorem dX7_isAsGood_27 : decode cX7_isAsGood 27 = .ok (.if_icmp .lt 7, 3) ∧ 27 + 3 = 30 ∧ ((27 : Nat) : Int) + 7 = ((34 : Nat) : Int) := ⟨by decide +kernel, rfl, rfl⟩
theorem dX7_isAsGood_30 : decode cX7_isAsGood 30 = .ok (.iconst 1, 1) ∧ 30 + 1 = 31 := ⟨by decide +kernel, rfl⟩
theorem dX7_isAsGood_31 : decode cX7_isAsGood 31 = .ok (.goto 4, 3) ∧ ((31 : Nat) : Int) + 4 = ((35 : Nat) : Int) := ⟨by decide +kernel, rfl⟩
theorem dX7_isAsGood_34 : decode cX7_isAsGood 34 = .ok (.iconst 0, 1) ∧ 34 + 1 = 35 := ⟨by decide +kernel, rfl⟩
theorem dX7_isAsGood_35 : decode cX7_isAsGood 35 = .ok (.ireturn, 1) ∧ 35 + 1 = 36 := ⟨by decide +kernel, rfl⟩
theorem dX7_envy_0 : decode cX7_envy 0 = .ok (.aload_n 0, 1) ∧ 0 + 1 = 1 := ⟨by decide +kernel, rfl⟩
theorem dX7_envy_1 : decode cX7_envy 1 = .ok (.invokevirtual 184, 3) ∧ 1 + 3 = 4 := ⟨by decide +kernel, rfl⟩
theorem dX7_envy_4 : decode cX7_envy 4 = .ok (.iconst 0, 1) ∧ 4 + 1 = 5 := ⟨by decide +kernel, rfl⟩
theorem dX7_envy_5 : decode cX7_envy 5 = .ok (.istore_n 1, 1) ∧ 5 + 1 = 6 := ⟨by decide +kernel, rfl⟩
theorem dX7_envy_6 : decode cX7_envy 6 = .ok (.iconst 0, 1) ∧ 6 + 1 = 7 := ⟨by decide +kernel, rfl⟩
theorem dX7_envy_7 : decode cX7_envy 7 = .ok (.istore_n 2, 1) ∧ 7 + 1 = 8 := ⟨by decide +kernel, rfl⟩
theorem dX7_envy_8 : decode cX7_envy 8 = .ok (.iload_n 2, 1) ∧ 8 + 1 = 9 := ⟨by decide +kernel, rfl⟩
theorem dX7_envy_9 : decode cX7_envy 9 = .ok (.aload_n 0, 1) ∧ 9 + 1 = 10 := ⟨by decide +kernel, rfl⟩
theorem dX7_envy_10 : decode cX7_envy 10 = .ok (.getfield 7, 3) ∧ 10 + 3 = 13 := ⟨by decide +kernel, rfl⟩
theorem dX7_envy_13 : decode cX7_envy 13 = .ok (.sipush 157, 3) ∧ 13 + 3 = 16 := ⟨by decide +kernel, rfl⟩
theorem dX7_envy_16 : decode cX7_envy 16 = .ok (.iaload, 1) ∧ 16 + 1 = 17 := ⟨by decide +kernel, rfl⟩
theorem dX7_envy_17 : decode cX7_envy 17 = .ok (.if_icmp .ge 138, 3) ∧ 17 + 3 = 20 ∧ ((17 : Nat) : Int) + 138 = ((155 : Nat) : Int) := ⟨by decide +kernel, rfl, rfl⟩
theorem dX7_envy_20 : decode cX7_envy 20 = .ok (.iconst 0, 1) ∧ 20 + 1 = 21 := ⟨by decide +kernel, rfl⟩
theorem dX7_envy_21 : decode cX7_envy 21 = .ok (.istore_n 3, 1) ∧ 21 + 1 = 22 := ⟨by decide +kernel, rfl⟩
theorem dX7_envy_22 : decode cX7_envy 22 = .ok (.iload_n 3, 1) ∧ 22 + 1 = 23 := ⟨by decide +kernel, rfl⟩
theorem dX7_envy_23 : decode cX7_envy 23 = .ok (.aload_n 0, 1) ∧ 23 + 1 = 24 := ⟨by decide +kernel, rfl⟩
theorem dX7_envy_24 : decode cX7_envy 24 = .ok (.getfield 7, 3) ∧ 24 + 3 = 27 := ⟨by decide +kernel, rfl⟩
theorem dX7_envy_27 : decode cX7_envy 27 = .ok (.sipush 157, 3) ∧ 27 + 3 = 30 := ⟨by decide +kernel, rfl⟩
theorem dX7_envy_30 : decode cX7_envy 30 = .ok (.iaload, 1) ∧ 30 + 1 = 31 := ⟨by decide +kernel, rfl⟩
theorem dX7_envy_31 : decode cX7_envy 31 = .ok (.if_icmp .ge 118, 3) ∧ 31 + 3 = 34 ∧ ((31 : Nat) : Int) + 118 = ((149 : Nat) : Int) := ⟨by decide +kernel, rfl, rfl⟩
theorem dX7_envy_34 : decode cX7_envy 34 = .ok (.aload_n 0, 1) ∧ 34 + 1 = 35 := ⟨by decide +kernel, rfl⟩
theorem dX7_envy_35 : decode cX7_envy 35 = .ok (.iload_n 2, 1) ∧ 35 + 1 = 36 := ⟨by decide +kernel, rfl⟩
theorem dX7_envy_36 : decode cX7_envy 36 = .ok (.invokevirtual 126, 3) ∧ 36 + 3 = 39 := ⟨by decide +kernel, rfl⟩
theorem dX7_envy_39 : decode cX7_envy 39 = .ok (.ifCond .eq 38, 3) ∧ 39 + 3 = 42 ∧ ((39 : Nat) : Int) + 38 = ((77 : Nat) : Int) := ⟨by decide +kernel, rfl, rfl⟩
theorem dX7_envy_42 : decode cX7_envy 42 = .ok (.aload_n 0, 1) ∧ 42 + 1 = 43 := ⟨by decide +kernel, rfl⟩
theorem dX7_envy_43 : decode cX7_envy 43 = .ok (.getfield 31, 3) ∧ 43 + 3 = 46 := ⟨by decide +kernel, rfl⟩
theorem dX7_envy_46 : decode cX7_envy 46 = .ok (.iload_n 2, 1) ∧ 46 + 1 = 47 := ⟨by decide +kernel, rfl⟩
theorem dX7_envy_47 : decode cX7_envy 47 = .ok (.iaload, 1) ∧ 47 + 1 = 48 := ⟨by decide +kernel, rfl⟩
theorem dX7_envy_48 : decode cX7_envy 48 = .ok (.bipush (-9), 2) ∧ 48 + 2 = 50 := ⟨by decide +kernel, rfl⟩
theorem dX7_envy_50 : decode cX7_envy 50 = .ok (.if_icmp .ne 27, 3) ∧ 50 + 3 = 53 ∧ ((50 : Nat) : Int) + 27 = ((77 : Nat) : Int) := ⟨by decide +kernel, rfl, rfl⟩
theorem dX7_envy_53 : decode cX7_envy 53 = .ok (.aload_n 0, 1) ∧ 53 + 1 = 54 := ⟨by decide +kernel, rfl⟩
theorem dX7_envy_54 : decode cX7_envy 54 = .ok (.getfield 31, 3) ∧ 54 + 3 = 57 := ⟨by decide +kernel, rfl⟩
theorem dX7_envy_57 : decode cX7_envy 57 = .ok (.iload_n 3, 1) ∧ 57 + 1 = 58 := ⟨by decide +kernel, rfl⟩
theorem dX7_envy_58 : decode cX7_envy 58 = .ok (.iaload, 1) ∧ 58 + 1 = 59 := ⟨by decide +kernel, rfl⟩
theorem dX7_envy_59 : decode cX7_envy 59 = .ok (.bipush (-9), 2) ∧ 59 + 2 = 61 := ⟨by decide +kernel, rfl⟩
theorem dX7_envy_61 : decode cX7_envy 61 = .ok (.if_icmp .eq 16, 3) ∧ 61 + 3 = 64 ∧ ((61 : Nat) : Int) + 16 = ((77 : Nat) : Int) := ⟨by decide +kernel, rfl, rfl⟩
theorem dX7_envy_64 : decode cX7_envy 64 = .ok (.aload_n 0, 1) ∧ 64 + 1 = 65 := ⟨by decide +kernel, rfl⟩
theorem dX7_envy_65 : decode cX7_envy 65 = .ok (.getfield 37, 3) ∧ 65 + 3 = 68 := ⟨by decide +kernel, rfl⟩
theorem dX7_envy_68 : decode cX7_envy 68 = .ok (.iload_n 3, 1) ∧ 68 + 1 = 69 := ⟨by decide +kernel, rfl⟩
theorem dX7_envy_69 : decode cX7_envy 69 = .ok (.baload, 1) ∧ 69 + 1 = 70 := ⟨by decide +kernel, rfl⟩
theorem dX7_envy_70 : decode cX7_envy 70 = .ok (.ifCond .ne 7, 3) ∧ 70 + 3 = 73 ∧ ((70 : Nat) : Int) + 7 = ((77 : Nat) : Int) := ⟨by decide +kernel, rfl, rfl⟩
theorem dX7_envy_73 : decode cX7_envy 73 = .ok (.iconst 1, 1) ∧ 73 + 1 = 74 := ⟨by decide +kernel, rfl⟩
theorem dX7_envy_74 : decode cX7_envy 74 = .ok (.goto 4, 3) ∧ ((74 : Nat) : Int) + 4 = ((78 : Nat) : Int) := ⟨by decide +kernel, rfl⟩
theorem dX7_envy_77 : decode cX7_envy 77 = .ok (.iconst 0, 1) ∧ 77 + 1 = 78 := ⟨by decide +kernel, rfl⟩
theorem dX7_envy_78 : decode cX7_envy 78 = .ok (.istore 4, 2) ∧ 78 + 2 = 80 := ⟨by decide +kernel, rfl⟩
theorem dX7_envy_80 : decode cX7_envy 80 = .ok (.iload 4, 2) ∧ 80 + 2 = 82 := ⟨by decide +kernel, rfl⟩
theorem dX7_envy_82 : decode cX7_envy 82 = .ok (.ifCond .eq 30, 3) ∧ 82 + 3 = 85 ∧ ((82 : Nat) : Int) + 30 = ((112 : Nat) : Int) := ⟨by decide +kernel, rfl, rfl⟩
theorem dX7_envy_85 : decode cX7_envy 85 = .ok (.aload_n 0, 1) ∧ 85 + 1 = 86 := ⟨by decide +kernel, rfl⟩
theorem dX7_envy_86 : decode cX7_envy 86 = .ok (.iload_n 2, 1) ∧ 86 + 1 = 87 := ⟨by decide +kernel, rfl⟩
theorem dX7_envy_87 : decode cX7_envy 87 = .ok (.aload_n 0, 1) ∧ 87 + 1 = 88 := ⟨by decide +kernel, rfl⟩
theorem dX7_envy_88 : decode cX7_envy 88 = .ok (.getfield 31, 3) ∧ 88 + 3 = 91 := ⟨by decide +kernel, rfl⟩
theorem dX7_envy_91 : decode cX7_envy 91 = .ok (.iload_n 3, 1) ∧ 91 + 1 = 92 := ⟨by decide +kernel, rfl⟩
theorem dX7_envy_92 : decode cX7_envy 92 = .ok (.iaload, 1) ∧ 92 + 1 = 93 := ⟨by decide +kernel, rfl⟩
theorem dX7_envy_93 : decode cX7_envy 93 = .ok (.invokevirtual 129, 3) ∧ 93 + 3 = 96 := ⟨by decide +kernel, rfl⟩
theorem dX7_envy_96 : decode cX7_envy 96 = .ok (.ifCond .eq 16, 3) ∧ 96 + 3 = 99 ∧ ((96 : Nat) : Int) + 16 = ((112 : Nat) : Int) := ⟨by decide +kernel, rfl, rfl⟩
theorem dX7_envy_99 : decode cX7_envy 99 = .ok (.aload_n 0, 1) ∧ 99 + 1 = 100 := ⟨by decide +kernel, rfl⟩
theorem dX7_envy_100 : decode cX7_envy 100 = .ok (.iload_n 2, 1) ∧ 100 + 1 = 101 := ⟨by decide +kernel, rfl⟩
theorem dX7_envy_101 : decode cX7_envy 101 = .ok (.iload_n 3, 1) ∧ 101 + 1 = 102 := ⟨by decide +kernel, rfl⟩
theorem dX7_envy_102 : decode cX7_envy 102 = .ok (.invokevirtual 106, 3) ∧ 102 + 3 = 105 := ⟨by decide +kernel, rfl⟩
theorem dX7_envy_105 : decode cX7_envy 105 = .ok (.ifCond .eq 7, 3) ∧ 105 + 3 = 108 ∧ ((105 : Nat) : Int) + 7 = ((112 : Nat) : Int) := ⟨by decide +kernel, rfl, rfl⟩
theorem dX7_envy_108 : decode cX7_envy 108 = .ok (.iconst 1, 1) ∧ 108 + 1 = 109 := ⟨by decide +kernel, rfl⟩
theorem dX7_envy_109 : decode cX7_envy 109 = .ok (.goto 4, 3) ∧ ((109 : Nat) : Int) + 4 = ((113 : Nat) : Int) := ⟨by decide +kernel, rfl⟩
theorem dX7_envy_112 : decode cX7_envy 112 = .ok (.iconst 0, 1) ∧ 112 + 1 = 113 := ⟨by decide +kernel, rfl⟩
theorem dX7_envy_113 : decode cX7_envy 113 = .ok (.istore 5, 2) ∧ 113 + 2 = 115 := ⟨by decide +kernel, rfl⟩
theorem dX7_envy_115 : decode cX7_envy 115 = .ok (.iload_n 1, 1) ∧ 115 + 1 = 116 := ⟨by decide +kernel, rfl⟩
theorem dX7_envy_116 : decode cX7_envy 116 = .ok (.iload 5, 2) ∧ 116 + 2 = 118 := ⟨by decide +kernel, rfl⟩
theorem dX7_envy_118 : decode cX7_envy 118 = .ok (.ifCond .eq 22, 3) ∧ 118 + 3 = 121 ∧ ((118 : Nat) : Int) + 22 = ((140 : Nat) : Int) := ⟨by decide +kernel, rfl, rfl⟩
theorem dX7_envy_121 : decode cX7_envy 121 = .ok (.aload_n 0, 1) ∧ 121 + 1 = 122 := ⟨by decide +kernel, rfl⟩
theorem dX7_envy_122 : decode cX7_envy 122 = .ok (.iload_n 2, 1) ∧ 122 + 1 = 123 := ⟨by decide +kernel, rfl⟩
theorem dX7_envy_123 : decode cX7_envy 123 = .ok (.iload_n 3, 1) ∧ 123 + 1 = 124 := ⟨by decide +kernel, rfl⟩
theorem dX7_envy_124 : decode cX7_envy 124 = .ok (.aload_n 0, 1) ∧ 124 + 1 = 125 := ⟨by decide +kernel, rfl⟩
theorem dX7_envy_125 : decode cX7_envy 125 = .ok (.getfield 31, 3) ∧ 125 + 3 = 128 := ⟨by decide +kernel, rfl⟩
theorem dX7_envy_128 : decode cX7_envy 128 = .ok (.iload_n 3, 1) ∧ 128 + 1 = 129 := ⟨by decide +kernel, rfl⟩
theorem dX7_envy_129 : decode cX7_envy 129 = .ok (.iaload, 1) ∧ 129 + 1 = 130 := ⟨by decide +kernel, rfl⟩
theorem dX7_envy_130 : decode cX7_envy 130 = .ok (.invokevirtual 238, 3) ∧ 130 + 3 = 133 := ⟨by decide +kernel, rfl⟩
theorem dX7_envy_133 : decode cX7_envy 133 = .ok (.ifCond .eq 7, 3) ∧ 133 + 3 = 136 ∧ ((133 : Nat) : Int) + 7 = ((140 : Nat) : Int) := ⟨by decide +kernel, rfl, rfl⟩
theorem dX7_envy_136 : decode cX7_envy 136 = .ok (.iconst 1, 1) ∧ 136 + 1 = 137 := ⟨by decide +kernel, rfl⟩
theorem dX7_envy_137 : decode cX7_envy 137 = .ok (.goto 4, 3) ∧ ((137 : Nat) : Int) + 4 = ((141 : Nat) : Int) := ⟨by decide +kernel, rfl⟩
theorem dX7_envy_140 : decode cX7_envy 140 = .ok (.iconst 0, 1) ∧ 140 + 1 = 141 := ⟨by decide +kernel, rfl⟩
theorem dX7_envy_141 : decode cX7_envy 141 = .ok (.iadd, 1) ∧ 141 + 1 = 142 := ⟨by decide +kernel, rfl⟩
theorem dX7_envy_142 : decode cX7_envy 142 = .ok (.istore_n 1, 1) ∧ 142 + 1 = 143 := ⟨by decide +kernel, rfl⟩
theorem dX7_envy_143 : decode cX7_envy 143 = .ok (.iinc 3 1, 3) ∧ 143 + 3 = 146 := ⟨by decide +kernel, rfl⟩
theorem dX7_envy_146 : decode cX7_envy 146 = .ok (.goto (-124), 3) ∧ ((146 : Nat) : Int) + (-124) = ((22 : Nat) : Int) := ⟨by decide +kernel, rfl⟩
theorem dX7_envy_149 : decode cX7_envy 149 = .ok (.iinc 2 1, 3) ∧ 149 + 3 = 152 := ⟨by decide +kernel, rfl⟩
theorem dX7_envy_152 : decode cX7_envy 152 = .ok (.goto (-144), 3) ∧ ((152 : Nat) : Int) + (-144) = ((8 : Nat) : Int) := ⟨by decide +kernel, rfl⟩
theorem dX7_envy_155 : decode cX7_envy 155 = .ok (.iload_n 1, 1) ∧ 155 + 1 = 156 := ⟨by decide +kernel, rfl⟩
theorem dX7_envy_156 : decode cX7_envy 156 = .ok (.ireturn, 1) ∧ 156 + 1 = 157 := ⟨by decide +kernel, rfl⟩
theorem dX7_round_0 : decode cX7_round 0 = .ok (.aload_n 0, 1) ∧ 0 + 1 = 1 := ⟨by decide +kernel, rfl⟩
theorem dX7_round_1 : decode cX7_round 1 = .ok (.invokevirtual 77, 3) ∧ 1 + 3 = 4 := ⟨by decide +kernel, rfl⟩
theorem dX7_round_4 : decode cX7_round 4 = .ok (.iconst 0, 1) ∧ 4 + 1 = 5 := ⟨by decide +kernel, rfl⟩
theorem dX7_round_5 : decode cX7_round 5 = .ok (.istore_n 1, 1) ∧ 5 + 1 = 6 := ⟨by decide +kernel, rfl⟩
theorem dX7_round_6 : decode cX7_round 6 = .ok (.iload_n 1, 1) ∧ 6 + 1 = 7 := ⟨by decide +kernel, rfl⟩
theorem dX7_round_7 : decode cX7_round 7 = .ok (.aload_n 0, 1) ∧ 7 + 1 = 8 := ⟨by decide +kernel, rfl⟩
theorem dX7_round_8 : decode cX7_round 8 = .ok (.getfield 7, 3) ∧ 8 + 3 = 11 := ⟨by decide +kernel, rfl⟩
theorem dX7_round_11 : decode cX7_round 11 = .ok (.sipush 157, 3) ∧ 11 + 3 = 14 := ⟨by decide +kernel, rfl⟩
theorem dX7_round_14 : decode cX7_round 14 = .ok (.iaload, 1) ∧ 14 + 1 = 15 := ⟨by decide +kernel, rfl⟩
theorem dX7_round_15 : decode cX7_round 15 = .ok (.if_icmp .ge 31, 3) ∧ 15 + 3 = 18 ∧ ((15 : Nat) : Int) + 31 = ((46 : Nat) : Int) := ⟨by decide +kernel, rfl, rfl⟩
theorem dX7_round_18 : decode cX7_round 18 = .ok (.aload_n 0, 1) ∧ 18 + 1 = 19 := ⟨by decide +kernel, rfl⟩
theorem dX7_round_19 : decode cX7_round 19 = .ok (.iload_n 1, 1) ∧ 19 + 1 = 20 := ⟨by decide +kernel, rfl⟩
theorem dX7_round_20 : decode cX7_round 20 = .ok (.iconst 4, 1) ∧ 20 + 1 = 21 := ⟨by decide +kernel, rfl⟩
theorem dX7_round_21 : decode cX7_round 21 = .ok (.invokevirtual 103, 3) ∧ 21 + 3 = 24 := ⟨by decide +kernel, rfl⟩
theorem dX7_round_24 : decode cX7_round 24 = .ok (.iconst 1, 1) ∧ 24 + 1 = 25 := ⟨by decide +kernel, rfl⟩
theorem dX7_round_25 : decode cX7_round 25 = .ok (.if_icmp .ne 15, 3) ∧ 25 + 3 = 28 ∧ ((25 : Nat) : Int) + 15 = ((40 : Nat) : Int) := ⟨by decide +kernel, rfl, rfl⟩
theorem dX7_round_28 : decode cX7_round 28 = .ok (.aload_n 0, 1) ∧ 28 + 1 = 29 := ⟨by decide +kernel, rfl⟩
theorem dX7_round_29 : decode cX7_round 29 = .ok (.iload_n 1, 1) ∧ 29 + 1 = 30 := ⟨by decide +kernel, rfl⟩
theorem dX7_round_30 : decode cX7_round 30 = .ok (.iconst 4, 1) ∧ 30 + 1 = 31 := ⟨by decide +kernel, rfl⟩
theorem dX7_round_31 : decode cX7_round 31 = .ok (.iconst 4, 1) ∧ 31 + 1 = 32 := ⟨by decide +kernel, rfl⟩
theorem dX7_round_32 : decode cX7_round 32 = .ok (.invokevirtual 84, 3) ∧ 32 + 3 = 35 := ⟨by decide +kernel, rfl⟩
theorem dX7_round_35 : decode cX7_round 35 = .ok (.aload_n 0, 1) ∧ 35 + 1 = 36 := ⟨by decide +kernel, rfl⟩
theorem dX7_round_36 : decode cX7_round 36 = .ok (.iload_n 1, 1) ∧ 36 + 1 = 37 := ⟨by decide +kernel, rfl⟩
theorem dX7_round_37 : decode cX7_round 37 = .ok (.invokevirtual 88, 3) ∧ 37 + 3 = 40 := ⟨by decide +kernel, rfl⟩
theorem dX7_round_40 : decode cX7_round 40 = .ok (.iinc 1 1, 3) ∧ 40 + 3 = 43 := ⟨by decide +kernel, rfl⟩
theorem dX7_round_43 : decode cX7_round 43 = .ok (.goto (-37), 3) ∧ ((43 : Nat) : Int) + (-37) = ((6 : Nat) : Int) := ⟨by decide +kernel, rfl⟩
theorem dX7_round_46 : decode cX7_round 46 = .ok (.aload_n 0, 1) ∧ 46 + 1 = 47 := ⟨by decide +kernel, rfl⟩
theorem dX7_round_47 : decode cX7_round 47 = .ok (.invokevirtual 190, 3) ∧ 47 + 3 = 50 := ⟨by decide +kernel, rfl⟩
theorem dX7_round_50 : decode cX7_round 50 = .ok (.aload_n 0, 1) ∧ 50 + 1 = 51 := ⟨by decide +kernel, rfl⟩
theorem dX7_round_51 : decode cX7_round 51 = .ok (.getfield 7, 3) ∧ 51 + 3 = 54 := ⟨by decide +kernel, rfl⟩
theorem dX7_round_54 : decode cX7_round 54 = .ok (.sipush 158, 3) ∧ 54 + 3 = 57 := ⟨by decide +kernel, rfl⟩
theorem dX7_round_57 : decode cX7_round 57 = .ok (.dup2, 1) ∧ 57 + 1 = 58 := ⟨by decide +kernel, rfl⟩
theorem dX7_round_58 : decode cX7_round 58 = .ok (.iaload, 1) ∧ 58 + 1 = 59 := ⟨by decide +kernel, rfl⟩
theorem dX7_round_59 : decode cX7_round 59 = .ok (.iconst 1, 1) ∧ 59 + 1 = 60 := ⟨by decide +kernel, rfl⟩
theorem dX7_round_60 : decode cX7_round 60 = .ok (.iadd, 1) ∧ 60 + 1 = 61 := ⟨by decide +kernel, rfl⟩
theorem dX7_round_61 : decode cX7_round 61 = .ok (.iastore, 1) ∧ 61 + 1 = 62 := ⟨by decide +kernel, rfl⟩
theorem dX7_round_62 : decode cX7_round 62 = .ok (.iconst 0, 1) ∧ 62 + 1 = 63 := ⟨by decide +kernel, rfl⟩
theorem dX7_round_63 : decode cX7_round 63 = .ok (.istore_n 1, 1) ∧ 63 + 1 = 64 := ⟨by decide +kernel, rfl⟩
theorem dX7_round_64 : decode cX7_round 64 = .ok (.iconst 0, 1) ∧ 64 + 1 = 65 := ⟨by decide +kernel, rfl⟩
theorem dX7_round_65 : decode cX7_round 65 = .ok (.istore_n 2, 1) ∧ 65 + 1 = 66 := ⟨by decide +kernel, rfl⟩
theorem dX7_round_66 : decode cX7_round 66 = .ok (.iload_n 2, 1) ∧ 66 + 1 = 67 := ⟨by decide +kernel, rfl⟩
theorem dX7_round_67 : decode cX7_round 67 = .ok (.aload_n 0, 1) ∧ 67 + 1 = 68 := ⟨by decide +kernel, rfl⟩
theorem dX7_round_68 : decode cX7_round 68 = .ok (.getfield 7, 3) ∧ 68 + 3 = 71 := ⟨by decide +kernel, rfl⟩
theorem dX7_round_71 : decode cX7_round 71 = .ok (.sipush 157, 3) ∧ 71 + 3 = 74 := ⟨by decide +kernel, rfl⟩
theorem dX7_round_74 : decode cX7_round 74 = .ok (.iaload, 1) ∧ 74 + 1 = 75 := ⟨by decide +kernel, rfl⟩
theorem dX7_round_75 : decode cX7_round 75 = .ok (.if_icmp .ge 42, 3) ∧ 75 + 3 = 78 ∧ ((75 : Nat) : Int) + 42 = ((117 : Nat) : Int) := ⟨by decide +kernel, rfl, rfl⟩
theorem dX7_round_78 : decode cX7_round 78 = .ok (.iload_n 1, 1) ∧ 78 + 1 = 79 := ⟨by decide +kernel, rfl⟩
theorem dX7_round_79 : decode cX7_round 79 = .ok (.aload_n 0, 1) ∧ 79 + 1 = 80 := ⟨by decide +kernel, rfl⟩
theorem dX7_round_80 : decode cX7_round 80 = .ok (.getfield 31, 3) ∧ 80 + 3 = 83 := ⟨by decide +kernel, rfl⟩
theorem dX7_round_83 : decode cX7_round 83 = .ok (.iload_n 2, 1) ∧ 83 + 1 = 84 := ⟨by decide +kernel, rfl⟩
theorem dX7_round_84 : decode cX7_round 84 = .ok (.iaload, 1) ∧ 84 + 1 = 85 := ⟨by decide +kernel, rfl⟩
theorem dX7_round_85 : decode cX7_round 85 = .ok (.bipush (-9), 2) ∧ 85 + 2 = 87 := ⟨by decide +kernel, rfl⟩
theorem dX7_round_87 : decode cX7_round 87 = .ok (.if_icmp .eq 16, 3) ∧ 87 + 3 = 90 ∧ ((87 : Nat) : Int) + 16 = ((103 : Nat) : Int) := ⟨by decide +kernel, rfl, rfl⟩
theorem dX7_round_90 : decode cX7_round 90 = .ok (.aload_n 0, 1) ∧ 90 + 1 = 91 := ⟨by decide +kernel, rfl⟩
theorem dX7_round_91 : decode cX7_round 91 = .ok (.iload_n 2, 1) ∧ 91 + 1 = 92 := ⟨by decide +kernel, rfl⟩
theorem dX7_round_92 : decode cX7_round 92 = .ok (.iconst 4, 1) ∧ 92 + 1 = 93 := ⟨by decide +kernel, rfl⟩
theorem dX7_round_93 : decode cX7_round 93 = .ok (.invokevirtual 103, 3) ∧ 93 + 3 = 96 := ⟨by decide +kernel, rfl⟩
theorem dX7_round_96 : decode cX7_round 96 = .ok (.ifCond .ne 7, 3) ∧ 96 + 3 = 99 ∧ ((96 : Nat) : Int) + 7 = ((103 : Nat) : Int) := ⟨by decide +kernel, rfl, rfl⟩
theorem dX7_round_99 : decode cX7_round 99 = .ok (.iconst 1, 1) ∧ 99 + 1 = 100 := ⟨by decide +kernel, rfl⟩
theorem dX7_round_100 : decode cX7_round 100 = .ok (.goto 4, 3) ∧ ((100 : Nat) : Int) + 4 = ((104 : Nat) : Int) := ⟨by decide +kernel, rfl⟩
theorem dX7_round_103 : decode cX7_round 103 = .ok (.iconst 0, 1) ∧ 103 + 1 = 104 := ⟨by decide +kernel, rfl⟩
theorem dX7_round_104 : decode cX7_round 104 = .ok (.iadd, 1) ∧ 104 + 1 = 105 := ⟨by decide +kernel, rfl⟩
theorem dX7_round_105 : decode cX7_round 105 = .ok (.istore_n 1, 1) ∧ 105 + 1 = 106 := ⟨by decide +kernel, rfl⟩
theorem dX7_round_106 : decode cX7_round 106 = .ok (.aload_n 0, 1) ∧ 106 + 1 = 107 := ⟨by decide +kernel, rfl⟩
theorem dX7_round_107 : decode cX7_round 107 = .ok (.iload_n 2, 1) ∧ 107 + 1 = 108 := ⟨by decide +kernel, rfl⟩
theorem dX7_round_108 : decode cX7_round 108 = .ok (.invokevirtual 241, 3) ∧ 108 + 3 = 111 := ⟨by decide +kernel, rfl⟩
theorem dX7_round_111 : decode cX7_round 111 = .ok (.iinc 2 1, 3) ∧ 111 + 3 = 114 := ⟨by decide +kernel, rfl⟩
theorem dX7_round_114 : decode cX7_round 114 = .ok (.goto (-48), 3) ∧ ((114 : Nat) : Int) + (-48) = ((66 : Nat) : Int) := ⟨by decide +kernel, rfl⟩
theorem dX7_round_117 : decode cX7_round 117 = .ok (.iload_n 1, 1) ∧ 117 + 1 = 118 := ⟨by decide +kernel, rfl⟩
theorem dX7_round_118 : decode cX7_round 118 = .ok (.ireturn, 1) ∧ 118 + 1 = 119 := ⟨by decide +kernel, rfl⟩
theorem dX7_notes_0 : decode cX7_notes 0 = .ok (.aload_n 0, 1) ∧ 0 + 1 = 1 := ⟨by decide +kernel, rfl⟩
theorem dX7_notes_1 : decode cX7_notes 1 = .ok (.getfield 31, 3) ∧ 1 + 3 = 4 := ⟨by decide +kernel, rfl⟩
theorem dX7_notes_4 : decode cX7_notes 4 = .ok (.iload_n 1, 1) ∧ 4 + 1 = 5 := ⟨by decide +kernel, rfl⟩
theorem dX7_notes_5 : decode cX7_notes 5 = .ok (.iaload, 1) ∧ 5 + 1 = 6 := ⟨by decide +kernel, rfl⟩
theorem dX7_notes_6 : decode cX7_notes 6 = .ok (.bipush (-9), 2) ∧ 6 + 2 = 8 := ⟨by decide +kernel, rfl⟩
theorem dX7_notes_8 : decode cX7_notes 8 = .ok (.if_icmp .eq 68, 3) ∧ 8 + 3 = 11 ∧ ((8 : Nat) : Int) + 68 = ((76 : Nat) : Int) := ⟨by decide +kernel, rfl, rfl⟩
theorem dX7_notes_11 : decode cX7_notes 11 = .ok (.aload_n 0, 1) ∧ 11 + 1 = 12 := ⟨by decide +kernel, rfl⟩
theorem dX7_notes_12 : decode cX7_notes 12 = .ok (.iload_n 1, 1) ∧ 12 + 1 = 13 := ⟨by decide +kernel, rfl⟩
theorem dX7_notes_13 : decode cX7_notes 13 = .ok (.iconst 5, 1) ∧ 13 + 1 = 14 := ⟨by decide +kernel, rfl⟩
theorem dX7_notes_14 : decode cX7_notes 14 = .ok (.aload_n 0, 1) ∧ 14 + 1 = 15 := ⟨by decide +kernel, rfl⟩
theorem dX7_notes_15 : decode cX7_notes 15 = .ok (.getfield 31, 3) ∧ 15 + 3 = 18 := ⟨by decide +kernel, rfl⟩
theorem dX7_notes_18 : decode cX7_notes 18 = .ok (.iload_n 1, 1) ∧ 18 + 1 = 19 := ⟨by decide +kernel, rfl⟩
theorem dX7_notes_19 : decode cX7_notes 19 = .ok (.iaload, 1) ∧ 19 + 1 = 20 := ⟨by decide +kernel, rfl⟩
theorem dX7_notes_20 : decode cX7_notes 20 = .ok (.invokevirtual 84, 3) ∧ 20 + 3 = 23 := ⟨by decide +kernel, rfl⟩
theorem dX7_notes_23 : decode cX7_notes 23 = .ok (.aload_n 0, 1) ∧ 23 + 1 = 24 := ⟨by decide +kernel, rfl⟩
theorem dX7_notes_24 : decode cX7_notes 24 = .ok (.iload_n 1, 1) ∧ 24 + 1 = 25 := ⟨by decide +kernel, rfl⟩
theorem dX7_notes_25 : decode cX7_notes 25 = .ok (.bipush 6, 2) ∧ 25 + 2 = 27 := ⟨by decide +kernel, rfl⟩
theorem dX7_notes_27 : decode cX7_notes 27 = .ok (.aload_n 0, 1) ∧ 27 + 1 = 28 := ⟨by decide +kernel, rfl⟩
theorem dX7_notes_28 : decode cX7_notes 28 = .ok (.getfield 34, 3) ∧ 28 + 3 = 31 := ⟨by decide +kernel, rfl⟩
theorem dX7_notes_31 : decode cX7_notes 31 = .ok (.iload_n 1, 1) ∧ 31 + 1 = 32 := ⟨by decide +kernel, rfl⟩
theorem dX7_notes_32 : decode cX7_notes 32 = .ok (.iaload, 1) ∧ 32 + 1 = 33 := ⟨by decide +kernel, rfl⟩
theorem dX7_notes_33 : decode cX7_notes 33 = .ok (.invokevirtual 84, 3) ∧ 33 + 3 = 36 := ⟨by decide +kernel, rfl⟩
theorem dX7_notes_36 : decode cX7_notes 36 = .ok (.aload_n 0, 1) ∧ 36 + 1 = 37 := ⟨by decide +kernel, rfl⟩
theorem dX7_notes_37 : decode cX7_notes 37 = .ok (.iload_n 1, 1) ∧ 37 + 1 = 38 := ⟨by decide +kernel, rfl⟩
theorem dX7_notes_38 : decode cX7_notes 38 = .ok (.bipush 7, 2) ∧ 38 + 2 = 40 := ⟨by decide +kernel, rfl⟩
theorem dX7_notes_40 : decode cX7_notes 40 = .ok (.aload_n 0, 1) ∧ 40 + 1 = 41 := ⟨by decide +kernel, rfl⟩
theorem dX7_notes_41 : decode cX7_notes 41 = .ok (.getfield 37, 3) ∧ 41 + 3 = 44 := ⟨by decide +kernel, rfl⟩
theorem dX7_notes_44 : decode cX7_notes 44 = .ok (.iload_n 1, 1) ∧ 44 + 1 = 45 := ⟨by decide +kernel, rfl⟩
theorem dX7_notes_45 : decode cX7_notes 45 = .ok (.baload, 1) ∧ 45 + 1 = 46 := ⟨by decide +kernel, rfl⟩
theorem dX7_notes_46 : decode cX7_notes 46 = .ok (.ifCond .eq 7, 3) ∧ 46 + 3 = 49 ∧ ((46 : Nat) : Int) + 7 = ((53 : Nat) : Int) := ⟨by decide +kernel, rfl, rfl⟩
theorem dX7_notes_49 : decode cX7_notes 49 = .ok (.iconst 1, 1) ∧ 49 + 1 = 50 := ⟨by decide +kernel, rfl⟩
theorem dX7_notes_50 : decode cX7_notes 50 = .ok (.goto 4, 3) ∧ ((50 : Nat) : Int) + 4 = ((54 : Nat) : Int) := ⟨by decide +kernel, rfl⟩
theorem dX7_notes_53 : decode cX7_notes 53 = .ok (.iconst 0, 1) ∧ 53 + 1 = 54 := ⟨by decide +kernel, rfl⟩
theorem dX7_notes_54 : decode cX7_notes 54 = .ok (.invokevirtual 84, 3) ∧ 54 + 3 = 57 := ⟨by decide +kernel, rfl⟩
theorem dX7_notes_57 : decode cX7_notes 57 = .ok (.aload_n 0, 1) ∧ 57 + 1 = 58 := ⟨by decide +kernel, rfl⟩
theorem dX7_notes_58 : decode cX7_notes 58 = .ok (.iload_n 1, 1) ∧ 58 + 1 = 59 := ⟨by decide +kernel, rfl⟩
theorem dX7_notes_59 : decode cX7_notes 59 = .ok (.iconst 4, 1) ∧ 59 + 1 = 60 := ⟨by decide +kernel, rfl⟩
theorem dX7_notes_60 : decode cX7_notes 60 = .ok (.invokevirtual 103, 3) ∧ 60 + 3 = 63 := ⟨by decide +kernel, rfl⟩
theorem dX7_notes_63 : decode cX7_notes 63 = .ok (.ifCond .ne 35, 3) ∧ 63 + 3 = 66 ∧ ((63 : Nat) : Int) + 35 = ((98 : Nat) : Int) := ⟨by decide +kernel, rfl, rfl⟩
theorem dX7_notes_66 : decode cX7_notes 66 = .ok (.aload_n 0, 1) ∧ 66 + 1 = 67 := ⟨by decide +kernel, rfl⟩
theorem dX7_notes_67 : decode cX7_notes 67 = .ok (.iload_n 1, 1) ∧ 67 + 1 = 68 := ⟨by decide +kernel, rfl⟩
theorem dX7_notes_68 : decode cX7_notes 68 = .ok (.iconst 4, 1) ∧ 68 + 1 = 69 := ⟨by decide +kernel, rfl⟩
theorem dX7_notes_69 : decode cX7_notes 69 = .ok (.iconst 1, 1) ∧ 69 + 1 = 70 := ⟨by decide +kernel, rfl⟩
theorem dX7_notes_70 : decode cX7_notes 70 = .ok (.invokevirtual 84, 3) ∧ 70 + 3 = 73 := ⟨by decide +kernel, rfl⟩
theorem dX7_notes_73 : decode cX7_notes 73 = .ok (.goto 25, 3) ∧ ((73 : Nat) : Int) + 25 = ((98 : Nat) : Int) := ⟨by decide +kernel, rfl⟩
theorem dX7_notes_76 : decode cX7_notes 76 = .ok (.aload_n 0, 1) ∧ 76 + 1 = 77 := ⟨by decide +kernel, rfl⟩
theorem dX7_notes_77 : decode cX7_notes 77 = .ok (.iload_n 1, 1) ∧ 77 + 1 = 78 := ⟨by decide +kernel, rfl⟩
theorem dX7_notes_78 : decode cX7_notes 78 = .ok (.iconst 4, 1) ∧ 78 + 1 = 79 := ⟨by decide +kernel, rfl⟩
theorem dX7_notes_79 : decode cX7_notes 79 = .ok (.invokevirtual 103, 3) ∧ 79 + 3 = 82 := ⟨by decide +kernel, rfl⟩
theorem dX7_notes_82 : decode cX7_notes 82 = .ok (.iconst 2, 1) ∧ 82 + 1 = 83 := ⟨by decide +kernel, rfl⟩
theorem dX7_notes_83 : decode cX7_notes 83 = .ok (.if_icmp .ne 15, 3) ∧ 83 + 3 = 86 ∧ ((83 : Nat) : Int) + 15 = ((98 : Nat) : Int) := ⟨by decide +kernel, rfl, rfl⟩
theorem dX7_notes_86 : decode cX7_notes 86 = .ok (.aload_n 0, 1) ∧ 86 + 1 = 87 := ⟨by decide +kernel, rfl⟩
theorem dX7_notes_87 : decode cX7_notes 87 = .ok (.iload_n 1, 1) ∧ 87 + 1 = 88 := ⟨by decide +kernel, rfl⟩
theorem dX7_notes_88 : decode cX7_notes 88 = .ok (.iconst 4, 1) ∧ 88 + 1 = 89 := ⟨by decide +kernel, rfl⟩
theorem dX7_notes_89 : decode cX7_notes 89 = .ok (.iconst 0, 1) ∧ 89 + 1 = 90 := ⟨by decide +kernel, rfl⟩
theorem dX7_notes_90 : decode cX7_notes 90 = .ok (.invokevirtual 84, 3) ∧ 90 + 3 = 93 := ⟨by decide +kernel, rfl⟩
theorem dX7_notes_93 : decode cX7_notes 93 = .ok (.aload_n 0, 1) ∧ 93 + 1 = 94 := ⟨by decide +kernel, rfl⟩
theorem dX7_notes_94 : decode cX7_notes 94 = .ok (.iload_n 1, 1) ∧ 94 + 1 = 95 := ⟨by decide +kernel, rfl⟩
theorem dX7_notes_95 : decode cX7_notes 95 = .ok (.invokevirtual 88, 3) ∧ 95 + 3 = 98 := ⟨by decide +kernel, rfl⟩
theorem dX7_notes_98 : decode cX7_notes 98 = .ok (.return_, 1) ∧ 98 + 1 = 99 := ⟨by decide +kernel, rfl⟩
theorem dX7_answer_0 : decode cX7_answer 0 = .ok (.aload_n 0, 1) ∧ 0 + 1 = 1 := ⟨by decide +kernel, rfl⟩
theorem dX7_answer_1 : decode cX7_answer 1 = .ok (.iload_n 1, 1) ∧ 1 + 1 = 2 := ⟨by decide +kernel, rfl⟩
theorem dX7_answer_2 : decode cX7_answer 2 = .ok (.invokevirtual 92, 3) ∧ 2 + 3 = 5 := ⟨by decide +kernel, rfl⟩
theorem dX7_answer_5 : decode cX7_answer 5 = .ok (.ifCond .ne 5, 3) ∧ 5 + 3 = 8 ∧ ((5 : Nat) : Int) + 5 = ((10 : Nat) : Int) := ⟨by decide +kernel, rfl, rfl⟩
theorem dX7_answer_8 : decode cX7_answer 8 = .ok (.iconst (-1), 1) ∧ 8 + 1 = 9 := ⟨by decide +kernel, rfl⟩
theorem dX7_answer_9 : decode cX7_answer 9 = .ok (.ireturn, 1) ∧ 9 + 1 = 10 := ⟨by decide +kernel, rfl⟩
theorem dX7_answer_10 : decode cX7_answer 10 = .ok (.iload_n 2, 1) ∧ 10 + 1 = 11 := ⟨by decide +kernel, rfl⟩
theorem dX7_answer_11 : decode cX7_answer 11 = .ok (.iconst 0, 1) ∧ 11 + 1 = 12 := ⟨by decide +kernel, rfl⟩
theorem dX7_answer_12 : decode cX7_answer 12 = .ok (.iconst 2, 1) ∧ 12 + 1 = 13 := ⟨by decide +kernel, rfl⟩
theorem dX7_answer_13 : decode cX7_answer 13 = .ok (.invokestatic 66, 3) ∧ 13 + 3 = 16 := ⟨by decide +kernel, rfl⟩
theorem dX7_answer_16 : decode cX7_answer 16 = .ok (.ifCond .ne 6, 3) ∧ 16 + 3 = 19 ∧ ((16 : Nat) : Int) + 6 = ((22 : Nat) : Int) := ⟨by decide +kernel, rfl, rfl⟩
theorem dX7_answer_19 : decode cX7_answer 19 = .ok (.bipush (-2), 2) ∧ 19 + 2 = 21 := ⟨by decide +kernel, rfl⟩
theorem dX7_answer_21 : decode cX7_answer 21 = .ok (.ireturn, 1) ∧ 21 + 1 = 22 := ⟨by decide +kernel, rfl⟩
theorem dX7_answer_22 : decode cX7_answer 22 = .ok (.aload_n 0, 1) ∧ 22 + 1 = 23 := ⟨by decide +kernel, rfl⟩
theorem dX7_answer_23 : decode cX7_answer 23 = .ok (.iload_n 1, 1) ∧ 23 + 1 = 24 := ⟨by decide +kernel, rfl⟩
theorem dX7_answer_24 : decode cX7_answer 24 = .ok (.iconst 4, 1) ∧ 24 + 1 = 25 := ⟨by decide +kernel, rfl⟩
theorem dX7_answer_25 : decode cX7_answer 25 = .ok (.invokevirtual 103, 3) ∧ 25 + 3 = 28 := ⟨by decide +kernel, rfl⟩
theorem dX7_answer_28 : decode cX7_answer 28 = .ok (.iconst 1, 1) ∧ 28 + 1 = 29 := ⟨by decide +kernel, rfl⟩
theorem dX7_answer_29 : decode cX7_answer 29 = .ok (.if_icmp .eq 16, 3) ∧ 29 + 3 = 32 ∧ ((29 : Nat) : Int) + 16 = ((45 : Nat) : Int) := ⟨by decide +kernel, rfl, rfl⟩
theorem dX7_answer_32 : decode cX7_answer 32 = .ok (.aload_n 0, 1) ∧ 32 + 1 = 33 := ⟨by decide +kernel, rfl⟩
theorem dX7_answer_33 : decode cX7_answer 33 = .ok (.iload_n 1, 1) ∧ 33 + 1 = 34 := ⟨by decide +kernel, rfl⟩
theorem dX7_answer_34 : decode cX7_answer 34 = .ok (.iconst 4, 1) ∧ 34 + 1 = 35 := ⟨by decide +kernel, rfl⟩
theorem dX7_answer_35 : decode cX7_answer 35 = .ok (.invokevirtual 103, 3) ∧ 35 + 3 = 38 := ⟨by decide +kernel, rfl⟩
theorem dX7_answer_38 : decode cX7_answer 38 = .ok (.iconst 2, 1) ∧ 38 + 1 = 39 := ⟨by decide +kernel, rfl⟩
theorem dX7_answer_39 : decode cX7_answer 39 = .ok (.if_icmp .eq 6, 3) ∧ 39 + 3 = 42 ∧ ((39 : Nat) : Int) + 6 = ((45 : Nat) : Int) := ⟨by decide +kernel, rfl, rfl⟩
theorem dX7_answer_42 : decode cX7_answer 42 = .ok (.bipush (-3), 2) ∧ 42 + 2 = 44 := ⟨by decide +kernel, rfl⟩
theorem dX7_answer_44 : decode cX7_answer 44 = .ok (.ireturn, 1) ∧ 44 + 1 = 45 := ⟨by decide +kernel, rfl⟩
theorem dX7_answer_45 : decode cX7_answer 45 = .ok (.aload_n 0, 1) ∧ 45 + 1 = 46 := ⟨by decide +kernel, rfl⟩
theorem dX7_answer_46 : decode cX7_answer 46 = .ok (.bipush 8, 2) ∧ 46 + 2 = 48 := ⟨by decide +kernel, rfl⟩
theorem dX7_answer_48 : decode cX7_answer 48 = .ok (.iload_n 1, 1) ∧ 48 + 1 = 49 := ⟨by decide +kernel, rfl⟩
theorem dX7_answer_49 : decode cX7_answer 49 = .ok (.imul, 1) ∧ 49 + 1 = 50 := ⟨by decide +kernel, rfl⟩
theorem dX7_answer_50 : decode cX7_answer 50 = .ok (.iconst 4, 1) ∧ 50 + 1 = 51 := ⟨by decide +kernel, rfl⟩
theorem dX7_answer_51 : decode cX7_answer 51 = .ok (.iadd, 1) ∧ 51 + 1 = 52 := ⟨by decide +kernel, rfl⟩
theorem dX7_answer_52 : decode cX7_answer 52 = .ok (.iload_n 2, 1) ∧ 52 + 1 = 53 := ⟨by decide +kernel, rfl⟩
theorem dX7_answer_53 : decode cX7_answer 53 = .ok (.ifCond .ne 7, 3) ∧ 53 + 3 = 56 ∧ ((53 : Nat) : Int) + 7 = ((60 : Nat) : Int) := ⟨by decide +kernel, rfl, rfl⟩
theorem dX7_answer_56 : decode cX7_answer 56 = .ok (.iconst 4, 1) ∧ 56 + 1 = 57 := ⟨by decide +kernel, rfl⟩
theorem dX7_answer_57 : decode cX7_answer 57 = .ok (.goto 13, 3) ∧ ((57 : Nat) : Int) + 13 = ((70 : Nat) : Int) := ⟨by decide +kernel, rfl⟩
theorem dX7_answer_60 : decode cX7_answer 60 = .ok (.iload_n 2, 1) ∧ 60 + 1 = 61 := ⟨by decide +kernel, rfl⟩
theorem dX7_answer_61 : decode cX7_answer 61 = .ok (.iconst 1, 1) ∧ 61 + 1 = 62 := ⟨by decide +kernel, rfl⟩
theorem dX7_answer_62 : decode cX7_answer 62 = .ok (.if_icmp .ne 7, 3) ∧ 62 + 3 = 65 ∧ ((62 : Nat) : Int) + 7 = ((69 : Nat) : Int) := ⟨by decide +kernel, rfl, rfl⟩
theorem dX7_answer_65 : decode cX7_answer 65 = .ok (.iconst 2, 1) ∧ 65 + 1 = 66 := ⟨by decide +kernel, rfl⟩
theorem dX7_answer_66 : decode cX7_answer 66 = .ok (.goto 4, 3) ∧ ((66 : Nat) : Int) + 4 = ((70 : Nat) : Int) := ⟨by decide +kernel, rfl⟩
theorem dX7_answer_69 : decode cX7_answer 69 = .ok (.iconst 3, 1) ∧ 69 + 1 = 70 := ⟨by decide +kernel, rfl⟩
theorem dX7_answer_70 : decode cX7_answer 70 = .ok (.invokevirtual 95, 3) ∧ 70 + 3 = 73 := ⟨by decide +kernel, rfl⟩
theorem dX7_answer_73 : decode cX7_answer 73 = .ok (.istore_n 3, 1) ∧ 73 + 1 = 74 := ⟨by decide +kernel, rfl⟩
theorem dX7_answer_74 : decode cX7_answer 74 = .ok (.iload_n 2, 1) ∧ 74 + 1 = 75 := ⟨by decide +kernel, rfl⟩
theorem dX7_answer_75 : decode cX7_answer 75 = .ok (.ifCond .ne 8, 3) ∧ 75 + 3 = 78 ∧ ((75 : Nat) : Int) + 8 = ((83 : Nat) : Int) := ⟨by decide +kernel, rfl, rfl⟩
theorem dX7_answer_78 : decode cX7_answer 78 = .ok (.aload_n 0, 1) ∧ 78 + 1 = 79 := ⟨by decide +kernel, rfl⟩
theorem dX7_answer_79 : decode cX7_answer 79 = .ok (.iload_n 1, 1) ∧ 79 + 1 = 80 := ⟨by decide +kernel, rfl⟩
theorem dX7_answer_80 : decode cX7_answer 80 = .ok (.invokevirtual 88, 3) ∧ 80 + 3 = 83 := ⟨by decide +kernel, rfl⟩
theorem dX7_answer_83 : decode cX7_answer 83 = .ok (.iload_n 3, 1) ∧ 83 + 1 = 84 := ⟨by decide +kernel, rfl⟩
theorem dX7_answer_84 : decode cX7_answer 84 = .ok (.ireturn, 1) ∧ 84 + 1 = 85 := ⟨by decide +kernel, rfl⟩
theorem dX7_again_0 : decode cX7_again 0 = .ok (.aload_n 0, 1) ∧ 0 + 1 = 1 := ⟨by decide +kernel, rfl⟩
theorem dX7_again_1 : decode cX7_again 1 = .ok (.iload_n 1, 1) ∧ 1 + 1 = 2 := ⟨by decide +kernel, rfl⟩
theorem dX7_again_2 : decode cX7_again 2 = .ok (.invokevirtual 92, 3) ∧ 2 + 3 = 5 := ⟨by decide +kernel, rfl⟩
theorem dX7_again_5 : decode cX7_again 5 = .ok (.ifCond .ne 5, 3) ∧ 5 + 3 = 8 ∧ ((5 : Nat) : Int) + 5 = ((10 : Nat) : Int) := ⟨by decide +kernel, rfl, rfl⟩
theorem dX7_again_8 : decode cX7_again 8 = .ok (.iconst (-1), 1) ∧ 8 + 1 = 9 := ⟨by decide +kernel, rfl⟩
theorem dX7_again_9 : decode cX7_again 9 = .ok (.ireturn, 1) ∧ 9 + 1 = 10 := ⟨by decide +kernel, rfl⟩
theorem dX7_again_10 : decode cX7_again 10 = .ok (.aload_n 0, 1) ∧ 10 + 1 = 11 := ⟨by decide +kernel, rfl⟩
theorem dX7_again_11 : decode cX7_again 11 = .ok (.iload_n 1, 1) ∧ 11 + 1 = 12 := ⟨by decide +kernel, rfl⟩
theorem dX7_again_12 : decode cX7_again 12 = .ok (.iconst 4, 1) ∧ 12 + 1 = 13 := ⟨by decide +kernel, rfl⟩
theorem dX7_again_13 : decode cX7_again 13 = .ok (.invokevirtual 103, 3) ∧ 13 + 3 = 16 := ⟨by decide +kernel, rfl⟩
theorem dX7_again_16 : decode cX7_again 16 = .ok (.iconst 4, 1) ∧ 16 + 1 = 17 := ⟨by decide +kernel, rfl⟩
theorem dX7_again_17 : decode cX7_again 17 = .ok (.if_icmp .eq 6, 3) ∧ 17 + 3 = 20 ∧ ((17 : Nat) : Int) + 6 = ((23 : Nat) : Int) := ⟨by decide +kernel, rfl, rfl⟩
theorem dX7_again_20 : decode cX7_again 20 = .ok (.bipush (-3), 2) ∧ 20 + 2 = 22 := ⟨by decide +kernel, rfl⟩
theorem dX7_again_22 : decode cX7_again 22 = .ok (.ireturn, 1) ∧ 22 + 1 = 23 := ⟨by decide +kernel, rfl⟩
theorem dX7_again_23 : decode cX7_again 23 = .ok (.aload_n 0, 1) ∧ 23 + 1 = 24 := ⟨by decide +kernel, rfl⟩
theorem dX7_again_24 : decode cX7_again 24 = .ok (.bipush 8, 2) ∧ 24 + 2 = 26 := ⟨by decide +kernel, rfl⟩
theorem dX7_again_26 : decode cX7_again 26 = .ok (.iload_n 1, 1) ∧ 26 + 1 = 27 := ⟨by decide +kernel, rfl⟩
theorem dX7_again_27 : decode cX7_again 27 = .ok (.imul, 1) ∧ 27 + 1 = 28 := ⟨by decide +kernel, rfl⟩
theorem dX7_again_28 : decode cX7_again 28 = .ok (.iconst 4, 1) ∧ 28 + 1 = 29 := ⟨by decide +kernel, rfl⟩
theorem dX7_again_29 : decode cX7_again 29 = .ok (.iadd, 1) ∧ 29 + 1 = 30 := ⟨by decide +kernel, rfl⟩
theorem dX7_again_30 : decode cX7_again 30 = .ok (.iconst 0, 1) ∧ 30 + 1 = 31 := ⟨by decide +kernel, rfl⟩
theorem dX7_again_31 : decode cX7_again 31 = .ok (.invokevirtual 95, 3) ∧ 31 + 3 = 34 := ⟨by decide +kernel, rfl⟩
theorem dX7_again_34 : decode cX7_again 34 = .ok (.pop, 1) ∧ 34 + 1 = 35 := ⟨by decide +kernel, rfl⟩
theorem dX7_again_35 : decode cX7_again 35 = .ok (.aload_n 0, 1) ∧ 35 + 1 = 36 := ⟨by decide +kernel, rfl⟩
theorem dX7_again_36 : decode cX7_again 36 = .ok (.iload_n 1, 1) ∧ 36 + 1 = 37 := ⟨by decide +kernel, rfl⟩
theorem dX7_again_37 : decode cX7_again 37 = .ok (.invokevirtual 88, 3) ∧ 37 + 3 = 40 := ⟨by decide +kernel, rfl⟩
theorem dX7_again_40 : decode cX7_again 40 = .ok (.iconst 1, 1) ∧ 40 + 1 = 41 := ⟨by decide +kernel, rfl⟩
theorem dX7_again_41 : decode cX7_again 41 = .ok (.ireturn, 1) ∧ 41 + 1 = 42 := ⟨by decide +kernel, rfl⟩
theorem dX7_note_0 : decode cX7_note 0 = .ok (.aload_n 0, 1) ∧ 0 + 1 = 1 := ⟨by decide +kernel, rfl⟩
theorem dX7_note_1 : decode cX7_note 1 = .ok (.iload_n 1, 1) ∧ 1 + 1 = 2 := ⟨by decide +kernel, rfl⟩
theorem dX7_note_2 : decode cX7_note 2 = .ok (.invokevirtual 92, 3) ∧ 2 + 3 = 5 := ⟨by decide +kernel, rfl⟩
theorem dX7_note_5 : decode cX7_note 5 = .ok (.ifCond .ne 5, 3) ∧ 5 + 3 = 8 ∧ ((5 : Nat) : Int) + 5 = ((10 : Nat) : Int) := ⟨by decide +kernel, rfl, rfl⟩
theorem dX7_note_8 : decode cX7_note 8 = .ok (.iconst (-1), 1) ∧ 8 + 1 = 9 := ⟨by decide +kernel, rfl⟩
theorem dX7_note_9 : decode cX7_note 9 = .ok (.ireturn, 1) ∧ 9 + 1 = 10 := ⟨by decide +kernel, rfl⟩
theorem dX7_note_10 : decode cX7_note 10 = .ok (.iload_n 2, 1) ∧ 10 + 1 = 11 := ⟨by decide +kernel, rfl⟩
theorem dX7_note_11 : decode cX7_note 11 = .ok (.iconst 0, 1) ∧ 11 + 1 = 12 := ⟨by decide +kernel, rfl⟩
theorem dX7_note_12 : decode cX7_note 12 = .ok (.iconst 2, 1) ∧ 12 + 1 = 13 := ⟨by decide +kernel, rfl⟩
theorem dX7_note_13 : decode cX7_note 13 = .ok (.invokestatic 66, 3) ∧ 13 + 3 = 16 := ⟨by decide +kernel, rfl⟩
theorem dX7_note_16 : decode cX7_note 16 = .ok (.ifCond .eq 14, 3) ∧ 16 + 3 = 19 ∧ ((16 : Nat) : Int) + 14 = ((30 : Nat) : Int) := ⟨by decide +kernel, rfl, rfl⟩
theorem dX7_note_19 : decode cX7_note 19 = .ok (.aload_n 0, 1) ∧ 19 + 1 = 20 := ⟨by decide +kernel, rfl⟩
theorem dX7_note_20 : decode cX7_note 20 = .ok (.iload_n 1, 1) ∧ 20 + 1 = 21 := ⟨by decide +kernel, rfl⟩
theorem dX7_note_21 : decode cX7_note 21 = .ok (.iconst 5, 1) ∧ 21 + 1 = 22 := ⟨by decide +kernel, rfl⟩
theorem dX7_note_22 : decode cX7_note 22 = .ok (.iload_n 2, 1) ∧ 22 + 1 = 23 := ⟨by decide +kernel, rfl⟩
theorem dX7_note_23 : decode cX7_note 23 = .ok (.iadd, 1) ∧ 23 + 1 = 24 := ⟨by decide +kernel, rfl⟩
theorem dX7_note_24 : decode cX7_note 24 = .ok (.invokevirtual 103, 3) ∧ 24 + 3 = 27 := ⟨by decide +kernel, rfl⟩
theorem dX7_note_27 : decode cX7_note 27 = .ok (.goto 5, 3) ∧ ((27 : Nat) : Int) + 5 = ((32 : Nat) : Int) := ⟨by decide +kernel, rfl⟩
theorem dX7_note_30 : decode cX7_note 30 = .ok (.bipush (-2), 2) ∧ 30 + 2 = 32 := ⟨by decide +kernel, rfl⟩
theorem dX7_note_32 : decode cX7_note 32 = .ok (.ireturn, 1) ∧ 32 + 1 = 33 := ⟨by decide +kernel, rfl⟩
theorem dX7_standing_0 : decode cX7_standing 0 = .ok (.iconst 0, 1) ∧ 0 + 1 = 1 := ⟨by decide +kernel, rfl⟩
theorem dX7_standing_1 : decode cX7_standing 1 = .ok (.istore_n 3, 1) ∧ 1 + 1 = 2 := ⟨by decide +kernel, rfl⟩
theorem dX7_standing_2 : decode cX7_standing 2 = .ok (.iconst 0, 1) ∧ 2 + 1 = 3 := ⟨by decide +kernel, rfl⟩
theorem dX7_standing_3 : decode cX7_standing 3 = .ok (.istore 4, 2) ∧ 3 + 2 = 5 := ⟨by decide +kernel, rfl⟩
theorem dX7_standing_5 : decode cX7_standing 5 = .ok (.iload 4, 2) ∧ 5 + 2 = 7 := ⟨by decide +kernel, rfl⟩
theorem dX7_standing_7 : decode cX7_standing 7 = .ok (.aload_n 0, 1) ∧ 7 + 1 = 8 := ⟨by decide +kernel, rfl⟩
theorem dX7_standing_8 : decode cX7_standing 8 = .ok (.getfield 7, 3) ∧ 8 + 3 = 11 := ⟨by decide +kernel, rfl⟩
theorem dX7_standing_11 : decode cX7_standing 11 = .ok (.sipush 157, 3) ∧ 11 + 3 = 14 := ⟨by decide +kernel, rfl⟩
theorem dX7_standing_14 : decode cX7_standing 14 = .ok (.iaload, 1) ∧ 14 + 1 = 15 := ⟨by decide +kernel, rfl⟩
theorem dX7_standing_15 : decode cX7_standing 15 = .ok (.if_icmp .ge 32, 3) ∧ 15 + 3 = 18 ∧ ((15 : Nat) : Int) + 32 = ((47 : Nat) : Int) := ⟨by decide +kernel, rfl, rfl⟩
theorem dX7_standing_18 : decode cX7_standing 18 = .ok (.iload_n 3, 1) ∧ 18 + 1 = 19 := ⟨by decide +kernel, rfl⟩
theorem dX7_standing_19 : decode cX7_standing 19 = .ok (.aload_n 0, 1) ∧ 19 + 1 = 20 := ⟨by decide +kernel, rfl⟩
theorem dX7_standing_20 : decode cX7_standing 20 = .ok (.iload 4, 2) ∧ 20 + 2 = 22 := ⟨by decide +kernel, rfl⟩
theorem dX7_standing_22 : decode cX7_standing 22 = .ok (.iconst 4, 1) ∧ 22 + 1 = 23 := ⟨by decide +kernel, rfl⟩
theorem dX7_standing_23 : decode cX7_standing 23 = .ok (.invokevirtual 103, 3) ∧ 23 + 3 = 26 := ⟨by decide +kernel, rfl⟩
theorem dX7_standing_26 : decode cX7_standing 26 = .ok (.iload_n 1, 1) ∧ 26 + 1 = 27 := ⟨by decide +kernel, rfl⟩
theorem dX7_standing_27 : decode cX7_standing 27 = .ok (.iload_n 2, 1) ∧ 27 + 1 = 28 := ⟨by decide +kernel, rfl⟩
theorem dX7_standing_28 : decode cX7_standing 28 = .ok (.invokestatic 66, 3) ∧ 28 + 3 = 31 := ⟨by decide +kernel, rfl⟩
theorem dX7_standing_31 : decode cX7_standing 31 = .ok (.ifCond .eq 7, 3) ∧ 31 + 3 = 34 ∧ ((31 : Nat) : Int) + 7 = ((38 : Nat) : Int) := ⟨by decide +kernel, rfl, rfl⟩
theorem dX7_standing_34 : decode cX7_standing 34 = .ok (.iconst 1, 1) ∧ 34 + 1 = 35 := ⟨by decide +kernel, rfl⟩
theorem dX7_standing_35 : decode cX7_standing 35 = .ok (.goto 4, 3) ∧ ((35 : Nat) : Int) + 4 = ((39 : Nat) : Int) := ⟨by decide +kernel, rfl⟩
theorem dX7_standing_38 : decode cX7_standing 38 = .ok (.iconst 0, 1) ∧ 38 + 1 = 39 := ⟨by decide +kernel, rfl⟩
theorem dX7_standing_39 : decode cX7_standing 39 = .ok (.iadd, 1) ∧ 39 + 1 = 40 := ⟨by decide +kernel, rfl⟩
theorem dX7_standing_40 : decode cX7_standing 40 = .ok (.istore_n 3, 1) ∧ 40 + 1 = 41 := ⟨by decide +kernel, rfl⟩
theorem dX7_standing_41 : decode cX7_standing 41 = .ok (.iinc 4 1, 3) ∧ 41 + 3 = 44 := ⟨by decide +kernel, rfl⟩
theorem dX7_standing_44 : decode cX7_standing 44 = .ok (.goto (-39), 3) ∧ ((44 : Nat) : Int) + (-39) = ((5 : Nat) : Int) := ⟨by decide +kernel, rfl⟩
theorem dX7_standing_47 : decode cX7_standing 47 = .ok (.iload_n 3, 1) ∧ 47 + 1 = 48 := ⟨by decide +kernel, rfl⟩
theorem dX7_standing_48 : decode cX7_standing 48 = .ok (.ireturn, 1) ∧ 48 + 1 = 49 := ⟨by decide +kernel, rfl⟩
theorem dX7_many_0 : decode cX7_many 0 = .ok (.iload_n 1, 1) ∧ 0 + 1 = 1 := ⟨by decide +kernel, rfl⟩
theorem dX7_many_1 : decode cX7_many 1 = .ok (.tableswitch 112 0 7 #[47, 56, 63, 75, 84, 89, 98, 105], 47) := by decide +kernel
theorem dX7_many_48 : decode cX7_many 48 = .ok (.aload_n 0, 1) ∧ 48 + 1 = 49 := ⟨by decide +kernel, rfl⟩
theorem dX7_many_49 : decode cX7_many 49 = .ok (.getfield 7, 3) ∧ 49 + 3 = 52 := ⟨by decide +kernel, rfl⟩
theorem dX7_many_52 : decode cX7_many 52 = .ok (.sipush 157, 3) ∧ 52 + 3 = 55 := ⟨by decide +kernel, rfl⟩
theorem dX7_many_55 : decode cX7_many 55 = .ok (.iaload, 1) ∧ 55 + 1 = 56 := ⟨by decide +kernel, rfl⟩
theorem dX7_many_56 : decode cX7_many 56 = .ok (.ireturn, 1) ∧ 56 + 1 = 57 := ⟨by decide +kernel, rfl⟩
theorem dX7_many_57 : decode cX7_many 57 = .ok (.aload_n 0, 1) ∧ 57 + 1 = 58 := ⟨by decide +kernel, rfl⟩
theorem dX7_many_58 : decode cX7_many 58 = .ok (.iconst 0, 1) ∧ 58 + 1 = 59 := ⟨by decide +kernel, rfl⟩
theorem dX7_many_59 : decode cX7_many 59 = .ok (.iconst 2, 1) ∧ 59 + 1 = 60 := ⟨by decide +kernel, rfl⟩
theorem dX7_many_60 : decode cX7_many 60 = .ok (.invokevirtual 244, 3) ∧ 60 + 3 = 63 := ⟨by decide +kernel, rfl⟩
theorem dX7_many_63 : decode cX7_many 63 = .ok (.ireturn, 1) ∧ 63 + 1 = 64 := ⟨by decide +kernel, rfl⟩
theorem dX7_many_64 : decode cX7_many 64 = .ok (.aload_n 0, 1) ∧ 64 + 1 = 65 := ⟨by decide +kernel, rfl⟩
theorem dX7_many_65 : decode cX7_many 65 = .ok (.invokevirtual 184, 3) ∧ 65 + 3 = 68 := ⟨by decide +kernel, rfl⟩
theorem dX7_many_68 : decode cX7_many 68 = .ok (.aload_n 0, 1) ∧ 68 + 1 = 69 := ⟨by decide +kernel, rfl⟩
theorem dX7_many_69 : decode cX7_many 69 = .ok (.invokevirtual 213, 3) ∧ 69 + 3 = 72 := ⟨by decide +kernel, rfl⟩
theorem dX7_many_72 : decode cX7_many 72 = .ok (.invokestatic 217, 3) ∧ 72 + 3 = 75 := ⟨by decide +kernel, rfl⟩
theorem dX7_many_75 : decode cX7_many 75 = .ok (.ireturn, 1) ∧ 75 + 1 = 76 := ⟨by decide +kernel, rfl⟩
theorem dX7_many_76 : decode cX7_many 76 = .ok (.aload_n 0, 1) ∧ 76 + 1 = 77 := ⟨by decide +kernel, rfl⟩
theorem dX7_many_77 : decode cX7_many 77 = .ok (.getfield 7, 3) ∧ 77 + 3 = 80 := ⟨by decide +kernel, rfl⟩
theorem dX7_many_80 : decode cX7_many 80 = .ok (.sipush 158, 3) ∧ 80 + 3 = 83 := ⟨by decide +kernel, rfl⟩
theorem dX7_many_83 : decode cX7_many 83 = .ok (.iaload, 1) ∧ 83 + 1 = 84 := ⟨by decide +kernel, rfl⟩
theorem dX7_many_84 : decode cX7_many 84 = .ok (.ireturn, 1) ∧ 84 + 1 = 85 := ⟨by decide +kernel, rfl⟩
theorem dX7_many_85 : decode cX7_many 85 = .ok (.aload_n 0, 1) ∧ 85 + 1 = 86 := ⟨by decide +kernel, rfl⟩
theorem dX7_many_86 : decode cX7_many 86 = .ok (.getfield 74, 3) ∧ 86 + 3 = 89 := ⟨by decide +kernel, rfl⟩
theorem dX7_many_89 : decode cX7_many 89 = .ok (.ireturn, 1) ∧ 89 + 1 = 90 := ⟨by decide +kernel, rfl⟩
theorem dX7_many_90 : decode cX7_many 90 = .ok (.aload_n 0, 1) ∧ 90 + 1 = 91 := ⟨by decide +kernel, rfl⟩
theorem dX7_many_91 : decode cX7_many 91 = .ok (.invokevirtual 190, 3) ∧ 91 + 3 = 94 := ⟨by decide +kernel, rfl⟩
theorem dX7_many_94 : decode cX7_many 94 = .ok (.aload_n 0, 1) ∧ 94 + 1 = 95 := ⟨by decide +kernel, rfl⟩
theorem dX7_many_95 : decode cX7_many 95 = .ok (.invokevirtual 223, 3) ∧ 95 + 3 = 98 := ⟨by decide +kernel, rfl⟩
theorem dX7_many_98 : decode cX7_many 98 = .ok (.ireturn, 1) ∧ 98 + 1 = 99 := ⟨by decide +kernel, rfl⟩
theorem dX7_many_99 : decode cX7_many 99 = .ok (.aload_n 0, 1) ∧ 99 + 1 = 100 := ⟨by decide +kernel, rfl⟩
theorem dX7_many_100 : decode cX7_many 100 = .ok (.iconst 3, 1) ∧ 100 + 1 = 101 := ⟨by decide +kernel, rfl⟩
theorem dX7_many_101 : decode cX7_many 101 = .ok (.iconst 3, 1) ∧ 101 + 1 = 102 := ⟨by decide +kernel, rfl⟩
theorem dX7_many_102 : decode cX7_many 102 = .ok (.invokevirtual 244, 3) ∧ 102 + 3 = 105 := ⟨by decide +kernel, rfl⟩
theorem dX7_many_105 : decode cX7_many 105 = .ok (.ireturn, 1) ∧ 105 + 1 = 106 := ⟨by decide +kernel, rfl⟩
theorem dX7_many_106 : decode cX7_many 106 = .ok (.aload_n 0, 1) ∧ 106 + 1 = 107 := ⟨by decide +kernel, rfl⟩
theorem dX7_many_107 : decode cX7_many 107 = .ok (.iconst 4, 1) ∧ 107 + 1 = 108 := ⟨by decide +kernel, rfl⟩
theorem dX7_many_108 : decode cX7_many 108 = .ok (.iconst 4, 1) ∧ 108 + 1 = 109 := ⟨by decide +kernel, rfl⟩
theorem dX7_many_109 : decode cX7_many 109 = .ok (.invokevirtual 244, 3) ∧ 109 + 3 = 112 := ⟨by decide +kernel, rfl⟩
theorem dX7_many_112 : decode cX7_many 112 = .ok (.ireturn, 1) ∧ 112 + 1 = 113 := ⟨by decide +kernel, rfl⟩
theorem dX7_many_113 : decode cX7_many 113 = .ok (.bipush (-2), 2) ∧ 113 + 2 = 115 := ⟨by decide +kernel, rfl⟩
theorem dX7_many_115 : decode cX7_many 115 = .ok (.ireturn, 1) ∧ 115 + 1 = 116 := ⟨by decide +kernel, rfl⟩
