theorem dX6_init_0 : decode cX6_init 0 = .ok (.aload_n 0, 1) ∧ 0 + 1 = 1 := ⟨by decide +kernel, rfl⟩
theorem dX6_init_1 : decode cX6_init 1 = .ok (.invokespecial 3, 3) ∧ 1 + 3 = 4 := ⟨by decide +kernel, rfl⟩
theorem dX6_init_4 : decode cX6_init 4 = .ok (.aload_n 0, 1) ∧ 4 + 1 = 5 := ⟨by decide +kernel, rfl⟩
theorem dX6_init_5 : decode cX6_init 5 = .ok (.new 9, 3) ∧ 5 + 3 = 8 := ⟨by decide +kernel, rfl⟩
theorem dX6_init_8 : decode cX6_init 8 = .ok (.dup, 1) ∧ 8 + 1 = 9 := ⟨by decide +kernel, rfl⟩
theorem dX6_init_9 : decode cX6_init 9 = .ok (.invokespecial 11, 3) ∧ 9 + 3 = 12 := ⟨by decide +kernel, rfl⟩
theorem dX6_init_12 : decode cX6_init 12 = .ok (.putfield 12, 3) ∧ 12 + 3 = 15 := ⟨by decide +kernel, rfl⟩
theorem dX6_init_15 : decode cX6_init 15 = .ok (.aload_n 0, 1) ∧ 15 + 1 = 16 := ⟨by decide +kernel, rfl⟩
theorem dX6_init_16 : decode cX6_init 16 = .ok (.new 16, 3) ∧ 16 + 3 = 19 := ⟨by decide +kernel, rfl⟩
theorem dX6_init_19 : decode cX6_init 19 = .ok (.dup, 1) ∧ 19 + 1 = 20 := ⟨by decide +kernel, rfl⟩
theorem dX6_init_20 : decode cX6_init 20 = .ok (.invokespecial 18, 3) ∧ 20 + 3 = 23 := ⟨by decide +kernel, rfl⟩
theorem dX6_init_23 : decode cX6_init 23 = .ok (.putfield 19, 3) ∧ 23 + 3 = 26 := ⟨by decide +kernel, rfl⟩
theorem dX6_init_26 : decode cX6_init 26 = .ok (.aload_n 0, 1) ∧ 26 + 1 = 27 := ⟨by decide +kernel, rfl⟩
theorem dX6_init_27 : decode cX6_init 27 = .ok (.new 23, 3) ∧ 27 + 3 = 30 := ⟨by decide +kernel, rfl⟩
theorem dX6_init_30 : decode cX6_init 30 = .ok (.dup, 1) ∧ 30 + 1 = 31 := ⟨by decide +kernel, rfl⟩
theorem dX6_init_31 : decode cX6_init 31 = .ok (.invokespecial 25, 3) ∧ 31 + 3 = 34 := ⟨by decide +kernel, rfl⟩
theorem dX6_init_34 : decode cX6_init 34 = .ok (.putfield 26, 3) ∧ 34 + 3 = 37 := ⟨by decide +kernel, rfl⟩
theorem dX6_init_37 : decode cX6_init 37 = .ok (.aload_n 0, 1) ∧ 37 + 1 = 38 := ⟨by decide +kernel, rfl⟩
theorem dX6_init_38 : decode cX6_init 38 = .ok (.new 9, 3) ∧ 38 + 3 = 41 := ⟨by decide +kernel, rfl⟩
theorem dX6_init_41 : decode cX6_init 41 = .ok (.dup, 1) ∧ 41 + 1 = 42 := ⟨by decide +kernel, rfl⟩
theorem dX6_init_42 : decode cX6_init 42 = .ok (.invokespecial 11, 3) ∧ 42 + 3 = 45 := ⟨by decide +kernel, rfl⟩
theorem dX6_init_45 : decode cX6_init 45 = .ok (.putfield 30, 3) ∧ 45 + 3 = 48 := ⟨by decide +kernel, rfl⟩
theorem dX6_init_48 : decode cX6_init 48 = .ok (.aload_n 0, 1) ∧ 48 + 1 = 49 := ⟨by decide +kernel, rfl⟩
theorem dX6_init_49 : decode cX6_init 49 = .ok (.new 23, 3) ∧ 49 + 3 = 52 := ⟨by decide +kernel, rfl⟩
theorem dX6_init_52 : decode cX6_init 52 = .ok (.dup, 1) ∧ 52 + 1 = 53 := ⟨by decide +kernel, rfl⟩
theorem dX6_init_53 : decode cX6_init 53 = .ok (.invokespecial 25, 3) ∧ 53 + 3 = 56 := ⟨by decide +kernel, rfl⟩
theorem dX6_init_56 : decode cX6_init 56 = .ok (.putfield 33, 3) ∧ 56 + 3 = 59 := ⟨by decide +kernel, rfl⟩
theorem dX6_init_59 : decode cX6_init 59 = .ok (.aload_n 0, 1) ∧ 59 + 1 = 60 := ⟨by decide +kernel, rfl⟩
theorem dX6_init_60 : decode cX6_init 60 = .ok (.new 36, 3) ∧ 60 + 3 = 63 := ⟨by decide +kernel, rfl⟩
theorem dX6_init_63 : decode cX6_init 63 = .ok (.dup, 1) ∧ 63 + 1 = 64 := ⟨by decide +kernel, rfl⟩
theorem dX6_init_64 : decode cX6_init 64 = .ok (.invokespecial 38, 3) ∧ 64 + 3 = 67 := ⟨by decide +kernel, rfl⟩
theorem dX6_init_67 : decode cX6_init 67 = .ok (.putfield 39, 3) ∧ 67 + 3 = 70 := ⟨by decide +kernel, rfl⟩
theorem dX6_init_70 : decode cX6_init 70 = .ok (.aload_n 0, 1) ∧ 70 + 1 = 71 := ⟨by decide +kernel, rfl⟩
theorem dX6_init_71 : decode cX6_init 71 = .ok (.new 43, 3) ∧ 71 + 3 = 74 := ⟨by decide +kernel, rfl⟩
theorem dX6_init_74 : decode cX6_init 74 = .ok (.dup, 1) ∧ 74 + 1 = 75 := ⟨by decide +kernel, rfl⟩
theorem dX6_init_75 : decode cX6_init 75 = .ok (.bipush 16, 2) ∧ 75 + 2 = 77 := ⟨by decide +kernel, rfl⟩
theorem dX6_init_77 : decode cX6_init 77 = .ok (.invokespecial 45, 3) ∧ 77 + 3 = 80 := ⟨by decide +kernel, rfl⟩
theorem dX6_init_80 : decode cX6_init 80 = .ok (.putfield 48, 3) ∧ 80 + 3 = 83 := ⟨by decide +kernel, rfl⟩
theorem dX6_init_83 : decode cX6_init 83 = .ok (.aload_n 0, 1) ∧ 83 + 1 = 84 := ⟨by decide +kernel, rfl⟩
theorem dX6_init_84 : decode cX6_init 84 = .ok (.iconst 1, 1) ∧ 84 + 1 = 85 := ⟨by decide +kernel, rfl⟩
theorem dX6_init_85 : decode cX6_init 85 = .ok (.putfield 52, 3) ∧ 85 + 3 = 88 := ⟨by decide +kernel, rfl⟩
theorem dX6_init_88 : decode cX6_init 88 = .ok (.return_, 1) ∧ 88 + 1 = 89 := ⟨by decide +kernel, rfl⟩
theorem dX6_enter_0 : decode cX6_enter 0 = .ok (.iload_n 1, 1) ∧ 0 + 1 = 1 := ⟨by decide +kernel, rfl⟩
theorem dX6_enter_1 : decode cX6_enter 1 = .ok (.bipush 99, 2) ∧ 1 + 2 = 3 := ⟨by decide +kernel, rfl⟩
theorem dX6_enter_3 : decode cX6_enter 3 = .ok (.invokestatic 56, 3) ∧ 3 + 3 = 6 := ⟨by decide +kernel, rfl⟩
theorem dX6_enter_6 : decode cX6_enter 6 = .ok (.ifCond .eq 13, 3) ∧ 6 + 3 = 9 ∧ ((6 : Nat) : Int) + 13 = ((19 : Nat) : Int) := ⟨by decide +kernel, rfl, rfl⟩
theorem dX6_enter_9 : decode cX6_enter 9 = .ok (.iload_n 2, 1) ∧ 9 + 1 = 10 := ⟨by decide +kernel, rfl⟩
theorem dX6_enter_10 : decode cX6_enter 10 = .ok (.sipush 999, 3) ∧ 10 + 3 = 13 := ⟨by decide +kernel, rfl⟩
theorem dX6_enter_13 : decode cX6_enter 13 = .ok (.invokestatic 56, 3) ∧ 13 + 3 = 16 := ⟨by decide +kernel, rfl⟩
theorem dX6_enter_16 : decode cX6_enter 16 = .ok (.ifCond .ne 6, 3) ∧ 16 + 3 = 19 ∧ ((16 : Nat) : Int) + 6 = ((22 : Nat) : Int) := ⟨by decide +kernel, rfl, rfl⟩
theorem dX6_enter_19 : decode cX6_enter 19 = .ok (.bipush (-2), 2) ∧ 19 + 2 = 21 := ⟨by decide +kernel, rfl⟩
theorem dX6_enter_21 : decode cX6_enter 21 = .ok (.ireturn, 1) ∧ 21 + 1 = 22 := ⟨by decide +kernel, rfl⟩
theorem dX6_enter_22 : decode cX6_enter 22 = .ok (.iload_n 3, 1) ∧ 22 + 1 = 23 := ⟨by decide +kernel, rfl⟩
theorem dX6_enter_23 : decode cX6_enter 23 = .ok (.invokestatic 60, 3) ∧ 23 + 3 = 26 := ⟨by decide +kernel, rfl⟩
theorem dX6_enter_26 : decode cX6_enter 26 = .ok (.ifCond .eq 11, 3) ∧ 26 + 3 = 29 ∧ ((26 : Nat) : Int) + 11 = ((37 : Nat) : Int) := ⟨by decide +kernel, rfl, rfl⟩
theorem dX6_enter_29 : decode cX6_enter 29 = .ok (.iload 4, 2) ∧ 29 + 2 = 31 := ⟨by decide +kernel, rfl⟩
theorem dX6_enter_31 : decode cX6_enter 31 = .ok (.invokestatic 64, 3) ∧ 31 + 3 = 34 := ⟨by decide +kernel, rfl⟩
theorem dX6_enter_34 : decode cX6_enter 34 = .ok (.ifCond .ne 6, 3) ∧ 34 + 3 = 37 ∧ ((34 : Nat) : Int) + 6 = ((40 : Nat) : Int) := ⟨by decide +kernel, rfl, rfl⟩
theorem dX6_enter_37 : decode cX6_enter 37 = .ok (.bipush (-2), 2) ∧ 37 + 2 = 39 := ⟨by decide +kernel, rfl⟩
theorem dX6_enter_39 : decode cX6_enter 39 = .ok (.ireturn, 1) ∧ 39 + 1 = 40 := ⟨by decide +kernel, rfl⟩
theorem dX6_enter_40 : decode cX6_enter 40 = .ok (.aload_n 0, 1) ∧ 40 + 1 = 41 := ⟨by decide +kernel, rfl⟩
theorem dX6_enter_41 : decode cX6_enter 41 = .ok (.getfield 12, 3) ∧ 41 + 3 = 44 := ⟨by decide +kernel, rfl⟩
theorem dX6_enter_44 : decode cX6_enter 44 = .ok (.invokevirtual 67, 3) ∧ 44 + 3 = 47 := ⟨by decide +kernel, rfl⟩
theorem dX6_enter_47 : decode cX6_enter 47 = .ok (.istore 5, 2) ∧ 47 + 2 = 49 := ⟨by decide +kernel, rfl⟩
theorem dX6_enter_49 : decode cX6_enter 49 = .ok (.iload 5, 2) ∧ 49 + 2 = 51 := ⟨by decide +kernel, rfl⟩
theorem dX6_enter_51 : decode cX6_enter 51 = .ok (.bipush 16, 2) ∧ 51 + 2 = 53 := ⟨by decide +kernel, rfl⟩
theorem dX6_enter_53 : decode cX6_enter 53 = .ok (.if_icmp .lt 6, 3) ∧ 53 + 3 = 56 ∧ ((53 : Nat) : Int) + 6 = ((59 : Nat) : Int) := ⟨by decide +kernel, rfl, rfl⟩
theorem dX6_enter_56 : decode cX6_enter 56 = .ok (.bipush (-4), 2) ∧ 56 + 2 = 58 := ⟨by decide +kernel, rfl⟩
theorem dX6_enter_58 : decode cX6_enter 58 = .ok (.ireturn, 1) ∧ 58 + 1 = 59 := ⟨by decide +kernel, rfl⟩
theorem dX6_enter_59 : decode cX6_enter 59 = .ok (.aload_n 0, 1) ∧ 59 + 1 = 60 := ⟨by decide +kernel, rfl⟩
theorem dX6_enter_60 : decode cX6_enter 60 = .ok (.invokevirtual 71, 3) ∧ 60 + 3 = 63 := ⟨by decide +kernel, rfl⟩
theorem dX6_enter_63 : decode cX6_enter 63 = .ok (.aload_n 0, 1) ∧ 63 + 1 = 64 := ⟨by decide +kernel, rfl⟩
theorem dX6_enter_64 : decode cX6_enter 64 = .ok (.getfield 12, 3) ∧ 64 + 3 = 67 := ⟨by decide +kernel, rfl⟩
theorem dX6_enter_67 : decode cX6_enter 67 = .ok (.iconst 0, 1) ∧ 67 + 1 = 68 := ⟨by decide +kernel, rfl⟩
theorem dX6_enter_68 : decode cX6_enter 68 = .ok (.iload 5, 2) ∧ 68 + 2 = 70 := ⟨by decide +kernel, rfl⟩
theorem dX6_enter_70 : decode cX6_enter 70 = .ok (.iload_n 1, 1) ∧ 70 + 1 = 71 := ⟨by decide +kernel, rfl⟩
theorem dX6_enter_71 : decode cX6_enter 71 = .ok (.invokevirtual 74, 3) ∧ 71 + 3 = 74 := ⟨by decide +kernel, rfl⟩
theorem dX6_enter_74 : decode cX6_enter 74 = .ok (.aload_n 0, 1) ∧ 74 + 1 = 75 := ⟨by decide +kernel, rfl⟩
theorem dX6_enter_75 : decode cX6_enter 75 = .ok (.getfield 12, 3) ∧ 75 + 3 = 78 := ⟨by decide +kernel, rfl⟩
theorem dX6_enter_78 : decode cX6_enter 78 = .ok (.bipush 16, 2) ∧ 78 + 2 = 80 := ⟨by decide +kernel, rfl⟩
theorem dX6_enter_80 : decode cX6_enter 80 = .ok (.iload 5, 2) ∧ 80 + 2 = 82 := ⟨by decide +kernel, rfl⟩
theorem dX6_enter_82 : decode cX6_enter 82 = .ok (.iload_n 2, 1) ∧ 82 + 1 = 83 := ⟨by decide +kernel, rfl⟩
theorem dX6_enter_83 : decode cX6_enter 83 = .ok (.invokevirtual 74, 3) ∧ 83 + 3 = 86 := ⟨by decide +kernel, rfl⟩
theorem dX6_enter_86 : decode cX6_enter 86 = .ok (.aload_n 0, 1) ∧ 86 + 1 = 87 := ⟨by decide +kernel, rfl⟩
theorem dX6_enter_87 : decode cX6_enter 87 = .ok (.getfield 12, 3) ∧ 87 + 3 = 90 := ⟨by decide +kernel, rfl⟩
theorem dX6_enter_90 : decode cX6_enter 90 = .ok (.bipush 32, 2) ∧ 90 + 2 = 92 := ⟨by decide +kernel, rfl⟩
theorem dX6_enter_92 : decode cX6_enter 92 = .ok (.iload 5, 2) ∧ 92 + 2 = 94 := ⟨by decide +kernel, rfl⟩
theorem dX6_enter_94 : decode cX6_enter 94 = .ok (.iload_n 3, 1) ∧ 94 + 1 = 95 := ⟨by decide +kernel, rfl⟩
theorem dX6_enter_95 : decode cX6_enter 95 = .ok (.invokevirtual 74, 3) ∧ 95 + 3 = 98 := ⟨by decide +kernel, rfl⟩
theorem dX6_enter_98 : decode cX6_enter 98 = .ok (.aload_n 0, 1) ∧ 98 + 1 = 99 := ⟨by decide +kernel, rfl⟩
theorem dX6_enter_99 : decode cX6_enter 99 = .ok (.getfield 12, 3) ∧ 99 + 3 = 102 := ⟨by decide +kernel, rfl⟩
theorem dX6_enter_102 : decode cX6_enter 102 = .ok (.bipush 48, 2) ∧ 102 + 2 = 104 := ⟨by decide +kernel, rfl⟩
theorem dX6_enter_104 : decode cX6_enter 104 = .ok (.iload 5, 2) ∧ 104 + 2 = 106 := ⟨by decide +kernel, rfl⟩
theorem dX6_enter_106 : decode cX6_enter 106 = .ok (.iload 4, 2) ∧ 106 + 2 = 108 := ⟨by decide +kernel, rfl⟩
theorem dX6_enter_108 : decode cX6_enter 108 = .ok (.invokevirtual 74, 3) ∧ 108 + 3 = 111 := ⟨by decide +kernel, rfl⟩
theorem dX6_enter_111 : decode cX6_enter 111 = .ok (.aload_n 0, 1) ∧ 111 + 1 = 112 := ⟨by decide +kernel, rfl⟩
theorem dX6_enter_112 : decode cX6_enter 112 = .ok (.getfield 12, 3) ∧ 112 + 3 = 115 := ⟨by decide +kernel, rfl⟩
theorem dX6_enter_115 : decode cX6_enter 115 = .ok (.iload 5, 2) ∧ 115 + 2 = 117 := ⟨by decide +kernel, rfl⟩
theorem dX6_enter_117 : decode cX6_enter 117 = .ok (.iconst 0, 1) ∧ 117 + 1 = 118 := ⟨by decide +kernel, rfl⟩
theorem dX6_enter_118 : decode cX6_enter 118 = .ok (.invokevirtual 78, 3) ∧ 118 + 3 = 121 := ⟨by decide +kernel, rfl⟩
theorem dX6_enter_121 : decode cX6_enter 121 = .ok (.aload_n 0, 1) ∧ 121 + 1 = 122 := ⟨by decide +kernel, rfl⟩
theorem dX6_enter_122 : decode cX6_enter 122 = .ok (.getfield 12, 3) ∧ 122 + 3 = 125 := ⟨by decide +kernel, rfl⟩
theorem dX6_enter_125 : decode cX6_enter 125 = .ok (.sipush 158, 3) ∧ 125 + 3 = 128 := ⟨by decide +kernel, rfl⟩
theorem dX6_enter_128 : decode cX6_enter 128 = .ok (.iconst 0, 1) ∧ 128 + 1 = 129 := ⟨by decide +kernel, rfl⟩
theorem dX6_enter_129 : decode cX6_enter 129 = .ok (.iload 5, 2) ∧ 129 + 2 = 131 := ⟨by decide +kernel, rfl⟩
theorem dX6_enter_131 : decode cX6_enter 131 = .ok (.iconst 1, 1) ∧ 131 + 1 = 132 := ⟨by decide +kernel, rfl⟩
theorem dX6_enter_132 : decode cX6_enter 132 = .ok (.iadd, 1) ∧ 132 + 1 = 133 := ⟨by decide +kernel, rfl⟩
theorem dX6_enter_133 : decode cX6_enter 133 = .ok (.invokevirtual 74, 3) ∧ 133 + 3 = 136 := ⟨by decide +kernel, rfl⟩
theorem dX6_enter_136 : decode cX6_enter 136 = .ok (.iload 5, 2) ∧ 136 + 2 = 138 := ⟨by decide +kernel, rfl⟩
theorem dX6_enter_138 : decode cX6_enter 138 = .ok (.ireturn, 1) ∧ 138 + 1 = 139 := ⟨by decide +kernel, rfl⟩
theorem dX6_mark_0 : decode cX6_mark 0 = .ok (.aload_n 0, 1) ∧ 0 + 1 = 1 := ⟨by decide +kernel, rfl⟩
theorem dX6_mark_1 : decode cX6_mark 1 = .ok (.iconst 0, 1) ∧ 1 + 1 = 2 := ⟨by decide +kernel, rfl⟩
theorem dX6_mark_2 : decode cX6_mark 2 = .ok (.iload_n 1, 1) ∧ 2 + 1 = 3 := ⟨by decide +kernel, rfl⟩
theorem dX6_mark_3 : decode cX6_mark 3 = .ok (.iload_n 2, 1) ∧ 3 + 1 = 4 := ⟨by decide +kernel, rfl⟩
theorem dX6_mark_4 : decode cX6_mark 4 = .ok (.bipush 99, 2) ∧ 4 + 2 = 6 := ⟨by decide +kernel, rfl⟩
theorem dX6_mark_6 : decode cX6_mark 6 = .ok (.invokevirtual 82, 3) ∧ 6 + 3 = 9 := ⟨by decide +kernel, rfl⟩
theorem dX6_mark_9 : decode cX6_mark 9 = .ok (.ireturn, 1) ∧ 9 + 1 = 10 := ⟨by decide +kernel, rfl⟩
theorem dX6_ticket_0 : decode cX6_ticket 0 = .ok (.aload_n 0, 1) ∧ 0 + 1 = 1 := ⟨by decide +kernel, rfl⟩
theorem dX6_ticket_1 : decode cX6_ticket 1 = .ok (.bipush 16, 2) ∧ 1 + 2 = 3 := ⟨by decide +kernel, rfl⟩
theorem dX6_ticket_3 : decode cX6_ticket 3 = .ok (.iload_n 1, 1) ∧ 3 + 1 = 4 := ⟨by decide +kernel, rfl⟩
theorem dX6_ticket_4 : decode cX6_ticket 4 = .ok (.iload_n 2, 1) ∧ 4 + 1 = 5 := ⟨by decide +kernel, rfl⟩
theorem dX6_ticket_5 : decode cX6_ticket 5 = .ok (.sipush 999, 3) ∧ 5 + 3 = 8 := ⟨by decide +kernel, rfl⟩
theorem dX6_ticket_8 : decode cX6_ticket 8 = .ok (.invokevirtual 82, 3) ∧ 8 + 3 = 11 := ⟨by decide +kernel, rfl⟩
theorem dX6_ticket_11 : decode cX6_ticket 11 = .ok (.ireturn, 1) ∧ 11 + 1 = 12 := ⟨by decide +kernel, rfl⟩
theorem dX6_kind_0 : decode cX6_kind 0 = .ok (.aload_n 0, 1) ∧ 0 + 1 = 1 := ⟨by decide +kernel, rfl⟩
theorem dX6_kind_1 : decode cX6_kind 1 = .ok (.bipush 32, 2) ∧ 1 + 2 = 3 := ⟨by decide +kernel, rfl⟩
theorem dX6_kind_3 : decode cX6_kind 3 = .ok (.iload_n 1, 1) ∧ 3 + 1 = 4 := ⟨by decide +kernel, rfl⟩
theorem dX6_kind_4 : decode cX6_kind 4 = .ok (.iload_n 2, 1) ∧ 4 + 1 = 5 := ⟨by decide +kernel, rfl⟩
theorem dX6_kind_5 : decode cX6_kind 5 = .ok (.iconst 3, 1) ∧ 5 + 1 = 6 := ⟨by decide +kernel, rfl⟩
theorem dX6_kind_6 : decode cX6_kind 6 = .ok (.invokevirtual 82, 3) ∧ 6 + 3 = 9 := ⟨by decide +kernel, rfl⟩
theorem dX6_kind_9 : decode cX6_kind 9 = .ok (.ireturn, 1) ∧ 9 + 1 = 10 := ⟨by decide +kernel, rfl⟩
theorem dX6_groups_0 : decode cX6_groups 0 = .ok (.aload_n 0, 1) ∧ 0 + 1 = 1 := ⟨by decide +kernel, rfl⟩
theorem dX6_groups_1 : decode cX6_groups 1 = .ok (.bipush 48, 2) ∧ 1 + 2 = 3 := ⟨by decide +kernel, rfl⟩
theorem dX6_groups_3 : decode cX6_groups 3 = .ok (.iload_n 1, 1) ∧ 3 + 1 = 4 := ⟨by decide +kernel, rfl⟩
theorem dX6_groups_4 : decode cX6_groups 4 = .ok (.iload_n 2, 1) ∧ 4 + 1 = 5 := ⟨by decide +kernel, rfl⟩
theorem dX6_groups_5 : decode cX6_groups 5 = .ok (.bipush 15, 2) ∧ 5 + 2 = 7 := ⟨by decide +kernel, rfl⟩
theorem dX6_groups_7 : decode cX6_groups 7 = .ok (.invokevirtual 82, 3) ∧ 7 + 3 = 10 := ⟨by decide +kernel, rfl⟩
theorem dX6_groups_10 : decode cX6_groups 10 = .ok (.ireturn, 1) ∧ 10 + 1 = 11 := ⟨by decide +kernel, rfl⟩
theorem dX6_ofPerson_0 : decode cX6_ofPerson 0 = .ok (.aload_n 0, 1) ∧ 0 + 1 = 1 := ⟨by decide +kernel, rfl⟩
theorem dX6_ofPerson_1 : decode cX6_ofPerson 1 = .ok (.iload_n 1, 1) ∧ 1 + 1 = 2 := ⟨by decide +kernel, rfl⟩
theorem dX6_ofPerson_2 : decode cX6_ofPerson 2 = .ok (.invokevirtual 86, 3) ∧ 2 + 3 = 5 := ⟨by decide +kernel, rfl⟩
theorem dX6_ofPerson_5 : decode cX6_ofPerson 5 = .ok (.ifCond .ne 5, 3) ∧ 5 + 3 = 8 ∧ ((5 : Nat) : Int) + 5 = ((10 : Nat) : Int) := ⟨by decide +kernel, rfl, rfl⟩
theorem dX6_ofPerson_8 : decode cX6_ofPerson 8 = .ok (.iconst (-1), 1) ∧ 8 + 1 = 9 := ⟨by decide +kernel, rfl⟩
theorem dX6_ofPerson_9 : decode cX6_ofPerson 9 = .ok (.ireturn, 1) ∧ 9 + 1 = 10 := ⟨by decide +kernel, rfl⟩
theorem dX6_ofPerson_10 : decode cX6_ofPerson 10 = .ok (.iload_n 2, 1) ∧ 10 + 1 = 11 := ⟨by decide +kernel, rfl⟩
theorem dX6_ofPerson_11 : decode cX6_ofPerson 11 = .ok (.tableswitch 100 0 5 #[37, 47, 58, 69, 80, 91], 37) := by decide +kernel
theorem dX6_ofPerson_48 : decode cX6_ofPerson 48 = .ok (.aload_n 0, 1) ∧ 48 + 1 = 49 := ⟨by decide +kernel, rfl⟩
theorem dX6_ofPerson_49 : decode cX6_ofPerson 49 = .ok (.getfield 12, 3) ∧ 49 + 3 = 52 := ⟨by decide +kernel, rfl⟩
theorem dX6_ofPerson_52 : decode cX6_ofPerson 52 = .ok (.iconst 0, 1) ∧ 52 + 1 = 53 := ⟨by decide +kernel, rfl⟩
theorem dX6_ofPerson_53 : decode cX6_ofPerson 53 = .ok (.iload_n 1, 1) ∧ 53 + 1 = 54 := ⟨by decide +kernel, rfl⟩
theorem dX6_ofPerson_54 : decode cX6_ofPerson 54 = .ok (.invokevirtual 89, 3) ∧ 54 + 3 = 57 := ⟨by decide +kernel, rfl⟩
theorem dX6_ofPerson_57 : decode cX6_ofPerson 57 = .ok (.ireturn, 1) ∧ 57 + 1 = 58 := ⟨by decide +kernel, rfl⟩
theorem dX6_ofPerson_58 : decode cX6_ofPerson 58 = .ok (.aload_n 0, 1) ∧ 58 + 1 = 59 := ⟨by decide +kernel, rfl⟩
theorem dX6_ofPerson_59 : decode cX6_ofPerson 59 = .ok (.getfield 12, 3) ∧ 59 + 3 = 62 := ⟨by decide +kernel, rfl⟩
theorem dX6_ofPerson_62 : decode cX6_ofPerson 62 = .ok (.bipush 16, 2) ∧ 62 + 2 = 64 := ⟨by decide +kernel, rfl⟩
theorem dX6_ofPerson_64 : decode cX6_ofPerson 64 = .ok (.iload_n 1, 1) ∧ 64 + 1 = 65 := ⟨by decide +kernel, rfl⟩
theorem dX6_ofPerson_65 : decode cX6_ofPerson 65 = .ok (.invokevirtual 89, 3) ∧ 65 + 3 = 68 := ⟨by decide +kernel, rfl⟩
theorem dX6_ofPerson_68 : decode cX6_ofPerson 68 = .ok (.ireturn, 1) ∧ 68 + 1 = 69 := ⟨by decide +kernel, rfl⟩
theorem dX6_ofPerson_69 : decode cX6_ofPerson 69 = .ok (.aload_n 0, 1) ∧ 69 + 1 = 70 := ⟨by decide +kernel, rfl⟩
theorem dX6_ofPerson_70 : decode cX6_ofPerson 70 = .ok (.getfield 12, 3) ∧ 70 + 3 = 73 := ⟨by decide +kernel, rfl⟩
theorem dX6_ofPerson_73 : decode cX6_ofPerson 73 = .ok (.bipush 32, 2) ∧ 73 + 2 = 75 := ⟨by decide +kernel, rfl⟩
theorem dX6_ofPerson_75 : decode cX6_ofPerson 75 = .ok (.iload_n 1, 1) ∧ 75 + 1 = 76 := ⟨by decide +kernel, rfl⟩
theorem dX6_ofPerson_76 : decode cX6_ofPerson 76 = .ok (.invokevirtual 89, 3) ∧ 76 + 3 = 79 := ⟨by decide +kernel, rfl⟩
theorem dX6_ofPerson_79 : decode cX6_ofPerson 79 = .ok (.ireturn, 1) ∧ 79 + 1 = 80 := ⟨by decide +kernel, rfl⟩
theorem dX6_ofPerson_80 : decode cX6_ofPerson 80 = .ok (.aload_n 0, 1) ∧ 80 + 1 = 81 := ⟨by decide +kernel, rfl⟩
theorem dX6_ofPerson_81 : decode cX6_ofPerson 81 = .ok (.getfield 12, 3) ∧ 81 + 3 = 84 := ⟨by decide +kernel, rfl⟩
theorem dX6_ofPerson_84 : decode cX6_ofPerson 84 = .ok (.bipush 48, 2) ∧ 84 + 2 = 86 := ⟨by decide +kernel, rfl⟩
theorem dX6_ofPerson_86 : decode cX6_ofPerson 86 = .ok (.iload_n 1, 1) ∧ 86 + 1 = 87 := ⟨by decide +kernel, rfl⟩
theorem dX6_ofPerson_87 : decode cX6_ofPerson 87 = .ok (.invokevirtual 89, 3) ∧ 87 + 3 = 90 := ⟨by decide +kernel, rfl⟩
theorem dX6_ofPerson_90 : decode cX6_ofPerson 90 = .ok (.ireturn, 1) ∧ 90 + 1 = 91 := ⟨by decide +kernel, rfl⟩
theorem dX6_ofPerson_91 : decode cX6_ofPerson 91 = .ok (.aload_n 0, 1) ∧ 91 + 1 = 92 := ⟨by decide +kernel, rfl⟩
theorem dX6_ofPerson_92 : decode cX6_ofPerson 92 = .ok (.getfield 12, 3) ∧ 92 + 3 = 95 := ⟨by decide +kernel, rfl⟩
theorem dX6_ofPerson_95 : decode cX6_ofPerson 95 = .ok (.bipush 64, 2) ∧ 95 + 2 = 97 := ⟨by decide +kernel, rfl⟩
theorem dX6_ofPerson_97 : decode cX6_ofPerson 97 = .ok (.iload_n 1, 1) ∧ 97 + 1 = 98 := ⟨by decide +kernel, rfl⟩
theorem dX6_ofPerson_98 : decode cX6_ofPerson 98 = .ok (.invokevirtual 89, 3) ∧ 98 + 3 = 101 := ⟨by decide +kernel, rfl⟩
theorem dX6_ofPerson_101 : decode cX6_ofPerson 101 = .ok (.ireturn, 1) ∧ 101 + 1 = 102 := ⟨by decide +kernel, rfl⟩
theorem dX6_ofPerson_102 : decode cX6_ofPerson 102 = .ok (.aload_n 0, 1) ∧ 102 + 1 = 103 := ⟨by decide +kernel, rfl⟩
theorem dX6_ofPerson_103 : decode cX6_ofPerson 103 = .ok (.getfield 12, 3) ∧ 103 + 3 = 106 := ⟨by decide +kernel, rfl⟩
theorem dX6_ofPerson_106 : decode cX6_ofPerson 106 = .ok (.iload_n 1, 1) ∧ 106 + 1 = 107 := ⟨by decide +kernel, rfl⟩
theorem dX6_ofPerson_107 : decode cX6_ofPerson 107 = .ok (.invokevirtual 93, 3) ∧ 107 + 3 = 110 := ⟨by decide +kernel, rfl⟩
theorem dX6_ofPerson_110 : decode cX6_ofPerson 110 = .ok (.ireturn, 1) ∧ 110 + 1 = 111 := ⟨by decide +kernel, rfl⟩
theorem dX6_ofPerson_111 : decode cX6_ofPerson 111 = .ok (.bipush (-2), 2) ∧ 111 + 2 = 113 := ⟨by decide +kernel, rfl⟩
theorem dX6_ofPerson_113 : decode cX6_ofPerson 113 = .ok (.ireturn, 1) ∧ 113 + 1 = 114 := ⟨by decide +kernel, rfl⟩
theorem dX6_ranked_0 : decode cX6_ranked 0 = .ok (.iload_n 1, 1) ∧ 0 + 1 = 1 := ⟨by decide +kernel, rfl⟩
theorem dX6_ranked_1 : decode cX6_ranked 1 = .ok (.bipush 15, 2) ∧ 1 + 2 = 3 := ⟨by decide +kernel, rfl⟩
theorem dX6_ranked_3 : decode cX6_ranked 3 = .ok (.invokestatic 56, 3) ∧ 3 + 3 = 6 := ⟨by decide +kernel, rfl⟩
theorem dX6_ranked_6 : decode cX6_ranked 6 = .ok (.ifCond .ne 6, 3) ∧ 6 + 3 = 9 ∧ ((6 : Nat) : Int) + 6 = ((12 : Nat) : Int) := ⟨by decide +kernel, rfl, rfl⟩
theorem dX6_ranked_9 : decode cX6_ranked 9 = .ok (.bipush (-2), 2) ∧ 9 + 2 = 11 := ⟨by decide +kernel, rfl⟩
theorem dX6_ranked_11 : decode cX6_ranked 11 = .ok (.ireturn, 1) ∧ 11 + 1 = 12 := ⟨by decide +kernel, rfl⟩
theorem dX6_ranked_12 : decode cX6_ranked 12 = .ok (.iload_n 1, 1) ∧ 12 + 1 = 13 := ⟨by decide +kernel, rfl⟩
theorem dX6_ranked_13 : decode cX6_ranked 13 = .ok (.aload_n 0, 1) ∧ 13 + 1 = 14 := ⟨by decide +kernel, rfl⟩
theorem dX6_ranked_14 : decode cX6_ranked 14 = .ok (.getfield 12, 3) ∧ 14 + 3 = 17 := ⟨by decide +kernel, rfl⟩
theorem dX6_ranked_17 : decode cX6_ranked 17 = .ok (.invokevirtual 67, 3) ∧ 17 + 3 = 20 := ⟨by decide +kernel, rfl⟩
theorem dX6_ranked_20 : decode cX6_ranked 20 = .ok (.if_icmp .ge 14, 3) ∧ 20 + 3 = 23 ∧ ((20 : Nat) : Int) + 14 = ((34 : Nat) : Int) := ⟨by decide +kernel, rfl, rfl⟩
theorem dX6_ranked_23 : decode cX6_ranked 23 = .ok (.aload_n 0, 1) ∧ 23 + 1 = 24 := ⟨by decide +kernel, rfl⟩
theorem dX6_ranked_24 : decode cX6_ranked 24 = .ok (.invokevirtual 97, 3) ∧ 24 + 3 = 27 := ⟨by decide +kernel, rfl⟩
theorem dX6_ranked_27 : decode cX6_ranked 27 = .ok (.iload_n 1, 1) ∧ 27 + 1 = 28 := ⟨by decide +kernel, rfl⟩
theorem dX6_ranked_28 : decode cX6_ranked 28 = .ok (.invokevirtual 101, 3) ∧ 28 + 3 = 31 := ⟨by decide +kernel, rfl⟩
theorem dX6_ranked_31 : decode cX6_ranked 31 = .ok (.goto 5, 3) ∧ ((31 : Nat) : Int) + 5 = ((36 : Nat) : Int) := ⟨by decide +kernel, rfl⟩
theorem dX6_ranked_34 : decode cX6_ranked 34 = .ok (.bipush (-9), 2) ∧ 34 + 2 = 36 := ⟨by decide +kernel, rfl⟩
theorem dX6_ranked_36 : decode cX6_ranked 36 = .ok (.ireturn, 1) ∧ 36 + 1 = 37 := ⟨by decide +kernel, rfl⟩
theorem dX6_above_0 : decode cX6_above 0 = .ok (.iload_n 1, 1) ∧ 0 + 1 = 1 := ⟨by decide +kernel, rfl⟩
theorem dX6_above_1 : decode cX6_above 1 = .ok (.bipush 99, 2) ∧ 1 + 2 = 3 := ⟨by decide +kernel, rfl⟩
theorem dX6_above_3 : decode cX6_above 3 = .ok (.invokestatic 56, 3) ∧ 3 + 3 = 6 := ⟨by decide +kernel, rfl⟩
theorem dX6_above_6 : decode cX6_above 6 = .ok (.ifCond .ne 6, 3) ∧ 6 + 3 = 9 ∧ ((6 : Nat) : Int) + 6 = ((12 : Nat) : Int) := ⟨by decide +kernel, rfl, rfl⟩
theorem dX6_above_9 : decode cX6_above 9 = .ok (.bipush (-2), 2) ∧ 9 + 2 = 11 := ⟨by decide +kernel, rfl⟩
theorem dX6_above_11 : decode cX6_above 11 = .ok (.ireturn, 1) ∧ 11 + 1 = 12 := ⟨by decide +kernel, rfl⟩
theorem dX6_above_12 : decode cX6_above 12 = .ok (.bipush (-9), 2) ∧ 12 + 2 = 14 := ⟨by decide +kernel, rfl⟩
theorem dX6_above_14 : decode cX6_above 14 = .ok (.istore_n 2, 1) ∧ 14 + 1 = 15 := ⟨by decide +kernel, rfl⟩
theorem dX6_above_15 : decode cX6_above 15 = .ok (.iconst 0, 1) ∧ 15 + 1 = 16 := ⟨by decide +kernel, rfl⟩
theorem dX6_above_16 : decode cX6_above 16 = .ok (.istore_n 3, 1) ∧ 16 + 1 = 17 := ⟨by decide +kernel, rfl⟩
theorem dX6_above_17 : decode cX6_above 17 = .ok (.iload_n 3, 1) ∧ 17 + 1 = 18 := ⟨by decide +kernel, rfl⟩
theorem dX6_above_18 : decode cX6_above 18 = .ok (.aload_n 0, 1) ∧ 18 + 1 = 19 := ⟨by decide +kernel, rfl⟩
theorem dX6_above_19 : decode cX6_above 19 = .ok (.getfield 12, 3) ∧ 19 + 3 = 22 := ⟨by decide +kernel, rfl⟩
theorem dX6_above_22 : decode cX6_above 22 = .ok (.invokevirtual 67, 3) ∧ 22 + 3 = 25 := ⟨by decide +kernel, rfl⟩
theorem dX6_above_25 : decode cX6_above 25 = .ok (.if_icmp .ge 41, 3) ∧ 25 + 3 = 28 ∧ ((25 : Nat) : Int) + 41 = ((66 : Nat) : Int) := ⟨by decide +kernel, rfl, rfl⟩
theorem dX6_above_28 : decode cX6_above 28 = .ok (.aload_n 0, 1) ∧ 28 + 1 = 29 := ⟨by decide +kernel, rfl⟩
theorem dX6_above_29 : decode cX6_above 29 = .ok (.getfield 12, 3) ∧ 29 + 3 = 32 := ⟨by decide +kernel, rfl⟩
theorem dX6_above_32 : decode cX6_above 32 = .ok (.iconst 0, 1) ∧ 32 + 1 = 33 := ⟨by decide +kernel, rfl⟩
theorem dX6_above_33 : decode cX6_above 33 = .ok (.iload_n 3, 1) ∧ 33 + 1 = 34 := ⟨by decide +kernel, rfl⟩
theorem dX6_above_34 : decode cX6_above 34 = .ok (.invokevirtual 89, 3) ∧ 34 + 3 = 37 := ⟨by decide +kernel, rfl⟩
theorem dX6_above_37 : decode cX6_above 37 = .ok (.istore 4, 2) ∧ 37 + 2 = 39 := ⟨by decide +kernel, rfl⟩
theorem dX6_above_39 : decode cX6_above 39 = .ok (.iload 4, 2) ∧ 39 + 2 = 41 := ⟨by decide +kernel, rfl⟩
theorem dX6_above_41 : decode cX6_above 41 = .ok (.iload_n 1, 1) ∧ 41 + 1 = 42 := ⟨by decide +kernel, rfl⟩
theorem dX6_above_42 : decode cX6_above 42 = .ok (.if_icmp .le 18, 3) ∧ 42 + 3 = 45 ∧ ((42 : Nat) : Int) + 18 = ((60 : Nat) : Int) := ⟨by decide +kernel, rfl, rfl⟩
theorem dX6_above_45 : decode cX6_above 45 = .ok (.iload_n 2, 1) ∧ 45 + 1 = 46 := ⟨by decide +kernel, rfl⟩
theorem dX6_above_46 : decode cX6_above 46 = .ok (.bipush (-9), 2) ∧ 46 + 2 = 48 := ⟨by decide +kernel, rfl⟩
theorem dX6_above_48 : decode cX6_above 48 = .ok (.if_icmp .eq 9, 3) ∧ 48 + 3 = 51 ∧ ((48 : Nat) : Int) + 9 = ((57 : Nat) : Int) := ⟨by decide +kernel, rfl, rfl⟩
theorem dX6_above_51 : decode cX6_above 51 = .ok (.iload 4, 2) ∧ 51 + 2 = 53 := ⟨by decide +kernel, rfl⟩
theorem dX6_above_53 : decode cX6_above 53 = .ok (.iload_n 2, 1) ∧ 53 + 1 = 54 := ⟨by decide +kernel, rfl⟩
theorem dX6_above_54 : decode cX6_above 54 = .ok (.if_icmp .ge 6, 3) ∧ 54 + 3 = 57 ∧ ((54 : Nat) : Int) + 6 = ((60 : Nat) : Int) := ⟨by decide +kernel, rfl, rfl⟩
theorem dX6_above_57 : decode cX6_above 57 = .ok (.iload 4, 2) ∧ 57 + 2 = 59 := ⟨by decide +kernel, rfl⟩
theorem dX6_above_59 : decode cX6_above 59 = .ok (.istore_n 2, 1) ∧ 59 + 1 = 60 := ⟨by decide +kernel, rfl⟩
theorem dX6_above_60 : decode cX6_above 60 = .ok (.iinc 3 1, 3) ∧ 60 + 3 = 63 := ⟨by decide +kernel, rfl⟩
theorem dX6_above_63 : decode cX6_above 63 = .ok (.goto (-46), 3) ∧ ((63 : Nat) : Int) + (-46) = ((17 : Nat) : Int) := ⟨by decide +kernel, rfl⟩
theorem dX6_above_66 : decode cX6_above 66 = .ok (.iload_n 2, 1) ∧ 66 + 1 = 67 := ⟨by decide +kernel, rfl⟩
theorem dX6_above_67 : decode cX6_above 67 = .ok (.ireturn, 1) ∧ 67 + 1 = 68 := ⟨by decide +kernel, rfl⟩
theorem dX6_alike_0 : decode cX6_alike 0 = .ok (.iload_n 1, 1) ∧ 0 + 1 = 1 := ⟨by decide +kernel, rfl⟩
theorem dX6_alike_1 : decode cX6_alike 1 = .ok (.bipush 99, 2) ∧ 1 + 2 = 3 := ⟨by decide +kernel, rfl⟩
theorem dX6_alike_3 : decode cX6_alike 3 = .ok (.invokestatic 56, 3) ∧ 3 + 3 = 6 := ⟨by decide +kernel, rfl⟩
theorem dX6_alike_6 : decode cX6_alike 6 = .ok (.ifCond .ne 6, 3) ∧ 6 + 3 = 9 ∧ ((6 : Nat) : Int) + 6 = ((12 : Nat) : Int) := ⟨by decide +kernel, rfl, rfl⟩
theorem dX6_alike_9 : decode cX6_alike 9 = .ok (.bipush (-2), 2) ∧ 9 + 2 = 11 := ⟨by decide +kernel, rfl⟩
theorem dX6_alike_11 : decode cX6_alike 11 = .ok (.ireturn, 1) ∧ 11 + 1 = 12 := ⟨by decide +kernel, rfl⟩
theorem dX6_alike_12 : decode cX6_alike 12 = .ok (.aload_n 0, 1) ∧ 12 + 1 = 13 := ⟨by decide +kernel, rfl⟩
theorem dX6_alike_13 : decode cX6_alike 13 = .ok (.getfield 12, 3) ∧ 13 + 3 = 16 := ⟨by decide +kernel, rfl⟩
theorem dX6_alike_16 : decode cX6_alike 16 = .ok (.iconst 0, 1) ∧ 16 + 1 = 17 := ⟨by decide +kernel, rfl⟩
theorem dX6_alike_17 : decode cX6_alike 17 = .ok (.iload_n 1, 1) ∧ 17 + 1 = 18 := ⟨by decide +kernel, rfl⟩
theorem dX6_alike_18 : decode cX6_alike 18 = .ok (.invokevirtual 104, 3) ∧ 18 + 3 = 21 := ⟨by decide +kernel, rfl⟩
theorem dX6_alike_21 : decode cX6_alike 21 = .ok (.ireturn, 1) ∧ 21 + 1 = 22 := ⟨by decide +kernel, rfl⟩
theorem dX6_seats_0 : decode cX6_seats 0 = .ok (.iload_n 1, 1) ∧ 0 + 1 = 1 := ⟨by decide +kernel, rfl⟩
theorem dX6_seats_1 : decode cX6_seats 1 = .ok (.invokestatic 60, 3) ∧ 1 + 3 = 4 := ⟨by decide +kernel, rfl⟩
theorem dX6_seats_4 : decode cX6_seats 4 = .ok (.ifCond .ne 5, 3) ∧ 4 + 3 = 7 ∧ ((4 : Nat) : Int) + 5 = ((9 : Nat) : Int) := ⟨by decide +kernel, rfl, rfl⟩
theorem dX6_seats_7 : decode cX6_seats 7 = .ok (.iconst (-1), 1) ∧ 7 + 1 = 8 := ⟨by decide +kernel, rfl⟩
theorem dX6_seats_8 : decode cX6_seats 8 = .ok (.ireturn, 1) ∧ 8 + 1 = 9 := ⟨by decide +kernel, rfl⟩
theorem dX6_seats_9 : decode cX6_seats 9 = .ok (.iload_n 2, 1) ∧ 9 + 1 = 10 := ⟨by decide +kernel, rfl⟩
theorem dX6_seats_10 : decode cX6_seats 10 = .ok (.bipush 9, 2) ∧ 10 + 2 = 12 := ⟨by decide +kernel, rfl⟩
theorem dX6_seats_12 : decode cX6_seats 12 = .ok (.invokestatic 56, 3) ∧ 12 + 3 = 15 := ⟨by decide +kernel, rfl⟩
theorem dX6_seats_15 : decode cX6_seats 15 = .ok (.ifCond .eq 15, 3) ∧ 15 + 3 = 18 ∧ ((15 : Nat) : Int) + 15 = ((30 : Nat) : Int) := ⟨by decide +kernel, rfl, rfl⟩
theorem dX6_seats_18 : decode cX6_seats 18 = .ok (.aload_n 0, 1) ∧ 18 + 1 = 19 := ⟨by decide +kernel, rfl⟩
theorem dX6_seats_19 : decode cX6_seats 19 = .ok (.sipush 128, 3) ∧ 19 + 3 = 22 := ⟨by decide +kernel, rfl⟩
theorem dX6_seats_22 : decode cX6_seats 22 = .ok (.iload_n 1, 1) ∧ 22 + 1 = 23 := ⟨by decide +kernel, rfl⟩
theorem dX6_seats_23 : decode cX6_seats 23 = .ok (.iload_n 2, 1) ∧ 23 + 1 = 24 := ⟨by decide +kernel, rfl⟩
theorem dX6_seats_24 : decode cX6_seats 24 = .ok (.invokevirtual 107, 3) ∧ 24 + 3 = 27 := ⟨by decide +kernel, rfl⟩
theorem dX6_seats_27 : decode cX6_seats 27 = .ok (.goto 5, 3) ∧ ((27 : Nat) : Int) + 5 = ((32 : Nat) : Int) := ⟨by decide +kernel, rfl⟩
theorem dX6_seats_30 : decode cX6_seats 30 = .ok (.bipush (-2), 2) ∧ 30 + 2 = 32 := ⟨by decide +kernel, rfl⟩
theorem dX6_seats_32 : decode cX6_seats 32 = .ok (.ireturn, 1) ∧ 32 + 1 = 33 := ⟨by decide +kernel, rfl⟩
theorem dX6_reserve_0 : decode cX6_reserve 0 = .ok (.iload_n 1, 1) ∧ 0 + 1 = 1 := ⟨by decide +kernel, rfl⟩
theorem dX6_reserve_1 : decode cX6_reserve 1 = .ok (.invokestatic 60, 3) ∧ 1 + 3 = 4 := ⟨by decide +kernel, rfl⟩
theorem dX6_reserve_4 : decode cX6_reserve 4 = .ok (.ifCond .eq 10, 3) ∧ 4 + 3 = 7 ∧ ((4 : Nat) : Int) + 10 = ((14 : Nat) : Int) := ⟨by decide +kernel, rfl, rfl⟩
theorem dX6_reserve_7 : decode cX6_reserve 7 = .ok (.iload_n 2, 1) ∧ 7 + 1 = 8 := ⟨by decide +kernel, rfl⟩
theorem dX6_reserve_8 : decode cX6_reserve 8 = .ok (.invokestatic 111, 3) ∧ 8 + 3 = 11 := ⟨by decide +kernel, rfl⟩
theorem dX6_reserve_11 : decode cX6_reserve 11 = .ok (.ifCond .ne 5, 3) ∧ 11 + 3 = 14 ∧ ((11 : Nat) : Int) + 5 = ((16 : Nat) : Int) := ⟨by decide +kernel, rfl, rfl⟩
theorem dX6_reserve_14 : decode cX6_reserve 14 = .ok (.iconst (-1), 1) ∧ 14 + 1 = 15 := ⟨by decide +kernel, rfl⟩
theorem dX6_reserve_15 : decode cX6_reserve 15 = .ok (.ireturn, 1) ∧ 15 + 1 = 16 := ⟨by decide +kernel, rfl⟩
theorem dX6_reserve_16 : decode cX6_reserve 16 = .ok (.iload_n 3, 1) ∧ 16 + 1 = 17 := ⟨by decide +kernel, rfl⟩
theorem dX6_reserve_17 : decode cX6_reserve 17 = .ok (.iconst 5, 1) ∧ 17 + 1 = 18 := ⟨by decide +kernel, rfl⟩
theorem dX6_reserve_18 : decode cX6_reserve 18 = .ok (.invokestatic 56, 3) ∧ 18 + 3 = 21 := ⟨by decide +kernel, rfl⟩
theorem dX6_reserve_21 : decode cX6_reserve 21 = .ok (.ifCond .eq 19, 3) ∧ 21 + 3 = 24 ∧ ((21 : Nat) : Int) + 19 = ((40 : Nat) : Int) := ⟨by decide +kernel, rfl, rfl⟩
theorem dX6_reserve_24 : decode cX6_reserve 24 = .ok (.aload_n 0, 1) ∧ 24 + 1 = 25 := ⟨by decide +kernel, rfl⟩
theorem dX6_reserve_25 : decode cX6_reserve 25 = .ok (.sipush 132, 3) ∧ 25 + 3 = 28 := ⟨by decide +kernel, rfl⟩
theorem dX6_reserve_28 : decode cX6_reserve 28 = .ok (.iload_n 1, 1) ∧ 28 + 1 = 29 := ⟨by decide +kernel, rfl⟩
theorem dX6_reserve_29 : decode cX6_reserve 29 = .ok (.iconst 4, 1) ∧ 29 + 1 = 30 := ⟨by decide +kernel, rfl⟩
theorem dX6_reserve_30 : decode cX6_reserve 30 = .ok (.imul, 1) ∧ 30 + 1 = 31 := ⟨by decide +kernel, rfl⟩
theorem dX6_reserve_31 : decode cX6_reserve 31 = .ok (.iload_n 2, 1) ∧ 31 + 1 = 32 := ⟨by decide +kernel, rfl⟩
theorem dX6_reserve_32 : decode cX6_reserve 32 = .ok (.iadd, 1) ∧ 32 + 1 = 33 := ⟨by decide +kernel, rfl⟩
theorem dX6_reserve_33 : decode cX6_reserve 33 = .ok (.iload_n 3, 1) ∧ 33 + 1 = 34 := ⟨by decide +kernel, rfl⟩
theorem dX6_reserve_34 : decode cX6_reserve 34 = .ok (.invokevirtual 107, 3) ∧ 34 + 3 = 37 := ⟨by decide +kernel, rfl⟩
theorem dX6_reserve_37 : decode cX6_reserve 37 = .ok (.goto 5, 3) ∧ ((37 : Nat) : Int) + 5 = ((42 : Nat) : Int) := ⟨by decide +kernel, rfl⟩
theorem dX6_reserve_40 : decode cX6_reserve 40 = .ok (.bipush (-2), 2) ∧ 40 + 2 = 42 := ⟨by decide +kernel, rfl⟩
theorem dX6_reserve_42 : decode cX6_reserve 42 = .ok (.ireturn, 1) ∧ 42 + 1 = 43 := ⟨by decide +kernel, rfl⟩
theorem dX6_heir_0 : decode cX6_heir 0 = .ok (.iload_n 1, 1) ∧ 0 + 1 = 1 := ⟨by decide +kernel, rfl⟩
theorem dX6_heir_1 : decode cX6_heir 1 = .ok (.invokestatic 60, 3) ∧ 1 + 3 = 4 := ⟨by decide +kernel, rfl⟩
theorem dX6_heir_4 : decode cX6_heir 4 = .ok (.ifCond .eq 7, 3) ∧ 4 + 3 = 7 ∧ ((4 : Nat) : Int) + 7 = ((11 : Nat) : Int) := ⟨by decide +kernel, rfl, rfl⟩
theorem dX6_heir_7 : decode cX6_heir 7 = .ok (.iload_n 1, 1) ∧ 7 + 1 = 8 := ⟨by decide +kernel, rfl⟩
theorem dX6_heir_8 : decode cX6_heir 8 = .ok (.ifCond .ne 5, 3) ∧ 8 + 3 = 11 ∧ ((8 : Nat) : Int) + 5 = ((13 : Nat) : Int) := ⟨by decide +kernel, rfl, rfl⟩
theorem dX6_heir_11 : decode cX6_heir 11 = .ok (.iconst (-1), 1) ∧ 11 + 1 = 12 := ⟨by decide +kernel, rfl⟩
theorem dX6_heir_12 : decode cX6_heir 12 = .ok (.ireturn, 1) ∧ 12 + 1 = 13 := ⟨by decide +kernel, rfl⟩
theorem dX6_heir_13 : decode cX6_heir 13 = .ok (.iload_n 2, 1) ∧ 13 + 1 = 14 := ⟨by decide +kernel, rfl⟩
theorem dX6_heir_14 : decode cX6_heir 14 = .ok (.invokestatic 60, 3) ∧ 14 + 3 = 17 := ⟨by decide +kernel, rfl⟩
theorem dX6_heir_17 : decode cX6_heir 17 = .ok (.ifCond .ne 9, 3) ∧ 17 + 3 = 20 ∧ ((17 : Nat) : Int) + 9 = ((26 : Nat) : Int) := ⟨by decide +kernel, rfl, rfl⟩
theorem dX6_heir_20 : decode cX6_heir 20 = .ok (.iload_n 2, 1) ∧ 20 + 1 = 21 := ⟨by decide +kernel, rfl⟩
theorem dX6_heir_21 : decode cX6_heir 21 = .ok (.bipush (-9), 2) ∧ 21 + 2 = 23 := ⟨by decide +kernel, rfl⟩
theorem dX6_heir_23 : decode cX6_heir 23 = .ok (.if_icmp .ne 15, 3) ∧ 23 + 3 = 26 ∧ ((23 : Nat) : Int) + 15 = ((38 : Nat) : Int) := ⟨by decide +kernel, rfl, rfl⟩
theorem dX6_heir_26 : decode cX6_heir 26 = .ok (.aload_n 0, 1) ∧ 26 + 1 = 27 := ⟨by decide +kernel, rfl⟩
theorem dX6_heir_27 : decode cX6_heir 27 = .ok (.sipush 148, 3) ∧ 27 + 3 = 30 := ⟨by decide +kernel, rfl⟩
theorem dX6_heir_30 : decode cX6_heir 30 = .ok (.iload_n 1, 1) ∧ 30 + 1 = 31 := ⟨by decide +kernel, rfl⟩
theorem dX6_heir_31 : decode cX6_heir 31 = .ok (.iload_n 2, 1) ∧ 31 + 1 = 32 := ⟨by decide +kernel, rfl⟩
theorem dX6_heir_32 : decode cX6_heir 32 = .ok (.invokevirtual 107, 3) ∧ 32 + 3 = 35 := ⟨by decide +kernel, rfl⟩
theorem dX6_heir_35 : decode cX6_heir 35 = .ok (.goto 5, 3) ∧ ((35 : Nat) : Int) + 5 = ((40 : Nat) : Int) := ⟨by decide +kernel, rfl⟩
theorem dX6_heir_38 : decode cX6_heir 38 = .ok (.bipush (-2), 2) ∧ 38 + 2 = 40 := ⟨by decide +kernel, rfl⟩
theorem dX6_heir_40 : decode cX6_heir 40 = .ok (.ireturn, 1) ∧ 40 + 1 = 41 := ⟨by decide +kernel, rfl⟩
theorem dX6_manner_0 : decode cX6_manner 0 = .ok (.iload_n 1, 1) ∧ 0 + 1 = 1 := ⟨by decide +kernel, rfl⟩
theorem dX6_manner_1 : decode cX6_manner 1 = .ok (.iconst 2, 1) ∧ 1 + 1 = 2 := ⟨by decide +kernel, rfl⟩
theorem dX6_manner_2 : decode cX6_manner 2 = .ok (.invokestatic 56, 3) ∧ 2 + 3 = 5 := ⟨by decide +kernel, rfl⟩
theorem dX6_manner_5 : decode cX6_manner 5 = .ok (.ifCond .eq 15, 3) ∧ 5 + 3 = 8 ∧ ((5 : Nat) : Int) + 15 = ((20 : Nat) : Int) := ⟨by decide +kernel, rfl, rfl⟩
theorem dX6_manner_8 : decode cX6_manner 8 = .ok (.aload_n 0, 1) ∧ 8 + 1 = 9 := ⟨by decide +kernel, rfl⟩
theorem dX6_manner_9 : decode cX6_manner 9 = .ok (.sipush 156, 3) ∧ 9 + 3 = 12 := ⟨by decide +kernel, rfl⟩
theorem dX6_manner_12 : decode cX6_manner 12 = .ok (.iconst 0, 1) ∧ 12 + 1 = 13 := ⟨by decide +kernel, rfl⟩
theorem dX6_manner_13 : decode cX6_manner 13 = .ok (.iload_n 1, 1) ∧ 13 + 1 = 14 := ⟨by decide +kernel, rfl⟩
theorem dX6_manner_14 : decode cX6_manner 14 = .ok (.invokevirtual 107, 3) ∧ 14 + 3 = 17 := ⟨by decide +kernel, rfl⟩
theorem dX6_manner_17 : decode cX6_manner 17 = .ok (.goto 5, 3) ∧ ((17 : Nat) : Int) + 5 = ((22 : Nat) : Int) := ⟨by decide +kernel, rfl⟩
theorem dX6_manner_20 : decode cX6_manner 20 = .ok (.bipush (-2), 2) ∧ 20 + 2 = 22 := ⟨by decide +kernel, rfl⟩
theorem dX6_manner_22 : decode cX6_manner 22 = .ok (.ireturn, 1) ∧ 22 + 1 = 23 := ⟨by decide +kernel, rfl⟩
theorem dX6_order_0 : decode cX6_order 0 = .ok (.iload_n 1, 1) ∧ 0 + 1 = 1 := ⟨by decide +kernel, rfl⟩
theorem dX6_order_1 : decode cX6_order 1 = .ok (.iload_n 2, 1) ∧ 1 + 1 = 2 := ⟨by decide +kernel, rfl⟩
theorem dX6_order_2 : decode cX6_order 2 = .ok (.iload_n 3, 1) ∧ 2 + 1 = 3 := ⟨by decide +kernel, rfl⟩
theorem dX6_order_3 : decode cX6_order 3 = .ok (.iload 4, 2) ∧ 3 + 2 = 5 := ⟨by decide +kernel, rfl⟩
theorem dX6_order_5 : decode cX6_order 5 = .ok (.invokestatic 114, 3) ∧ 5 + 3 = 8 := ⟨by decide +kernel, rfl⟩
theorem dX6_order_8 : decode cX6_order 8 = .ok (.ifCond .ne 6, 3) ∧ 8 + 3 = 11 ∧ ((8 : Nat) : Int) + 6 = ((14 : Nat) : Int) := ⟨by decide +kernel, rfl, rfl⟩
theorem dX6_order_11 : decode cX6_order 11 = .ok (.bipush (-2), 2) ∧ 11 + 2 = 13 := ⟨by decide +kernel, rfl⟩
theorem dX6_order_13 : decode cX6_order 13 = .ok (.ireturn, 1) ∧ 13 + 1 = 14 := ⟨by decide +kernel, rfl⟩
theorem dX6_order_14 : decode cX6_order 14 = .ok (.aload_n 0, 1) ∧ 14 + 1 = 15 := ⟨by decide +kernel, rfl⟩
theorem dX6_order_15 : decode cX6_order 15 = .ok (.invokevirtual 71, 3) ∧ 15 + 3 = 18 := ⟨by decide +kernel, rfl⟩
theorem dX6_order_18 : decode cX6_order 18 = .ok (.aload_n 0, 1) ∧ 18 + 1 = 19 := ⟨by decide +kernel, rfl⟩
theorem dX6_order_19 : decode cX6_order 19 = .ok (.getfield 12, 3) ∧ 19 + 3 = 22 := ⟨by decide +kernel, rfl⟩
theorem dX6_order_22 : decode cX6_order 22 = .ok (.iload_n 1, 1) ∧ 22 + 1 = 23 := ⟨by decide +kernel, rfl⟩
theorem dX6_order_23 : decode cX6_order 23 = .ok (.iload_n 2, 1) ∧ 23 + 1 = 24 := ⟨by decide +kernel, rfl⟩
theorem dX6_order_24 : decode cX6_order 24 = .ok (.iload_n 3, 1) ∧ 24 + 1 = 25 := ⟨by decide +kernel, rfl⟩
theorem dX6_order_25 : decode cX6_order 25 = .ok (.iload 4, 2) ∧ 25 + 2 = 27 := ⟨by decide +kernel, rfl⟩
theorem dX6_order_27 : decode cX6_order 27 = .ok (.invokevirtual 118, 3) ∧ 27 + 3 = 30 := ⟨by decide +kernel, rfl⟩
theorem dX6_order_30 : decode cX6_order 30 = .ok (.iconst 1, 1) ∧ 30 + 1 = 31 := ⟨by decide +kernel, rfl⟩
theorem dX6_order_31 : decode cX6_order 31 = .ok (.ireturn, 1) ∧ 31 + 1 = 32 := ⟨by decide +kernel, rfl⟩
theorem dX6_seat_0 : decode cX6_seat 0 = .ok (.aload_n 0, 1) ∧ 0 + 1 = 1 := ⟨by decide +kernel, rfl⟩
theorem dX6_seat_1 : decode cX6_seat 1 = .ok (.iload_n 1, 1) ∧ 1 + 1 = 2 := ⟨by decide +kernel, rfl⟩
theorem dX6_seat_2 : decode cX6_seat 2 = .ok (.invokevirtual 86, 3) ∧ 2 + 3 = 5 := ⟨by decide +kernel, rfl⟩
theorem dX6_seat_5 : decode cX6_seat 5 = .ok (.ifCond .eq 14, 3) ∧ 5 + 3 = 8 ∧ ((5 : Nat) : Int) + 14 = ((19 : Nat) : Int) := ⟨by decide +kernel, rfl, rfl⟩
theorem dX6_seat_8 : decode cX6_seat 8 = .ok (.aload_n 0, 1) ∧ 8 + 1 = 9 := ⟨by decide +kernel, rfl⟩
theorem dX6_seat_9 : decode cX6_seat 9 = .ok (.invokevirtual 97, 3) ∧ 9 + 3 = 12 := ⟨by decide +kernel, rfl⟩
theorem dX6_seat_12 : decode cX6_seat 12 = .ok (.iload_n 1, 1) ∧ 12 + 1 = 13 := ⟨by decide +kernel, rfl⟩
theorem dX6_seat_13 : decode cX6_seat 13 = .ok (.invokevirtual 122, 3) ∧ 13 + 3 = 16 := ⟨by decide +kernel, rfl⟩
theorem dX6_seat_16 : decode cX6_seat 16 = .ok (.goto 4, 3) ∧ ((16 : Nat) : Int) + 4 = ((20 : Nat) : Int) := ⟨by decide +kernel, rfl⟩
theorem dX6_seat_19 : decode cX6_seat 19 = .ok (.iconst (-1), 1) ∧ 19 + 1 = 20 := ⟨by decide +kernel, rfl⟩
theorem dX6_seat_20 : decode cX6_seat 20 = .ok (.ireturn, 1) ∧ 20 + 1 = 21 := ⟨by decide +kernel, rfl⟩
theorem dX6_counted_0 : decode cX6_counted 0 = .ok (.aload_n 0, 1) ∧ 0 + 1 = 1 := ⟨by decide +kernel, rfl⟩
theorem dX6_counted_1 : decode cX6_counted 1 = .ok (.iload_n 1, 1) ∧ 1 + 1 = 2 := ⟨by decide +kernel, rfl⟩
theorem dX6_counted_2 : decode cX6_counted 2 = .ok (.invokevirtual 86, 3) ∧ 2 + 3 = 5 := ⟨by decide +kernel, rfl⟩
theorem dX6_counted_5 : decode cX6_counted 5 = .ok (.ifCond .eq 14, 3) ∧ 5 + 3 = 8 ∧ ((5 : Nat) : Int) + 14 = ((19 : Nat) : Int) := ⟨by decide +kernel, rfl, rfl⟩
theorem dX6_counted_8 : decode cX6_counted 8 = .ok (.aload_n 0, 1) ∧ 8 + 1 = 9 := ⟨by decide +kernel, rfl⟩
theorem dX6_counted_9 : decode cX6_counted 9 = .ok (.invokevirtual 97, 3) ∧ 9 + 3 = 12 := ⟨by decide +kernel, rfl⟩
theorem dX6_counted_12 : decode cX6_counted 12 = .ok (.iload_n 1, 1) ∧ 12 + 1 = 13 := ⟨by decide +kernel, rfl⟩
theorem dX6_counted_13 : decode cX6_counted 13 = .ok (.invokevirtual 125, 3) ∧ 13 + 3 = 16 := ⟨by decide +kernel, rfl⟩
theorem dX6_counted_16 : decode cX6_counted 16 = .ok (.goto 4, 3) ∧ ((16 : Nat) : Int) + 4 = ((20 : Nat) : Int) := ⟨by decide +kernel, rfl⟩
theorem dX6_counted_19 : decode cX6_counted 19 = .ok (.iconst (-1), 1) ∧ 19 + 1 = 20 := ⟨by decide +kernel, rfl⟩
theorem dX6_counted_20 : decode cX6_counted 20 = .ok (.ireturn, 1) ∧ 20 + 1 = 21 := ⟨by decide +kernel, rfl⟩
theorem dX6_handed_0 : decode cX6_handed 0 = .ok (.aload_n 0, 1) ∧ 0 + 1 = 1 := ⟨by decide +kernel, rfl⟩
theorem dX6_handed_1 : decode cX6_handed 1 = .ok (.iload_n 1, 1) ∧ 1 + 1 = 2 := ⟨by decide +kernel, rfl⟩
theorem dX6_handed_2 : decode cX6_handed 2 = .ok (.invokevirtual 86, 3) ∧ 2 + 3 = 5 := ⟨by decide +kernel, rfl⟩
theorem dX6_handed_5 : decode cX6_handed 5 = .ok (.ifCond .eq 14, 3) ∧ 5 + 3 = 8 ∧ ((5 : Nat) : Int) + 14 = ((19 : Nat) : Int) := ⟨by decide +kernel, rfl, rfl⟩
theorem dX6_handed_8 : decode cX6_handed 8 = .ok (.aload_n 0, 1) ∧ 8 + 1 = 9 := ⟨by decide +kernel, rfl⟩
theorem dX6_handed_9 : decode cX6_handed 9 = .ok (.invokevirtual 97, 3) ∧ 9 + 3 = 12 := ⟨by decide +kernel, rfl⟩
theorem dX6_handed_12 : decode cX6_handed 12 = .ok (.iload_n 1, 1) ∧ 12 + 1 = 13 := ⟨by decide +kernel, rfl⟩
theorem dX6_handed_13 : decode cX6_handed 13 = .ok (.invokevirtual 128, 3) ∧ 13 + 3 = 16 := ⟨by decide +kernel, rfl⟩
theorem dX6_handed_16 : decode cX6_handed 16 = .ok (.goto 4, 3) ∧ ((16 : Nat) : Int) + 4 = ((20 : Nat) : Int) := ⟨by decide +kernel, rfl⟩
theorem dX6_handed_19 : decode cX6_handed 19 = .ok (.iconst (-1), 1) ∧ 19 + 1 = 20 := ⟨by decide +kernel, rfl⟩
theorem dX6_handed_20 : decode cX6_handed 20 = .ok (.ireturn, 1) ∧ 20 + 1 = 21 := ⟨by decide +kernel, rfl⟩
theorem dX6_taken_0 : decode cX6_taken 0 = .ok (.iload_n 1, 1) ∧ 0 + 1 = 1 := ⟨by decide +kernel, rfl⟩
theorem dX6_taken_1 : decode cX6_taken 1 = .ok (.invokestatic 60, 3) ∧ 1 + 3 = 4 := ⟨by decide +kernel, rfl⟩
theorem dX6_taken_4 : decode cX6_taken 4 = .ok (.ifCond .ne 5, 3) ∧ 4 + 3 = 7 ∧ ((4 : Nat) : Int) + 5 = ((9 : Nat) : Int) := ⟨by decide +kernel, rfl, rfl⟩
theorem dX6_taken_7 : decode cX6_taken 7 = .ok (.iconst (-1), 1) ∧ 7 + 1 = 8 := ⟨by decide +kernel, rfl⟩
theorem dX6_taken_8 : decode cX6_taken 8 = .ok (.ireturn, 1) ∧ 8 + 1 = 9 := ⟨by decide +kernel, rfl⟩
theorem dX6_taken_9 : decode cX6_taken 9 = .ok (.iload_n 2, 1) ∧ 9 + 1 = 10 := ⟨by decide +kernel, rfl⟩
theorem dX6_taken_10 : decode cX6_taken 10 = .ok (.bipush 8, 2) ∧ 10 + 2 = 12 := ⟨by decide +kernel, rfl⟩
theorem dX6_taken_12 : decode cX6_taken 12 = .ok (.invokestatic 56, 3) ∧ 12 + 3 = 15 := ⟨by decide +kernel, rfl⟩
theorem dX6_taken_15 : decode cX6_taken 15 = .ok (.ifCond .eq 15, 3) ∧ 15 + 3 = 18 ∧ ((15 : Nat) : Int) + 15 = ((30 : Nat) : Int) := ⟨by decide +kernel, rfl, rfl⟩
theorem dX6_taken_18 : decode cX6_taken 18 = .ok (.aload_n 0, 1) ∧ 18 + 1 = 19 := ⟨by decide +kernel, rfl⟩
theorem dX6_taken_19 : decode cX6_taken 19 = .ok (.invokevirtual 97, 3) ∧ 19 + 3 = 22 := ⟨by decide +kernel, rfl⟩
theorem dX6_taken_22 : decode cX6_taken 22 = .ok (.iload_n 1, 1) ∧ 22 + 1 = 23 := ⟨by decide +kernel, rfl⟩
theorem dX6_taken_23 : decode cX6_taken 23 = .ok (.iload_n 2, 1) ∧ 23 + 1 = 24 := ⟨by decide +kernel, rfl⟩
theorem dX6_taken_24 : decode cX6_taken 24 = .ok (.invokevirtual 131, 3) ∧ 24 + 3 = 27 := ⟨by decide +kernel, rfl⟩
theorem dX6_taken_27 : decode cX6_taken 27 = .ok (.goto 5, 3) ∧ ((27 : Nat) : Int) + 5 = ((32 : Nat) : Int) := ⟨by decide +kernel, rfl⟩
theorem dX6_taken_30 : decode cX6_taken 30 = .ok (.bipush (-2), 2) ∧ 30 + 2 = 32 := ⟨by decide +kernel, rfl⟩
theorem dX6_taken_32 : decode cX6_taken 32 = .ok (.ireturn, 1) ∧ 32 + 1 = 33 := ⟨by decide +kernel, rfl⟩
theorem dX6_ofKind_0 : decode cX6_ofKind 0 = .ok (.iload_n 1, 1) ∧ 0 + 1 = 1 := ⟨by decide +kernel, rfl⟩
theorem dX6_ofKind_1 : decode cX6_ofKind 1 = .ok (.invokestatic 60, 3) ∧ 1 + 3 = 4 := ⟨by decide +kernel, rfl⟩
theorem dX6_ofKind_4 : decode cX6_ofKind 4 = .ok (.ifCond .ne 5, 3) ∧ 4 + 3 = 7 ∧ ((4 : Nat) : Int) + 5 = ((9 : Nat) : Int) := ⟨by decide +kernel, rfl, rfl⟩
theorem dX6_ofKind_7 : decode cX6_ofKind 7 = .ok (.iconst (-1), 1) ∧ 7 + 1 = 8 := ⟨by decide +kernel, rfl⟩
theorem dX6_ofKind_8 : decode cX6_ofKind 8 = .ok (.ireturn, 1) ∧ 8 + 1 = 9 := ⟨by decide +kernel, rfl⟩
theorem dX6_ofKind_9 : decode cX6_ofKind 9 = .ok (.aload_n 0, 1) ∧ 9 + 1 = 10 := ⟨by decide +kernel, rfl⟩
theorem dX6_ofKind_10 : decode cX6_ofKind 10 = .ok (.invokevirtual 97, 3) ∧ 10 + 3 = 13 := ⟨by decide +kernel, rfl⟩
theorem dX6_ofKind_13 : decode cX6_ofKind 13 = .ok (.astore_n 3, 1) ∧ 13 + 1 = 14 := ⟨by decide +kernel, rfl⟩
theorem dX6_ofKind_14 : decode cX6_ofKind 14 = .ok (.iload_n 2, 1) ∧ 14 + 1 = 15 := ⟨by decide +kernel, rfl⟩
theorem dX6_ofKind_15 : decode cX6_ofKind 15 = .ok (.bipush 10, 2) ∧ 15 + 2 = 17 := ⟨by decide +kernel, rfl⟩
theorem dX6_ofKind_17 : decode cX6_ofKind 17 = .ok (.isub, 1) ∧ 17 + 1 = 18 := ⟨by decide +kernel, rfl⟩
theorem dX6_ofKind_18 : decode cX6_ofKind 18 = .ok (.invokestatic 111, 3) ∧ 18 + 3 = 21 := ⟨by decide +kernel, rfl⟩
theorem dX6_ofKind_21 : decode cX6_ofKind 21 = .ok (.ifCond .eq 13, 3) ∧ 21 + 3 = 24 ∧ ((21 : Nat) : Int) + 13 = ((34 : Nat) : Int) := ⟨by decide +kernel, rfl, rfl⟩
theorem dX6_ofKind_24 : decode cX6_ofKind 24 = .ok (.aload_n 3, 1) ∧ 24 + 1 = 25 := ⟨by decide +kernel, rfl⟩
theorem dX6_ofKind_25 : decode cX6_ofKind 25 = .ok (.iload_n 1, 1) ∧ 25 + 1 = 26 := ⟨by decide +kernel, rfl⟩
theorem dX6_ofKind_26 : decode cX6_ofKind 26 = .ok (.iload_n 2, 1) ∧ 26 + 1 = 27 := ⟨by decide +kernel, rfl⟩
theorem dX6_ofKind_27 : decode cX6_ofKind 27 = .ok (.bipush 10, 2) ∧ 27 + 2 = 29 := ⟨by decide +kernel, rfl⟩
theorem dX6_ofKind_29 : decode cX6_ofKind 29 = .ok (.isub, 1) ∧ 29 + 1 = 30 := ⟨by decide +kernel, rfl⟩
theorem dX6_ofKind_30 : decode cX6_ofKind 30 = .ok (.invokevirtual 134, 3) ∧ 30 + 3 = 33 := ⟨by decide +kernel, rfl⟩
theorem dX6_ofKind_33 : decode cX6_ofKind 33 = .ok (.ireturn, 1) ∧ 33 + 1 = 34 := ⟨by decide +kernel, rfl⟩
theorem dX6_ofKind_34 : decode cX6_ofKind 34 = .ok (.iload_n 2, 1) ∧ 34 + 1 = 35 := ⟨by decide +kernel, rfl⟩
theorem dX6_ofKind_35 : decode cX6_ofKind 35 = .ok (.bipush 20, 2) ∧ 35 + 2 = 37 := ⟨by decide +kernel, rfl⟩
theorem dX6_ofKind_37 : decode cX6_ofKind 37 = .ok (.isub, 1) ∧ 37 + 1 = 38 := ⟨by decide +kernel, rfl⟩
theorem dX6_ofKind_38 : decode cX6_ofKind 38 = .ok (.invokestatic 111, 3) ∧ 38 + 3 = 41 := ⟨by decide +kernel, rfl⟩
theorem dX6_ofKind_41 : decode cX6_ofKind 41 = .ok (.ifCond .eq 13, 3) ∧ 41 + 3 = 44 ∧ ((41 : Nat) : Int) + 13 = ((54 : Nat) : Int) := ⟨by decide +kernel, rfl, rfl⟩
theorem dX6_ofKind_44 : decode cX6_ofKind 44 = .ok (.aload_n 3, 1) ∧ 44 + 1 = 45 := ⟨by decide +kernel, rfl⟩
theorem dX6_ofKind_45 : decode cX6_ofKind 45 = .ok (.iload_n 1, 1) ∧ 45 + 1 = 46 := ⟨by decide +kernel, rfl⟩
theorem dX6_ofKind_46 : decode cX6_ofKind 46 = .ok (.iload_n 2, 1) ∧ 46 + 1 = 47 := ⟨by decide +kernel, rfl⟩
theorem dX6_ofKind_47 : decode cX6_ofKind 47 = .ok (.bipush 20, 2) ∧ 47 + 2 = 49 := ⟨by decide +kernel, rfl⟩
theorem dX6_ofKind_49 : decode cX6_ofKind 49 = .ok (.isub, 1) ∧ 49 + 1 = 50 := ⟨by decide +kernel, rfl⟩
theorem dX6_ofKind_50 : decode cX6_ofKind 50 = .ok (.invokevirtual 137, 3) ∧ 50 + 3 = 53 := ⟨by decide +kernel, rfl⟩
theorem dX6_ofKind_53 : decode cX6_ofKind 53 = .ok (.ireturn, 1) ∧ 53 + 1 = 54 := ⟨by decide +kernel, rfl⟩
theorem dX6_ofKind_54 : decode cX6_ofKind 54 = .ok (.iload_n 2, 1) ∧ 54 + 1 = 55 := ⟨by decide +kernel, rfl⟩
theorem dX6_ofKind_55 : decode cX6_ofKind 55 = .ok (.tableswitch 84 0 5 #[37, 43, 49, 55, 67, 74], 37) := by decide +kernel
theorem dX6_ofKind_92 : decode cX6_ofKind 92 = .ok (.aload_n 3, 1) ∧ 92 + 1 = 93 := ⟨by decide +kernel, rfl⟩
theorem dX6_ofKind_93 : decode cX6_ofKind 93 = .ok (.iload_n 1, 1) ∧ 93 + 1 = 94 := ⟨by decide +kernel, rfl⟩
theorem dX6_ofKind_94 : decode cX6_ofKind 94 = .ok (.invokevirtual 140, 3) ∧ 94 + 3 = 97 := ⟨by decide +kernel, rfl⟩
theorem dX6_ofKind_97 : decode cX6_ofKind 97 = .ok (.ireturn, 1) ∧ 97 + 1 = 98 := ⟨by decide +kernel, rfl⟩
theorem dX6_ofKind_98 : decode cX6_ofKind 98 = .ok (.aload_n 3, 1) ∧ 98 + 1 = 99 := ⟨by decide +kernel, rfl⟩
theorem dX6_ofKind_99 : decode cX6_ofKind 99 = .ok (.iload_n 1, 1) ∧ 99 + 1 = 100 := ⟨by decide +kernel, rfl⟩
theorem dX6_ofKind_100 : decode cX6_ofKind 100 = .ok (.invokevirtual 143, 3) ∧ 100 + 3 = 103 := ⟨by decide +kernel, rfl⟩
theorem dX6_ofKind_103 : decode cX6_ofKind 103 = .ok (.ireturn, 1) ∧ 103 + 1 = 104 := ⟨by decide +kernel, rfl⟩
theorem dX6_ofKind_104 : decode cX6_ofKind 104 = .ok (.aload_n 3, 1) ∧ 104 + 1 = 105 := ⟨by decide +kernel, rfl⟩
theorem dX6_ofKind_105 : decode cX6_ofKind 105 = .ok (.iload_n 1, 1) ∧ 105 + 1 = 106 := ⟨by decide +kernel, rfl⟩
theorem dX6_ofKind_106 : decode cX6_ofKind 106 = .ok (.invokevirtual 146, 3) ∧ 106 + 3 = 109 := ⟨by decide +kernel, rfl⟩
theorem dX6_ofKind_109 : decode cX6_ofKind 109 = .ok (.ireturn, 1) ∧ 109 + 1 = 110 := ⟨by decide +kernel, rfl⟩
theorem dX6_ofKind_110 : decode cX6_ofKind 110 = .ok (.aload_n 3, 1) ∧ 110 + 1 = 111 := ⟨by decide +kernel, rfl⟩
theorem dX6_ofKind_111 : decode cX6_ofKind 111 = .ok (.iload_n 1, 1) ∧ 111 + 1 = 112 := ⟨by decide +kernel, rfl⟩
theorem dX6_ofKind_112 : decode cX6_ofKind 112 = .ok (.invokevirtual 140, 3) ∧ 112 + 3 = 115 := ⟨by decide +kernel, rfl⟩
theorem dX6_ofKind_115 : decode cX6_ofKind 115 = .ok (.aload_n 3, 1) ∧ 115 + 1 = 116 := ⟨by decide +kernel, rfl⟩
theorem dX6_ofKind_116 : decode cX6_ofKind 116 = .ok (.iload_n 1, 1) ∧ 116 + 1 = 117 := ⟨by decide +kernel, rfl⟩
theorem dX6_ofKind_117 : decode cX6_ofKind 117 = .ok (.invokevirtual 149, 3) ∧ 117 + 3 = 120 := ⟨by decide +kernel, rfl⟩
theorem dX6_ofKind_120 : decode cX6_ofKind 120 = .ok (.isub, 1) ∧ 120 + 1 = 121 := ⟨by decide +kernel, rfl⟩
theorem dX6_ofKind_121 : decode cX6_ofKind 121 = .ok (.ireturn, 1) ∧ 121 + 1 = 122 := ⟨by decide +kernel, rfl⟩
theorem dX6_ofKind_122 : decode cX6_ofKind 122 = .ok (.aload_n 0, 1) ∧ 122 + 1 = 123 := ⟨by decide +kernel, rfl⟩
theorem dX6_ofKind_123 : decode cX6_ofKind 123 = .ok (.aload_n 3, 1) ∧ 123 + 1 = 124 := ⟨by decide +kernel, rfl⟩
theorem dX6_ofKind_124 : decode cX6_ofKind 124 = .ok (.iload_n 1, 1) ∧ 124 + 1 = 125 := ⟨by decide +kernel, rfl⟩
theorem dX6_ofKind_125 : decode cX6_ofKind 125 = .ok (.invokevirtual 152, 3) ∧ 125 + 3 = 128 := ⟨by decide +kernel, rfl⟩
theorem dX6_ofKind_128 : decode cX6_ofKind 128 = .ok (.ireturn, 1) ∧ 128 + 1 = 129 := ⟨by decide +kernel, rfl⟩
theorem dX6_ofKind_129 : decode cX6_ofKind 129 = .ok (.aload_n 3, 1) ∧ 129 + 1 = 130 := ⟨by decide +kernel, rfl⟩
theorem dX6_ofKind_130 : decode cX6_ofKind 130 = .ok (.aload_n 0, 1) ∧ 130 + 1 = 131 := ⟨by decide +kernel, rfl⟩
theorem dX6_ofKind_131 : decode cX6_ofKind 131 = .ok (.getfield 12, 3) ∧ 131 + 3 = 134 := ⟨by decide +kernel, rfl⟩
theorem dX6_ofKind_134 : decode cX6_ofKind 134 = .ok (.iload_n 1, 1) ∧ 134 + 1 = 135 := ⟨by decide +kernel, rfl⟩
theorem dX6_ofKind_135 : decode cX6_ofKind 135 = .ok (.invokevirtual 156, 3) ∧ 135 + 3 = 138 := ⟨by decide +kernel, rfl⟩
theorem dX6_ofKind_138 : decode cX6_ofKind 138 = .ok (.ireturn, 1) ∧ 138 + 1 = 139 := ⟨by decide +kernel, rfl⟩
theorem dX6_ofKind_139 : decode cX6_ofKind 139 = .ok (.bipush (-2), 2) ∧ 139 + 2 = 141 := ⟨by decide +kernel, rfl⟩
theorem dX6_ofKind_141 : decode cX6_ofKind 141 = .ok (.ireturn, 1) ∧ 141 + 1 = 142 := ⟨by decide +kernel, rfl⟩
theorem dX6_ways_0 : decode cX6_ways 0 = .ok (.iload_n 1, 1) ∧ 0 + 1 = 1 := ⟨by decide +kernel, rfl⟩
theorem dX6_ways_1 : decode cX6_ways 1 = .ok (.invokestatic 60, 3) ∧ 1 + 3 = 4 := ⟨by decide +kernel, rfl⟩
theorem dX6_ways_4 : decode cX6_ways 4 = .ok (.ifCond .eq 22, 3) ∧ 4 + 3 = 7 ∧ ((4 : Nat) : Int) + 22 = ((26 : Nat) : Int) := ⟨by decide +kernel, rfl, rfl⟩
theorem dX6_ways_7 : decode cX6_ways 7 = .ok (.aload_n 0, 1) ∧ 7 + 1 = 8 := ⟨by decide +kernel, rfl⟩
theorem dX6_ways_8 : decode cX6_ways 8 = .ok (.getfield 39, 3) ∧ 8 + 3 = 11 := ⟨by decide +kernel, rfl⟩
theorem dX6_ways_11 : decode cX6_ways 11 = .ok (.aload_n 0, 1) ∧ 11 + 1 = 12 := ⟨by decide +kernel, rfl⟩
theorem dX6_ways_12 : decode cX6_ways 12 = .ok (.getfield 12, 3) ∧ 12 + 3 = 15 := ⟨by decide +kernel, rfl⟩
theorem dX6_ways_15 : decode cX6_ways 15 = .ok (.aload_n 0, 1) ∧ 15 + 1 = 16 := ⟨by decide +kernel, rfl⟩
theorem dX6_ways_16 : decode cX6_ways 16 = .ok (.invokevirtual 97, 3) ∧ 16 + 3 = 19 := ⟨by decide +kernel, rfl⟩
theorem dX6_ways_19 : decode cX6_ways 19 = .ok (.iload_n 1, 1) ∧ 19 + 1 = 20 := ⟨by decide +kernel, rfl⟩
theorem dX6_ways_20 : decode cX6_ways 20 = .ok (.invokevirtual 160, 3) ∧ 20 + 3 = 23 := ⟨by decide +kernel, rfl⟩
theorem dX6_ways_23 : decode cX6_ways 23 = .ok (.goto 6, 3) ∧ ((23 : Nat) : Int) + 6 = ((29 : Nat) : Int) := ⟨by decide +kernel, rfl⟩
theorem dX6_ways_26 : decode cX6_ways 26 = .ok (.ldc2_w 164, 3) ∧ 26 + 3 = 29 := ⟨by decide +kernel, rfl⟩
theorem dX6_ways_29 : decode cX6_ways 29 = .ok (.lreturn, 1) ∧ 29 + 1 = 30 := ⟨by decide +kernel, rfl⟩
theorem dX6_by_0 : decode cX6_by 0 = .ok (.iload_n 1, 1) ∧ 0 + 1 = 1 := ⟨by decide +kernel, rfl⟩
theorem dX6_by_1 : decode cX6_by 1 = .ok (.iconst 2, 1) ∧ 1 + 1 = 2 := ⟨by decide +kernel, rfl⟩
theorem dX6_by_2 : decode cX6_by 2 = .ok (.invokestatic 56, 3) ∧ 2 + 3 = 5 := ⟨by decide +kernel, rfl⟩
theorem dX6_by_5 : decode cX6_by 5 = .ok (.ifCond .eq 11, 3) ∧ 5 + 3 = 8 ∧ ((5 : Nat) : Int) + 11 = ((16 : Nat) : Int) := ⟨by decide +kernel, rfl, rfl⟩
theorem dX6_by_8 : decode cX6_by 8 = .ok (.iload_n 2, 1) ∧ 8 + 1 = 9 := ⟨by decide +kernel, rfl⟩
theorem dX6_by_9 : decode cX6_by 9 = .ok (.iconst 3, 1) ∧ 9 + 1 = 10 := ⟨by decide +kernel, rfl⟩
theorem dX6_by_10 : decode cX6_by 10 = .ok (.invokestatic 56, 3) ∧ 10 + 3 = 13 := ⟨by decide +kernel, rfl⟩
theorem dX6_by_13 : decode cX6_by 13 = .ok (.ifCond .ne 6, 3) ∧ 13 + 3 = 16 ∧ ((13 : Nat) : Int) + 6 = ((19 : Nat) : Int) := ⟨by decide +kernel, rfl, rfl⟩
theorem dX6_by_16 : decode cX6_by 16 = .ok (.bipush (-2), 2) ∧ 16 + 2 = 18 := ⟨by decide +kernel, rfl⟩
theorem dX6_by_18 : decode cX6_by 18 = .ok (.ireturn, 1) ∧ 18 + 1 = 19 := ⟨by decide +kernel, rfl⟩
theorem dX6_by_19 : decode cX6_by 19 = .ok (.aload_n 0, 1) ∧ 19 + 1 = 20 := ⟨by decide +kernel, rfl⟩
theorem dX6_by_20 : decode cX6_by 20 = .ok (.getfield 30, 3) ∧ 20 + 3 = 23 := ⟨by decide +kernel, rfl⟩
theorem dX6_by_23 : decode cX6_by 23 = .ok (.aload_n 0, 1) ∧ 23 + 1 = 24 := ⟨by decide +kernel, rfl⟩
theorem dX6_by_24 : decode cX6_by 24 = .ok (.getfield 12, 3) ∧ 24 + 3 = 27 := ⟨by decide +kernel, rfl⟩
theorem dX6_by_27 : decode cX6_by 27 = .ok (.invokevirtual 166, 3) ∧ 27 + 3 = 30 := ⟨by decide +kernel, rfl⟩
theorem dX6_by_30 : decode cX6_by 30 = .ok (.aload_n 0, 1) ∧ 30 + 1 = 31 := ⟨by decide +kernel, rfl⟩
theorem dX6_by_31 : decode cX6_by 31 = .ok (.getfield 30, 3) ∧ 31 + 3 = 34 := ⟨by decide +kernel, rfl⟩
theorem dX6_by_34 : decode cX6_by 34 = .ok (.sipush 156, 3) ∧ 34 + 3 = 37 := ⟨by decide +kernel, rfl⟩
theorem dX6_by_37 : decode cX6_by 37 = .ok (.iconst 0, 1) ∧ 37 + 1 = 38 := ⟨by decide +kernel, rfl⟩
theorem dX6_by_38 : decode cX6_by 38 = .ok (.iload_n 1, 1) ∧ 38 + 1 = 39 := ⟨by decide +kernel, rfl⟩
theorem dX6_by_39 : decode cX6_by 39 = .ok (.invokevirtual 74, 3) ∧ 39 + 3 = 42 := ⟨by decide +kernel, rfl⟩
theorem dX6_by_42 : decode cX6_by 42 = .ok (.aload_n 0, 1) ∧ 42 + 1 = 43 := ⟨by decide +kernel, rfl⟩
theorem dX6_by_43 : decode cX6_by 43 = .ok (.getfield 33, 3) ∧ 43 + 3 = 46 := ⟨by decide +kernel, rfl⟩
theorem dX6_by_46 : decode cX6_by 46 = .ok (.aload_n 0, 1) ∧ 46 + 1 = 47 := ⟨by decide +kernel, rfl⟩
theorem dX6_by_47 : decode cX6_by 47 = .ok (.getfield 30, 3) ∧ 47 + 3 = 50 := ⟨by decide +kernel, rfl⟩
theorem dX6_by_50 : decode cX6_by 50 = .ok (.invokevirtual 170, 3) ∧ 50 + 3 = 53 := ⟨by decide +kernel, rfl⟩
theorem dX6_by_53 : decode cX6_by 53 = .ok (.iload_n 2, 1) ∧ 53 + 1 = 54 := ⟨by decide +kernel, rfl⟩
theorem dX6_by_54 : decode cX6_by 54 = .ok (.tableswitch 57 0 2 #[26, 34, 45], 26) := by decide +kernel
theorem dX6_by_80 : decode cX6_by 80 = .ok (.aload_n 0, 1) ∧ 80 + 1 = 81 := ⟨by decide +kernel, rfl⟩
theorem dX6_by_81 : decode cX6_by 81 = .ok (.getfield 33, 3) ∧ 81 + 3 = 84 := ⟨by decide +kernel, rfl⟩
theorem dX6_by_84 : decode cX6_by 84 = .ok (.invokevirtual 173, 3) ∧ 84 + 3 = 87 := ⟨by decide +kernel, rfl⟩
theorem dX6_by_87 : decode cX6_by 87 = .ok (.ireturn, 1) ∧ 87 + 1 = 88 := ⟨by decide +kernel, rfl⟩
theorem dX6_by_88 : decode cX6_by 88 = .ok (.aload_n 0, 1) ∧ 88 + 1 = 89 := ⟨by decide +kernel, rfl⟩
theorem dX6_by_89 : decode cX6_by 89 = .ok (.getfield 33, 3) ∧ 89 + 3 = 92 := ⟨by decide +kernel, rfl⟩
theorem dX6_by_92 : decode cX6_by 92 = .ok (.invokevirtual 173, 3) ∧ 92 + 3 = 95 := ⟨by decide +kernel, rfl⟩
theorem dX6_by_95 : decode cX6_by 95 = .ok (.invokestatic 176, 3) ∧ 95 + 3 = 98 := ⟨by decide +kernel, rfl⟩
theorem dX6_by_98 : decode cX6_by 98 = .ok (.ireturn, 1) ∧ 98 + 1 = 99 := ⟨by decide +kernel, rfl⟩
theorem dX6_by_99 : decode cX6_by 99 = .ok (.aload_n 0, 1) ∧ 99 + 1 = 100 := ⟨by decide +kernel, rfl⟩
theorem dX6_by_100 : decode cX6_by 100 = .ok (.aload_n 0, 1) ∧ 100 + 1 = 101 := ⟨by decide +kernel, rfl⟩
theorem dX6_by_101 : decode cX6_by 101 = .ok (.getfield 33, 3) ∧ 101 + 3 = 104 := ⟨by decide +kernel, rfl⟩
theorem dX6_by_104 : decode cX6_by 104 = .ok (.invokevirtual 173, 3) ∧ 104 + 3 = 107 := ⟨by decide +kernel, rfl⟩
theorem dX6_by_107 : decode cX6_by 107 = .ok (.invokevirtual 181, 3) ∧ 107 + 3 = 110 := ⟨by decide +kernel, rfl⟩
theorem dX6_by_110 : decode cX6_by 110 = .ok (.ireturn, 1) ∧ 110 + 1 = 111 := ⟨by decide +kernel, rfl⟩
theorem dX6_by_111 : decode cX6_by 111 = .ok (.aload_n 0, 1) ∧ 111 + 1 = 112 := ⟨by decide +kernel, rfl⟩
theorem dX6_by_112 : decode cX6_by 112 = .ok (.getfield 33, 3) ∧ 112 + 3 = 115 := ⟨by decide +kernel, rfl⟩
theorem dX6_by_115 : decode cX6_by 115 = .ok (.aload_n 0, 1) ∧ 115 + 1 = 116 := ⟨by decide +kernel, rfl⟩
theorem dX6_by_116 : decode cX6_by 116 = .ok (.getfield 30, 3) ∧ 116 + 3 = 119 := ⟨by decide +kernel, rfl⟩
theorem dX6_by_119 : decode cX6_by 119 = .ok (.invokevirtual 184, 3) ∧ 119 + 3 = 122 := ⟨by decide +kernel, rfl⟩
theorem dX6_by_122 : decode cX6_by 122 = .ok (.aload_n 0, 1) ∧ 122 + 1 = 123 := ⟨by decide +kernel, rfl⟩
theorem dX6_by_123 : decode cX6_by 123 = .ok (.getfield 33, 3) ∧ 123 + 3 = 126 := ⟨by decide +kernel, rfl⟩
theorem dX6_by_126 : decode cX6_by 126 = .ok (.invokevirtual 187, 3) ∧ 126 + 3 = 129 := ⟨by decide +kernel, rfl⟩
theorem dX6_by_129 : decode cX6_by 129 = .ok (.ireturn, 1) ∧ 129 + 1 = 130 := ⟨by decide +kernel, rfl⟩
theorem dX6_sure_0 : decode cX6_sure 0 = .ok (.iload_n 1, 1) ∧ 0 + 1 = 1 := ⟨by decide +kernel, rfl⟩
theorem dX6_sure_1 : decode cX6_sure 1 = .ok (.iconst 1, 1) ∧ 1 + 1 = 2 := ⟨by decide +kernel, rfl⟩
theorem dX6_sure_2 : decode cX6_sure 2 = .ok (.invokestatic 56, 3) ∧ 2 + 3 = 5 := ⟨by decide +kernel, rfl⟩
theorem dX6_sure_5 : decode cX6_sure 5 = .ok (.ifCond .ne 6, 3) ∧ 5 + 3 = 8 ∧ ((5 : Nat) : Int) + 6 = ((11 : Nat) : Int) := ⟨by decide +kernel, rfl, rfl⟩
theorem dX6_sure_8 : decode cX6_sure 8 = .ok (.bipush (-2), 2) ∧ 8 + 2 = 10 := ⟨by decide +kernel, rfl⟩
theorem dX6_sure_10 : decode cX6_sure 10 = .ok (.ireturn, 1) ∧ 10 + 1 = 11 := ⟨by decide +kernel, rfl⟩
theorem dX6_sure_11 : decode cX6_sure 11 = .ok (.ldc 190, 2) ∧ 11 + 2 = 13 := ⟨by decide +kernel, rfl⟩
theorem dX6_sure_13 : decode cX6_sure 13 = .ok (.istore_n 2, 1) ∧ 13 + 1 = 14 := ⟨by decide +kernel, rfl⟩
theorem dX6_sure_14 : decode cX6_sure 14 = .ok (.iconst 0, 1) ∧ 14 + 1 = 15 := ⟨by decide +kernel, rfl⟩
theorem dX6_sure_15 : decode cX6_sure 15 = .ok (.istore_n 3, 1) ∧ 15 + 1 = 16 := ⟨by decide +kernel, rfl⟩
theorem dX6_sure_16 : decode cX6_sure 16 = .ok (.aload_n 0, 1) ∧ 16 + 1 = 17 := ⟨by decide +kernel, rfl⟩
theorem dX6_sure_17 : decode cX6_sure 17 = .ok (.getfield 30, 3) ∧ 17 + 3 = 20 := ⟨by decide +kernel, rfl⟩
theorem dX6_sure_20 : decode cX6_sure 20 = .ok (.aload_n 0, 1) ∧ 20 + 1 = 21 := ⟨by decide +kernel, rfl⟩
theorem dX6_sure_21 : decode cX6_sure 21 = .ok (.getfield 12, 3) ∧ 21 + 3 = 24 := ⟨by decide +kernel, rfl⟩
theorem dX6_sure_24 : decode cX6_sure 24 = .ok (.invokevirtual 166, 3) ∧ 24 + 3 = 27 := ⟨by decide +kernel, rfl⟩
theorem dX6_sure_27 : decode cX6_sure 27 = .ok (.iconst 0, 1) ∧ 27 + 1 = 28 := ⟨by decide +kernel, rfl⟩
theorem dX6_sure_28 : decode cX6_sure 28 = .ok (.istore 4, 2) ∧ 28 + 2 = 30 := ⟨by decide +kernel, rfl⟩
theorem dX6_sure_30 : decode cX6_sure 30 = .ok (.iload 4, 2) ∧ 30 + 2 = 32 := ⟨by decide +kernel, rfl⟩
theorem dX6_sure_32 : decode cX6_sure 32 = .ok (.sipush 256, 3) ∧ 32 + 3 = 35 := ⟨by decide +kernel, rfl⟩
theorem dX6_sure_35 : decode cX6_sure 35 = .ok (.if_icmp .ge 98, 3) ∧ 35 + 3 = 38 ∧ ((35 : Nat) : Int) + 98 = ((133 : Nat) : Int) := ⟨by decide +kernel, rfl, rfl⟩
theorem dX6_sure_38 : decode cX6_sure 38 = .ok (.iload 4, 2) ∧ 38 + 2 = 40 := ⟨by decide +kernel, rfl⟩
theorem dX6_sure_40 : decode cX6_sure 40 = .ok (.bipush 6, 2) ∧ 40 + 2 = 42 := ⟨by decide +kernel, rfl⟩
theorem dX6_sure_42 : decode cX6_sure 42 = .ok (.ishr, 1) ∧ 42 + 1 = 43 := ⟨by decide +kernel, rfl⟩
theorem dX6_sure_43 : decode cX6_sure 43 = .ok (.istore 5, 2) ∧ 43 + 2 = 45 := ⟨by decide +kernel, rfl⟩
theorem dX6_sure_45 : decode cX6_sure 45 = .ok (.iload 4, 2) ∧ 45 + 2 = 47 := ⟨by decide +kernel, rfl⟩
theorem dX6_sure_47 : decode cX6_sure 47 = .ok (.iconst 4, 1) ∧ 47 + 1 = 48 := ⟨by decide +kernel, rfl⟩
theorem dX6_sure_48 : decode cX6_sure 48 = .ok (.ishr, 1) ∧ 48 + 1 = 49 := ⟨by decide +kernel, rfl⟩
theorem dX6_sure_49 : decode cX6_sure 49 = .ok (.iconst 3, 1) ∧ 49 + 1 = 50 := ⟨by decide +kernel, rfl⟩
theorem dX6_sure_50 : decode cX6_sure 50 = .ok (.iand, 1) ∧ 50 + 1 = 51 := ⟨by decide +kernel, rfl⟩
theorem dX6_sure_51 : decode cX6_sure 51 = .ok (.istore 6, 2) ∧ 51 + 2 = 53 := ⟨by decide +kernel, rfl⟩
theorem dX6_sure_53 : decode cX6_sure 53 = .ok (.iload 4, 2) ∧ 53 + 2 = 55 := ⟨by decide +kernel, rfl⟩
theorem dX6_sure_55 : decode cX6_sure 55 = .ok (.iconst 2, 1) ∧ 55 + 1 = 56 := ⟨by decide +kernel, rfl⟩
theorem dX6_sure_56 : decode cX6_sure 56 = .ok (.ishr, 1) ∧ 56 + 1 = 57 := ⟨by decide +kernel, rfl⟩
theorem dX6_sure_57 : decode cX6_sure 57 = .ok (.iconst 3, 1) ∧ 57 + 1 = 58 := ⟨by decide +kernel, rfl⟩
theorem dX6_sure_58 : decode cX6_sure 58 = .ok (.iand, 1) ∧ 58 + 1 = 59 := ⟨by decide +kernel, rfl⟩
theorem dX6_sure_59 : decode cX6_sure 59 = .ok (.istore 7, 2) ∧ 59 + 2 = 61 := ⟨by decide +kernel, rfl⟩
theorem dX6_sure_61 : decode cX6_sure 61 = .ok (.iload 4, 2) ∧ 61 + 2 = 63 := ⟨by decide +kernel, rfl⟩
theorem dX6_sure_63 : decode cX6_sure 63 = .ok (.iconst 3, 1) ∧ 63 + 1 = 64 := ⟨by decide +kernel, rfl⟩
theorem dX6_sure_64 : decode cX6_sure 64 = .ok (.iand, 1) ∧ 64 + 1 = 65 := ⟨by decide +kernel, rfl⟩
theorem dX6_sure_65 : decode cX6_sure 65 = .ok (.istore 8, 2) ∧ 65 + 2 = 67 := ⟨by decide +kernel, rfl⟩
theorem dX6_sure_67 : decode cX6_sure 67 = .ok (.iload 5, 2) ∧ 67 + 2 = 69 := ⟨by decide +kernel, rfl⟩
theorem dX6_sure_69 : decode cX6_sure 69 = .ok (.iload 6, 2) ∧ 69 + 2 = 71 := ⟨by decide +kernel, rfl⟩
theorem dX6_sure_71 : decode cX6_sure 71 = .ok (.iload 7, 2) ∧ 71 + 2 = 73 := ⟨by decide +kernel, rfl⟩
theorem dX6_sure_73 : decode cX6_sure 73 = .ok (.iload 8, 2) ∧ 73 + 2 = 75 := ⟨by decide +kernel, rfl⟩
theorem dX6_sure_75 : decode cX6_sure 75 = .ok (.invokestatic 114, 3) ∧ 75 + 3 = 78 := ⟨by decide +kernel, rfl⟩
theorem dX6_sure_78 : decode cX6_sure 78 = .ok (.ifCond .eq 49, 3) ∧ 78 + 3 = 81 ∧ ((78 : Nat) : Int) + 49 = ((127 : Nat) : Int) := ⟨by decide +kernel, rfl, rfl⟩
theorem dX6_sure_81 : decode cX6_sure 81 = .ok (.aload_n 0, 1) ∧ 81 + 1 = 82 := ⟨by decide +kernel, rfl⟩
theorem dX6_sure_82 : decode cX6_sure 82 = .ok (.getfield 30, 3) ∧ 82 + 3 = 85 := ⟨by decide +kernel, rfl⟩
theorem dX6_sure_85 : decode cX6_sure 85 = .ok (.iload 5, 2) ∧ 85 + 2 = 87 := ⟨by decide +kernel, rfl⟩
theorem dX6_sure_87 : decode cX6_sure 87 = .ok (.iload 6, 2) ∧ 87 + 2 = 89 := ⟨by decide +kernel, rfl⟩
theorem dX6_sure_89 : decode cX6_sure 89 = .ok (.iload 7, 2) ∧ 89 + 2 = 91 := ⟨by decide +kernel, rfl⟩
theorem dX6_sure_91 : decode cX6_sure 91 = .ok (.iload 8, 2) ∧ 91 + 2 = 93 := ⟨by decide +kernel, rfl⟩
theorem dX6_sure_93 : decode cX6_sure 93 = .ok (.invokevirtual 118, 3) ∧ 93 + 3 = 96 := ⟨by decide +kernel, rfl⟩
theorem dX6_sure_96 : decode cX6_sure 96 = .ok (.aload_n 0, 1) ∧ 96 + 1 = 97 := ⟨by decide +kernel, rfl⟩
theorem dX6_sure_97 : decode cX6_sure 97 = .ok (.getfield 33, 3) ∧ 97 + 3 = 100 := ⟨by decide +kernel, rfl⟩
theorem dX6_sure_100 : decode cX6_sure 100 = .ok (.aload_n 0, 1) ∧ 100 + 1 = 101 := ⟨by decide +kernel, rfl⟩
theorem dX6_sure_101 : decode cX6_sure 101 = .ok (.getfield 30, 3) ∧ 101 + 3 = 104 := ⟨by decide +kernel, rfl⟩
theorem dX6_sure_104 : decode cX6_sure 104 = .ok (.invokevirtual 170, 3) ∧ 104 + 3 = 107 := ⟨by decide +kernel, rfl⟩
theorem dX6_sure_107 : decode cX6_sure 107 = .ok (.iload_n 2, 1) ∧ 107 + 1 = 108 := ⟨by decide +kernel, rfl⟩
theorem dX6_sure_108 : decode cX6_sure 108 = .ok (.aload_n 0, 1) ∧ 108 + 1 = 109 := ⟨by decide +kernel, rfl⟩
theorem dX6_sure_109 : decode cX6_sure 109 = .ok (.getfield 33, 3) ∧ 109 + 3 = 112 := ⟨by decide +kernel, rfl⟩
theorem dX6_sure_112 : decode cX6_sure 112 = .ok (.invokevirtual 173, 3) ∧ 112 + 3 = 115 := ⟨by decide +kernel, rfl⟩
theorem dX6_sure_115 : decode cX6_sure 115 = .ok (.iand, 1) ∧ 115 + 1 = 116 := ⟨by decide +kernel, rfl⟩
theorem dX6_sure_116 : decode cX6_sure 116 = .ok (.istore_n 2, 1) ∧ 116 + 1 = 117 := ⟨by decide +kernel, rfl⟩
theorem dX6_sure_117 : decode cX6_sure 117 = .ok (.iload_n 3, 1) ∧ 117 + 1 = 118 := ⟨by decide +kernel, rfl⟩
theorem dX6_sure_118 : decode cX6_sure 118 = .ok (.aload_n 0, 1) ∧ 118 + 1 = 119 := ⟨by decide +kernel, rfl⟩
theorem dX6_sure_119 : decode cX6_sure 119 = .ok (.getfield 33, 3) ∧ 119 + 3 = 122 := ⟨by decide +kernel, rfl⟩
theorem dX6_sure_122 : decode cX6_sure 122 = .ok (.invokevirtual 173, 3) ∧ 122 + 3 = 125 := ⟨by decide +kernel, rfl⟩
theorem dX6_sure_125 : decode cX6_sure 125 = .ok (.ior, 1) ∧ 125 + 1 = 126 := ⟨by decide +kernel, rfl⟩
theorem dX6_sure_126 : decode cX6_sure 126 = .ok (.istore_n 3, 1) ∧ 126 + 1 = 127 := ⟨by decide +kernel, rfl⟩
theorem dX6_sure_127 : decode cX6_sure 127 = .ok (.iinc 4 1, 3) ∧ 127 + 3 = 130 := ⟨by decide +kernel, rfl⟩
theorem dX6_sure_130 : decode cX6_sure 130 = .ok (.goto (-100), 3) ∧ ((130 : Nat) : Int) + (-100) = ((30 : Nat) : Int) := ⟨by decide +kernel, rfl⟩
theorem dX6_sure_133 : decode cX6_sure 133 = .ok (.iload_n 1, 1) ∧ 133 + 1 = 134 := ⟨by decide +kernel, rfl⟩
theorem dX6_sure_134 : decode cX6_sure 134 = .ok (.ifCond .ne 7, 3) ∧ 134 + 3 = 137 ∧ ((134 : Nat) : Int) + 7 = ((141 : Nat) : Int) := ⟨by decide +kernel, rfl, rfl⟩
theorem dX6_sure_137 : decode cX6_sure 137 = .ok (.iload_n 2, 1) ∧ 137 + 1 = 138 := ⟨by decide +kernel, rfl⟩
theorem dX6_sure_138 : decode cX6_sure 138 = .ok (.goto 4, 3) ∧ ((138 : Nat) : Int) + 4 = ((142 : Nat) : Int) := ⟨by decide +kernel, rfl⟩
theorem dX6_sure_141 : decode cX6_sure 141 = .ok (.iload_n 3, 1) ∧ 141 + 1 = 142 := ⟨by decide +kernel, rfl⟩
theorem dX6_sure_142 : decode cX6_sure 142 = .ok (.ireturn, 1) ∧ 142 + 1 = 143 := ⟨by decide +kernel, rfl⟩
theorem dX6_threshold_0 : decode cX6_threshold 0 = .ok (.aload_n 0, 1) ∧ 0 + 1 = 1 := ⟨by decide +kernel, rfl⟩
theorem dX6_threshold_1 : decode cX6_threshold 1 = .ok (.iload_n 1, 1) ∧ 1 + 1 = 2 := ⟨by decide +kernel, rfl⟩
theorem dX6_threshold_2 : decode cX6_threshold 2 = .ok (.invokevirtual 86, 3) ∧ 2 + 3 = 5 := ⟨by decide +kernel, rfl⟩
theorem dX6_threshold_5 : decode cX6_threshold 5 = .ok (.ifCond .ne 5, 3) ∧ 5 + 3 = 8 ∧ ((5 : Nat) : Int) + 5 = ((10 : Nat) : Int) := ⟨by decide +kernel, rfl, rfl⟩
theorem dX6_threshold_8 : decode cX6_threshold 8 = .ok (.iconst (-1), 1) ∧ 8 + 1 = 9 := ⟨by decide +kernel, rfl⟩
theorem dX6_threshold_9 : decode cX6_threshold 9 = .ok (.ireturn, 1) ∧ 9 + 1 = 10 := ⟨by decide +kernel, rfl⟩
theorem dX6_threshold_10 : decode cX6_threshold 10 = .ok (.aload_n 0, 1) ∧ 10 + 1 = 11 := ⟨by decide +kernel, rfl⟩
theorem dX6_threshold_11 : decode cX6_threshold 11 = .ok (.getfield 12, 3) ∧ 11 + 3 = 14 := ⟨by decide +kernel, rfl⟩
theorem dX6_threshold_14 : decode cX6_threshold 14 = .ok (.iload_n 1, 1) ∧ 14 + 1 = 15 := ⟨by decide +kernel, rfl⟩
theorem dX6_threshold_15 : decode cX6_threshold 15 = .ok (.invokevirtual 191, 3) ∧ 15 + 3 = 18 := ⟨by decide +kernel, rfl⟩
theorem dX6_threshold_18 : decode cX6_threshold 18 = .ok (.ifCond .eq 11, 3) ∧ 18 + 3 = 21 ∧ ((18 : Nat) : Int) + 11 = ((29 : Nat) : Int) := ⟨by decide +kernel, rfl, rfl⟩
theorem dX6_threshold_21 : decode cX6_threshold 21 = .ok (.aload_n 0, 1) ∧ 21 + 1 = 22 := ⟨by decide +kernel, rfl⟩
theorem dX6_threshold_22 : decode cX6_threshold 22 = .ok (.iload_n 1, 1) ∧ 22 + 1 = 23 := ⟨by decide +kernel, rfl⟩
theorem dX6_threshold_23 : decode cX6_threshold 23 = .ok (.invokevirtual 194, 3) ∧ 23 + 3 = 26 := ⟨by decide +kernel, rfl⟩
theorem dX6_threshold_26 : decode cX6_threshold 26 = .ok (.goto 5, 3) ∧ ((26 : Nat) : Int) + 5 = ((31 : Nat) : Int) := ⟨by decide +kernel, rfl⟩
theorem dX6_threshold_29 : decode cX6_threshold 29 = .ok (.bipush (-3), 2) ∧ 29 + 2 = 31 := ⟨by decide +kernel, rfl⟩
theorem dX6_threshold_31 : decode cX6_threshold 31 = .ok (.ireturn, 1) ∧ 31 + 1 = 32 := ⟨by decide +kernel, rfl⟩
theorem dX6_claim_0 : decode cX6_claim 0 = .ok (.aload_n 0, 1) ∧ 0 + 1 = 1 := ⟨by decide +kernel, rfl⟩
theorem dX6_claim_1 : decode cX6_claim 1 = .ok (.iload_n 1, 1) ∧ 1 + 1 = 2 := ⟨by decide +kernel, rfl⟩
theorem dX6_claim_2 : decode cX6_claim 2 = .ok (.invokevirtual 86, 3) ∧ 2 + 3 = 5 := ⟨by decide +kernel, rfl⟩
theorem dX6_claim_5 : decode cX6_claim 5 = .ok (.ifCond .ne 5, 3) ∧ 5 + 3 = 8 ∧ ((5 : Nat) : Int) + 5 = ((10 : Nat) : Int) := ⟨by decide +kernel, rfl, rfl⟩
theorem dX6_claim_8 : decode cX6_claim 8 = .ok (.iconst (-1), 1) ∧ 8 + 1 = 9 := ⟨by decide +kernel, rfl⟩
theorem dX6_claim_9 : decode cX6_claim 9 = .ok (.ireturn, 1) ∧ 9 + 1 = 10 := ⟨by decide +kernel, rfl⟩
theorem dX6_claim_10 : decode cX6_claim 10 = .ok (.aload_n 0, 1) ∧ 10 + 1 = 11 := ⟨by decide +kernel, rfl⟩
theorem dX6_claim_11 : decode cX6_claim 11 = .ok (.getfield 12, 3) ∧ 11 + 3 = 14 := ⟨by decide +kernel, rfl⟩
theorem dX6_claim_14 : decode cX6_claim 14 = .ok (.iload_n 1, 1) ∧ 14 + 1 = 15 := ⟨by decide +kernel, rfl⟩
theorem dX6_claim_15 : decode cX6_claim 15 = .ok (.invokevirtual 191, 3) ∧ 15 + 3 = 18 := ⟨by decide +kernel, rfl⟩
theorem dX6_claim_18 : decode cX6_claim 18 = .ok (.ifCond .eq 11, 3) ∧ 18 + 3 = 21 ∧ ((18 : Nat) : Int) + 11 = ((29 : Nat) : Int) := ⟨by decide +kernel, rfl, rfl⟩
theorem dX6_claim_21 : decode cX6_claim 21 = .ok (.aload_n 0, 1) ∧ 21 + 1 = 22 := ⟨by decide +kernel, rfl⟩
theorem dX6_claim_22 : decode cX6_claim 22 = .ok (.iload_n 1, 1) ∧ 22 + 1 = 23 := ⟨by decide +kernel, rfl⟩
theorem dX6_claim_23 : decode cX6_claim 23 = .ok (.invokevirtual 197, 3) ∧ 23 + 3 = 26 := ⟨by decide +kernel, rfl⟩
theorem dX6_claim_26 : decode cX6_claim 26 = .ok (.goto 5, 3) ∧ ((26 : Nat) : Int) + 5 = ((31 : Nat) : Int) := ⟨by decide +kernel, rfl⟩
theorem dX6_claim_29 : decode cX6_claim 29 = .ok (.bipush (-3), 2) ∧ 29 + 2 = 31 := ⟨by decide +kernel, rfl⟩
theorem dX6_claim_31 : decode cX6_claim 31 = .ok (.ireturn, 1) ∧ 31 + 1 = 32 := ⟨by decide +kernel, rfl⟩
theorem dX6_successor_0 : decode cX6_successor 0 = .ok (.aload_n 0, 1) ∧ 0 + 1 = 1 := ⟨by decide +kernel, rfl⟩
theorem dX6_successor_1 : decode cX6_successor 1 = .ok (.iload_n 1, 1) ∧ 1 + 1 = 2 := ⟨by decide +kernel, rfl⟩
theorem dX6_successor_2 : decode cX6_successor 2 = .ok (.invokevirtual 86, 3) ∧ 2 + 3 = 5 := ⟨by decide +kernel, rfl⟩
theorem dX6_successor_5 : decode cX6_successor 5 = .ok (.ifCond .ne 5, 3) ∧ 5 + 3 = 8 ∧ ((5 : Nat) : Int) + 5 = ((10 : Nat) : Int) := ⟨by decide +kernel, rfl, rfl⟩
theorem dX6_successor_8 : decode cX6_successor 8 = .ok (.iconst (-1), 1) ∧ 8 + 1 = 9 := ⟨by decide +kernel, rfl⟩
theorem dX6_successor_9 : decode cX6_successor 9 = .ok (.ireturn, 1) ∧ 9 + 1 = 10 := ⟨by decide +kernel, rfl⟩
theorem dX6_successor_10 : decode cX6_successor 10 = .ok (.aload_n 0, 1) ∧ 10 + 1 = 11 := ⟨by decide +kernel, rfl⟩
theorem dX6_successor_11 : decode cX6_successor 11 = .ok (.invokevirtual 97, 3) ∧ 11 + 3 = 14 := ⟨by decide +kernel, rfl⟩
theorem dX6_successor_14 : decode cX6_successor 14 = .ok (.astore_n 2, 1) ∧ 14 + 1 = 15 := ⟨by decide +kernel, rfl⟩
theorem dX6_successor_15 : decode cX6_successor 15 = .ok (.aload_n 2, 1) ∧ 15 + 1 = 16 := ⟨by decide +kernel, rfl⟩
theorem dX6_successor_16 : decode cX6_successor 16 = .ok (.iload_n 1, 1) ∧ 16 + 1 = 17 := ⟨by decide +kernel, rfl⟩
theorem dX6_successor_17 : decode cX6_successor 17 = .ok (.invokevirtual 200, 3) ∧ 17 + 3 = 20 := ⟨by decide +kernel, rfl⟩
theorem dX6_successor_20 : decode cX6_successor 20 = .ok (.ifCond .ne 6, 3) ∧ 20 + 3 = 23 ∧ ((20 : Nat) : Int) + 6 = ((26 : Nat) : Int) := ⟨by decide +kernel, rfl, rfl⟩
theorem dX6_successor_23 : decode cX6_successor 23 = .ok (.bipush (-3), 2) ∧ 23 + 2 = 25 := ⟨by decide +kernel, rfl⟩
theorem dX6_successor_25 : decode cX6_successor 25 = .ok (.ireturn, 1) ∧ 25 + 1 = 26 := ⟨by decide +kernel, rfl⟩
theorem dX6_successor_26 : decode cX6_successor 26 = .ok (.aload_n 0, 1) ∧ 26 + 1 = 27 := ⟨by decide +kernel, rfl⟩
theorem dX6_successor_27 : decode cX6_successor 27 = .ok (.getfield 30, 3) ∧ 27 + 3 = 30 := ⟨by decide +kernel, rfl⟩
theorem dX6_successor_30 : decode cX6_successor 30 = .ok (.aload_n 0, 1) ∧ 30 + 1 = 31 := ⟨by decide +kernel, rfl⟩
theorem dX6_successor_31 : decode cX6_successor 31 = .ok (.getfield 12, 3) ∧ 31 + 3 = 34 := ⟨by decide +kernel, rfl⟩
theorem dX6_successor_34 : decode cX6_successor 34 = .ok (.invokevirtual 166, 3) ∧ 34 + 3 = 37 := ⟨by decide +kernel, rfl⟩
theorem dX6_successor_37 : decode cX6_successor 37 = .ok (.aload_n 0, 1) ∧ 37 + 1 = 38 := ⟨by decide +kernel, rfl⟩
theorem dX6_successor_38 : decode cX6_successor 38 = .ok (.getfield 30, 3) ∧ 38 + 3 = 41 := ⟨by decide +kernel, rfl⟩
theorem dX6_successor_41 : decode cX6_successor 41 = .ok (.bipush 64, 2) ∧ 41 + 2 = 43 := ⟨by decide +kernel, rfl⟩
theorem dX6_successor_43 : decode cX6_successor 43 = .ok (.iload_n 1, 1) ∧ 43 + 1 = 44 := ⟨by decide +kernel, rfl⟩
theorem dX6_successor_44 : decode cX6_successor 44 = .ok (.iconst 4, 1) ∧ 44 + 1 = 45 := ⟨by decide +kernel, rfl⟩
theorem dX6_successor_45 : decode cX6_successor 45 = .ok (.invokevirtual 74, 3) ∧ 45 + 3 = 48 := ⟨by decide +kernel, rfl⟩
theorem dX6_successor_48 : decode cX6_successor 48 = .ok (.aload_n 0, 1) ∧ 48 + 1 = 49 := ⟨by decide +kernel, rfl⟩
theorem dX6_successor_49 : decode cX6_successor 49 = .ok (.getfield 33, 3) ∧ 49 + 3 = 52 := ⟨by decide +kernel, rfl⟩
theorem dX6_successor_52 : decode cX6_successor 52 = .ok (.aload_n 0, 1) ∧ 52 + 1 = 53 := ⟨by decide +kernel, rfl⟩
theorem dX6_successor_53 : decode cX6_successor 53 = .ok (.getfield 30, 3) ∧ 53 + 3 = 56 := ⟨by decide +kernel, rfl⟩
theorem dX6_successor_56 : decode cX6_successor 56 = .ok (.invokevirtual 170, 3) ∧ 56 + 3 = 59 := ⟨by decide +kernel, rfl⟩
theorem dX6_successor_59 : decode cX6_successor 59 = .ok (.iconst 0, 1) ∧ 59 + 1 = 60 := ⟨by decide +kernel, rfl⟩
theorem dX6_successor_60 : decode cX6_successor 60 = .ok (.istore_n 3, 1) ∧ 60 + 1 = 61 := ⟨by decide +kernel, rfl⟩
theorem dX6_successor_61 : decode cX6_successor 61 = .ok (.iload_n 3, 1) ∧ 61 + 1 = 62 := ⟨by decide +kernel, rfl⟩
theorem dX6_successor_62 : decode cX6_successor 62 = .ok (.aload_n 0, 1) ∧ 62 + 1 = 63 := ⟨by decide +kernel, rfl⟩
theorem dX6_successor_63 : decode cX6_successor 63 = .ok (.getfield 12, 3) ∧ 63 + 3 = 66 := ⟨by decide +kernel, rfl⟩
theorem dX6_successor_66 : decode cX6_successor 66 = .ok (.invokevirtual 67, 3) ∧ 66 + 3 = 69 := ⟨by decide +kernel, rfl⟩
theorem dX6_successor_69 : decode cX6_successor 69 = .ok (.if_icmp .ge 40, 3) ∧ 69 + 3 = 72 ∧ ((69 : Nat) : Int) + 40 = ((109 : Nat) : Int) := ⟨by decide +kernel, rfl, rfl⟩
theorem dX6_successor_72 : decode cX6_successor 72 = .ok (.aload_n 2, 1) ∧ 72 + 1 = 73 := ⟨by decide +kernel, rfl⟩
theorem dX6_successor_73 : decode cX6_successor 73 = .ok (.iload_n 3, 1) ∧ 73 + 1 = 74 := ⟨by decide +kernel, rfl⟩
theorem dX6_successor_74 : decode cX6_successor 74 = .ok (.invokevirtual 101, 3) ∧ 74 + 3 = 77 := ⟨by decide +kernel, rfl⟩
theorem dX6_successor_77 : decode cX6_successor 77 = .ok (.istore 4, 2) ∧ 77 + 2 = 79 := ⟨by decide +kernel, rfl⟩
theorem dX6_successor_79 : decode cX6_successor 79 = .ok (.aload_n 2, 1) ∧ 79 + 1 = 80 := ⟨by decide +kernel, rfl⟩
theorem dX6_successor_80 : decode cX6_successor 80 = .ok (.iload 4, 2) ∧ 80 + 2 = 82 := ⟨by decide +kernel, rfl⟩
theorem dX6_successor_82 : decode cX6_successor 82 = .ok (.invokevirtual 200, 3) ∧ 82 + 3 = 85 := ⟨by decide +kernel, rfl⟩
theorem dX6_successor_85 : decode cX6_successor 85 = .ok (.ifCond .ne 18, 3) ∧ 85 + 3 = 88 ∧ ((85 : Nat) : Int) + 18 = ((103 : Nat) : Int) := ⟨by decide +kernel, rfl, rfl⟩
theorem dX6_successor_88 : decode cX6_successor 88 = .ok (.aload_n 0, 1) ∧ 88 + 1 = 89 := ⟨by decide +kernel, rfl⟩
theorem dX6_successor_89 : decode cX6_successor 89 = .ok (.getfield 33, 3) ∧ 89 + 3 = 92 := ⟨by decide +kernel, rfl⟩
theorem dX6_successor_92 : decode cX6_successor 92 = .ok (.iload 4, 2) ∧ 92 + 2 = 94 := ⟨by decide +kernel, rfl⟩
theorem dX6_successor_94 : decode cX6_successor 94 = .ok (.invokevirtual 200, 3) ∧ 94 + 3 = 97 := ⟨by decide +kernel, rfl⟩
theorem dX6_successor_97 : decode cX6_successor 97 = .ok (.ifCond .eq 6, 3) ∧ 97 + 3 = 100 ∧ ((97 : Nat) : Int) + 6 = ((103 : Nat) : Int) := ⟨by decide +kernel, rfl, rfl⟩
theorem dX6_successor_100 : decode cX6_successor 100 = .ok (.iload 4, 2) ∧ 100 + 2 = 102 := ⟨by decide +kernel, rfl⟩
theorem dX6_successor_102 : decode cX6_successor 102 = .ok (.ireturn, 1) ∧ 102 + 1 = 103 := ⟨by decide +kernel, rfl⟩
theorem dX6_successor_103 : decode cX6_successor 103 = .ok (.iinc 3 1, 3) ∧ 103 + 3 = 106 := ⟨by decide +kernel, rfl⟩
theorem dX6_successor_106 : decode cX6_successor 106 = .ok (.goto (-45), 3) ∧ ((106 : Nat) : Int) + (-45) = ((61 : Nat) : Int) := ⟨by decide +kernel, rfl⟩
theorem dX6_successor_109 : decode cX6_successor 109 = .ok (.bipush (-9), 2) ∧ 109 + 2 = 111 := ⟨by decide +kernel, rfl⟩
theorem dX6_successor_111 : decode cX6_successor 111 = .ok (.ireturn, 1) ∧ 111 + 1 = 112 := ⟨by decide +kernel, rfl⟩
theorem dX6_passed_0 : decode cX6_passed 0 = .ok (.aload_n 0, 1) ∧ 0 + 1 = 1 := ⟨by decide +kernel, rfl⟩
theorem dX6_passed_1 : decode cX6_passed 1 = .ok (.iload_n 1, 1) ∧ 1 + 1 = 2 := ⟨by decide +kernel, rfl⟩
theorem dX6_passed_2 : decode cX6_passed 2 = .ok (.invokevirtual 86, 3) ∧ 2 + 3 = 5 := ⟨by decide +kernel, rfl⟩
theorem dX6_passed_5 : decode cX6_passed 5 = .ok (.ifCond .ne 5, 3) ∧ 5 + 3 = 8 ∧ ((5 : Nat) : Int) + 5 = ((10 : Nat) : Int) := ⟨by decide +kernel, rfl, rfl⟩
theorem dX6_passed_8 : decode cX6_passed 8 = .ok (.iconst (-1), 1) ∧ 8 + 1 = 9 := ⟨by decide +kernel, rfl⟩
theorem dX6_passed_9 : decode cX6_passed 9 = .ok (.ireturn, 1) ∧ 9 + 1 = 10 := ⟨by decide +kernel, rfl⟩
theorem dX6_passed_10 : decode cX6_passed 10 = .ok (.aload_n 0, 1) ∧ 10 + 1 = 11 := ⟨by decide +kernel, rfl⟩
theorem dX6_passed_11 : decode cX6_passed 11 = .ok (.invokevirtual 97, 3) ∧ 11 + 3 = 14 := ⟨by decide +kernel, rfl⟩
theorem dX6_passed_14 : decode cX6_passed 14 = .ok (.astore_n 2, 1) ∧ 14 + 1 = 15 := ⟨by decide +kernel, rfl⟩
theorem dX6_passed_15 : decode cX6_passed 15 = .ok (.aload_n 0, 1) ∧ 15 + 1 = 16 := ⟨by decide +kernel, rfl⟩
theorem dX6_passed_16 : decode cX6_passed 16 = .ok (.getfield 12, 3) ∧ 16 + 3 = 19 := ⟨by decide +kernel, rfl⟩
theorem dX6_passed_19 : decode cX6_passed 19 = .ok (.iload_n 1, 1) ∧ 19 + 1 = 20 := ⟨by decide +kernel, rfl⟩
theorem dX6_passed_20 : decode cX6_passed 20 = .ok (.invokevirtual 191, 3) ∧ 20 + 3 = 23 := ⟨by decide +kernel, rfl⟩
theorem dX6_passed_23 : decode cX6_passed 23 = .ok (.ifCond .eq 11, 3) ∧ 23 + 3 = 26 ∧ ((23 : Nat) : Int) + 11 = ((34 : Nat) : Int) := ⟨by decide +kernel, rfl, rfl⟩
theorem dX6_passed_26 : decode cX6_passed 26 = .ok (.aload_n 2, 1) ∧ 26 + 1 = 27 := ⟨by decide +kernel, rfl⟩
theorem dX6_passed_27 : decode cX6_passed 27 = .ok (.iload_n 1, 1) ∧ 27 + 1 = 28 := ⟨by decide +kernel, rfl⟩
theorem dX6_passed_28 : decode cX6_passed 28 = .ok (.invokevirtual 200, 3) ∧ 28 + 3 = 31 := ⟨by decide +kernel, rfl⟩
theorem dX6_passed_31 : decode cX6_passed 31 = .ok (.ifCond .eq 6, 3) ∧ 31 + 3 = 34 ∧ ((31 : Nat) : Int) + 6 = ((37 : Nat) : Int) := ⟨by decide +kernel, rfl, rfl⟩
theorem dX6_passed_34 : decode cX6_passed 34 = .ok (.bipush (-3), 2) ∧ 34 + 2 = 36 := ⟨by decide +kernel, rfl⟩
theorem dX6_passed_36 : decode cX6_passed 36 = .ok (.ireturn, 1) ∧ 36 + 1 = 37 := ⟨by decide +kernel, rfl⟩
theorem dX6_passed_37 : decode cX6_passed 37 = .ok (.iconst 0, 1) ∧ 37 + 1 = 38 := ⟨by decide +kernel, rfl⟩
theorem dX6_passed_38 : decode cX6_passed 38 = .ok (.istore_n 3, 1) ∧ 38 + 1 = 39 := ⟨by decide +kernel, rfl⟩
theorem dX6_passed_39 : decode cX6_passed 39 = .ok (.iconst 0, 1) ∧ 39 + 1 = 40 := ⟨by decide +kernel, rfl⟩
theorem dX6_passed_40 : decode cX6_passed 40 = .ok (.istore 4, 2) ∧ 40 + 2 = 42 := ⟨by decide +kernel, rfl⟩
theorem dX6_passed_42 : decode cX6_passed 42 = .ok (.iload 4, 2) ∧ 42 + 2 = 44 := ⟨by decide +kernel, rfl⟩
theorem dX6_passed_44 : decode cX6_passed 44 = .ok (.aload_n 0, 1) ∧ 44 + 1 = 45 := ⟨by decide +kernel, rfl⟩
theorem dX6_passed_45 : decode cX6_passed 45 = .ok (.getfield 12, 3) ∧ 45 + 3 = 48 := ⟨by decide +kernel, rfl⟩
theorem dX6_passed_48 : decode cX6_passed 48 = .ok (.invokevirtual 67, 3) ∧ 48 + 3 = 51 := ⟨by decide +kernel, rfl⟩
theorem dX6_passed_51 : decode cX6_passed 51 = .ok (.if_icmp .ge 38, 3) ∧ 51 + 3 = 54 ∧ ((51 : Nat) : Int) + 38 = ((89 : Nat) : Int) := ⟨by decide +kernel, rfl, rfl⟩
theorem dX6_passed_54 : decode cX6_passed 54 = .ok (.aload_n 2, 1) ∧ 54 + 1 = 55 := ⟨by decide +kernel, rfl⟩
theorem dX6_passed_55 : decode cX6_passed 55 = .ok (.iload 4, 2) ∧ 55 + 2 = 57 := ⟨by decide +kernel, rfl⟩
theorem dX6_passed_57 : decode cX6_passed 57 = .ok (.invokevirtual 200, 3) ∧ 57 + 3 = 60 := ⟨by decide +kernel, rfl⟩
theorem dX6_passed_60 : decode cX6_passed 60 = .ok (.ifCond .eq 23, 3) ∧ 60 + 3 = 63 ∧ ((60 : Nat) : Int) + 23 = ((83 : Nat) : Int) := ⟨by decide +kernel, rfl, rfl⟩
theorem dX6_passed_63 : decode cX6_passed 63 = .ok (.aload_n 0, 1) ∧ 63 + 1 = 64 := ⟨by decide +kernel, rfl⟩
theorem dX6_passed_64 : decode cX6_passed 64 = .ok (.getfield 12, 3) ∧ 64 + 3 = 67 := ⟨by decide +kernel, rfl⟩
theorem dX6_passed_67 : decode cX6_passed 67 = .ok (.iload_n 1, 1) ∧ 67 + 1 = 68 := ⟨by decide +kernel, rfl⟩
theorem dX6_passed_68 : decode cX6_passed 68 = .ok (.iload 4, 2) ∧ 68 + 2 = 70 := ⟨by decide +kernel, rfl⟩
theorem dX6_passed_70 : decode cX6_passed 70 = .ok (.invokevirtual 203, 3) ∧ 70 + 3 = 73 := ⟨by decide +kernel, rfl⟩
theorem dX6_passed_73 : decode cX6_passed 73 = .ok (.ifCond .eq 10, 3) ∧ 73 + 3 = 76 ∧ ((73 : Nat) : Int) + 10 = ((83 : Nat) : Int) := ⟨by decide +kernel, rfl, rfl⟩
theorem dX6_passed_76 : decode cX6_passed 76 = .ok (.iload_n 3, 1) ∧ 76 + 1 = 77 := ⟨by decide +kernel, rfl⟩
theorem dX6_passed_77 : decode cX6_passed 77 = .ok (.iconst 1, 1) ∧ 77 + 1 = 78 := ⟨by decide +kernel, rfl⟩
theorem dX6_passed_78 : decode cX6_passed 78 = .ok (.iload 4, 2) ∧ 78 + 2 = 80 := ⟨by decide +kernel, rfl⟩
theorem dX6_passed_80 : decode cX6_passed 80 = .ok (.ishl, 1) ∧ 80 + 1 = 81 := ⟨by decide +kernel, rfl⟩
theorem dX6_passed_81 : decode cX6_passed 81 = .ok (.ior, 1) ∧ 81 + 1 = 82 := ⟨by decide +kernel, rfl⟩
theorem dX6_passed_82 : decode cX6_passed 82 = .ok (.istore_n 3, 1) ∧ 82 + 1 = 83 := ⟨by decide +kernel, rfl⟩
theorem dX6_passed_83 : decode cX6_passed 83 = .ok (.iinc 4 1, 3) ∧ 83 + 3 = 86 := ⟨by decide +kernel, rfl⟩
theorem dX6_passed_86 : decode cX6_passed 86 = .ok (.goto (-44), 3) ∧ ((86 : Nat) : Int) + (-44) = ((42 : Nat) : Int) := ⟨by decide +kernel, rfl⟩
theorem dX6_passed_89 : decode cX6_passed 89 = .ok (.iload_n 3, 1) ∧ 89 + 1 = 90 := ⟨by decide +kernel, rfl⟩
theorem dX6_passed_90 : decode cX6_passed 90 = .ok (.ireturn, 1) ∧ 90 + 1 = 91 := ⟨by decide +kernel, rfl⟩
theorem dX6_nearest_0 : decode cX6_nearest 0 = .ok (.iload_n 1, 1) ∧ 0 + 1 = 1 := ⟨by decide +kernel, rfl⟩
theorem dX6_nearest_1 : decode cX6_nearest 1 = .ok (.bipush 15, 2) ∧ 1 + 2 = 3 := ⟨by decide +kernel, rfl⟩
theorem dX6_nearest_3 : decode cX6_nearest 3 = .ok (.invokestatic 56, 3) ∧ 3 + 3 = 6 := ⟨by decide +kernel, rfl⟩
theorem dX6_nearest_6 : decode cX6_nearest 6 = .ok (.ifCond .ne 6, 3) ∧ 6 + 3 = 9 ∧ ((6 : Nat) : Int) + 6 = ((12 : Nat) : Int) := ⟨by decide +kernel, rfl, rfl⟩
theorem dX6_nearest_9 : decode cX6_nearest 9 = .ok (.bipush (-2), 2) ∧ 9 + 2 = 11 := ⟨by decide +kernel, rfl⟩
theorem dX6_nearest_11 : decode cX6_nearest 11 = .ok (.ireturn, 1) ∧ 11 + 1 = 12 := ⟨by decide +kernel, rfl⟩
theorem dX6_nearest_12 : decode cX6_nearest 12 = .ok (.aload_n 0, 1) ∧ 12 + 1 = 13 := ⟨by decide +kernel, rfl⟩
theorem dX6_nearest_13 : decode cX6_nearest 13 = .ok (.invokevirtual 97, 3) ∧ 13 + 3 = 16 := ⟨by decide +kernel, rfl⟩
theorem dX6_nearest_16 : decode cX6_nearest 16 = .ok (.astore_n 2, 1) ∧ 16 + 1 = 17 := ⟨by decide +kernel, rfl⟩
theorem dX6_nearest_17 : decode cX6_nearest 17 = .ok (.aload_n 0, 1) ∧ 17 + 1 = 18 := ⟨by decide +kernel, rfl⟩
theorem dX6_nearest_18 : decode cX6_nearest 18 = .ok (.getfield 48, 3) ∧ 18 + 3 = 21 := ⟨by decide +kernel, rfl⟩
theorem dX6_nearest_21 : decode cX6_nearest 21 = .ok (.sipush 1000, 3) ∧ 21 + 3 = 24 := ⟨by decide +kernel, rfl⟩
theorem dX6_nearest_24 : decode cX6_nearest 24 = .ok (.invokevirtual 206, 3) ∧ 24 + 3 = 27 := ⟨by decide +kernel, rfl⟩
theorem dX6_nearest_27 : decode cX6_nearest 27 = .ok (.iconst 0, 1) ∧ 27 + 1 = 28 := ⟨by decide +kernel, rfl⟩
theorem dX6_nearest_28 : decode cX6_nearest 28 = .ok (.istore_n 3, 1) ∧ 28 + 1 = 29 := ⟨by decide +kernel, rfl⟩
theorem dX6_nearest_29 : decode cX6_nearest 29 = .ok (.iload_n 3, 1) ∧ 29 + 1 = 30 := ⟨by decide +kernel, rfl⟩
theorem dX6_nearest_30 : decode cX6_nearest 30 = .ok (.aload_n 0, 1) ∧ 30 + 1 = 31 := ⟨by decide +kernel, rfl⟩
theorem dX6_nearest_31 : decode cX6_nearest 31 = .ok (.getfield 12, 3) ∧ 31 + 3 = 34 := ⟨by decide +kernel, rfl⟩
theorem dX6_nearest_34 : decode cX6_nearest 34 = .ok (.invokevirtual 67, 3) ∧ 34 + 3 = 37 := ⟨by decide +kernel, rfl⟩
theorem dX6_nearest_37 : decode cX6_nearest 37 = .ok (.if_icmp .ge 79, 3) ∧ 37 + 3 = 40 ∧ ((37 : Nat) : Int) + 79 = ((116 : Nat) : Int) := ⟨by decide +kernel, rfl, rfl⟩
theorem dX6_nearest_40 : decode cX6_nearest 40 = .ok (.aload_n 2, 1) ∧ 40 + 1 = 41 := ⟨by decide +kernel, rfl⟩
theorem dX6_nearest_41 : decode cX6_nearest 41 = .ok (.iload_n 3, 1) ∧ 41 + 1 = 42 := ⟨by decide +kernel, rfl⟩
theorem dX6_nearest_42 : decode cX6_nearest 42 = .ok (.invokevirtual 101, 3) ∧ 42 + 3 = 45 := ⟨by decide +kernel, rfl⟩
theorem dX6_nearest_45 : decode cX6_nearest 45 = .ok (.istore 4, 2) ∧ 45 + 2 = 47 := ⟨by decide +kernel, rfl⟩
theorem dX6_nearest_47 : decode cX6_nearest 47 = .ok (.aload_n 0, 1) ∧ 47 + 1 = 48 := ⟨by decide +kernel, rfl⟩
theorem dX6_nearest_48 : decode cX6_nearest 48 = .ok (.getfield 12, 3) ∧ 48 + 3 = 51 := ⟨by decide +kernel, rfl⟩
theorem dX6_nearest_51 : decode cX6_nearest 51 = .ok (.iload 4, 2) ∧ 51 + 2 = 53 := ⟨by decide +kernel, rfl⟩
theorem dX6_nearest_53 : decode cX6_nearest 53 = .ok (.invokevirtual 191, 3) ∧ 53 + 3 = 56 := ⟨by decide +kernel, rfl⟩
theorem dX6_nearest_56 : decode cX6_nearest 56 = .ok (.ifCond .eq 54, 3) ∧ 56 + 3 = 59 ∧ ((56 : Nat) : Int) + 54 = ((110 : Nat) : Int) := ⟨by decide +kernel, rfl, rfl⟩
theorem dX6_nearest_59 : decode cX6_nearest 59 = .ok (.aload_n 2, 1) ∧ 59 + 1 = 60 := ⟨by decide +kernel, rfl⟩
theorem dX6_nearest_60 : decode cX6_nearest 60 = .ok (.iload 4, 2) ∧ 60 + 2 = 62 := ⟨by decide +kernel, rfl⟩
theorem dX6_nearest_62 : decode cX6_nearest 62 = .ok (.invokevirtual 200, 3) ∧ 62 + 3 = 65 := ⟨by decide +kernel, rfl⟩
theorem dX6_nearest_65 : decode cX6_nearest 65 = .ok (.ifCond .ne 45, 3) ∧ 65 + 3 = 68 ∧ ((65 : Nat) : Int) + 45 = ((110 : Nat) : Int) := ⟨by decide +kernel, rfl, rfl⟩
theorem dX6_nearest_68 : decode cX6_nearest 68 = .ok (.aload_n 0, 1) ∧ 68 + 1 = 69 := ⟨by decide +kernel, rfl⟩
theorem dX6_nearest_69 : decode cX6_nearest 69 = .ok (.iload 4, 2) ∧ 69 + 2 = 71 := ⟨by decide +kernel, rfl⟩
theorem dX6_nearest_71 : decode cX6_nearest 71 = .ok (.invokevirtual 194, 3) ∧ 71 + 3 = 74 := ⟨by decide +kernel, rfl⟩
theorem dX6_nearest_74 : decode cX6_nearest 74 = .ok (.istore 5, 2) ∧ 74 + 2 = 76 := ⟨by decide +kernel, rfl⟩
theorem dX6_nearest_76 : decode cX6_nearest 76 = .ok (.aload_n 0, 1) ∧ 76 + 1 = 77 := ⟨by decide +kernel, rfl⟩
theorem dX6_nearest_77 : decode cX6_nearest 77 = .ok (.getfield 48, 3) ∧ 77 + 3 = 80 := ⟨by decide +kernel, rfl⟩
theorem dX6_nearest_80 : decode cX6_nearest 80 = .ok (.iload_n 3, 1) ∧ 80 + 1 = 81 := ⟨by decide +kernel, rfl⟩
theorem dX6_nearest_81 : decode cX6_nearest 81 = .ok (.iload 5, 2) ∧ 81 + 2 = 83 := ⟨by decide +kernel, rfl⟩
theorem dX6_nearest_83 : decode cX6_nearest 83 = .ok (.bipush (-9), 2) ∧ 83 + 2 = 85 := ⟨by decide +kernel, rfl⟩
theorem dX6_nearest_85 : decode cX6_nearest 85 = .ok (.if_icmp .ne 9, 3) ∧ 85 + 3 = 88 ∧ ((85 : Nat) : Int) + 9 = ((94 : Nat) : Int) := ⟨by decide +kernel, rfl, rfl⟩
theorem dX6_nearest_88 : decode cX6_nearest 88 = .ok (.sipush 1000, 3) ∧ 88 + 3 = 91 := ⟨by decide +kernel, rfl⟩
theorem dX6_nearest_91 : decode cX6_nearest 91 = .ok (.goto 16, 3) ∧ ((91 : Nat) : Int) + 16 = ((107 : Nat) : Int) := ⟨by decide +kernel, rfl⟩
theorem dX6_nearest_94 : decode cX6_nearest 94 = .ok (.iload 5, 2) ∧ 94 + 2 = 96 := ⟨by decide +kernel, rfl⟩
theorem dX6_nearest_96 : decode cX6_nearest 96 = .ok (.aload_n 0, 1) ∧ 96 + 1 = 97 := ⟨by decide +kernel, rfl⟩
theorem dX6_nearest_97 : decode cX6_nearest 97 = .ok (.getfield 12, 3) ∧ 97 + 3 = 100 := ⟨by decide +kernel, rfl⟩
theorem dX6_nearest_100 : decode cX6_nearest 100 = .ok (.iconst 0, 1) ∧ 100 + 1 = 101 := ⟨by decide +kernel, rfl⟩
theorem dX6_nearest_101 : decode cX6_nearest 101 = .ok (.iload 4, 2) ∧ 101 + 2 = 103 := ⟨by decide +kernel, rfl⟩
theorem dX6_nearest_103 : decode cX6_nearest 103 = .ok (.invokevirtual 89, 3) ∧ 103 + 3 = 106 := ⟨by decide +kernel, rfl⟩
theorem dX6_nearest_106 : decode cX6_nearest 106 = .ok (.isub, 1) ∧ 106 + 1 = 107 := ⟨by decide +kernel, rfl⟩
theorem dX6_nearest_107 : decode cX6_nearest 107 = .ok (.invokevirtual 209, 3) ∧ 107 + 3 = 110 := ⟨by decide +kernel, rfl⟩
theorem dX6_nearest_110 : decode cX6_nearest 110 = .ok (.iinc 3 1, 3) ∧ 110 + 3 = 113 := ⟨by decide +kernel, rfl⟩
theorem dX6_nearest_113 : decode cX6_nearest 113 = .ok (.goto (-84), 3) ∧ ((113 : Nat) : Int) + (-84) = ((29 : Nat) : Int) := ⟨by decide +kernel, rfl⟩
theorem dX6_nearest_116 : decode cX6_nearest 116 = .ok (.aload_n 0, 1) ∧ 116 + 1 = 117 := ⟨by decide +kernel, rfl⟩
theorem dX6_nearest_117 : decode cX6_nearest 117 = .ok (.iload_n 1, 1) ∧ 117 + 1 = 118 := ⟨by decide +kernel, rfl⟩
theorem dX6_nearest_118 : decode cX6_nearest 118 = .ok (.invokevirtual 211, 3) ∧ 118 + 3 = 121 := ⟨by decide +kernel, rfl⟩
theorem dX6_nearest_121 : decode cX6_nearest 121 = .ok (.istore_n 3, 1) ∧ 121 + 1 = 122 := ⟨by decide +kernel, rfl⟩
theorem dX6_nearest_122 : decode cX6_nearest 122 = .ok (.iload_n 3, 1) ∧ 122 + 1 = 123 := ⟨by decide +kernel, rfl⟩
theorem dX6_nearest_123 : decode cX6_nearest 123 = .ok (.bipush (-9), 2) ∧ 123 + 2 = 125 := ⟨by decide +kernel, rfl⟩
theorem dX6_nearest_125 : decode cX6_nearest 125 = .ok (.if_icmp .ne 8, 3) ∧ 125 + 3 = 128 ∧ ((125 : Nat) : Int) + 8 = ((133 : Nat) : Int) := ⟨by decide +kernel, rfl, rfl⟩
theorem dX6_nearest_128 : decode cX6_nearest 128 = .ok (.bipush (-9), 2) ∧ 128 + 2 = 130 := ⟨by decide +kernel, rfl⟩
theorem dX6_nearest_130 : decode cX6_nearest 130 = .ok (.goto 8, 3) ∧ ((130 : Nat) : Int) + 8 = ((138 : Nat) : Int) := ⟨by decide +kernel, rfl⟩
theorem dX6_nearest_133 : decode cX6_nearest 133 = .ok (.aload_n 2, 1) ∧ 133 + 1 = 134 := ⟨by decide +kernel, rfl⟩
theorem dX6_nearest_134 : decode cX6_nearest 134 = .ok (.iload_n 3, 1) ∧ 134 + 1 = 135 := ⟨by decide +kernel, rfl⟩
theorem dX6_nearest_135 : decode cX6_nearest 135 = .ok (.invokevirtual 101, 3) ∧ 135 + 3 = 138 := ⟨by decide +kernel, rfl⟩
theorem dX6_nearest_138 : decode cX6_nearest 138 = .ok (.ireturn, 1) ∧ 138 + 1 = 139 := ⟨by decide +kernel, rfl⟩
theorem dX6_envy_0 : decode cX6_envy 0 = .ok (.aload_n 0, 1) ∧ 0 + 1 = 1 := ⟨by decide +kernel, rfl⟩
theorem dX6_envy_1 : decode cX6_envy 1 = .ok (.invokevirtual 97, 3) ∧ 1 + 3 = 4 := ⟨by decide +kernel, rfl⟩
theorem dX6_envy_4 : decode cX6_envy 4 = .ok (.astore_n 1, 1) ∧ 4 + 1 = 5 := ⟨by decide +kernel, rfl⟩
theorem dX6_envy_5 : decode cX6_envy 5 = .ok (.iconst 0, 1) ∧ 5 + 1 = 6 := ⟨by decide +kernel, rfl⟩
theorem dX6_envy_6 : decode cX6_envy 6 = .ok (.istore_n 2, 1) ∧ 6 + 1 = 7 := ⟨by decide +kernel, rfl⟩
theorem dX6_envy_7 : decode cX6_envy 7 = .ok (.iconst 0, 1) ∧ 7 + 1 = 8 := ⟨by decide +kernel, rfl⟩
theorem dX6_envy_8 : decode cX6_envy 8 = .ok (.istore_n 3, 1) ∧ 8 + 1 = 9 := ⟨by decide +kernel, rfl⟩
theorem dX6_envy_9 : decode cX6_envy 9 = .ok (.iload_n 3, 1) ∧ 9 + 1 = 10 := ⟨by decide +kernel, rfl⟩
theorem dX6_envy_10 : decode cX6_envy 10 = .ok (.iconst 4, 1) ∧ 10 + 1 = 11 := ⟨by decide +kernel, rfl⟩
theorem dX6_envy_11 : decode cX6_envy 11 = .ok (.if_icmp .ge 21, 3) ∧ 11 + 3 = 14 ∧ ((11 : Nat) : Int) + 21 = ((32 : Nat) : Int) := ⟨by decide +kernel, rfl, rfl⟩
theorem dX6_envy_14 : decode cX6_envy 14 = .ok (.iload_n 2, 1) ∧ 14 + 1 = 15 := ⟨by decide +kernel, rfl⟩
theorem dX6_envy_15 : decode cX6_envy 15 = .ok (.aload_n 1, 1) ∧ 15 + 1 = 16 := ⟨by decide +kernel, rfl⟩
theorem dX6_envy_16 : decode cX6_envy 16 = .ok (.aload_n 0, 1) ∧ 16 + 1 = 17 := ⟨by decide +kernel, rfl⟩
theorem dX6_envy_17 : decode cX6_envy 17 = .ok (.getfield 12, 3) ∧ 17 + 3 = 20 := ⟨by decide +kernel, rfl⟩
theorem dX6_envy_20 : decode cX6_envy 20 = .ok (.iload_n 3, 1) ∧ 20 + 1 = 21 := ⟨by decide +kernel, rfl⟩
theorem dX6_envy_21 : decode cX6_envy 21 = .ok (.invokevirtual 214, 3) ∧ 21 + 3 = 24 := ⟨by decide +kernel, rfl⟩
theorem dX6_envy_24 : decode cX6_envy 24 = .ok (.iadd, 1) ∧ 24 + 1 = 25 := ⟨by decide +kernel, rfl⟩
theorem dX6_envy_25 : decode cX6_envy 25 = .ok (.istore_n 2, 1) ∧ 25 + 1 = 26 := ⟨by decide +kernel, rfl⟩
theorem dX6_envy_26 : decode cX6_envy 26 = .ok (.iinc 3 1, 3) ∧ 26 + 3 = 29 := ⟨by decide +kernel, rfl⟩
theorem dX6_envy_29 : decode cX6_envy 29 = .ok (.goto (-20), 3) ∧ ((29 : Nat) : Int) + (-20) = ((9 : Nat) : Int) := ⟨by decide +kernel, rfl⟩
theorem dX6_envy_32 : decode cX6_envy 32 = .ok (.iload_n 2, 1) ∧ 32 + 1 = 33 := ⟨by decide +kernel, rfl⟩
theorem dX6_envy_33 : decode cX6_envy 33 = .ok (.ireturn, 1) ∧ 33 + 1 = 34 := ⟨by decide +kernel, rfl⟩
theorem dX6_round_0 : decode cX6_round 0 = .ok (.aload_n 0, 1) ∧ 0 + 1 = 1 := ⟨by decide +kernel, rfl⟩
theorem dX6_round_1 : decode cX6_round 1 = .ok (.invokevirtual 71, 3) ∧ 1 + 3 = 4 := ⟨by decide +kernel, rfl⟩
theorem dX6_round_4 : decode cX6_round 4 = .ok (.iconst 0, 1) ∧ 4 + 1 = 5 := ⟨by decide +kernel, rfl⟩
theorem dX6_round_5 : decode cX6_round 5 = .ok (.istore_n 1, 1) ∧ 5 + 1 = 6 := ⟨by decide +kernel, rfl⟩
theorem dX6_round_6 : decode cX6_round 6 = .ok (.iload_n 1, 1) ∧ 6 + 1 = 7 := ⟨by decide +kernel, rfl⟩
theorem dX6_round_7 : decode cX6_round 7 = .ok (.aload_n 0, 1) ∧ 7 + 1 = 8 := ⟨by decide +kernel, rfl⟩
theorem dX6_round_8 : decode cX6_round 8 = .ok (.getfield 12, 3) ∧ 8 + 3 = 11 := ⟨by decide +kernel, rfl⟩
theorem dX6_round_11 : decode cX6_round 11 = .ok (.invokevirtual 67, 3) ∧ 11 + 3 = 14 := ⟨by decide +kernel, rfl⟩
theorem dX6_round_14 : decode cX6_round 14 = .ok (.if_icmp .ge 32, 3) ∧ 14 + 3 = 17 ∧ ((14 : Nat) : Int) + 32 = ((46 : Nat) : Int) := ⟨by decide +kernel, rfl, rfl⟩
theorem dX6_round_17 : decode cX6_round 17 = .ok (.aload_n 0, 1) ∧ 17 + 1 = 18 := ⟨by decide +kernel, rfl⟩
theorem dX6_round_18 : decode cX6_round 18 = .ok (.getfield 12, 3) ∧ 18 + 3 = 21 := ⟨by decide +kernel, rfl⟩
theorem dX6_round_21 : decode cX6_round 21 = .ok (.bipush 64, 2) ∧ 21 + 2 = 23 := ⟨by decide +kernel, rfl⟩
theorem dX6_round_23 : decode cX6_round 23 = .ok (.iload_n 1, 1) ∧ 23 + 1 = 24 := ⟨by decide +kernel, rfl⟩
theorem dX6_round_24 : decode cX6_round 24 = .ok (.invokevirtual 89, 3) ∧ 24 + 3 = 27 := ⟨by decide +kernel, rfl⟩
theorem dX6_round_27 : decode cX6_round 27 = .ok (.iconst 1, 1) ∧ 27 + 1 = 28 := ⟨by decide +kernel, rfl⟩
theorem dX6_round_28 : decode cX6_round 28 = .ok (.if_icmp .ne 12, 3) ∧ 28 + 3 = 31 ∧ ((28 : Nat) : Int) + 12 = ((40 : Nat) : Int) := ⟨by decide +kernel, rfl, rfl⟩
theorem dX6_round_31 : decode cX6_round 31 = .ok (.aload_n 0, 1) ∧ 31 + 1 = 32 := ⟨by decide +kernel, rfl⟩
theorem dX6_round_32 : decode cX6_round 32 = .ok (.getfield 12, 3) ∧ 32 + 3 = 35 := ⟨by decide +kernel, rfl⟩
theorem dX6_round_35 : decode cX6_round 35 = .ok (.iload_n 1, 1) ∧ 35 + 1 = 36 := ⟨by decide +kernel, rfl⟩
theorem dX6_round_36 : decode cX6_round 36 = .ok (.iconst 4, 1) ∧ 36 + 1 = 37 := ⟨by decide +kernel, rfl⟩
theorem dX6_round_37 : decode cX6_round 37 = .ok (.invokevirtual 78, 3) ∧ 37 + 3 = 40 := ⟨by decide +kernel, rfl⟩
theorem dX6_round_40 : decode cX6_round 40 = .ok (.iinc 1 1, 3) ∧ 40 + 3 = 43 := ⟨by decide +kernel, rfl⟩
theorem dX6_round_43 : decode cX6_round 43 = .ok (.goto (-37), 3) ∧ ((43 : Nat) : Int) + (-37) = ((6 : Nat) : Int) := ⟨by decide +kernel, rfl⟩
theorem dX6_round_46 : decode cX6_round 46 = .ok (.aload_n 0, 1) ∧ 46 + 1 = 47 := ⟨by decide +kernel, rfl⟩
theorem dX6_round_47 : decode cX6_round 47 = .ok (.getfield 26, 3) ∧ 47 + 3 = 50 := ⟨by decide +kernel, rfl⟩
theorem dX6_round_50 : decode cX6_round 50 = .ok (.aload_n 0, 1) ∧ 50 + 1 = 51 := ⟨by decide +kernel, rfl⟩
theorem dX6_round_51 : decode cX6_round 51 = .ok (.getfield 12, 3) ∧ 51 + 3 = 54 := ⟨by decide +kernel, rfl⟩
theorem dX6_round_54 : decode cX6_round 54 = .ok (.invokevirtual 170, 3) ∧ 54 + 3 = 57 := ⟨by decide +kernel, rfl⟩
theorem dX6_round_57 : decode cX6_round 57 = .ok (.aload_n 0, 1) ∧ 57 + 1 = 58 := ⟨by decide +kernel, rfl⟩
theorem dX6_round_58 : decode cX6_round 58 = .ok (.getfield 26, 3) ∧ 58 + 3 = 61 := ⟨by decide +kernel, rfl⟩
theorem dX6_round_61 : decode cX6_round 61 = .ok (.aload_n 0, 1) ∧ 61 + 1 = 62 := ⟨by decide +kernel, rfl⟩
theorem dX6_round_62 : decode cX6_round 62 = .ok (.getfield 12, 3) ∧ 62 + 3 = 65 := ⟨by decide +kernel, rfl⟩
theorem dX6_round_65 : decode cX6_round 65 = .ok (.invokevirtual 184, 3) ∧ 65 + 3 = 68 := ⟨by decide +kernel, rfl⟩
theorem dX6_round_68 : decode cX6_round 68 = .ok (.iconst 0, 1) ∧ 68 + 1 = 69 := ⟨by decide +kernel, rfl⟩
theorem dX6_round_69 : decode cX6_round 69 = .ok (.istore_n 1, 1) ∧ 69 + 1 = 70 := ⟨by decide +kernel, rfl⟩
theorem dX6_round_70 : decode cX6_round 70 = .ok (.iconst 0, 1) ∧ 70 + 1 = 71 := ⟨by decide +kernel, rfl⟩
theorem dX6_round_71 : decode cX6_round 71 = .ok (.istore_n 2, 1) ∧ 71 + 1 = 72 := ⟨by decide +kernel, rfl⟩
theorem dX6_round_72 : decode cX6_round 72 = .ok (.iload_n 2, 1) ∧ 72 + 1 = 73 := ⟨by decide +kernel, rfl⟩
theorem dX6_round_73 : decode cX6_round 73 = .ok (.aload_n 0, 1) ∧ 73 + 1 = 74 := ⟨by decide +kernel, rfl⟩
theorem dX6_round_74 : decode cX6_round 74 = .ok (.getfield 12, 3) ∧ 74 + 3 = 77 := ⟨by decide +kernel, rfl⟩
theorem dX6_round_77 : decode cX6_round 77 = .ok (.invokevirtual 67, 3) ∧ 77 + 3 = 80 := ⟨by decide +kernel, rfl⟩
theorem dX6_round_80 : decode cX6_round 80 = .ok (.if_icmp .ge 17, 3) ∧ 80 + 3 = 83 ∧ ((80 : Nat) : Int) + 17 = ((97 : Nat) : Int) := ⟨by decide +kernel, rfl, rfl⟩
theorem dX6_round_83 : decode cX6_round 83 = .ok (.iload_n 1, 1) ∧ 83 + 1 = 84 := ⟨by decide +kernel, rfl⟩
theorem dX6_round_84 : decode cX6_round 84 = .ok (.aload_n 0, 1) ∧ 84 + 1 = 85 := ⟨by decide +kernel, rfl⟩
theorem dX6_round_85 : decode cX6_round 85 = .ok (.iload_n 2, 1) ∧ 85 + 1 = 86 := ⟨by decide +kernel, rfl⟩
theorem dX6_round_86 : decode cX6_round 86 = .ok (.invokevirtual 217, 3) ∧ 86 + 3 = 89 := ⟨by decide +kernel, rfl⟩
theorem dX6_round_89 : decode cX6_round 89 = .ok (.iadd, 1) ∧ 89 + 1 = 90 := ⟨by decide +kernel, rfl⟩
theorem dX6_round_90 : decode cX6_round 90 = .ok (.istore_n 1, 1) ∧ 90 + 1 = 91 := ⟨by decide +kernel, rfl⟩
theorem dX6_round_91 : decode cX6_round 91 = .ok (.iinc 2 1, 3) ∧ 91 + 3 = 94 := ⟨by decide +kernel, rfl⟩
theorem dX6_round_94 : decode cX6_round 94 = .ok (.goto (-22), 3) ∧ ((94 : Nat) : Int) + (-22) = ((72 : Nat) : Int) := ⟨by decide +kernel, rfl⟩
theorem dX6_round_97 : decode cX6_round 97 = .ok (.aload_n 0, 1) ∧ 97 + 1 = 98 := ⟨by decide +kernel, rfl⟩
theorem dX6_round_98 : decode cX6_round 98 = .ok (.getfield 12, 3) ∧ 98 + 3 = 101 := ⟨by decide +kernel, rfl⟩
theorem dX6_round_101 : decode cX6_round 101 = .ok (.sipush 157, 3) ∧ 101 + 3 = 104 := ⟨by decide +kernel, rfl⟩
theorem dX6_round_104 : decode cX6_round 104 = .ok (.iconst 0, 1) ∧ 104 + 1 = 105 := ⟨by decide +kernel, rfl⟩
theorem dX6_round_105 : decode cX6_round 105 = .ok (.aload_n 0, 1) ∧ 105 + 1 = 106 := ⟨by decide +kernel, rfl⟩
theorem dX6_round_106 : decode cX6_round 106 = .ok (.getfield 12, 3) ∧ 106 + 3 = 109 := ⟨by decide +kernel, rfl⟩
theorem dX6_round_109 : decode cX6_round 109 = .ok (.sipush 157, 3) ∧ 109 + 3 = 112 := ⟨by decide +kernel, rfl⟩
theorem dX6_round_112 : decode cX6_round 112 = .ok (.iconst 0, 1) ∧ 112 + 1 = 113 := ⟨by decide +kernel, rfl⟩
theorem dX6_round_113 : decode cX6_round 113 = .ok (.invokevirtual 89, 3) ∧ 113 + 3 = 116 := ⟨by decide +kernel, rfl⟩
theorem dX6_round_116 : decode cX6_round 116 = .ok (.iconst 1, 1) ∧ 116 + 1 = 117 := ⟨by decide +kernel, rfl⟩
theorem dX6_round_117 : decode cX6_round 117 = .ok (.iadd, 1) ∧ 117 + 1 = 118 := ⟨by decide +kernel, rfl⟩
theorem dX6_round_118 : decode cX6_round 118 = .ok (.invokevirtual 74, 3) ∧ 118 + 3 = 121 := ⟨by decide +kernel, rfl⟩
theorem dX6_round_121 : decode cX6_round 121 = .ok (.iload_n 1, 1) ∧ 121 + 1 = 122 := ⟨by decide +kernel, rfl⟩
theorem dX6_round_122 : decode cX6_round 122 = .ok (.ireturn, 1) ∧ 122 + 1 = 123 := ⟨by decide +kernel, rfl⟩
theorem dX6_answer_0 : decode cX6_answer 0 = .ok (.aload_n 0, 1) ∧ 0 + 1 = 1 := ⟨by decide +kernel, rfl⟩
theorem dX6_answer_1 : decode cX6_answer 1 = .ok (.iload_n 1, 1) ∧ 1 + 1 = 2 := ⟨by decide +kernel, rfl⟩
theorem dX6_answer_2 : decode cX6_answer 2 = .ok (.invokevirtual 86, 3) ∧ 2 + 3 = 5 := ⟨by decide +kernel, rfl⟩
theorem dX6_answer_5 : decode cX6_answer 5 = .ok (.ifCond .ne 5, 3) ∧ 5 + 3 = 8 ∧ ((5 : Nat) : Int) + 5 = ((10 : Nat) : Int) := ⟨by decide +kernel, rfl, rfl⟩
theorem dX6_answer_8 : decode cX6_answer 8 = .ok (.iconst (-1), 1) ∧ 8 + 1 = 9 := ⟨by decide +kernel, rfl⟩
theorem dX6_answer_9 : decode cX6_answer 9 = .ok (.ireturn, 1) ∧ 9 + 1 = 10 := ⟨by decide +kernel, rfl⟩
theorem dX6_answer_10 : decode cX6_answer 10 = .ok (.iload_n 2, 1) ∧ 10 + 1 = 11 := ⟨by decide +kernel, rfl⟩
theorem dX6_answer_11 : decode cX6_answer 11 = .ok (.iconst 2, 1) ∧ 11 + 1 = 12 := ⟨by decide +kernel, rfl⟩
theorem dX6_answer_12 : decode cX6_answer 12 = .ok (.invokestatic 56, 3) ∧ 12 + 3 = 15 := ⟨by decide +kernel, rfl⟩
theorem dX6_answer_15 : decode cX6_answer 15 = .ok (.ifCond .ne 6, 3) ∧ 15 + 3 = 18 ∧ ((15 : Nat) : Int) + 6 = ((21 : Nat) : Int) := ⟨by decide +kernel, rfl, rfl⟩
theorem dX6_answer_18 : decode cX6_answer 18 = .ok (.bipush (-2), 2) ∧ 18 + 2 = 20 := ⟨by decide +kernel, rfl⟩
theorem dX6_answer_20 : decode cX6_answer 20 = .ok (.ireturn, 1) ∧ 20 + 1 = 21 := ⟨by decide +kernel, rfl⟩
theorem dX6_answer_21 : decode cX6_answer 21 = .ok (.aload_n 0, 1) ∧ 21 + 1 = 22 := ⟨by decide +kernel, rfl⟩
theorem dX6_answer_22 : decode cX6_answer 22 = .ok (.getfield 12, 3) ∧ 22 + 3 = 25 := ⟨by decide +kernel, rfl⟩
theorem dX6_answer_25 : decode cX6_answer 25 = .ok (.bipush 64, 2) ∧ 25 + 2 = 27 := ⟨by decide +kernel, rfl⟩
theorem dX6_answer_27 : decode cX6_answer 27 = .ok (.iload_n 1, 1) ∧ 27 + 1 = 28 := ⟨by decide +kernel, rfl⟩
theorem dX6_answer_28 : decode cX6_answer 28 = .ok (.invokevirtual 89, 3) ∧ 28 + 3 = 31 := ⟨by decide +kernel, rfl⟩
theorem dX6_answer_31 : decode cX6_answer 31 = .ok (.istore_n 3, 1) ∧ 31 + 1 = 32 := ⟨by decide +kernel, rfl⟩
theorem dX6_answer_32 : decode cX6_answer 32 = .ok (.iload_n 3, 1) ∧ 32 + 1 = 33 := ⟨by decide +kernel, rfl⟩
theorem dX6_answer_33 : decode cX6_answer 33 = .ok (.iconst 1, 1) ∧ 33 + 1 = 34 := ⟨by decide +kernel, rfl⟩
theorem dX6_answer_34 : decode cX6_answer 34 = .ok (.if_icmp .eq 11, 3) ∧ 34 + 3 = 37 ∧ ((34 : Nat) : Int) + 11 = ((45 : Nat) : Int) := ⟨by decide +kernel, rfl, rfl⟩
theorem dX6_answer_37 : decode cX6_answer 37 = .ok (.iload_n 3, 1) ∧ 37 + 1 = 38 := ⟨by decide +kernel, rfl⟩
theorem dX6_answer_38 : decode cX6_answer 38 = .ok (.iconst 2, 1) ∧ 38 + 1 = 39 := ⟨by decide +kernel, rfl⟩
theorem dX6_answer_39 : decode cX6_answer 39 = .ok (.if_icmp .eq 6, 3) ∧ 39 + 3 = 42 ∧ ((39 : Nat) : Int) + 6 = ((45 : Nat) : Int) := ⟨by decide +kernel, rfl, rfl⟩
theorem dX6_answer_42 : decode cX6_answer 42 = .ok (.bipush (-3), 2) ∧ 42 + 2 = 44 := ⟨by decide +kernel, rfl⟩
theorem dX6_answer_44 : decode cX6_answer 44 = .ok (.ireturn, 1) ∧ 44 + 1 = 45 := ⟨by decide +kernel, rfl⟩
theorem dX6_answer_45 : decode cX6_answer 45 = .ok (.aload_n 0, 1) ∧ 45 + 1 = 46 := ⟨by decide +kernel, rfl⟩
theorem dX6_answer_46 : decode cX6_answer 46 = .ok (.invokevirtual 71, 3) ∧ 46 + 3 = 49 := ⟨by decide +kernel, rfl⟩
theorem dX6_answer_49 : decode cX6_answer 49 = .ok (.iload_n 2, 1) ∧ 49 + 1 = 50 := ⟨by decide +kernel, rfl⟩
theorem dX6_answer_50 : decode cX6_answer 50 = .ok (.ifCond .ne 15, 3) ∧ 50 + 3 = 53 ∧ ((50 : Nat) : Int) + 15 = ((65 : Nat) : Int) := ⟨by decide +kernel, rfl, rfl⟩
theorem dX6_answer_53 : decode cX6_answer 53 = .ok (.aload_n 0, 1) ∧ 53 + 1 = 54 := ⟨by decide +kernel, rfl⟩
theorem dX6_answer_54 : decode cX6_answer 54 = .ok (.getfield 12, 3) ∧ 54 + 3 = 57 := ⟨by decide +kernel, rfl⟩
theorem dX6_answer_57 : decode cX6_answer 57 = .ok (.iload_n 1, 1) ∧ 57 + 1 = 58 := ⟨by decide +kernel, rfl⟩
theorem dX6_answer_58 : decode cX6_answer 58 = .ok (.iconst 4, 1) ∧ 58 + 1 = 59 := ⟨by decide +kernel, rfl⟩
theorem dX6_answer_59 : decode cX6_answer 59 = .ok (.invokevirtual 78, 3) ∧ 59 + 3 = 62 := ⟨by decide +kernel, rfl⟩
theorem dX6_answer_62 : decode cX6_answer 62 = .ok (.goto 23, 3) ∧ ((62 : Nat) : Int) + 23 = ((85 : Nat) : Int) := ⟨by decide +kernel, rfl⟩
theorem dX6_answer_65 : decode cX6_answer 65 = .ok (.aload_n 0, 1) ∧ 65 + 1 = 66 := ⟨by decide +kernel, rfl⟩
theorem dX6_answer_66 : decode cX6_answer 66 = .ok (.getfield 12, 3) ∧ 66 + 3 = 69 := ⟨by decide +kernel, rfl⟩
theorem dX6_answer_69 : decode cX6_answer 69 = .ok (.bipush 64, 2) ∧ 69 + 2 = 71 := ⟨by decide +kernel, rfl⟩
theorem dX6_answer_71 : decode cX6_answer 71 = .ok (.iload_n 1, 1) ∧ 71 + 1 = 72 := ⟨by decide +kernel, rfl⟩
theorem dX6_answer_72 : decode cX6_answer 72 = .ok (.iload_n 2, 1) ∧ 72 + 1 = 73 := ⟨by decide +kernel, rfl⟩
theorem dX6_answer_73 : decode cX6_answer 73 = .ok (.iconst 1, 1) ∧ 73 + 1 = 74 := ⟨by decide +kernel, rfl⟩
theorem dX6_answer_74 : decode cX6_answer 74 = .ok (.if_icmp .ne 7, 3) ∧ 74 + 3 = 77 ∧ ((74 : Nat) : Int) + 7 = ((81 : Nat) : Int) := ⟨by decide +kernel, rfl, rfl⟩
theorem dX6_answer_77 : decode cX6_answer 77 = .ok (.iconst 2, 1) ∧ 77 + 1 = 78 := ⟨by decide +kernel, rfl⟩
theorem dX6_answer_78 : decode cX6_answer 78 = .ok (.goto 4, 3) ∧ ((78 : Nat) : Int) + 4 = ((82 : Nat) : Int) := ⟨by decide +kernel, rfl⟩
theorem dX6_answer_81 : decode cX6_answer 81 = .ok (.iconst 3, 1) ∧ 81 + 1 = 82 := ⟨by decide +kernel, rfl⟩
theorem dX6_answer_82 : decode cX6_answer 82 = .ok (.invokevirtual 74, 3) ∧ 82 + 3 = 85 := ⟨by decide +kernel, rfl⟩
theorem dX6_answer_85 : decode cX6_answer 85 = .ok (.iload_n 3, 1) ∧ 85 + 1 = 86 := ⟨by decide +kernel, rfl⟩
theorem dX6_answer_86 : decode cX6_answer 86 = .ok (.ireturn, 1) ∧ 86 + 1 = 87 := ⟨by decide +kernel, rfl⟩
theorem dX6_again_0 : decode cX6_again 0 = .ok (.aload_n 0, 1) ∧ 0 + 1 = 1 := ⟨by decide +kernel, rfl⟩
theorem dX6_again_1 : decode cX6_again 1 = .ok (.iload_n 1, 1) ∧ 1 + 1 = 2 := ⟨by decide +kernel, rfl⟩
theorem dX6_again_2 : decode cX6_again 2 = .ok (.invokevirtual 86, 3) ∧ 2 + 3 = 5 := ⟨by decide +kernel, rfl⟩
theorem dX6_again_5 : decode cX6_again 5 = .ok (.ifCond .ne 5, 3) ∧ 5 + 3 = 8 ∧ ((5 : Nat) : Int) + 5 = ((10 : Nat) : Int) := ⟨by decide +kernel, rfl, rfl⟩
theorem dX6_again_8 : decode cX6_again 8 = .ok (.iconst (-1), 1) ∧ 8 + 1 = 9 := ⟨by decide +kernel, rfl⟩
theorem dX6_again_9 : decode cX6_again 9 = .ok (.ireturn, 1) ∧ 9 + 1 = 10 := ⟨by decide +kernel, rfl⟩
theorem dX6_again_10 : decode cX6_again 10 = .ok (.aload_n 0, 1) ∧ 10 + 1 = 11 := ⟨by decide +kernel, rfl⟩
theorem dX6_again_11 : decode cX6_again 11 = .ok (.getfield 12, 3) ∧ 11 + 3 = 14 := ⟨by decide +kernel, rfl⟩
theorem dX6_again_14 : decode cX6_again 14 = .ok (.bipush 64, 2) ∧ 14 + 2 = 16 := ⟨by decide +kernel, rfl⟩
theorem dX6_again_16 : decode cX6_again 16 = .ok (.iload_n 1, 1) ∧ 16 + 1 = 17 := ⟨by decide +kernel, rfl⟩
theorem dX6_again_17 : decode cX6_again 17 = .ok (.invokevirtual 89, 3) ∧ 17 + 3 = 20 := ⟨by decide +kernel, rfl⟩
theorem dX6_again_20 : decode cX6_again 20 = .ok (.iconst 4, 1) ∧ 20 + 1 = 21 := ⟨by decide +kernel, rfl⟩
theorem dX6_again_21 : decode cX6_again 21 = .ok (.if_icmp .eq 6, 3) ∧ 21 + 3 = 24 ∧ ((21 : Nat) : Int) + 6 = ((27 : Nat) : Int) := ⟨by decide +kernel, rfl, rfl⟩
theorem dX6_again_24 : decode cX6_again 24 = .ok (.bipush (-3), 2) ∧ 24 + 2 = 26 := ⟨by decide +kernel, rfl⟩
theorem dX6_again_26 : decode cX6_again 26 = .ok (.ireturn, 1) ∧ 26 + 1 = 27 := ⟨by decide +kernel, rfl⟩
theorem dX6_again_27 : decode cX6_again 27 = .ok (.aload_n 0, 1) ∧ 27 + 1 = 28 := ⟨by decide +kernel, rfl⟩
theorem dX6_again_28 : decode cX6_again 28 = .ok (.invokevirtual 71, 3) ∧ 28 + 3 = 31 := ⟨by decide +kernel, rfl⟩
theorem dX6_again_31 : decode cX6_again 31 = .ok (.aload_n 0, 1) ∧ 31 + 1 = 32 := ⟨by decide +kernel, rfl⟩
theorem dX6_again_32 : decode cX6_again 32 = .ok (.getfield 12, 3) ∧ 32 + 3 = 35 := ⟨by decide +kernel, rfl⟩
theorem dX6_again_35 : decode cX6_again 35 = .ok (.iload_n 1, 1) ∧ 35 + 1 = 36 := ⟨by decide +kernel, rfl⟩
theorem dX6_again_36 : decode cX6_again 36 = .ok (.iconst 0, 1) ∧ 36 + 1 = 37 := ⟨by decide +kernel, rfl⟩
theorem dX6_again_37 : decode cX6_again 37 = .ok (.invokevirtual 78, 3) ∧ 37 + 3 = 40 := ⟨by decide +kernel, rfl⟩
theorem dX6_again_40 : decode cX6_again 40 = .ok (.iconst 1, 1) ∧ 40 + 1 = 41 := ⟨by decide +kernel, rfl⟩
theorem dX6_again_41 : decode cX6_again 41 = .ok (.ireturn, 1) ∧ 41 + 1 = 42 := ⟨by decide +kernel, rfl⟩
theorem dX6_note_0 : decode cX6_note 0 = .ok (.aload_n 0, 1) ∧ 0 + 1 = 1 := ⟨by decide +kernel, rfl⟩
theorem dX6_note_1 : decode cX6_note 1 = .ok (.iload_n 1, 1) ∧ 1 + 1 = 2 := ⟨by decide +kernel, rfl⟩
theorem dX6_note_2 : decode cX6_note 2 = .ok (.invokevirtual 86, 3) ∧ 2 + 3 = 5 := ⟨by decide +kernel, rfl⟩
theorem dX6_note_5 : decode cX6_note 5 = .ok (.ifCond .ne 5, 3) ∧ 5 + 3 = 8 ∧ ((5 : Nat) : Int) + 5 = ((10 : Nat) : Int) := ⟨by decide +kernel, rfl, rfl⟩
theorem dX6_note_8 : decode cX6_note 8 = .ok (.iconst (-1), 1) ∧ 8 + 1 = 9 := ⟨by decide +kernel, rfl⟩
theorem dX6_note_9 : decode cX6_note 9 = .ok (.ireturn, 1) ∧ 9 + 1 = 10 := ⟨by decide +kernel, rfl⟩
theorem dX6_note_10 : decode cX6_note 10 = .ok (.iload_n 2, 1) ∧ 10 + 1 = 11 := ⟨by decide +kernel, rfl⟩
theorem dX6_note_11 : decode cX6_note 11 = .ok (.tableswitch 58 0 2 #[25, 36, 47], 25) := by decide +kernel
theorem dX6_note_36 : decode cX6_note 36 = .ok (.aload_n 0, 1) ∧ 36 + 1 = 37 := ⟨by decide +kernel, rfl⟩
theorem dX6_note_37 : decode cX6_note 37 = .ok (.getfield 12, 3) ∧ 37 + 3 = 40 := ⟨by decide +kernel, rfl⟩
theorem dX6_note_40 : decode cX6_note 40 = .ok (.bipush 80, 2) ∧ 40 + 2 = 42 := ⟨by decide +kernel, rfl⟩
theorem dX6_note_42 : decode cX6_note 42 = .ok (.iload_n 1, 1) ∧ 42 + 1 = 43 := ⟨by decide +kernel, rfl⟩
theorem dX6_note_43 : decode cX6_note 43 = .ok (.invokevirtual 89, 3) ∧ 43 + 3 = 46 := ⟨by decide +kernel, rfl⟩
theorem dX6_note_46 : decode cX6_note 46 = .ok (.ireturn, 1) ∧ 46 + 1 = 47 := ⟨by decide +kernel, rfl⟩
theorem dX6_note_47 : decode cX6_note 47 = .ok (.aload_n 0, 1) ∧ 47 + 1 = 48 := ⟨by decide +kernel, rfl⟩
theorem dX6_note_48 : decode cX6_note 48 = .ok (.getfield 12, 3) ∧ 48 + 3 = 51 := ⟨by decide +kernel, rfl⟩
theorem dX6_note_51 : decode cX6_note 51 = .ok (.bipush 96, 2) ∧ 51 + 2 = 53 := ⟨by decide +kernel, rfl⟩
theorem dX6_note_53 : decode cX6_note 53 = .ok (.iload_n 1, 1) ∧ 53 + 1 = 54 := ⟨by decide +kernel, rfl⟩
theorem dX6_note_54 : decode cX6_note 54 = .ok (.invokevirtual 89, 3) ∧ 54 + 3 = 57 := ⟨by decide +kernel, rfl⟩
theorem dX6_note_57 : decode cX6_note 57 = .ok (.ireturn, 1) ∧ 57 + 1 = 58 := ⟨by decide +kernel, rfl⟩
theorem dX6_note_58 : decode cX6_note 58 = .ok (.aload_n 0, 1) ∧ 58 + 1 = 59 := ⟨by decide +kernel, rfl⟩
theorem dX6_note_59 : decode cX6_note 59 = .ok (.getfield 12, 3) ∧ 59 + 3 = 62 := ⟨by decide +kernel, rfl⟩
theorem dX6_note_62 : decode cX6_note 62 = .ok (.bipush 112, 2) ∧ 62 + 2 = 64 := ⟨by decide +kernel, rfl⟩
theorem dX6_note_64 : decode cX6_note 64 = .ok (.iload_n 1, 1) ∧ 64 + 1 = 65 := ⟨by decide +kernel, rfl⟩
theorem dX6_note_65 : decode cX6_note 65 = .ok (.invokevirtual 89, 3) ∧ 65 + 3 = 68 := ⟨by decide +kernel, rfl⟩
theorem dX6_note_68 : decode cX6_note 68 = .ok (.ireturn, 1) ∧ 68 + 1 = 69 := ⟨by decide +kernel, rfl⟩
theorem dX6_note_69 : decode cX6_note 69 = .ok (.bipush (-2), 2) ∧ 69 + 2 = 71 := ⟨by decide +kernel, rfl⟩
theorem dX6_note_71 : decode cX6_note 71 = .ok (.ireturn, 1) ∧ 71 + 1 = 72 := ⟨by decide +kernel, rfl⟩
theorem dX6_back_0 : decode cX6_back 0 = .ok (.iload_n 1, 1) ∧ 0 + 1 = 1 := ⟨by decide +kernel, rfl⟩
theorem dX6_back_1 : decode cX6_back 1 = .ok (.aload_n 0, 1) ∧ 1 + 1 = 2 := ⟨by decide +kernel, rfl⟩
theorem dX6_back_2 : decode cX6_back 2 = .ok (.getfield 19, 3) ∧ 2 + 3 = 5 := ⟨by decide +kernel, rfl⟩
theorem dX6_back_5 : decode cX6_back 5 = .ok (.invokevirtual 220, 3) ∧ 5 + 3 = 8 := ⟨by decide +kernel, rfl⟩
theorem dX6_back_8 : decode cX6_back 8 = .ok (.invokestatic 56, 3) ∧ 8 + 3 = 11 := ⟨by decide +kernel, rfl⟩
theorem dX6_back_11 : decode cX6_back 11 = .ok (.ifCond .ne 6, 3) ∧ 11 + 3 = 14 ∧ ((11 : Nat) : Int) + 6 = ((17 : Nat) : Int) := ⟨by decide +kernel, rfl, rfl⟩
theorem dX6_back_14 : decode cX6_back 14 = .ok (.bipush (-2), 2) ∧ 14 + 2 = 16 := ⟨by decide +kernel, rfl⟩
theorem dX6_back_16 : decode cX6_back 16 = .ok (.ireturn, 1) ∧ 16 + 1 = 17 := ⟨by decide +kernel, rfl⟩
theorem dX6_back_17 : decode cX6_back 17 = .ok (.iconst 0, 1) ∧ 17 + 1 = 18 := ⟨by decide +kernel, rfl⟩
theorem dX6_back_18 : decode cX6_back 18 = .ok (.istore_n 2, 1) ∧ 18 + 1 = 19 := ⟨by decide +kernel, rfl⟩
theorem dX6_back_19 : decode cX6_back 19 = .ok (.iload_n 2, 1) ∧ 19 + 1 = 20 := ⟨by decide +kernel, rfl⟩
theorem dX6_back_20 : decode cX6_back 20 = .ok (.iload_n 1, 1) ∧ 20 + 1 = 21 := ⟨by decide +kernel, rfl⟩
theorem dX6_back_21 : decode cX6_back 21 = .ok (.if_icmp .ge 20, 3) ∧ 21 + 3 = 24 ∧ ((21 : Nat) : Int) + 20 = ((41 : Nat) : Int) := ⟨by decide +kernel, rfl, rfl⟩
theorem dX6_back_24 : decode cX6_back 24 = .ok (.aload_n 0, 1) ∧ 24 + 1 = 25 := ⟨by decide +kernel, rfl⟩
theorem dX6_back_25 : decode cX6_back 25 = .ok (.getfield 19, 3) ∧ 25 + 3 = 28 := ⟨by decide +kernel, rfl⟩
theorem dX6_back_28 : decode cX6_back 28 = .ok (.aload_n 0, 1) ∧ 28 + 1 = 29 := ⟨by decide +kernel, rfl⟩
theorem dX6_back_29 : decode cX6_back 29 = .ok (.getfield 12, 3) ∧ 29 + 3 = 32 := ⟨by decide +kernel, rfl⟩
theorem dX6_back_32 : decode cX6_back 32 = .ok (.invokevirtual 223, 3) ∧ 32 + 3 = 35 := ⟨by decide +kernel, rfl⟩
theorem dX6_back_35 : decode cX6_back 35 = .ok (.iinc 2 1, 3) ∧ 35 + 3 = 38 := ⟨by decide +kernel, rfl⟩
theorem dX6_back_38 : decode cX6_back 38 = .ok (.goto (-19), 3) ∧ ((38 : Nat) : Int) + (-19) = ((19 : Nat) : Int) := ⟨by decide +kernel, rfl⟩
theorem dX6_back_41 : decode cX6_back 41 = .ok (.aload_n 0, 1) ∧ 41 + 1 = 42 := ⟨by decide +kernel, rfl⟩
theorem dX6_back_42 : decode cX6_back 42 = .ok (.iconst 1, 1) ∧ 42 + 1 = 43 := ⟨by decide +kernel, rfl⟩
theorem dX6_back_43 : decode cX6_back 43 = .ok (.putfield 52, 3) ∧ 43 + 3 = 46 := ⟨by decide +kernel, rfl⟩
theorem dX6_back_46 : decode cX6_back 46 = .ok (.aload_n 0, 1) ∧ 46 + 1 = 47 := ⟨by decide +kernel, rfl⟩
theorem dX6_back_47 : decode cX6_back 47 = .ok (.getfield 19, 3) ∧ 47 + 3 = 50 := ⟨by decide +kernel, rfl⟩
theorem dX6_back_50 : decode cX6_back 50 = .ok (.invokevirtual 220, 3) ∧ 50 + 3 = 53 := ⟨by decide +kernel, rfl⟩
theorem dX6_back_53 : decode cX6_back 53 = .ok (.ireturn, 1) ∧ 53 + 1 = 54 := ⟨by decide +kernel, rfl⟩
theorem dX6_many_0 : decode cX6_many 0 = .ok (.iload_n 1, 1) ∧ 0 + 1 = 1 := ⟨by decide +kernel, rfl⟩
theorem dX6_many_1 : decode cX6_many 1 = .ok (.tableswitch 124 0 7 #[47, 55, 63, 74, 86, 94, 102, 113], 47) := by decide +kernel
theorem dX6_many_48 : decode cX6_many 48 = .ok (.aload_n 0, 1) ∧ 48 + 1 = 49 := ⟨by decide +kernel, rfl⟩
theorem dX6_many_49 : decode cX6_many 49 = .ok (.getfield 12, 3) ∧ 49 + 3 = 52 := ⟨by decide +kernel, rfl⟩
theorem dX6_many_52 : decode cX6_many 52 = .ok (.invokevirtual 67, 3) ∧ 52 + 3 = 55 := ⟨by decide +kernel, rfl⟩
theorem dX6_many_55 : decode cX6_many 55 = .ok (.ireturn, 1) ∧ 55 + 1 = 56 := ⟨by decide +kernel, rfl⟩
theorem dX6_many_56 : decode cX6_many 56 = .ok (.aload_n 0, 1) ∧ 56 + 1 = 57 := ⟨by decide +kernel, rfl⟩
theorem dX6_many_57 : decode cX6_many 57 = .ok (.getfield 12, 3) ∧ 57 + 3 = 60 := ⟨by decide +kernel, rfl⟩
theorem dX6_many_60 : decode cX6_many 60 = .ok (.invokevirtual 226, 3) ∧ 60 + 3 = 63 := ⟨by decide +kernel, rfl⟩
theorem dX6_many_63 : decode cX6_many 63 = .ok (.ireturn, 1) ∧ 63 + 1 = 64 := ⟨by decide +kernel, rfl⟩
theorem dX6_many_64 : decode cX6_many 64 = .ok (.aload_n 0, 1) ∧ 64 + 1 = 65 := ⟨by decide +kernel, rfl⟩
theorem dX6_many_65 : decode cX6_many 65 = .ok (.invokevirtual 97, 3) ∧ 65 + 3 = 68 := ⟨by decide +kernel, rfl⟩
theorem dX6_many_68 : decode cX6_many 68 = .ok (.invokevirtual 173, 3) ∧ 68 + 3 = 71 := ⟨by decide +kernel, rfl⟩
theorem dX6_many_71 : decode cX6_many 71 = .ok (.invokestatic 176, 3) ∧ 71 + 3 = 74 := ⟨by decide +kernel, rfl⟩
theorem dX6_many_74 : decode cX6_many 74 = .ok (.ireturn, 1) ∧ 74 + 1 = 75 := ⟨by decide +kernel, rfl⟩
theorem dX6_many_75 : decode cX6_many 75 = .ok (.aload_n 0, 1) ∧ 75 + 1 = 76 := ⟨by decide +kernel, rfl⟩
theorem dX6_many_76 : decode cX6_many 76 = .ok (.getfield 12, 3) ∧ 76 + 3 = 79 := ⟨by decide +kernel, rfl⟩
theorem dX6_many_79 : decode cX6_many 79 = .ok (.sipush 157, 3) ∧ 79 + 3 = 82 := ⟨by decide +kernel, rfl⟩
theorem dX6_many_82 : decode cX6_many 82 = .ok (.iconst 0, 1) ∧ 82 + 1 = 83 := ⟨by decide +kernel, rfl⟩
theorem dX6_many_83 : decode cX6_many 83 = .ok (.invokevirtual 89, 3) ∧ 83 + 3 = 86 := ⟨by decide +kernel, rfl⟩
theorem dX6_many_86 : decode cX6_many 86 = .ok (.ireturn, 1) ∧ 86 + 1 = 87 := ⟨by decide +kernel, rfl⟩
theorem dX6_many_87 : decode cX6_many 87 = .ok (.aload_n 0, 1) ∧ 87 + 1 = 88 := ⟨by decide +kernel, rfl⟩
theorem dX6_many_88 : decode cX6_many 88 = .ok (.getfield 19, 3) ∧ 88 + 3 = 91 := ⟨by decide +kernel, rfl⟩
theorem dX6_many_91 : decode cX6_many 91 = .ok (.invokevirtual 220, 3) ∧ 91 + 3 = 94 := ⟨by decide +kernel, rfl⟩
theorem dX6_many_94 : decode cX6_many 94 = .ok (.ireturn, 1) ∧ 94 + 1 = 95 := ⟨by decide +kernel, rfl⟩
theorem dX6_many_95 : decode cX6_many 95 = .ok (.aload_n 0, 1) ∧ 95 + 1 = 96 := ⟨by decide +kernel, rfl⟩
theorem dX6_many_96 : decode cX6_many 96 = .ok (.invokevirtual 97, 3) ∧ 96 + 3 = 99 := ⟨by decide +kernel, rfl⟩
theorem dX6_many_99 : decode cX6_many 99 = .ok (.invokevirtual 187, 3) ∧ 99 + 3 = 102 := ⟨by decide +kernel, rfl⟩
theorem dX6_many_102 : decode cX6_many 102 = .ok (.ireturn, 1) ∧ 102 + 1 = 103 := ⟨by decide +kernel, rfl⟩
theorem dX6_many_103 : decode cX6_many 103 = .ok (.aload_n 0, 1) ∧ 103 + 1 = 104 := ⟨by decide +kernel, rfl⟩
theorem dX6_many_104 : decode cX6_many 104 = .ok (.getfield 12, 3) ∧ 104 + 3 = 107 := ⟨by decide +kernel, rfl⟩
theorem dX6_many_107 : decode cX6_many 107 = .ok (.bipush 64, 2) ∧ 107 + 2 = 109 := ⟨by decide +kernel, rfl⟩
theorem dX6_many_109 : decode cX6_many 109 = .ok (.iconst 3, 1) ∧ 109 + 1 = 110 := ⟨by decide +kernel, rfl⟩
theorem dX6_many_110 : decode cX6_many 110 = .ok (.invokevirtual 104, 3) ∧ 110 + 3 = 113 := ⟨by decide +kernel, rfl⟩
theorem dX6_many_113 : decode cX6_many 113 = .ok (.ireturn, 1) ∧ 113 + 1 = 114 := ⟨by decide +kernel, rfl⟩
theorem dX6_many_114 : decode cX6_many 114 = .ok (.aload_n 0, 1) ∧ 114 + 1 = 115 := ⟨by decide +kernel, rfl⟩
theorem dX6_many_115 : decode cX6_many 115 = .ok (.getfield 12, 3) ∧ 115 + 3 = 118 := ⟨by decide +kernel, rfl⟩
theorem dX6_many_118 : decode cX6_many 118 = .ok (.bipush 64, 2) ∧ 118 + 2 = 120 := ⟨by decide +kernel, rfl⟩
theorem dX6_many_120 : decode cX6_many 120 = .ok (.iconst 4, 1) ∧ 120 + 1 = 121 := ⟨by decide +kernel, rfl⟩
theorem dX6_many_121 : decode cX6_many 121 = .ok (.invokevirtual 104, 3) ∧ 121 + 3 = 124 := ⟨by decide +kernel, rfl⟩
theorem dX6_many_124 : decode cX6_many 124 = .ok (.ireturn, 1) ∧ 124 + 1 = 125 := ⟨by decide +kernel, rfl⟩
theorem dX6_many_125 : decode cX6_many 125 = .ok (.bipush (-2), 2) ∧ 125 + 2 = 127 := ⟨by decide +kernel, rfl⟩
theorem dX6_many_127 : decode cX6_many 127 = .ok (.ireturn, 1) ∧ 127 + 1 = 128 := ⟨by decide +kernel, rfl⟩
theorem dX6_isWithin_0 : decode cX6_isWithin 0 = .ok (.iload_n 0, 1) ∧ 0 + 1 = 1 := ⟨by decide +kernel, rfl⟩
theorem dX6_isWithin_1 : decode cX6_isWithin 1 = .ok (.ifCond .lt 12, 3) ∧ 1 + 3 = 4 ∧ ((1 : Nat) : Int) + 12 = ((13 : Nat) : Int) := ⟨by decide +kernel, rfl, rfl⟩
theorem dX6_isWithin_4 : decode cX6_isWithin 4 = .ok (.iload_n 0, 1) ∧ 4 + 1 = 5 := ⟨by decide +kernel, rfl⟩
theorem dX6_isWithin_5 : decode cX6_isWithin 5 = .ok (.iload_n 1, 1) ∧ 5 + 1 = 6 := ⟨by decide +kernel, rfl⟩
theorem dX6_isWithin_6 : decode cX6_isWithin 6 = .ok (.if_icmp .gt 7, 3) ∧ 6 + 3 = 9 ∧ ((6 : Nat) : Int) + 7 = ((13 : Nat) : Int) := ⟨by decide +kernel, rfl, rfl⟩
theorem dX6_isWithin_9 : decode cX6_isWithin 9 = .ok (.iconst 1, 1) ∧ 9 + 1 = 10 := ⟨by decide +kernel, rfl⟩
theorem dX6_isWithin_10 : decode cX6_isWithin 10 = .ok (.goto 4, 3) ∧ ((10 : Nat) : Int) + 4 = ((14 : Nat) : Int) := ⟨by decide +kernel, rfl⟩
theorem dX6_isWithin_13 : decode cX6_isWithin 13 = .ok (.iconst 0, 1) ∧ 13 + 1 = 14 := ⟨by decide +kernel, rfl⟩
theorem dX6_isWithin_14 : decode cX6_isWithin 14 = .ok (.ireturn, 1) ∧ 14 + 1 = 15 := ⟨by decide +kernel, rfl⟩
theorem dX6_isKind_0 : decode cX6_isKind 0 = .ok (.iload_n 0, 1) ∧ 0 + 1 = 1 := ⟨by decide +kernel, rfl⟩
theorem dX6_isKind_1 : decode cX6_isKind 1 = .ok (.iconst 3, 1) ∧ 1 + 1 = 2 := ⟨by decide +kernel, rfl⟩
theorem dX6_isKind_2 : decode cX6_isKind 2 = .ok (.invokestatic 56, 3) ∧ 2 + 3 = 5 := ⟨by decide +kernel, rfl⟩
theorem dX6_isKind_5 : decode cX6_isKind 5 = .ok (.ireturn, 1) ∧ 5 + 1 = 6 := ⟨by decide +kernel, rfl⟩
theorem dX6_isGroup_0 : decode cX6_isGroup 0 = .ok (.iload_n 0, 1) ∧ 0 + 1 = 1 := ⟨by decide +kernel, rfl⟩
theorem dX6_isGroup_1 : decode cX6_isGroup 1 = .ok (.iconst 3, 1) ∧ 1 + 1 = 2 := ⟨by decide +kernel, rfl⟩
theorem dX6_isGroup_2 : decode cX6_isGroup 2 = .ok (.invokestatic 56, 3) ∧ 2 + 3 = 5 := ⟨by decide +kernel, rfl⟩
theorem dX6_isGroup_5 : decode cX6_isGroup 5 = .ok (.ireturn, 1) ∧ 5 + 1 = 6 := ⟨by decide +kernel, rfl⟩
theorem dX6_isGroupSet_0 : decode cX6_isGroupSet 0 = .ok (.iload_n 0, 1) ∧ 0 + 1 = 1 := ⟨by decide +kernel, rfl⟩
theorem dX6_isGroupSet_1 : decode cX6_isGroupSet 1 = .ok (.bipush 15, 2) ∧ 1 + 2 = 3 := ⟨by decide +kernel, rfl⟩
theorem dX6_isGroupSet_3 : decode cX6_isGroupSet 3 = .ok (.invokestatic 56, 3) ∧ 3 + 3 = 6 := ⟨by decide +kernel, rfl⟩
theorem dX6_isGroupSet_6 : decode cX6_isGroupSet 6 = .ok (.ireturn, 1) ∧ 6 + 1 = 7 := ⟨by decide +kernel, rfl⟩
theorem dX6_isOrder_0 : decode cX6_isOrder 0 = .ok (.iload_n 0, 1) ∧ 0 + 1 = 1 := ⟨by decide +kernel, rfl⟩
theorem dX6_isOrder_1 : decode cX6_isOrder 1 = .ok (.invokestatic 60, 3) ∧ 1 + 3 = 4 := ⟨by decide +kernel, rfl⟩
theorem dX6_isOrder_4 : decode cX6_isOrder 4 = .ok (.ifCond .eq 24, 3) ∧ 4 + 3 = 7 ∧ ((4 : Nat) : Int) + 24 = ((28 : Nat) : Int) := ⟨by decide +kernel, rfl, rfl⟩
theorem dX6_isOrder_7 : decode cX6_isOrder 7 = .ok (.iload_n 1, 1) ∧ 7 + 1 = 8 := ⟨by decide +kernel, rfl⟩
theorem dX6_isOrder_8 : decode cX6_isOrder 8 = .ok (.invokestatic 60, 3) ∧ 8 + 3 = 11 := ⟨by decide +kernel, rfl⟩
theorem dX6_isOrder_11 : decode cX6_isOrder 11 = .ok (.ifCond .eq 17, 3) ∧ 11 + 3 = 14 ∧ ((11 : Nat) : Int) + 17 = ((28 : Nat) : Int) := ⟨by decide +kernel, rfl, rfl⟩
theorem dX6_isOrder_14 : decode cX6_isOrder 14 = .ok (.iload_n 2, 1) ∧ 14 + 1 = 15 := ⟨by decide +kernel, rfl⟩
theorem dX6_isOrder_15 : decode cX6_isOrder 15 = .ok (.invokestatic 60, 3) ∧ 15 + 3 = 18 := ⟨by decide +kernel, rfl⟩
theorem dX6_isOrder_18 : decode cX6_isOrder 18 = .ok (.ifCond .eq 10, 3) ∧ 18 + 3 = 21 ∧ ((18 : Nat) : Int) + 10 = ((28 : Nat) : Int) := ⟨by decide +kernel, rfl, rfl⟩
theorem dX6_isOrder_21 : decode cX6_isOrder 21 = .ok (.iload_n 3, 1) ∧ 21 + 1 = 22 := ⟨by decide +kernel, rfl⟩
theorem dX6_isOrder_22 : decode cX6_isOrder 22 = .ok (.invokestatic 60, 3) ∧ 22 + 3 = 25 := ⟨by decide +kernel, rfl⟩
theorem dX6_isOrder_25 : decode cX6_isOrder 25 = .ok (.ifCond .ne 5, 3) ∧ 25 + 3 = 28 ∧ ((25 : Nat) : Int) + 5 = ((30 : Nat) : Int) := ⟨by decide +kernel, rfl, rfl⟩
theorem dX6_isOrder_28 : decode cX6_isOrder 28 = .ok (.iconst 0, 1) ∧ 28 + 1 = 29 := ⟨by decide +kernel, rfl⟩
theorem dX6_isOrder_29 : decode cX6_isOrder 29 = .ok (.ireturn, 1) ∧ 29 + 1 = 30 := ⟨by decide +kernel, rfl⟩
theorem dX6_isOrder_30 : decode cX6_isOrder 30 = .ok (.iconst 1, 1) ∧ 30 + 1 = 31 := ⟨by decide +kernel, rfl⟩
theorem dX6_isOrder_31 : decode cX6_isOrder 31 = .ok (.iload_n 0, 1) ∧ 31 + 1 = 32 := ⟨by decide +kernel, rfl⟩
theorem dX6_isOrder_32 : decode cX6_isOrder 32 = .ok (.ishl, 1) ∧ 32 + 1 = 33 := ⟨by decide +kernel, rfl⟩
theorem dX6_isOrder_33 : decode cX6_isOrder 33 = .ok (.iconst 1, 1) ∧ 33 + 1 = 34 := ⟨by decide +kernel, rfl⟩
theorem dX6_isOrder_34 : decode cX6_isOrder 34 = .ok (.iload_n 1, 1) ∧ 34 + 1 = 35 := ⟨by decide +kernel, rfl⟩
theorem dX6_isOrder_35 : decode cX6_isOrder 35 = .ok (.ishl, 1) ∧ 35 + 1 = 36 := ⟨by decide +kernel, rfl⟩
theorem dX6_isOrder_36 : decode cX6_isOrder 36 = .ok (.ior, 1) ∧ 36 + 1 = 37 := ⟨by decide +kernel, rfl⟩
theorem dX6_isOrder_37 : decode cX6_isOrder 37 = .ok (.iconst 1, 1) ∧ 37 + 1 = 38 := ⟨by decide +kernel, rfl⟩
theorem dX6_isOrder_38 : decode cX6_isOrder 38 = .ok (.iload_n 2, 1) ∧ 38 + 1 = 39 := ⟨by decide +kernel, rfl⟩
theorem dX6_isOrder_39 : decode cX6_isOrder 39 = .ok (.ishl, 1) ∧ 39 + 1 = 40 := ⟨by decide +kernel, rfl⟩
theorem dX6_isOrder_40 : decode cX6_isOrder 40 = .ok (.ior, 1) ∧ 40 + 1 = 41 := ⟨by decide +kernel, rfl⟩
theorem dX6_isOrder_41 : decode cX6_isOrder 41 = .ok (.iconst 1, 1) ∧ 41 + 1 = 42 := ⟨by decide +kernel, rfl⟩
theorem dX6_isOrder_42 : decode cX6_isOrder 42 = .ok (.iload_n 3, 1) ∧ 42 + 1 = 43 := ⟨by decide +kernel, rfl⟩
theorem dX6_isOrder_43 : decode cX6_isOrder 43 = .ok (.ishl, 1) ∧ 43 + 1 = 44 := ⟨by decide +kernel, rfl⟩
theorem dX6_isOrder_44 : decode cX6_isOrder 44 = .ok (.ior, 1) ∧ 44 + 1 = 45 := ⟨by decide +kernel, rfl⟩
theorem dX6_isOrder_45 : decode cX6_isOrder 45 = .ok (.istore 4, 2) ∧ 45 + 2 = 47 := ⟨by decide +kernel, rfl⟩
theorem dX6_isOrder_47 : decode cX6_isOrder 47 = .ok (.iload 4, 2) ∧ 47 + 2 = 49 := ⟨by decide +kernel, rfl⟩
theorem dX6_isOrder_49 : decode cX6_isOrder 49 = .ok (.bipush 15, 2) ∧ 49 + 2 = 51 := ⟨by decide +kernel, rfl⟩
theorem dX6_isOrder_51 : decode cX6_isOrder 51 = .ok (.if_icmp .ne 7, 3) ∧ 51 + 3 = 54 ∧ ((51 : Nat) : Int) + 7 = ((58 : Nat) : Int) := ⟨by decide +kernel, rfl, rfl⟩
theorem dX6_isOrder_54 : decode cX6_isOrder 54 = .ok (.iconst 1, 1) ∧ 54 + 1 = 55 := ⟨by decide +kernel, rfl⟩
theorem dX6_isOrder_55 : decode cX6_isOrder 55 = .ok (.goto 4, 3) ∧ ((55 : Nat) : Int) + 4 = ((59 : Nat) : Int) := ⟨by decide +kernel, rfl⟩
theorem dX6_isOrder_58 : decode cX6_isOrder 58 = .ok (.iconst 0, 1) ∧ 58 + 1 = 59 := ⟨by decide +kernel, rfl⟩
theorem dX6_isOrder_59 : decode cX6_isOrder 59 = .ok (.ireturn, 1) ∧ 59 + 1 = 60 := ⟨by decide +kernel, rfl⟩
theorem dX6_isPerson_0 : decode cX6_isPerson 0 = .ok (.iload_n 1, 1) ∧ 0 + 1 = 1 := ⟨by decide +kernel, rfl⟩
theorem dX6_isPerson_1 : decode cX6_isPerson 1 = .ok (.aload_n 0, 1) ∧ 1 + 1 = 2 := ⟨by decide +kernel, rfl⟩
theorem dX6_isPerson_2 : decode cX6_isPerson 2 = .ok (.getfield 12, 3) ∧ 2 + 3 = 5 := ⟨by decide +kernel, rfl⟩
theorem dX6_isPerson_5 : decode cX6_isPerson 5 = .ok (.invokevirtual 67, 3) ∧ 5 + 3 = 8 := ⟨by decide +kernel, rfl⟩
theorem dX6_isPerson_8 : decode cX6_isPerson 8 = .ok (.iconst 1, 1) ∧ 8 + 1 = 9 := ⟨by decide +kernel, rfl⟩
theorem dX6_isPerson_9 : decode cX6_isPerson 9 = .ok (.isub, 1) ∧ 9 + 1 = 10 := ⟨by decide +kernel, rfl⟩
theorem dX6_isPerson_10 : decode cX6_isPerson 10 = .ok (.invokestatic 56, 3) ∧ 10 + 3 = 13 := ⟨by decide +kernel, rfl⟩
theorem dX6_isPerson_13 : decode cX6_isPerson 13 = .ok (.ireturn, 1) ∧ 13 + 1 = 14 := ⟨by decide +kernel, rfl⟩
theorem dX6_beginAct_0 : decode cX6_beginAct 0 = .ok (.aload_n 0, 1) ∧ 0 + 1 = 1 := ⟨by decide +kernel, rfl⟩
theorem dX6_beginAct_1 : decode cX6_beginAct 1 = .ok (.getfield 19, 3) ∧ 1 + 3 = 4 := ⟨by decide +kernel, rfl⟩
theorem dX6_beginAct_4 : decode cX6_beginAct 4 = .ok (.aload_n 0, 1) ∧ 4 + 1 = 5 := ⟨by decide +kernel, rfl⟩
theorem dX6_beginAct_5 : decode cX6_beginAct 5 = .ok (.getfield 12, 3) ∧ 5 + 3 = 8 := ⟨by decide +kernel, rfl⟩
theorem dX6_beginAct_8 : decode cX6_beginAct 8 = .ok (.invokevirtual 229, 3) ∧ 8 + 3 = 11 := ⟨by decide +kernel, rfl⟩
theorem dX6_beginAct_11 : decode cX6_beginAct 11 = .ok (.aload_n 0, 1) ∧ 11 + 1 = 12 := ⟨by decide +kernel, rfl⟩
theorem dX6_beginAct_12 : decode cX6_beginAct 12 = .ok (.iconst 1, 1) ∧ 12 + 1 = 13 := ⟨by decide +kernel, rfl⟩
theorem dX6_beginAct_13 : decode cX6_beginAct 13 = .ok (.putfield 52, 3) ∧ 13 + 3 = 16 := ⟨by decide +kernel, rfl⟩
theorem dX6_beginAct_16 : decode cX6_beginAct 16 = .ok (.return_, 1) ∧ 16 + 1 = 17 := ⟨by decide +kernel, rfl⟩
theorem dX6_change_0 : decode cX6_change 0 = .ok (.aload_n 0, 1) ∧ 0 + 1 = 1 := ⟨by decide +kernel, rfl⟩
theorem dX6_change_1 : decode cX6_change 1 = .ok (.invokevirtual 71, 3) ∧ 1 + 3 = 4 := ⟨by decide +kernel, rfl⟩
theorem dX6_change_4 : decode cX6_change 4 = .ok (.aload_n 0, 1) ∧ 4 + 1 = 5 := ⟨by decide +kernel, rfl⟩
theorem dX6_change_5 : decode cX6_change 5 = .ok (.getfield 12, 3) ∧ 5 + 3 = 8 := ⟨by decide +kernel, rfl⟩
theorem dX6_change_8 : decode cX6_change 8 = .ok (.iload_n 1, 1) ∧ 8 + 1 = 9 := ⟨by decide +kernel, rfl⟩
theorem dX6_change_9 : decode cX6_change 9 = .ok (.iload_n 2, 1) ∧ 9 + 1 = 10 := ⟨by decide +kernel, rfl⟩
theorem dX6_change_10 : decode cX6_change 10 = .ok (.invokevirtual 89, 3) ∧ 10 + 3 = 13 := ⟨by decide +kernel, rfl⟩
theorem dX6_change_13 : decode cX6_change 13 = .ok (.istore 4, 2) ∧ 13 + 2 = 15 := ⟨by decide +kernel, rfl⟩
theorem dX6_change_15 : decode cX6_change 15 = .ok (.aload_n 0, 1) ∧ 15 + 1 = 16 := ⟨by decide +kernel, rfl⟩
theorem dX6_change_16 : decode cX6_change 16 = .ok (.getfield 12, 3) ∧ 16 + 3 = 19 := ⟨by decide +kernel, rfl⟩
theorem dX6_change_19 : decode cX6_change 19 = .ok (.iload_n 1, 1) ∧ 19 + 1 = 20 := ⟨by decide +kernel, rfl⟩
theorem dX6_change_20 : decode cX6_change 20 = .ok (.iload_n 2, 1) ∧ 20 + 1 = 21 := ⟨by decide +kernel, rfl⟩
theorem dX6_change_21 : decode cX6_change 21 = .ok (.iload_n 3, 1) ∧ 21 + 1 = 22 := ⟨by decide +kernel, rfl⟩
theorem dX6_change_22 : decode cX6_change 22 = .ok (.invokevirtual 74, 3) ∧ 22 + 3 = 25 := ⟨by decide +kernel, rfl⟩
theorem dX6_change_25 : decode cX6_change 25 = .ok (.iload 4, 2) ∧ 25 + 2 = 27 := ⟨by decide +kernel, rfl⟩
theorem dX6_change_27 : decode cX6_change 27 = .ok (.ireturn, 1) ∧ 27 + 1 = 28 := ⟨by decide +kernel, rfl⟩
theorem dX6_changePerson_0 : decode cX6_changePerson 0 = .ok (.aload_n 0, 1) ∧ 0 + 1 = 1 := ⟨by decide +kernel, rfl⟩
theorem dX6_changePerson_1 : decode cX6_changePerson 1 = .ok (.iload_n 2, 1) ∧ 1 + 1 = 2 := ⟨by decide +kernel, rfl⟩
theorem dX6_changePerson_2 : decode cX6_changePerson 2 = .ok (.invokevirtual 86, 3) ∧ 2 + 3 = 5 := ⟨by decide +kernel, rfl⟩
theorem dX6_changePerson_5 : decode cX6_changePerson 5 = .ok (.ifCond .ne 5, 3) ∧ 5 + 3 = 8 ∧ ((5 : Nat) : Int) + 5 = ((10 : Nat) : Int) := ⟨by decide +kernel, rfl, rfl⟩
theorem dX6_changePerson_8 : decode cX6_changePerson 8 = .ok (.iconst (-1), 1) ∧ 8 + 1 = 9 := ⟨by decide +kernel, rfl⟩
theorem dX6_changePerson_9 : decode cX6_changePerson 9 = .ok (.ireturn, 1) ∧ 9 + 1 = 10 := ⟨by decide +kernel, rfl⟩
theorem dX6_changePerson_10 : decode cX6_changePerson 10 = .ok (.iload_n 3, 1) ∧ 10 + 1 = 11 := ⟨by decide +kernel, rfl⟩
theorem dX6_changePerson_11 : decode cX6_changePerson 11 = .ok (.iload 4, 2) ∧ 11 + 2 = 13 := ⟨by decide +kernel, rfl⟩
theorem dX6_changePerson_13 : decode cX6_changePerson 13 = .ok (.invokestatic 56, 3) ∧ 13 + 3 = 16 := ⟨by decide +kernel, rfl⟩
theorem dX6_changePerson_16 : decode cX6_changePerson 16 = .ok (.ifCond .eq 13, 3) ∧ 16 + 3 = 19 ∧ ((16 : Nat) : Int) + 13 = ((29 : Nat) : Int) := ⟨by decide +kernel, rfl, rfl⟩
theorem dX6_changePerson_19 : decode cX6_changePerson 19 = .ok (.aload_n 0, 1) ∧ 19 + 1 = 20 := ⟨by decide +kernel, rfl⟩
theorem dX6_changePerson_20 : decode cX6_changePerson 20 = .ok (.iload_n 1, 1) ∧ 20 + 1 = 21 := ⟨by decide +kernel, rfl⟩
theorem dX6_changePerson_21 : decode cX6_changePerson 21 = .ok (.iload_n 2, 1) ∧ 21 + 1 = 22 := ⟨by decide +kernel, rfl⟩
theorem dX6_changePerson_22 : decode cX6_changePerson 22 = .ok (.iload_n 3, 1) ∧ 22 + 1 = 23 := ⟨by decide +kernel, rfl⟩
theorem dX6_changePerson_23 : decode cX6_changePerson 23 = .ok (.invokevirtual 107, 3) ∧ 23 + 3 = 26 := ⟨by decide +kernel, rfl⟩
theorem dX6_changePerson_26 : decode cX6_changePerson 26 = .ok (.goto 5, 3) ∧ ((26 : Nat) : Int) + 5 = ((31 : Nat) : Int) := ⟨by decide +kernel, rfl⟩
theorem dX6_changePerson_29 : decode cX6_changePerson 29 = .ok (.bipush (-2), 2) ∧ 29 + 2 = 31 := ⟨by decide +kernel, rfl⟩
theorem dX6_changePerson_31 : decode cX6_changePerson 31 = .ok (.ireturn, 1) ∧ 31 + 1 = 32 := ⟨by decide +kernel, rfl⟩
theorem dX6_presentChoice_0 : decode cX6_presentChoice 0 = .ok (.aload_n 0, 1) ∧ 0 + 1 = 1 := ⟨by decide +kernel, rfl⟩
theorem dX6_presentChoice_1 : decode cX6_presentChoice 1 = .ok (.getfield 52, 3) ∧ 1 + 3 = 4 := ⟨by decide +kernel, rfl⟩
theorem dX6_presentChoice_4 : decode cX6_presentChoice 4 = .ok (.ifCond .eq 30, 3) ∧ 4 + 3 = 7 ∧ ((4 : Nat) : Int) + 30 = ((34 : Nat) : Int) := ⟨by decide +kernel, rfl, rfl⟩
theorem dX6_presentChoice_7 : decode cX6_presentChoice 7 = .ok (.aload_n 0, 1) ∧ 7 + 1 = 8 := ⟨by decide +kernel, rfl⟩
theorem dX6_presentChoice_8 : decode cX6_presentChoice 8 = .ok (.getfield 26, 3) ∧ 8 + 3 = 11 := ⟨by decide +kernel, rfl⟩
theorem dX6_presentChoice_11 : decode cX6_presentChoice 11 = .ok (.aload_n 0, 1) ∧ 11 + 1 = 12 := ⟨by decide +kernel, rfl⟩
theorem dX6_presentChoice_12 : decode cX6_presentChoice 12 = .ok (.getfield 12, 3) ∧ 12 + 3 = 15 := ⟨by decide +kernel, rfl⟩
theorem dX6_presentChoice_15 : decode cX6_presentChoice 15 = .ok (.invokevirtual 170, 3) ∧ 15 + 3 = 18 := ⟨by decide +kernel, rfl⟩
theorem dX6_presentChoice_18 : decode cX6_presentChoice 18 = .ok (.aload_n 0, 1) ∧ 18 + 1 = 19 := ⟨by decide +kernel, rfl⟩
theorem dX6_presentChoice_19 : decode cX6_presentChoice 19 = .ok (.getfield 26, 3) ∧ 19 + 3 = 22 := ⟨by decide +kernel, rfl⟩
theorem dX6_presentChoice_22 : decode cX6_presentChoice 22 = .ok (.aload_n 0, 1) ∧ 22 + 1 = 23 := ⟨by decide +kernel, rfl⟩
theorem dX6_presentChoice_23 : decode cX6_presentChoice 23 = .ok (.getfield 12, 3) ∧ 23 + 3 = 26 := ⟨by decide +kernel, rfl⟩
theorem dX6_presentChoice_26 : decode cX6_presentChoice 26 = .ok (.invokevirtual 184, 3) ∧ 26 + 3 = 29 := ⟨by decide +kernel, rfl⟩
theorem dX6_presentChoice_29 : decode cX6_presentChoice 29 = .ok (.aload_n 0, 1) ∧ 29 + 1 = 30 := ⟨by decide +kernel, rfl⟩
theorem dX6_presentChoice_30 : decode cX6_presentChoice 30 = .ok (.iconst 0, 1) ∧ 30 + 1 = 31 := ⟨by decide +kernel, rfl⟩
theorem dX6_presentChoice_31 : decode cX6_presentChoice 31 = .ok (.putfield 52, 3) ∧ 31 + 3 = 34 := ⟨by decide +kernel, rfl⟩
theorem dX6_presentChoice_34 : decode cX6_presentChoice 34 = .ok (.aload_n 0, 1) ∧ 34 + 1 = 35 := ⟨by decide +kernel, rfl⟩
theorem dX6_presentChoice_35 : decode cX6_presentChoice 35 = .ok (.getfield 26, 3) ∧ 35 + 3 = 38 := ⟨by decide +kernel, rfl⟩
theorem dX6_presentChoice_38 : decode cX6_presentChoice 38 = .ok (.areturn, 1) ∧ 38 + 1 = 39 := ⟨by decide +kernel, rfl⟩
theorem dX6_worstMark_0 : decode cX6_worstMark 0 = .ok (.aload_n 1, 1) ∧ 0 + 1 = 1 := ⟨by decide +kernel, rfl⟩
theorem dX6_worstMark_1 : decode cX6_worstMark 1 = .ok (.iload_n 2, 1) ∧ 1 + 1 = 2 := ⟨by decide +kernel, rfl⟩
theorem dX6_worstMark_2 : decode cX6_worstMark 2 = .ok (.aload_n 1, 1) ∧ 2 + 1 = 3 := ⟨by decide +kernel, rfl⟩
theorem dX6_worstMark_3 : decode cX6_worstMark 3 = .ok (.iload_n 2, 1) ∧ 3 + 1 = 4 := ⟨by decide +kernel, rfl⟩
theorem dX6_worstMark_4 : decode cX6_worstMark 4 = .ok (.invokevirtual 143, 3) ∧ 4 + 3 = 7 := ⟨by decide +kernel, rfl⟩
theorem dX6_worstMark_7 : decode cX6_worstMark 7 = .ok (.iconst 1, 1) ∧ 7 + 1 = 8 := ⟨by decide +kernel, rfl⟩
theorem dX6_worstMark_8 : decode cX6_worstMark 8 = .ok (.isub, 1) ∧ 8 + 1 = 9 := ⟨by decide +kernel, rfl⟩
theorem dX6_worstMark_9 : decode cX6_worstMark 9 = .ok (.invokevirtual 131, 3) ∧ 9 + 3 = 12 := ⟨by decide +kernel, rfl⟩
theorem dX6_worstMark_12 : decode cX6_worstMark 12 = .ok (.istore_n 3, 1) ∧ 12 + 1 = 13 := ⟨by decide +kernel, rfl⟩
theorem dX6_worstMark_13 : decode cX6_worstMark 13 = .ok (.iload_n 3, 1) ∧ 13 + 1 = 14 := ⟨by decide +kernel, rfl⟩
theorem dX6_worstMark_14 : decode cX6_worstMark 14 = .ok (.bipush (-9), 2) ∧ 14 + 2 = 16 := ⟨by decide +kernel, rfl⟩
theorem dX6_worstMark_16 : decode cX6_worstMark 16 = .ok (.if_icmp .ne 8, 3) ∧ 16 + 3 = 19 ∧ ((16 : Nat) : Int) + 8 = ((24 : Nat) : Int) := ⟨by decide +kernel, rfl, rfl⟩
theorem dX6_worstMark_19 : decode cX6_worstMark 19 = .ok (.bipush (-9), 2) ∧ 19 + 2 = 21 := ⟨by decide +kernel, rfl⟩
theorem dX6_worstMark_21 : decode cX6_worstMark 21 = .ok (.goto 12, 3) ∧ ((21 : Nat) : Int) + 12 = ((33 : Nat) : Int) := ⟨by decide +kernel, rfl⟩
theorem dX6_worstMark_24 : decode cX6_worstMark 24 = .ok (.aload_n 0, 1) ∧ 24 + 1 = 25 := ⟨by decide +kernel, rfl⟩
theorem dX6_worstMark_25 : decode cX6_worstMark 25 = .ok (.getfield 12, 3) ∧ 25 + 3 = 28 := ⟨by decide +kernel, rfl⟩
theorem dX6_worstMark_28 : decode cX6_worstMark 28 = .ok (.iconst 0, 1) ∧ 28 + 1 = 29 := ⟨by decide +kernel, rfl⟩
theorem dX6_worstMark_29 : decode cX6_worstMark 29 = .ok (.iload_n 3, 1) ∧ 29 + 1 = 30 := ⟨by decide +kernel, rfl⟩
theorem dX6_worstMark_30 : decode cX6_worstMark 30 = .ok (.invokevirtual 89, 3) ∧ 30 + 3 = 33 := ⟨by decide +kernel, rfl⟩
theorem dX6_worstMark_33 : decode cX6_worstMark 33 = .ok (.ireturn, 1) ∧ 33 + 1 = 34 := ⟨by decide +kernel, rfl⟩
theorem dX6_sumOfMarks_0 : decode cX6_sumOfMarks 0 = .ok (.iconst 0, 1) ∧ 0 + 1 = 1 := ⟨by decide +kernel, rfl⟩
theorem dX6_sumOfMarks_1 : decode cX6_sumOfMarks 1 = .ok (.istore_n 2, 1) ∧ 1 + 1 = 2 := ⟨by decide +kernel, rfl⟩
theorem dX6_sumOfMarks_2 : decode cX6_sumOfMarks 2 = .ok (.iconst 0, 1) ∧ 2 + 1 = 3 := ⟨by decide +kernel, rfl⟩
theorem dX6_sumOfMarks_3 : decode cX6_sumOfMarks 3 = .ok (.istore_n 3, 1) ∧ 3 + 1 = 4 := ⟨by decide +kernel, rfl⟩
theorem dX6_sumOfMarks_4 : decode cX6_sumOfMarks 4 = .ok (.iload_n 3, 1) ∧ 4 + 1 = 5 := ⟨by decide +kernel, rfl⟩
theorem dX6_sumOfMarks_5 : decode cX6_sumOfMarks 5 = .ok (.aload_n 0, 1) ∧ 5 + 1 = 6 := ⟨by decide +kernel, rfl⟩
theorem dX6_sumOfMarks_6 : decode cX6_sumOfMarks 6 = .ok (.getfield 12, 3) ∧ 6 + 3 = 9 := ⟨by decide +kernel, rfl⟩
theorem dX6_sumOfMarks_9 : decode cX6_sumOfMarks 9 = .ok (.invokevirtual 67, 3) ∧ 9 + 3 = 12 := ⟨by decide +kernel, rfl⟩
theorem dX6_sumOfMarks_12 : decode cX6_sumOfMarks 12 = .ok (.if_icmp .ge 30, 3) ∧ 12 + 3 = 15 ∧ ((12 : Nat) : Int) + 30 = ((42 : Nat) : Int) := ⟨by decide +kernel, rfl, rfl⟩
theorem dX6_sumOfMarks_15 : decode cX6_sumOfMarks 15 = .ok (.iload_n 1, 1) ∧ 15 + 1 = 16 := ⟨by decide +kernel, rfl⟩
theorem dX6_sumOfMarks_16 : decode cX6_sumOfMarks 16 = .ok (.iload_n 3, 1) ∧ 16 + 1 = 17 := ⟨by decide +kernel, rfl⟩
theorem dX6_sumOfMarks_17 : decode cX6_sumOfMarks 17 = .ok (.ishr, 1) ∧ 17 + 1 = 18 := ⟨by decide +kernel, rfl⟩
theorem dX6_sumOfMarks_18 : decode cX6_sumOfMarks 18 = .ok (.iconst 1, 1) ∧ 18 + 1 = 19 := ⟨by decide +kernel, rfl⟩
theorem dX6_sumOfMarks_19 : decode cX6_sumOfMarks 19 = .ok (.iand, 1) ∧ 19 + 1 = 20 := ⟨by decide +kernel, rfl⟩
theorem dX6_sumOfMarks_20 : decode cX6_sumOfMarks 20 = .ok (.iconst 1, 1) ∧ 20 + 1 = 21 := ⟨by decide +kernel, rfl⟩
theorem dX6_sumOfMarks_21 : decode cX6_sumOfMarks 21 = .ok (.if_icmp .ne 15, 3) ∧ 21 + 3 = 24 ∧ ((21 : Nat) : Int) + 15 = ((36 : Nat) : Int) := ⟨by decide +kernel, rfl, rfl⟩
theorem dX6_sumOfMarks_24 : decode cX6_sumOfMarks 24 = .ok (.iload_n 2, 1) ∧ 24 + 1 = 25 := ⟨by decide +kernel, rfl⟩
theorem dX6_sumOfMarks_25 : decode cX6_sumOfMarks 25 = .ok (.aload_n 0, 1) ∧ 25 + 1 = 26 := ⟨by decide +kernel, rfl⟩
theorem dX6_sumOfMarks_26 : decode cX6_sumOfMarks 26 = .ok (.getfield 12, 3) ∧ 26 + 3 = 29 := ⟨by decide +kernel, rfl⟩
theorem dX6_sumOfMarks_29 : decode cX6_sumOfMarks 29 = .ok (.iconst 0, 1) ∧ 29 + 1 = 30 := ⟨by decide +kernel, rfl⟩
theorem dX6_sumOfMarks_30 : decode cX6_sumOfMarks 30 = .ok (.iload_n 3, 1) ∧ 30 + 1 = 31 := ⟨by decide +kernel, rfl⟩
theorem dX6_sumOfMarks_31 : decode cX6_sumOfMarks 31 = .ok (.invokevirtual 89, 3) ∧ 31 + 3 = 34 := ⟨by decide +kernel, rfl⟩
theorem dX6_sumOfMarks_34 : decode cX6_sumOfMarks 34 = .ok (.iadd, 1) ∧ 34 + 1 = 35 := ⟨by decide +kernel, rfl⟩
theorem dX6_sumOfMarks_35 : decode cX6_sumOfMarks 35 = .ok (.istore_n 2, 1) ∧ 35 + 1 = 36 := ⟨by decide +kernel, rfl⟩
theorem dX6_sumOfMarks_36 : decode cX6_sumOfMarks 36 = .ok (.iinc 3 1, 3) ∧ 36 + 3 = 39 := ⟨by decide +kernel, rfl⟩
theorem dX6_sumOfMarks_39 : decode cX6_sumOfMarks 39 = .ok (.goto (-35), 3) ∧ ((39 : Nat) : Int) + (-35) = ((4 : Nat) : Int) := ⟨by decide +kernel, rfl⟩
theorem dX6_sumOfMarks_42 : decode cX6_sumOfMarks 42 = .ok (.iload_n 2, 1) ∧ 42 + 1 = 43 := ⟨by decide +kernel, rfl⟩
theorem dX6_sumOfMarks_43 : decode cX6_sumOfMarks 43 = .ok (.ireturn, 1) ∧ 43 + 1 = 44 := ⟨by decide +kernel, rfl⟩
theorem dX6_leastMark_0 : decode cX6_leastMark 0 = .ok (.aload_n 0, 1) ∧ 0 + 1 = 1 := ⟨by decide +kernel, rfl⟩
theorem dX6_leastMark_1 : decode cX6_leastMark 1 = .ok (.getfield 30, 3) ∧ 1 + 3 = 4 := ⟨by decide +kernel, rfl⟩
theorem dX6_leastMark_4 : decode cX6_leastMark 4 = .ok (.aload_n 0, 1) ∧ 4 + 1 = 5 := ⟨by decide +kernel, rfl⟩
theorem dX6_leastMark_5 : decode cX6_leastMark 5 = .ok (.getfield 12, 3) ∧ 5 + 3 = 8 := ⟨by decide +kernel, rfl⟩
theorem dX6_leastMark_8 : decode cX6_leastMark 8 = .ok (.invokevirtual 166, 3) ∧ 8 + 3 = 11 := ⟨by decide +kernel, rfl⟩
theorem dX6_leastMark_11 : decode cX6_leastMark 11 = .ok (.bipush (-9), 2) ∧ 11 + 2 = 13 := ⟨by decide +kernel, rfl⟩
theorem dX6_leastMark_13 : decode cX6_leastMark 13 = .ok (.istore_n 2, 1) ∧ 13 + 1 = 14 := ⟨by decide +kernel, rfl⟩
theorem dX6_leastMark_14 : decode cX6_leastMark 14 = .ok (.iconst 0, 1) ∧ 14 + 1 = 15 := ⟨by decide +kernel, rfl⟩
theorem dX6_leastMark_15 : decode cX6_leastMark 15 = .ok (.istore_n 3, 1) ∧ 15 + 1 = 16 := ⟨by decide +kernel, rfl⟩
theorem dX6_leastMark_16 : decode cX6_leastMark 16 = .ok (.iload_n 3, 1) ∧ 16 + 1 = 17 := ⟨by decide +kernel, rfl⟩
theorem dX6_leastMark_17 : decode cX6_leastMark 17 = .ok (.bipush 99, 2) ∧ 17 + 2 = 19 := ⟨by decide +kernel, rfl⟩
theorem dX6_leastMark_19 : decode cX6_leastMark 19 = .ok (.if_icmp .gt 62, 3) ∧ 19 + 3 = 22 ∧ ((19 : Nat) : Int) + 62 = ((81 : Nat) : Int) := ⟨by decide +kernel, rfl, rfl⟩
theorem dX6_leastMark_22 : decode cX6_leastMark 22 = .ok (.aload_n 0, 1) ∧ 22 + 1 = 23 := ⟨by decide +kernel, rfl⟩
theorem dX6_leastMark_23 : decode cX6_leastMark 23 = .ok (.getfield 30, 3) ∧ 23 + 3 = 26 := ⟨by decide +kernel, rfl⟩
theorem dX6_leastMark_26 : decode cX6_leastMark 26 = .ok (.iconst 0, 1) ∧ 26 + 1 = 27 := ⟨by decide +kernel, rfl⟩
theorem dX6_leastMark_27 : decode cX6_leastMark 27 = .ok (.iload_n 1, 1) ∧ 27 + 1 = 28 := ⟨by decide +kernel, rfl⟩
theorem dX6_leastMark_28 : decode cX6_leastMark 28 = .ok (.iload_n 3, 1) ∧ 28 + 1 = 29 := ⟨by decide +kernel, rfl⟩
theorem dX6_leastMark_29 : decode cX6_leastMark 29 = .ok (.invokevirtual 74, 3) ∧ 29 + 3 = 32 := ⟨by decide +kernel, rfl⟩
theorem dX6_leastMark_32 : decode cX6_leastMark 32 = .ok (.aload_n 0, 1) ∧ 32 + 1 = 33 := ⟨by decide +kernel, rfl⟩
theorem dX6_leastMark_33 : decode cX6_leastMark 33 = .ok (.getfield 30, 3) ∧ 33 + 3 = 36 := ⟨by decide +kernel, rfl⟩
theorem dX6_leastMark_36 : decode cX6_leastMark 36 = .ok (.iload_n 1, 1) ∧ 36 + 1 = 37 := ⟨by decide +kernel, rfl⟩
theorem dX6_leastMark_37 : decode cX6_leastMark 37 = .ok (.invokevirtual 93, 3) ∧ 37 + 3 = 40 := ⟨by decide +kernel, rfl⟩
theorem dX6_leastMark_40 : decode cX6_leastMark 40 = .ok (.istore 4, 2) ∧ 40 + 2 = 42 := ⟨by decide +kernel, rfl⟩
theorem dX6_leastMark_42 : decode cX6_leastMark 42 = .ok (.iload 4, 2) ∧ 42 + 2 = 44 := ⟨by decide +kernel, rfl⟩
theorem dX6_leastMark_44 : decode cX6_leastMark 44 = .ok (.iload_n 2, 1) ∧ 44 + 1 = 45 := ⟨by decide +kernel, rfl⟩
theorem dX6_leastMark_45 : decode cX6_leastMark 45 = .ok (.if_icmp .eq 30, 3) ∧ 45 + 3 = 48 ∧ ((45 : Nat) : Int) + 30 = ((75 : Nat) : Int) := ⟨by decide +kernel, rfl, rfl⟩
theorem dX6_leastMark_48 : decode cX6_leastMark 48 = .ok (.iload 4, 2) ∧ 48 + 2 = 50 := ⟨by decide +kernel, rfl⟩
theorem dX6_leastMark_50 : decode cX6_leastMark 50 = .ok (.istore_n 2, 1) ∧ 50 + 1 = 51 := ⟨by decide +kernel, rfl⟩
theorem dX6_leastMark_51 : decode cX6_leastMark 51 = .ok (.aload_n 0, 1) ∧ 51 + 1 = 52 := ⟨by decide +kernel, rfl⟩
theorem dX6_leastMark_52 : decode cX6_leastMark 52 = .ok (.getfield 33, 3) ∧ 52 + 3 = 55 := ⟨by decide +kernel, rfl⟩
theorem dX6_leastMark_55 : decode cX6_leastMark 55 = .ok (.aload_n 0, 1) ∧ 55 + 1 = 56 := ⟨by decide +kernel, rfl⟩
theorem dX6_leastMark_56 : decode cX6_leastMark 56 = .ok (.getfield 30, 3) ∧ 56 + 3 = 59 := ⟨by decide +kernel, rfl⟩
theorem dX6_leastMark_59 : decode cX6_leastMark 59 = .ok (.invokevirtual 170, 3) ∧ 59 + 3 = 62 := ⟨by decide +kernel, rfl⟩
theorem dX6_leastMark_62 : decode cX6_leastMark 62 = .ok (.aload_n 0, 1) ∧ 62 + 1 = 63 := ⟨by decide +kernel, rfl⟩
theorem dX6_leastMark_63 : decode cX6_leastMark 63 = .ok (.getfield 33, 3) ∧ 63 + 3 = 66 := ⟨by decide +kernel, rfl⟩
theorem dX6_leastMark_66 : decode cX6_leastMark 66 = .ok (.iload_n 1, 1) ∧ 66 + 1 = 67 := ⟨by decide +kernel, rfl⟩
theorem dX6_leastMark_67 : decode cX6_leastMark 67 = .ok (.invokevirtual 200, 3) ∧ 67 + 3 = 70 := ⟨by decide +kernel, rfl⟩
theorem dX6_leastMark_70 : decode cX6_leastMark 70 = .ok (.ifCond .eq 5, 3) ∧ 70 + 3 = 73 ∧ ((70 : Nat) : Int) + 5 = ((75 : Nat) : Int) := ⟨by decide +kernel, rfl, rfl⟩
theorem dX6_leastMark_73 : decode cX6_leastMark 73 = .ok (.iload_n 3, 1) ∧ 73 + 1 = 74 := ⟨by decide +kernel, rfl⟩
theorem dX6_leastMark_74 : decode cX6_leastMark 74 = .ok (.ireturn, 1) ∧ 74 + 1 = 75 := ⟨by decide +kernel, rfl⟩
theorem dX6_leastMark_75 : decode cX6_leastMark 75 = .ok (.iinc 3 1, 3) ∧ 75 + 3 = 78 := ⟨by decide +kernel, rfl⟩
theorem dX6_leastMark_78 : decode cX6_leastMark 78 = .ok (.goto (-62), 3) ∧ ((78 : Nat) : Int) + (-62) = ((16 : Nat) : Int) := ⟨by decide +kernel, rfl⟩
theorem dX6_leastMark_81 : decode cX6_leastMark 81 = .ok (.bipush (-9), 2) ∧ 81 + 2 = 83 := ⟨by decide +kernel, rfl⟩
theorem dX6_leastMark_83 : decode cX6_leastMark 83 = .ok (.ireturn, 1) ∧ 83 + 1 = 84 := ⟨by decide +kernel, rfl⟩
theorem dX6_leastGroups_0 : decode cX6_leastGroups 0 = .ok (.aload_n 0, 1) ∧ 0 + 1 = 1 := ⟨by decide +kernel, rfl⟩
theorem dX6_leastGroups_1 : decode cX6_leastGroups 1 = .ok (.getfield 30, 3) ∧ 1 + 3 = 4 := ⟨by decide +kernel, rfl⟩
theorem dX6_leastGroups_4 : decode cX6_leastGroups 4 = .ok (.aload_n 0, 1) ∧ 4 + 1 = 5 := ⟨by decide +kernel, rfl⟩
theorem dX6_leastGroups_5 : decode cX6_leastGroups 5 = .ok (.getfield 12, 3) ∧ 5 + 3 = 8 := ⟨by decide +kernel, rfl⟩
theorem dX6_leastGroups_8 : decode cX6_leastGroups 8 = .ok (.invokevirtual 166, 3) ∧ 8 + 3 = 11 := ⟨by decide +kernel, rfl⟩
theorem dX6_leastGroups_11 : decode cX6_leastGroups 11 = .ok (.aload_n 0, 1) ∧ 11 + 1 = 12 := ⟨by decide +kernel, rfl⟩
theorem dX6_leastGroups_12 : decode cX6_leastGroups 12 = .ok (.getfield 12, 3) ∧ 12 + 3 = 15 := ⟨by decide +kernel, rfl⟩
theorem dX6_leastGroups_15 : decode cX6_leastGroups 15 = .ok (.bipush 48, 2) ∧ 15 + 2 = 17 := ⟨by decide +kernel, rfl⟩
theorem dX6_leastGroups_17 : decode cX6_leastGroups 17 = .ok (.iload_n 1, 1) ∧ 17 + 1 = 18 := ⟨by decide +kernel, rfl⟩
theorem dX6_leastGroups_18 : decode cX6_leastGroups 18 = .ok (.invokevirtual 89, 3) ∧ 18 + 3 = 21 := ⟨by decide +kernel, rfl⟩
theorem dX6_leastGroups_21 : decode cX6_leastGroups 21 = .ok (.istore_n 2, 1) ∧ 21 + 1 = 22 := ⟨by decide +kernel, rfl⟩
theorem dX6_leastGroups_22 : decode cX6_leastGroups 22 = .ok (.iconst 0, 1) ∧ 22 + 1 = 23 := ⟨by decide +kernel, rfl⟩
theorem dX6_leastGroups_23 : decode cX6_leastGroups 23 = .ok (.istore_n 3, 1) ∧ 23 + 1 = 24 := ⟨by decide +kernel, rfl⟩
theorem dX6_leastGroups_24 : decode cX6_leastGroups 24 = .ok (.iload_n 3, 1) ∧ 24 + 1 = 25 := ⟨by decide +kernel, rfl⟩
theorem dX6_leastGroups_25 : decode cX6_leastGroups 25 = .ok (.iconst 4, 1) ∧ 25 + 1 = 26 := ⟨by decide +kernel, rfl⟩
theorem dX6_leastGroups_26 : decode cX6_leastGroups 26 = .ok (.if_icmp .gt 80, 3) ∧ 26 + 3 = 29 ∧ ((26 : Nat) : Int) + 80 = ((106 : Nat) : Int) := ⟨by decide +kernel, rfl, rfl⟩
theorem dX6_leastGroups_29 : decode cX6_leastGroups 29 = .ok (.iconst 0, 1) ∧ 29 + 1 = 30 := ⟨by decide +kernel, rfl⟩
theorem dX6_leastGroups_30 : decode cX6_leastGroups 30 = .ok (.istore 4, 2) ∧ 30 + 2 = 32 := ⟨by decide +kernel, rfl⟩
theorem dX6_leastGroups_32 : decode cX6_leastGroups 32 = .ok (.iload 4, 2) ∧ 32 + 2 = 34 := ⟨by decide +kernel, rfl⟩
theorem dX6_leastGroups_34 : decode cX6_leastGroups 34 = .ok (.bipush 16, 2) ∧ 34 + 2 = 36 := ⟨by decide +kernel, rfl⟩
theorem dX6_leastGroups_36 : decode cX6_leastGroups 36 = .ok (.if_icmp .ge 64, 3) ∧ 36 + 3 = 39 ∧ ((36 : Nat) : Int) + 64 = ((100 : Nat) : Int) := ⟨by decide +kernel, rfl, rfl⟩
theorem dX6_leastGroups_39 : decode cX6_leastGroups 39 = .ok (.iload 4, 2) ∧ 39 + 2 = 41 := ⟨by decide +kernel, rfl⟩
theorem dX6_leastGroups_41 : decode cX6_leastGroups 41 = .ok (.invokestatic 176, 3) ∧ 41 + 3 = 44 := ⟨by decide +kernel, rfl⟩
theorem dX6_leastGroups_44 : decode cX6_leastGroups 44 = .ok (.iload_n 3, 1) ∧ 44 + 1 = 45 := ⟨by decide +kernel, rfl⟩
theorem dX6_leastGroups_45 : decode cX6_leastGroups 45 = .ok (.if_icmp .ne 49, 3) ∧ 45 + 3 = 48 ∧ ((45 : Nat) : Int) + 49 = ((94 : Nat) : Int) := ⟨by decide +kernel, rfl, rfl⟩
theorem dX6_leastGroups_48 : decode cX6_leastGroups 48 = .ok (.iload 4, 2) ∧ 48 + 2 = 50 := ⟨by decide +kernel, rfl⟩
theorem dX6_leastGroups_50 : decode cX6_leastGroups 50 = .ok (.iload_n 2, 1) ∧ 50 + 1 = 51 := ⟨by decide +kernel, rfl⟩
theorem dX6_leastGroups_51 : decode cX6_leastGroups 51 = .ok (.iand, 1) ∧ 51 + 1 = 52 := ⟨by decide +kernel, rfl⟩
theorem dX6_leastGroups_52 : decode cX6_leastGroups 52 = .ok (.ifCond .ne 42, 3) ∧ 52 + 3 = 55 ∧ ((52 : Nat) : Int) + 42 = ((94 : Nat) : Int) := ⟨by decide +kernel, rfl, rfl⟩
theorem dX6_leastGroups_55 : decode cX6_leastGroups 55 = .ok (.aload_n 0, 1) ∧ 55 + 1 = 56 := ⟨by decide +kernel, rfl⟩
theorem dX6_leastGroups_56 : decode cX6_leastGroups 56 = .ok (.getfield 30, 3) ∧ 56 + 3 = 59 := ⟨by decide +kernel, rfl⟩
theorem dX6_leastGroups_59 : decode cX6_leastGroups 59 = .ok (.bipush 48, 2) ∧ 59 + 2 = 61 := ⟨by decide +kernel, rfl⟩
theorem dX6_leastGroups_61 : decode cX6_leastGroups 61 = .ok (.iload_n 1, 1) ∧ 61 + 1 = 62 := ⟨by decide +kernel, rfl⟩
theorem dX6_leastGroups_62 : decode cX6_leastGroups 62 = .ok (.iload_n 2, 1) ∧ 62 + 1 = 63 := ⟨by decide +kernel, rfl⟩
theorem dX6_leastGroups_63 : decode cX6_leastGroups 63 = .ok (.iload 4, 2) ∧ 63 + 2 = 65 := ⟨by decide +kernel, rfl⟩
theorem dX6_leastGroups_65 : decode cX6_leastGroups 65 = .ok (.ior, 1) ∧ 65 + 1 = 66 := ⟨by decide +kernel, rfl⟩
theorem dX6_leastGroups_66 : decode cX6_leastGroups 66 = .ok (.invokevirtual 74, 3) ∧ 66 + 3 = 69 := ⟨by decide +kernel, rfl⟩
theorem dX6_leastGroups_69 : decode cX6_leastGroups 69 = .ok (.aload_n 0, 1) ∧ 69 + 1 = 70 := ⟨by decide +kernel, rfl⟩
theorem dX6_leastGroups_70 : decode cX6_leastGroups 70 = .ok (.getfield 33, 3) ∧ 70 + 3 = 73 := ⟨by decide +kernel, rfl⟩
theorem dX6_leastGroups_73 : decode cX6_leastGroups 73 = .ok (.aload_n 0, 1) ∧ 73 + 1 = 74 := ⟨by decide +kernel, rfl⟩
theorem dX6_leastGroups_74 : decode cX6_leastGroups 74 = .ok (.getfield 30, 3) ∧ 74 + 3 = 77 := ⟨by decide +kernel, rfl⟩
theorem dX6_leastGroups_77 : decode cX6_leastGroups 77 = .ok (.invokevirtual 170, 3) ∧ 77 + 3 = 80 := ⟨by decide +kernel, rfl⟩
theorem dX6_leastGroups_80 : decode cX6_leastGroups 80 = .ok (.aload_n 0, 1) ∧ 80 + 1 = 81 := ⟨by decide +kernel, rfl⟩
theorem dX6_leastGroups_81 : decode cX6_leastGroups 81 = .ok (.getfield 33, 3) ∧ 81 + 3 = 84 := ⟨by decide +kernel, rfl⟩
theorem dX6_leastGroups_84 : decode cX6_leastGroups 84 = .ok (.iload_n 1, 1) ∧ 84 + 1 = 85 := ⟨by decide +kernel, rfl⟩
theorem dX6_leastGroups_85 : decode cX6_leastGroups 85 = .ok (.invokevirtual 200, 3) ∧ 85 + 3 = 88 := ⟨by decide +kernel, rfl⟩
theorem dX6_leastGroups_88 : decode cX6_leastGroups 88 = .ok (.ifCond .eq 6, 3) ∧ 88 + 3 = 91 ∧ ((88 : Nat) : Int) + 6 = ((94 : Nat) : Int) := ⟨by decide +kernel, rfl, rfl⟩
theorem dX6_leastGroups_91 : decode cX6_leastGroups 91 = .ok (.iload 4, 2) ∧ 91 + 2 = 93 := ⟨by decide +kernel, rfl⟩
theorem dX6_leastGroups_93 : decode cX6_leastGroups 93 = .ok (.ireturn, 1) ∧ 93 + 1 = 94 := ⟨by decide +kernel, rfl⟩
theorem dX6_leastGroups_94 : decode cX6_leastGroups 94 = .ok (.iinc 4 1, 3) ∧ 94 + 3 = 97 := ⟨by decide +kernel, rfl⟩
theorem dX6_leastGroups_97 : decode cX6_leastGroups 97 = .ok (.goto (-65), 3) ∧ ((97 : Nat) : Int) + (-65) = ((32 : Nat) : Int) := ⟨by decide +kernel, rfl⟩
theorem dX6_leastGroups_100 : decode cX6_leastGroups 100 = .ok (.iinc 3 1, 3) ∧ 100 + 3 = 103 := ⟨by decide +kernel, rfl⟩
theorem dX6_leastGroups_103 : decode cX6_leastGroups 103 = .ok (.goto (-79), 3) ∧ ((103 : Nat) : Int) + (-79) = ((24 : Nat) : Int) := ⟨by decide +kernel, rfl⟩
theorem dX6_leastGroups_106 : decode cX6_leastGroups 106 = .ok (.bipush (-9), 2) ∧ 106 + 2 = 108 := ⟨by decide +kernel, rfl⟩
theorem dX6_leastGroups_108 : decode cX6_leastGroups 108 = .ok (.ireturn, 1) ∧ 108 + 1 = 109 := ⟨by decide +kernel, rfl⟩
theorem dX6_placeOfGap_0 : decode cX6_placeOfGap 0 = .ok (.iconst 0, 1) ∧ 0 + 1 = 1 := ⟨by decide +kernel, rfl⟩
theorem dX6_placeOfGap_1 : decode cX6_placeOfGap 1 = .ok (.istore_n 2, 1) ∧ 1 + 1 = 2 := ⟨by decide +kernel, rfl⟩
theorem dX6_placeOfGap_2 : decode cX6_placeOfGap 2 = .ok (.iload_n 2, 1) ∧ 2 + 1 = 3 := ⟨by decide +kernel, rfl⟩
theorem dX6_placeOfGap_3 : decode cX6_placeOfGap 3 = .ok (.bipush 16, 2) ∧ 3 + 2 = 5 := ⟨by decide +kernel, rfl⟩
theorem dX6_placeOfGap_5 : decode cX6_placeOfGap 5 = .ok (.if_icmp .ge 84, 3) ∧ 5 + 3 = 8 ∧ ((5 : Nat) : Int) + 84 = ((89 : Nat) : Int) := ⟨by decide +kernel, rfl, rfl⟩
theorem dX6_placeOfGap_8 : decode cX6_placeOfGap 8 = .ok (.aload_n 0, 1) ∧ 8 + 1 = 9 := ⟨by decide +kernel, rfl⟩
theorem dX6_placeOfGap_9 : decode cX6_placeOfGap 9 = .ok (.getfield 48, 3) ∧ 9 + 3 = 12 := ⟨by decide +kernel, rfl⟩
theorem dX6_placeOfGap_12 : decode cX6_placeOfGap 12 = .ok (.iload_n 2, 1) ∧ 12 + 1 = 13 := ⟨by decide +kernel, rfl⟩
theorem dX6_placeOfGap_13 : decode cX6_placeOfGap 13 = .ok (.invokevirtual 232, 3) ∧ 13 + 3 = 16 := ⟨by decide +kernel, rfl⟩
theorem dX6_placeOfGap_16 : decode cX6_placeOfGap 16 = .ok (.istore_n 3, 1) ∧ 16 + 1 = 17 := ⟨by decide +kernel, rfl⟩
theorem dX6_placeOfGap_17 : decode cX6_placeOfGap 17 = .ok (.iconst 0, 1) ∧ 17 + 1 = 18 := ⟨by decide +kernel, rfl⟩
theorem dX6_placeOfGap_18 : decode cX6_placeOfGap 18 = .ok (.istore 4, 2) ∧ 18 + 2 = 20 := ⟨by decide +kernel, rfl⟩
theorem dX6_placeOfGap_20 : decode cX6_placeOfGap 20 = .ok (.iconst 0, 1) ∧ 20 + 1 = 21 := ⟨by decide +kernel, rfl⟩
theorem dX6_placeOfGap_21 : decode cX6_placeOfGap 21 = .ok (.istore 5, 2) ∧ 21 + 2 = 23 := ⟨by decide +kernel, rfl⟩
theorem dX6_placeOfGap_23 : decode cX6_placeOfGap 23 = .ok (.iload 5, 2) ∧ 23 + 2 = 25 := ⟨by decide +kernel, rfl⟩
theorem dX6_placeOfGap_25 : decode cX6_placeOfGap 25 = .ok (.bipush 16, 2) ∧ 25 + 2 = 27 := ⟨by decide +kernel, rfl⟩
theorem dX6_placeOfGap_27 : decode cX6_placeOfGap 27 = .ok (.if_icmp .ge 41, 3) ∧ 27 + 3 = 30 ∧ ((27 : Nat) : Int) + 41 = ((68 : Nat) : Int) := ⟨by decide +kernel, rfl, rfl⟩
theorem dX6_placeOfGap_30 : decode cX6_placeOfGap 30 = .ok (.aload_n 0, 1) ∧ 30 + 1 = 31 := ⟨by decide +kernel, rfl⟩
theorem dX6_placeOfGap_31 : decode cX6_placeOfGap 31 = .ok (.getfield 48, 3) ∧ 31 + 3 = 34 := ⟨by decide +kernel, rfl⟩
theorem dX6_placeOfGap_34 : decode cX6_placeOfGap 34 = .ok (.iload 5, 2) ∧ 34 + 2 = 36 := ⟨by decide +kernel, rfl⟩
theorem dX6_placeOfGap_36 : decode cX6_placeOfGap 36 = .ok (.invokevirtual 232, 3) ∧ 36 + 3 = 39 := ⟨by decide +kernel, rfl⟩
theorem dX6_placeOfGap_39 : decode cX6_placeOfGap 39 = .ok (.istore 6, 2) ∧ 39 + 2 = 41 := ⟨by decide +kernel, rfl⟩
theorem dX6_placeOfGap_41 : decode cX6_placeOfGap 41 = .ok (.iload 6, 2) ∧ 41 + 2 = 43 := ⟨by decide +kernel, rfl⟩
theorem dX6_placeOfGap_43 : decode cX6_placeOfGap 43 = .ok (.iload_n 3, 1) ∧ 43 + 1 = 44 := ⟨by decide +kernel, rfl⟩
theorem dX6_placeOfGap_44 : decode cX6_placeOfGap 44 = .ok (.if_icmp .lt 15, 3) ∧ 44 + 3 = 47 ∧ ((44 : Nat) : Int) + 15 = ((59 : Nat) : Int) := ⟨by decide +kernel, rfl, rfl⟩
theorem dX6_placeOfGap_47 : decode cX6_placeOfGap 47 = .ok (.iload 6, 2) ∧ 47 + 2 = 49 := ⟨by decide +kernel, rfl⟩
theorem dX6_placeOfGap_49 : decode cX6_placeOfGap 49 = .ok (.iload_n 3, 1) ∧ 49 + 1 = 50 := ⟨by decide +kernel, rfl⟩
theorem dX6_placeOfGap_50 : decode cX6_placeOfGap 50 = .ok (.if_icmp .ne 12, 3) ∧ 50 + 3 = 53 ∧ ((50 : Nat) : Int) + 12 = ((62 : Nat) : Int) := ⟨by decide +kernel, rfl, rfl⟩
theorem dX6_placeOfGap_53 : decode cX6_placeOfGap 53 = .ok (.iload 5, 2) ∧ 53 + 2 = 55 := ⟨by decide +kernel, rfl⟩
theorem dX6_placeOfGap_55 : decode cX6_placeOfGap 55 = .ok (.iload_n 2, 1) ∧ 55 + 1 = 56 := ⟨by decide +kernel, rfl⟩
theorem dX6_placeOfGap_56 : decode cX6_placeOfGap 56 = .ok (.if_icmp .ge 6, 3) ∧ 56 + 3 = 59 ∧ ((56 : Nat) : Int) + 6 = ((62 : Nat) : Int) := ⟨by decide +kernel, rfl, rfl⟩
theorem dX6_placeOfGap_59 : decode cX6_placeOfGap 59 = .ok (.iinc 4 1, 3) ∧ 59 + 3 = 62 := ⟨by decide +kernel, rfl⟩
theorem dX6_placeOfGap_62 : decode cX6_placeOfGap 62 = .ok (.iinc 5 1, 3) ∧ 62 + 3 = 65 := ⟨by decide +kernel, rfl⟩
theorem dX6_placeOfGap_65 : decode cX6_placeOfGap 65 = .ok (.goto (-42), 3) ∧ ((65 : Nat) : Int) + (-42) = ((23 : Nat) : Int) := ⟨by decide +kernel, rfl⟩
theorem dX6_placeOfGap_68 : decode cX6_placeOfGap 68 = .ok (.iload_n 3, 1) ∧ 68 + 1 = 69 := ⟨by decide +kernel, rfl⟩
theorem dX6_placeOfGap_69 : decode cX6_placeOfGap 69 = .ok (.sipush 1000, 3) ∧ 69 + 3 = 72 := ⟨by decide +kernel, rfl⟩
theorem dX6_placeOfGap_72 : decode cX6_placeOfGap 72 = .ok (.if_icmp .eq 11, 3) ∧ 72 + 3 = 75 ∧ ((72 : Nat) : Int) + 11 = ((83 : Nat) : Int) := ⟨by decide +kernel, rfl, rfl⟩
theorem dX6_placeOfGap_75 : decode cX6_placeOfGap 75 = .ok (.iload 4, 2) ∧ 75 + 2 = 77 := ⟨by decide +kernel, rfl⟩
theorem dX6_placeOfGap_77 : decode cX6_placeOfGap 77 = .ok (.iload_n 1, 1) ∧ 77 + 1 = 78 := ⟨by decide +kernel, rfl⟩
theorem dX6_placeOfGap_78 : decode cX6_placeOfGap 78 = .ok (.if_icmp .ne 5, 3) ∧ 78 + 3 = 81 ∧ ((78 : Nat) : Int) + 5 = ((83 : Nat) : Int) := ⟨by decide +kernel, rfl, rfl⟩
theorem dX6_placeOfGap_81 : decode cX6_placeOfGap 81 = .ok (.iload_n 2, 1) ∧ 81 + 1 = 82 := ⟨by decide +kernel, rfl⟩
theorem dX6_placeOfGap_82 : decode cX6_placeOfGap 82 = .ok (.ireturn, 1) ∧ 82 + 1 = 83 := ⟨by decide +kernel, rfl⟩
theorem dX6_placeOfGap_83 : decode cX6_placeOfGap 83 = .ok (.iinc 2 1, 3) ∧ 83 + 3 = 86 := ⟨by decide +kernel, rfl⟩
theorem dX6_placeOfGap_86 : decode cX6_placeOfGap 86 = .ok (.goto (-84), 3) ∧ ((86 : Nat) : Int) + (-84) = ((2 : Nat) : Int) := ⟨by decide +kernel, rfl⟩
theorem dX6_placeOfGap_89 : decode cX6_placeOfGap 89 = .ok (.bipush (-9), 2) ∧ 89 + 2 = 91 := ⟨by decide +kernel, rfl⟩
theorem dX6_placeOfGap_91 : decode cX6_placeOfGap 91 = .ok (.ireturn, 1) ∧ 91 + 1 = 92 := ⟨by decide +kernel, rfl⟩
theorem dX6_settle_0 : decode cX6_settle 0 = .ok (.aload_n 0, 1) ∧ 0 + 1 = 1 := ⟨by decide +kernel, rfl⟩
theorem dX6_settle_1 : decode cX6_settle 1 = .ok (.getfield 12, 3) ∧ 1 + 3 = 4 := ⟨by decide +kernel, rfl⟩
theorem dX6_settle_4 : decode cX6_settle 4 = .ok (.bipush 64, 2) ∧ 4 + 2 = 6 := ⟨by decide +kernel, rfl⟩
theorem dX6_settle_6 : decode cX6_settle 6 = .ok (.iload_n 1, 1) ∧ 6 + 1 = 7 := ⟨by decide +kernel, rfl⟩
theorem dX6_settle_7 : decode cX6_settle 7 = .ok (.invokevirtual 89, 3) ∧ 7 + 3 = 10 := ⟨by decide +kernel, rfl⟩
theorem dX6_settle_10 : decode cX6_settle 10 = .ok (.istore_n 2, 1) ∧ 10 + 1 = 11 := ⟨by decide +kernel, rfl⟩
theorem dX6_settle_11 : decode cX6_settle 11 = .ok (.aload_n 0, 1) ∧ 11 + 1 = 12 := ⟨by decide +kernel, rfl⟩
theorem dX6_settle_12 : decode cX6_settle 12 = .ok (.getfield 26, 3) ∧ 12 + 3 = 15 := ⟨by decide +kernel, rfl⟩
theorem dX6_settle_15 : decode cX6_settle 15 = .ok (.iload_n 1, 1) ∧ 15 + 1 = 16 := ⟨by decide +kernel, rfl⟩
theorem dX6_settle_16 : decode cX6_settle 16 = .ok (.invokevirtual 200, 3) ∧ 16 + 3 = 19 := ⟨by decide +kernel, rfl⟩
theorem dX6_settle_19 : decode cX6_settle 19 = .ok (.ifCond .ne 19, 3) ∧ 19 + 3 = 22 ∧ ((19 : Nat) : Int) + 19 = ((38 : Nat) : Int) := ⟨by decide +kernel, rfl, rfl⟩
theorem dX6_settle_22 : decode cX6_settle 22 = .ok (.iload_n 2, 1) ∧ 22 + 1 = 23 := ⟨by decide +kernel, rfl⟩
theorem dX6_settle_23 : decode cX6_settle 23 = .ok (.iconst 2, 1) ∧ 23 + 1 = 24 := ⟨by decide +kernel, rfl⟩
theorem dX6_settle_24 : decode cX6_settle 24 = .ok (.if_icmp .ne 12, 3) ∧ 24 + 3 = 27 ∧ ((24 : Nat) : Int) + 12 = ((36 : Nat) : Int) := ⟨by decide +kernel, rfl, rfl⟩
theorem dX6_settle_27 : decode cX6_settle 27 = .ok (.aload_n 0, 1) ∧ 27 + 1 = 28 := ⟨by decide +kernel, rfl⟩
theorem dX6_settle_28 : decode cX6_settle 28 = .ok (.getfield 12, 3) ∧ 28 + 3 = 31 := ⟨by decide +kernel, rfl⟩
theorem dX6_settle_31 : decode cX6_settle 31 = .ok (.iload_n 1, 1) ∧ 31 + 1 = 32 := ⟨by decide +kernel, rfl⟩
theorem dX6_settle_32 : decode cX6_settle 32 = .ok (.iconst 0, 1) ∧ 32 + 1 = 33 := ⟨by decide +kernel, rfl⟩
theorem dX6_settle_33 : decode cX6_settle 33 = .ok (.invokevirtual 78, 3) ∧ 33 + 3 = 36 := ⟨by decide +kernel, rfl⟩
theorem dX6_settle_36 : decode cX6_settle 36 = .ok (.iconst 0, 1) ∧ 36 + 1 = 37 := ⟨by decide +kernel, rfl⟩
theorem dX6_settle_37 : decode cX6_settle 37 = .ok (.ireturn, 1) ∧ 37 + 1 = 38 := ⟨by decide +kernel, rfl⟩
theorem dX6_settle_38 : decode cX6_settle 38 = .ok (.aload_n 0, 1) ∧ 38 + 1 = 39 := ⟨by decide +kernel, rfl⟩
theorem dX6_settle_39 : decode cX6_settle 39 = .ok (.getfield 12, 3) ∧ 39 + 3 = 42 := ⟨by decide +kernel, rfl⟩
theorem dX6_settle_42 : decode cX6_settle 42 = .ok (.bipush 80, 2) ∧ 42 + 2 = 44 := ⟨by decide +kernel, rfl⟩
theorem dX6_settle_44 : decode cX6_settle 44 = .ok (.iload_n 1, 1) ∧ 44 + 1 = 45 := ⟨by decide +kernel, rfl⟩
theorem dX6_settle_45 : decode cX6_settle 45 = .ok (.aload_n 0, 1) ∧ 45 + 1 = 46 := ⟨by decide +kernel, rfl⟩
theorem dX6_settle_46 : decode cX6_settle 46 = .ok (.getfield 26, 3) ∧ 46 + 3 = 49 := ⟨by decide +kernel, rfl⟩
theorem dX6_settle_49 : decode cX6_settle 49 = .ok (.iload_n 1, 1) ∧ 49 + 1 = 50 := ⟨by decide +kernel, rfl⟩
theorem dX6_settle_50 : decode cX6_settle 50 = .ok (.invokevirtual 122, 3) ∧ 50 + 3 = 53 := ⟨by decide +kernel, rfl⟩
theorem dX6_settle_53 : decode cX6_settle 53 = .ok (.invokevirtual 74, 3) ∧ 53 + 3 = 56 := ⟨by decide +kernel, rfl⟩
theorem dX6_settle_56 : decode cX6_settle 56 = .ok (.aload_n 0, 1) ∧ 56 + 1 = 57 := ⟨by decide +kernel, rfl⟩
theorem dX6_settle_57 : decode cX6_settle 57 = .ok (.getfield 12, 3) ∧ 57 + 3 = 60 := ⟨by decide +kernel, rfl⟩
theorem dX6_settle_60 : decode cX6_settle 60 = .ok (.bipush 96, 2) ∧ 60 + 2 = 62 := ⟨by decide +kernel, rfl⟩
theorem dX6_settle_62 : decode cX6_settle 62 = .ok (.iload_n 1, 1) ∧ 62 + 1 = 63 := ⟨by decide +kernel, rfl⟩
theorem dX6_settle_63 : decode cX6_settle 63 = .ok (.aload_n 0, 1) ∧ 63 + 1 = 64 := ⟨by decide +kernel, rfl⟩
theorem dX6_settle_64 : decode cX6_settle 64 = .ok (.getfield 26, 3) ∧ 64 + 3 = 67 := ⟨by decide +kernel, rfl⟩
theorem dX6_settle_67 : decode cX6_settle 67 = .ok (.iload_n 1, 1) ∧ 67 + 1 = 68 := ⟨by decide +kernel, rfl⟩
theorem dX6_settle_68 : decode cX6_settle 68 = .ok (.invokevirtual 125, 3) ∧ 68 + 3 = 71 := ⟨by decide +kernel, rfl⟩
theorem dX6_settle_71 : decode cX6_settle 71 = .ok (.invokevirtual 74, 3) ∧ 71 + 3 = 74 := ⟨by decide +kernel, rfl⟩
theorem dX6_settle_74 : decode cX6_settle 74 = .ok (.aload_n 0, 1) ∧ 74 + 1 = 75 := ⟨by decide +kernel, rfl⟩
theorem dX6_settle_75 : decode cX6_settle 75 = .ok (.getfield 12, 3) ∧ 75 + 3 = 78 := ⟨by decide +kernel, rfl⟩
theorem dX6_settle_78 : decode cX6_settle 78 = .ok (.bipush 112, 2) ∧ 78 + 2 = 80 := ⟨by decide +kernel, rfl⟩
theorem dX6_settle_80 : decode cX6_settle 80 = .ok (.iload_n 1, 1) ∧ 80 + 1 = 81 := ⟨by decide +kernel, rfl⟩
theorem dX6_settle_81 : decode cX6_settle 81 = .ok (.aload_n 0, 1) ∧ 81 + 1 = 82 := ⟨by decide +kernel, rfl⟩
theorem dX6_settle_82 : decode cX6_settle 82 = .ok (.getfield 26, 3) ∧ 82 + 3 = 85 := ⟨by decide +kernel, rfl⟩
theorem dX6_settle_85 : decode cX6_settle 85 = .ok (.iload_n 1, 1) ∧ 85 + 1 = 86 := ⟨by decide +kernel, rfl⟩
theorem dX6_settle_86 : decode cX6_settle 86 = .ok (.invokevirtual 128, 3) ∧ 86 + 3 = 89 := ⟨by decide +kernel, rfl⟩
theorem dX6_settle_89 : decode cX6_settle 89 = .ok (.invokevirtual 74, 3) ∧ 89 + 3 = 92 := ⟨by decide +kernel, rfl⟩
theorem dX6_settle_92 : decode cX6_settle 92 = .ok (.iload_n 2, 1) ∧ 92 + 1 = 93 := ⟨by decide +kernel, rfl⟩
theorem dX6_settle_93 : decode cX6_settle 93 = .ok (.ifCond .eq 5, 3) ∧ 93 + 3 = 96 ∧ ((93 : Nat) : Int) + 5 = ((98 : Nat) : Int) := ⟨by decide +kernel, rfl, rfl⟩
theorem dX6_settle_96 : decode cX6_settle 96 = .ok (.iconst 0, 1) ∧ 96 + 1 = 97 := ⟨by decide +kernel, rfl⟩
theorem dX6_settle_97 : decode cX6_settle 97 = .ok (.ireturn, 1) ∧ 97 + 1 = 98 := ⟨by decide +kernel, rfl⟩
theorem dX6_settle_98 : decode cX6_settle 98 = .ok (.aload_n 0, 1) ∧ 98 + 1 = 99 := ⟨by decide +kernel, rfl⟩
theorem dX6_settle_99 : decode cX6_settle 99 = .ok (.getfield 12, 3) ∧ 99 + 3 = 102 := ⟨by decide +kernel, rfl⟩
theorem dX6_settle_102 : decode cX6_settle 102 = .ok (.bipush 64, 2) ∧ 102 + 2 = 104 := ⟨by decide +kernel, rfl⟩
theorem dX6_settle_104 : decode cX6_settle 104 = .ok (.iload_n 1, 1) ∧ 104 + 1 = 105 := ⟨by decide +kernel, rfl⟩
theorem dX6_settle_105 : decode cX6_settle 105 = .ok (.iconst 1, 1) ∧ 105 + 1 = 106 := ⟨by decide +kernel, rfl⟩
theorem dX6_settle_106 : decode cX6_settle 106 = .ok (.invokevirtual 74, 3) ∧ 106 + 3 = 109 := ⟨by decide +kernel, rfl⟩
theorem dX6_settle_109 : decode cX6_settle 109 = .ok (.iconst 1, 1) ∧ 109 + 1 = 110 := ⟨by decide +kernel, rfl⟩
theorem dX6_settle_110 : decode cX6_settle 110 = .ok (.ireturn, 1) ∧ 110 + 1 = 111 := ⟨by decide +kernel, rfl⟩
