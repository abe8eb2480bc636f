set_option maxRecDepth 20000 in
theorem ggX11_init_X5_init : GoodIn wsX11_init wsX5_init := goodIn_r _ [33, 34, 2, 3, 35, 36, 37, 38, 39, 40, 73, 74, 75, 76, 77, 78, 79] (by decide +kernel) (by decide +kernel)
set_option maxRecDepth 20000 in
theorem gX11_init_X5_init_n11 : GoodIn wsX11_init (wsX5_init) := ggX11_init_X5_init
set_option maxRecDepth 20000 in
theorem ggX11_init_X8_init : GoodIn wsX11_init wsX8_init := goodIn_r _ [43, 44, 2, 3, 45, 28, 46, 47, 48, 49, 50, 51, 52, 89, 90, 91, 92, 93, 94, 95, 96, 97] (by decide +kernel) (by decide +kernel)
set_option maxRecDepth 20000 in
theorem gX11_init_X8_init : GoodIn wsX11_init (wsX8_init) := ggX11_init_X8_init
set_option maxRecDepth 20000 in
theorem ggX11_init_X9_init : GoodIn wsX11_init wsX9_init := goodIn_r _ [55, 56, 2, 3, 57, 98, 99, 100, 101, 102] (by decide +kernel) (by decide +kernel)
set_option maxRecDepth 20000 in
theorem gX11_init_X9_init : GoodIn wsX11_init (wsX9_init) := ggX11_init_X9_init
set_option maxRecDepth 20000 in
theorem ggX11_init_X4_init : GoodIn wsX11_init wsX4_init := goodIn_r _ [59, 60, 2, 3, 61, 37, 62, 63, 64, 65, 103, 104, 105, 106, 107, 108] (by decide +kernel) (by decide +kernel)
set_option maxRecDepth 20000 in
theorem gX11_init_X4_init_n36 : GoodIn wsX11_init (wsX4_init) := ggX11_init_X4_init
set_option maxRecDepth 20000 in
theorem ggX11_init_X1_init : GoodIn wsX11_init wsX1_init := goodIn_r _ [67, 68, 2, 3, 28, 69, 109, 110, 111, 112] (by decide +kernel) (by decide +kernel)
set_option maxRecDepth 20000 in
theorem gX11_init_X1_init_n47 : GoodIn wsX11_init (wsX1_init) := ggX11_init_X1_init
set_option maxRecDepth 20000 in
theorem ggX11_init_X6_init : GoodIn wsX11_init wsX6_init := goodIn_r _ [71, 72, 2, 3] (by decide +kernel) (by decide +kernel)
set_option maxRecDepth 20000 in
theorem gX11_init_X6_init_n50 : GoodIn wsX11_init (wsX6_init) := ggX11_init_X6_init
theorem dX11_init_0 : decode cX11_init 0 = .ok (.aload_n 0, 1) := by decide +kernel
theorem dX11_init_1 : decode cX11_init 1 = .ok (.invokespecial 3, 3) := by decide +kernel
theorem dX11_init_4 : decode cX11_init 4 = .ok (.aload_n 0, 1) := by decide +kernel
theorem dX11_init_5 : decode cX11_init 5 = .ok (.new 9, 3) := by decide +kernel
theorem dX11_init_8 : decode cX11_init 8 = .ok (.dup, 1) := by decide +kernel
theorem dX11_init_9 : decode cX11_init 9 = .ok (.invokespecial 11, 3) := by decide +kernel
theorem dX11_init_12 : decode cX11_init 12 = .ok (.putfield 12, 3) := by decide +kernel
theorem dX11_init_15 : decode cX11_init 15 = .ok (.aload_n 0, 1) := by decide +kernel
theorem dX11_init_16 : decode cX11_init 16 = .ok (.new 18, 3) := by decide +kernel
theorem dX11_init_19 : decode cX11_init 19 = .ok (.dup, 1) := by decide +kernel
theorem dX11_init_20 : decode cX11_init 20 = .ok (.aload_n 0, 1) := by decide +kernel
theorem dX11_init_21 : decode cX11_init 21 = .ok (.getfield 12, 3) := by decide +kernel
theorem dX11_init_24 : decode cX11_init 24 = .ok (.invokespecial 20, 3) := by decide +kernel
theorem dX11_init_27 : decode cX11_init 27 = .ok (.putfield 23, 3) := by decide +kernel
theorem dX11_init_30 : decode cX11_init 30 = .ok (.aload_n 0, 1) := by decide +kernel
theorem dX11_init_31 : decode cX11_init 31 = .ok (.new 27, 3) := by decide +kernel
theorem dX11_init_34 : decode cX11_init 34 = .ok (.dup, 1) := by decide +kernel
theorem dX11_init_35 : decode cX11_init 35 = .ok (.aload_n 0, 1) := by decide +kernel
theorem dX11_init_36 : decode cX11_init 36 = .ok (.getfield 12, 3) := by decide +kernel
theorem dX11_init_39 : decode cX11_init 39 = .ok (.invokespecial 29, 3) := by decide +kernel
theorem dX11_init_42 : decode cX11_init 42 = .ok (.putfield 30, 3) := by decide +kernel
theorem dX11_init_45 : decode cX11_init 45 = .ok (.aload_n 0, 1) := by decide +kernel
theorem dX11_init_46 : decode cX11_init 46 = .ok (.new 34, 3) := by decide +kernel
theorem dX11_init_49 : decode cX11_init 49 = .ok (.dup, 1) := by decide +kernel
theorem dX11_init_50 : decode cX11_init 50 = .ok (.invokespecial 36, 3) := by decide +kernel
theorem dX11_init_53 : decode cX11_init 53 = .ok (.putfield 37, 3) := by decide +kernel
theorem dX11_init_56 : decode cX11_init 56 = .ok (.aload_n 0, 1) := by decide +kernel
theorem dX11_init_57 : decode cX11_init 57 = .ok (.iconst 4, 1) := by decide +kernel
theorem dX11_init_58 : decode cX11_init 58 = .ok (.anewarray 41, 3) := by decide +kernel
theorem dX11_init_61 : decode cX11_init 61 = .ok (.putfield 43, 3) := by decide +kernel
theorem dX11_init_64 : decode cX11_init 64 = .ok (.iconst 0, 1) := by decide +kernel
theorem dX11_init_65 : decode cX11_init 65 = .ok (.istore_n 1, 1) := by decide +kernel
theorem dX11_init_66 : decode cX11_init 66 = .ok (.iload_n 1, 1) := by decide +kernel
theorem dX11_init_67 : decode cX11_init 67 = .ok (.iconst 4, 1) := by decide +kernel
theorem dX11_init_68 : decode cX11_init 68 = .ok (.if_icmp .ge 22, 3) := by decide +kernel
theorem dX11_init_71 : decode cX11_init 71 = .ok (.aload_n 0, 1) := by decide +kernel
theorem dX11_init_72 : decode cX11_init 72 = .ok (.getfield 43, 3) := by decide +kernel
theorem dX11_init_75 : decode cX11_init 75 = .ok (.iload_n 1, 1) := by decide +kernel
theorem dX11_init_76 : decode cX11_init 76 = .ok (.new 41, 3) := by decide +kernel
theorem dX11_init_79 : decode cX11_init 79 = .ok (.dup, 1) := by decide +kernel
theorem dX11_init_80 : decode cX11_init 80 = .ok (.invokespecial 47, 3) := by decide +kernel
theorem dX11_init_83 : decode cX11_init 83 = .ok (.aastore, 1) := by decide +kernel
theorem dX11_init_84 : decode cX11_init 84 = .ok (.iinc 1 1, 3) := by decide +kernel
theorem dX11_init_87 : decode cX11_init 87 = .ok (.goto (-21), 3) := by decide +kernel
theorem dX11_init_90 : decode cX11_init 90 = .ok (.aload_n 0, 1) := by decide +kernel
theorem dX11_init_91 : decode cX11_init 91 = .ok (.new 48, 3) := by decide +kernel
theorem dX11_init_94 : decode cX11_init 94 = .ok (.dup, 1) := by decide +kernel
theorem dX11_init_95 : decode cX11_init 95 = .ok (.invokespecial 50, 3) := by decide +kernel
theorem dX11_init_98 : decode cX11_init 98 = .ok (.putfield 51, 3) := by decide +kernel
theorem dX11_init_101 : decode cX11_init 101 = .ok (.aload_n 0, 1) := by decide +kernel
theorem dX11_init_102 : decode cX11_init 102 = .ok (.bipush 12, 2) := by decide +kernel
theorem dX11_init_104 : decode cX11_init 104 = .ok (.newarray .long, 2) := by decide +kernel
theorem dX11_init_106 : decode cX11_init 106 = .ok (.putfield 55, 3) := by decide +kernel
theorem dX11_init_109 : decode cX11_init 109 = .ok (.aload_n 0, 1) := by decide +kernel
theorem dX11_init_110 : decode cX11_init 110 = .ok (.bipush 10, 2) := by decide +kernel
theorem dX11_init_112 : decode cX11_init 112 = .ok (.putfield 59, 3) := by decide +kernel
theorem dX11_init_115 : decode cX11_init 115 = .ok (.aload_n 0, 1) := by decide +kernel
theorem dX11_init_116 : decode cX11_init 116 = .ok (.iconst 0, 1) := by decide +kernel
theorem dX11_init_117 : decode cX11_init 117 = .ok (.putfield 63, 3) := by decide +kernel
theorem dX11_init_120 : decode cX11_init 120 = .ok (.return_, 1) := by decide +kernel
set_option maxRecDepth 20000 in
theorem ggX11_joint_X5_addJoint : GoodIn wsX11_joint wsX5_addJoint := goodIn_r _ [7, 8, 9, 19, 20, 21, 22, 23, 24, 25] (by decide +kernel) (by decide +kernel)
set_option maxRecDepth 20000 in
theorem gX11_joint_X5_addJoint : GoodIn wsX11_joint (wsV RX11 69 RX5 yX5_addJoint wsX5_addJoint) := goodIn_app (goodIn_of _ (by decide +kernel)) ggX11_joint_X5_addJoint
theorem dX11_joint_0 : decode cX11_joint 0 = .ok (.aload_n 0, 1) := by decide +kernel
theorem dX11_joint_1 : decode cX11_joint 1 = .ok (.getfield 12, 3) := by decide +kernel
theorem dX11_joint_4 : decode cX11_joint 4 = .ok (.getfield 66, 3) := by decide +kernel
theorem dX11_joint_7 : decode cX11_joint 7 = .ok (.bipush 6, 2) := by decide +kernel
theorem dX11_joint_9 : decode cX11_joint 9 = .ok (.if_icmp .lt 6, 3) := by decide +kernel
theorem dX11_joint_12 : decode cX11_joint 12 = .ok (.bipush (-4), 2) := by decide +kernel
theorem dX11_joint_14 : decode cX11_joint 14 = .ok (.ireturn, 1) := by decide +kernel
theorem dX11_joint_15 : decode cX11_joint 15 = .ok (.aload_n 0, 1) := by decide +kernel
theorem dX11_joint_16 : decode cX11_joint 16 = .ok (.getfield 12, 3) := by decide +kernel
theorem dX11_joint_19 : decode cX11_joint 19 = .ok (.invokevirtual 69, 3) := by decide +kernel
theorem dX11_joint_22 : decode cX11_joint 22 = .ok (.ireturn, 1) := by decide +kernel
set_option maxRecDepth 20000 in
theorem ggX11_hold_X5_hasJoint : GoodIn wsX11_hold wsX5_hasJoint := goodIn_r _ [6, 7, 28, 29, 30, 31, 32, 33, 34] (by decide +kernel) (by decide +kernel)
set_option maxRecDepth 20000 in
theorem gX11_hold_X5_hasJoint : GoodIn wsX11_hold (wsV RX11 73 RX5 yX5_hasJoint wsX5_hasJoint) := goodIn_app (goodIn_of _ (by decide +kernel)) ggX11_hold_X5_hasJoint
set_option maxRecDepth 20000 in
theorem ggX11_hold_X11_isWithin : GoodIn wsX11_hold wsX11_isWithin := goodIn_r _ [11] (by decide +kernel) (by decide +kernel)
set_option maxRecDepth 20000 in
theorem gX11_hold_X11_isWithin : GoodIn wsX11_hold (va_wsS RX11 77 yX11_isWithin wsX11_isWithin) := goodIn_app (goodIn_of _ (by decide +kernel)) ggX11_hold_X11_isWithin
set_option maxRecDepth 20000 in
theorem ggX11_hold_X5_setHeld : GoodIn wsX11_hold wsX5_setHeld := goodIn_r _ [15, 16, 17, 18, 28, 29, 30, 31, 32, 33, 34] (by decide +kernel) (by decide +kernel)
set_option maxRecDepth 20000 in
theorem gX11_hold_X5_setHeld : GoodIn wsX11_hold (wsV RX11 81 RX5 yX5_setHeld wsX5_setHeld) := goodIn_app (goodIn_of _ (by decide +kernel)) ggX11_hold_X5_setHeld
theorem dX11_hold_0 : decode cX11_hold 0 = .ok (.aload_n 0, 1) := by decide +kernel
theorem dX11_hold_1 : decode cX11_hold 1 = .ok (.getfield 12, 3) := by decide +kernel
theorem dX11_hold_4 : decode cX11_hold 4 = .ok (.iload_n 1, 1) := by decide +kernel
theorem dX11_hold_5 : decode cX11_hold 5 = .ok (.invokevirtual 73, 3) := by decide +kernel
theorem dX11_hold_8 : decode cX11_hold 8 = .ok (.ifCond .ne 5, 3) := by decide +kernel
theorem dX11_hold_11 : decode cX11_hold 11 = .ok (.iconst (-1), 1) := by decide +kernel
theorem dX11_hold_12 : decode cX11_hold 12 = .ok (.ireturn, 1) := by decide +kernel
theorem dX11_hold_13 : decode cX11_hold 13 = .ok (.iload_n 2, 1) := by decide +kernel
theorem dX11_hold_14 : decode cX11_hold 14 = .ok (.i2l, 1) := by decide +kernel
theorem dX11_hold_15 : decode cX11_hold 15 = .ok (.iconst 0, 1) := by decide +kernel
theorem dX11_hold_16 : decode cX11_hold 16 = .ok (.bipush 100, 2) := by decide +kernel
theorem dX11_hold_18 : decode cX11_hold 18 = .ok (.invokestatic 77, 3) := by decide +kernel
theorem dX11_hold_21 : decode cX11_hold 21 = .ok (.ifCond .ne 6, 3) := by decide +kernel
theorem dX11_hold_24 : decode cX11_hold 24 = .ok (.bipush (-2), 2) := by decide +kernel
theorem dX11_hold_26 : decode cX11_hold 26 = .ok (.ireturn, 1) := by decide +kernel
theorem dX11_hold_27 : decode cX11_hold 27 = .ok (.aload_n 0, 1) := by decide +kernel
theorem dX11_hold_28 : decode cX11_hold 28 = .ok (.getfield 12, 3) := by decide +kernel
theorem dX11_hold_31 : decode cX11_hold 31 = .ok (.iload_n 1, 1) := by decide +kernel
theorem dX11_hold_32 : decode cX11_hold 32 = .ok (.iconst 1, 1) := by decide +kernel
theorem dX11_hold_33 : decode cX11_hold 33 = .ok (.iload_n 2, 1) := by decide +kernel
theorem dX11_hold_34 : decode cX11_hold 34 = .ok (.invokevirtual 81, 3) := by decide +kernel
theorem dX11_hold_37 : decode cX11_hold 37 = .ok (.iconst 1, 1) := by decide +kernel
theorem dX11_hold_38 : decode cX11_hold 38 = .ok (.ireturn, 1) := by decide +kernel
set_option maxRecDepth 20000 in
theorem ggX11_free_X5_hasJoint : GoodIn wsX11_free wsX5_hasJoint := goodIn_r _ [7, 8, 25, 26, 27, 28, 29, 30, 31] (by decide +kernel) (by decide +kernel)
set_option maxRecDepth 20000 in
theorem gX11_free_X5_hasJoint : GoodIn wsX11_free (wsV RX11 73 RX5 yX5_hasJoint wsX5_hasJoint) := goodIn_app (goodIn_of _ (by decide +kernel)) ggX11_free_X5_hasJoint
set_option maxRecDepth 20000 in
theorem ggX11_free_X5_setHeld : GoodIn wsX11_free wsX5_setHeld := goodIn_r _ [12, 13, 14, 15, 25, 26, 27, 28, 29, 30, 31] (by decide +kernel) (by decide +kernel)
set_option maxRecDepth 20000 in
theorem gX11_free_X5_setHeld : GoodIn wsX11_free (wsV RX11 81 RX5 yX5_setHeld wsX5_setHeld) := goodIn_app (goodIn_of _ (by decide +kernel)) ggX11_free_X5_setHeld
theorem dX11_free_0 : decode cX11_free 0 = .ok (.aload_n 0, 1) := by decide +kernel
theorem dX11_free_1 : decode cX11_free 1 = .ok (.getfield 12, 3) := by decide +kernel
theorem dX11_free_4 : decode cX11_free 4 = .ok (.iload_n 1, 1) := by decide +kernel
theorem dX11_free_5 : decode cX11_free 5 = .ok (.invokevirtual 73, 3) := by decide +kernel
theorem dX11_free_8 : decode cX11_free 8 = .ok (.ifCond .ne 5, 3) := by decide +kernel
theorem dX11_free_11 : decode cX11_free 11 = .ok (.iconst (-1), 1) := by decide +kernel
theorem dX11_free_12 : decode cX11_free 12 = .ok (.ireturn, 1) := by decide +kernel
theorem dX11_free_13 : decode cX11_free 13 = .ok (.aload_n 0, 1) := by decide +kernel
theorem dX11_free_14 : decode cX11_free 14 = .ok (.getfield 12, 3) := by decide +kernel
theorem dX11_free_17 : decode cX11_free 17 = .ok (.getfield 85, 3) := by decide +kernel
theorem dX11_free_20 : decode cX11_free 20 = .ok (.iload_n 1, 1) := by decide +kernel
theorem dX11_free_21 : decode cX11_free 21 = .ok (.baload, 1) := by decide +kernel
theorem dX11_free_22 : decode cX11_free 22 = .ok (.ifCond .ne 5, 3) := by decide +kernel
theorem dX11_free_25 : decode cX11_free 25 = .ok (.iconst 0, 1) := by decide +kernel
theorem dX11_free_26 : decode cX11_free 26 = .ok (.ireturn, 1) := by decide +kernel
theorem dX11_free_27 : decode cX11_free 27 = .ok (.aload_n 0, 1) := by decide +kernel
theorem dX11_free_28 : decode cX11_free 28 = .ok (.getfield 12, 3) := by decide +kernel
theorem dX11_free_31 : decode cX11_free 31 = .ok (.iload_n 1, 1) := by decide +kernel
theorem dX11_free_32 : decode cX11_free 32 = .ok (.iconst 0, 1) := by decide +kernel
theorem dX11_free_33 : decode cX11_free 33 = .ok (.iconst 0, 1) := by decide +kernel
theorem dX11_free_34 : decode cX11_free 34 = .ok (.invokevirtual 81, 3) := by decide +kernel
theorem dX11_free_37 : decode cX11_free 37 = .ok (.iconst 1, 1) := by decide +kernel
theorem dX11_free_38 : decode cX11_free 38 = .ok (.ireturn, 1) := by decide +kernel
set_option maxRecDepth 20000 in
theorem ggX11_crack_X5_hasJoint : GoodIn wsX11_crack wsX5_hasJoint := goodIn_r _ [7, 8, 76, 77, 78, 79, 80, 81, 82] (by decide +kernel) (by decide +kernel)
set_option maxRecDepth 20000 in
theorem gX11_crack_X5_hasJoint : GoodIn wsX11_crack (wsV RX11 73 RX5 yX5_hasJoint wsX5_hasJoint) := goodIn_app (goodIn_of _ (by decide +kernel)) ggX11_crack_X5_hasJoint
set_option maxRecDepth 20000 in
theorem ggX11_crack_X11_isKind : GoodIn wsX11_crack wsX11_isKind := goodIn_r _ [12, 13, 14, 11, 15] (by decide +kernel) (by decide +kernel)
set_option maxRecDepth 20000 in
theorem gX11_crack_X11_isKind : GoodIn wsX11_crack (va_wsS RX11 89 yX11_isKind wsX11_isKind) := goodIn_app (goodIn_of _ (by decide +kernel)) ggX11_crack_X11_isKind
set_option maxRecDepth 20000 in
theorem ggX11_crack_X11_isWithin : GoodIn wsX11_crack wsX11_isWithin := goodIn_r _ [15] (by decide +kernel) (by decide +kernel)
set_option maxRecDepth 20000 in
theorem gX11_crack_X11_isWithin : GoodIn wsX11_crack (va_wsS RX11 77 yX11_isWithin wsX11_isWithin) := goodIn_app (goodIn_of _ (by decide +kernel)) ggX11_crack_X11_isWithin
set_option maxRecDepth 20000 in
theorem ggX11_crack_X11_newCrack : GoodIn wsX11_crack wsX11_newCrack := goodIn_r _ [18, 19, 20, 21, 22, 23, 24, 25, 26, 27, 28, 29, 30, 31, 32, 33, 34, 35, 36, 37, 38, 39, 40, 41, 42, 43, 44, 45, 46, 47, 48, 49, 50, 51, 52, 53, 54, 55, 56, 57, 58, 59, 83, 84, 85, 86, 87, 88, 89, 90, 91, 92, 93, 94, 95, 96, 97, 98, 99, 100, 101, 102, 103, 104, 105, 106, 107] (by decide +kernel) (by decide +kernel)
set_option maxRecDepth 20000 in
theorem gX11_crack_X11_newCrack : GoodIn wsX11_crack (va_wsS RX11 95 yX11_newCrack wsX11_newCrack) := goodIn_app (goodIn_of _ (by decide +kernel)) ggX11_crack_X11_newCrack
set_option maxRecDepth 20000 in
theorem ggX11_crack_X5_addCrack : GoodIn wsX11_crack wsX5_addCrack := goodIn_r _ [63, 64, 65, 66, 76, 77, 78, 79, 80, 81, 82] (by decide +kernel) (by decide +kernel)
set_option maxRecDepth 20000 in
theorem gX11_crack_X5_addCrack : GoodIn wsX11_crack (wsV RX11 99 RX5 yX5_addCrack wsX5_addCrack) := goodIn_app (goodIn_of _ (by decide +kernel)) ggX11_crack_X5_addCrack
theorem dX11_crack_0 : decode cX11_crack 0 = .ok (.aload_n 0, 1) := by decide +kernel
theorem dX11_crack_1 : decode cX11_crack 1 = .ok (.getfield 12, 3) := by decide +kernel
theorem dX11_crack_4 : decode cX11_crack 4 = .ok (.iload_n 1, 1) := by decide +kernel
theorem dX11_crack_5 : decode cX11_crack 5 = .ok (.invokevirtual 73, 3) := by decide +kernel
theorem dX11_crack_8 : decode cX11_crack 8 = .ok (.ifCond .eq 14, 3) := by decide +kernel
theorem dX11_crack_11 : decode cX11_crack 11 = .ok (.aload_n 0, 1) := by decide +kernel
theorem dX11_crack_12 : decode cX11_crack 12 = .ok (.getfield 12, 3) := by decide +kernel
theorem dX11_crack_15 : decode cX11_crack 15 = .ok (.iload_n 2, 1) := by decide +kernel
theorem dX11_crack_16 : decode cX11_crack 16 = .ok (.invokevirtual 73, 3) := by decide +kernel
theorem dX11_crack_19 : decode cX11_crack 19 = .ok (.ifCond .ne 5, 3) := by decide +kernel
theorem dX11_crack_22 : decode cX11_crack 22 = .ok (.iconst (-1), 1) := by decide +kernel
theorem dX11_crack_23 : decode cX11_crack 23 = .ok (.ireturn, 1) := by decide +kernel
theorem dX11_crack_24 : decode cX11_crack 24 = .ok (.iload_n 1, 1) := by decide +kernel
theorem dX11_crack_25 : decode cX11_crack 25 = .ok (.iload_n 2, 1) := by decide +kernel
theorem dX11_crack_26 : decode cX11_crack 26 = .ok (.if_icmp .eq 34, 3) := by decide +kernel
theorem dX11_crack_29 : decode cX11_crack 29 = .ok (.iload_n 3, 1) := by decide +kernel
theorem dX11_crack_30 : decode cX11_crack 30 = .ok (.invokestatic 89, 3) := by decide +kernel
theorem dX11_crack_33 : decode cX11_crack 33 = .ok (.ifCond .eq 27, 3) := by decide +kernel
theorem dX11_crack_36 : decode cX11_crack 36 = .ok (.iload 4, 2) := by decide +kernel
theorem dX11_crack_38 : decode cX11_crack 38 = .ok (.i2l, 1) := by decide +kernel
theorem dX11_crack_39 : decode cX11_crack 39 = .ok (.iconst 0, 1) := by decide +kernel
theorem dX11_crack_40 : decode cX11_crack 40 = .ok (.bipush 12, 2) := by decide +kernel
theorem dX11_crack_42 : decode cX11_crack 42 = .ok (.invokestatic 77, 3) := by decide +kernel
theorem dX11_crack_45 : decode cX11_crack 45 = .ok (.ifCond .eq 15, 3) := by decide +kernel
theorem dX11_crack_48 : decode cX11_crack 48 = .ok (.iload 5, 2) := by decide +kernel
theorem dX11_crack_50 : decode cX11_crack 50 = .ok (.i2l, 1) := by decide +kernel
theorem dX11_crack_51 : decode cX11_crack 51 = .ok (.iconst 1, 1) := by decide +kernel
theorem dX11_crack_52 : decode cX11_crack 52 = .ok (.bipush 12, 2) := by decide +kernel
theorem dX11_crack_54 : decode cX11_crack 54 = .ok (.invokestatic 77, 3) := by decide +kernel
theorem dX11_crack_57 : decode cX11_crack 57 = .ok (.ifCond .ne 6, 3) := by decide +kernel
theorem dX11_crack_60 : decode cX11_crack 60 = .ok (.bipush (-2), 2) := by decide +kernel
theorem dX11_crack_62 : decode cX11_crack 62 = .ok (.ireturn, 1) := by decide +kernel
theorem dX11_crack_63 : decode cX11_crack 63 = .ok (.aload_n 0, 1) := by decide +kernel
theorem dX11_crack_64 : decode cX11_crack 64 = .ok (.getfield 12, 3) := by decide +kernel
theorem dX11_crack_67 : decode cX11_crack 67 = .ok (.getfield 92, 3) := by decide +kernel
theorem dX11_crack_70 : decode cX11_crack 70 = .ok (.bipush 12, 2) := by decide +kernel
theorem dX11_crack_72 : decode cX11_crack 72 = .ok (.if_icmp .lt 6, 3) := by decide +kernel
theorem dX11_crack_75 : decode cX11_crack 75 = .ok (.bipush (-4), 2) := by decide +kernel
theorem dX11_crack_77 : decode cX11_crack 77 = .ok (.ireturn, 1) := by decide +kernel
theorem dX11_crack_78 : decode cX11_crack 78 = .ok (.aload_n 0, 1) := by decide +kernel
theorem dX11_crack_79 : decode cX11_crack 79 = .ok (.getfield 12, 3) := by decide +kernel
theorem dX11_crack_82 : decode cX11_crack 82 = .ok (.iload_n 1, 1) := by decide +kernel
theorem dX11_crack_83 : decode cX11_crack 83 = .ok (.iload_n 2, 1) := by decide +kernel
theorem dX11_crack_84 : decode cX11_crack 84 = .ok (.iload_n 3, 1) := by decide +kernel
theorem dX11_crack_85 : decode cX11_crack 85 = .ok (.iload 4, 2) := by decide +kernel
theorem dX11_crack_87 : decode cX11_crack 87 = .ok (.iload 5, 2) := by decide +kernel
theorem dX11_crack_89 : decode cX11_crack 89 = .ok (.invokestatic 95, 3) := by decide +kernel
theorem dX11_crack_92 : decode cX11_crack 92 = .ok (.invokevirtual 99, 3) := by decide +kernel
theorem dX11_crack_95 : decode cX11_crack 95 = .ok (.ireturn, 1) := by decide +kernel
set_option maxRecDepth 20000 in
theorem ggX11_widths_X11_isCore : GoodIn wsX11_widths wsX11_isCore := goodIn_r _ [10, 11, 12, 9, 13] (by decide +kernel) (by decide +kernel)
set_option maxRecDepth 20000 in
theorem gX11_widths_X11_isCore : GoodIn wsX11_widths (va_wsS RX11 103 yX11_isCore wsX11_isCore) := goodIn_app (goodIn_of _ (by decide +kernel)) ggX11_widths_X11_isCore
set_option maxRecDepth 20000 in
theorem ggX11_widths_X5_hasCrack : GoodIn wsX11_widths wsX5_hasCrack := goodIn_r _ [18, 19, 65, 66, 67, 68, 69, 70, 71] (by decide +kernel) (by decide +kernel)
set_option maxRecDepth 20000 in
theorem gX11_widths_X5_hasCrack : GoodIn wsX11_widths (wsV RX11 106 RX5 yX5_hasCrack wsX5_hasCrack) := goodIn_app (goodIn_of _ (by decide +kernel)) ggX11_widths_X5_hasCrack
set_option maxRecDepth 20000 in
theorem ggX11_widths_X11_isLane : GoodIn wsX11_widths wsX11_isLane := goodIn_r _ [22, 11, 12, 9, 13] (by decide +kernel) (by decide +kernel)
set_option maxRecDepth 20000 in
theorem gX11_widths_X11_isLane : GoodIn wsX11_widths (va_wsS RX11 109 yX11_isLane wsX11_isLane) := goodIn_app (goodIn_of _ (by decide +kernel)) ggX11_widths_X11_isLane
set_option maxRecDepth 20000 in
theorem ggX11_widths_X1_isOfAnotherLane : GoodIn wsX11_widths wsX1_isOfAnotherLane := goodIn_r _ [27, 28, 29, 61, 62, 63, 64] (by decide +kernel) (by decide +kernel)
set_option maxRecDepth 20000 in
theorem gX11_widths_X1_isOfAnotherLane : GoodIn wsX11_widths (wsV RX11 112 RX1 yX1_isOfAnotherLane wsX1_isOfAnotherLane) := goodIn_app (goodIn_of _ (by decide +kernel)) ggX11_widths_X1_isOfAnotherLane
set_option maxRecDepth 20000 in
theorem ggX11_widths_X11_faulted : GoodIn wsX11_widths wsX11_faulted := goodIn_r _ [33, 1, 52, 53, 54, 55, 56, 57, 58, 59, 60] (by decide +kernel) (by decide +kernel)
set_option maxRecDepth 20000 in
theorem gX11_widths_X11_faulted : GoodIn wsX11_widths (wsV RX11 115 RX11 yX11_faulted wsX11_faulted) := goodIn_app (goodIn_of _ (by decide +kernel)) ggX11_widths_X11_faulted
set_option maxRecDepth 20000 in
theorem ggX11_widths_X1_hasCells : GoodIn wsX11_widths wsX1_hasCells := goodIn_r _ [37, 38, 61, 62, 63, 64] (by decide +kernel) (by decide +kernel)
set_option maxRecDepth 20000 in
theorem gX11_widths_X1_hasCells : GoodIn wsX11_widths (wsV RX11 123 RX1 yX1_hasCells wsX1_hasCells) := goodIn_app (goodIn_of _ (by decide +kernel)) ggX11_widths_X1_hasCells
set_option maxRecDepth 20000 in
theorem ggX11_widths_X1_areWithin : GoodIn wsX11_widths wsX1_areWithin := goodIn_r _ [42, 43, 12, 9, 13, 61, 62, 63, 64] (by decide +kernel) (by decide +kernel)
set_option maxRecDepth 20000 in
theorem gX11_widths_X1_areWithin : GoodIn wsX11_widths (wsV RX11 127 RX1 yX1_areWithin wsX1_areWithin) := goodIn_app (goodIn_of _ (by decide +kernel)) ggX11_widths_X1_areWithin
set_option maxRecDepth 20000 in
theorem ggX11_widths_X5_setWidth : GoodIn wsX11_widths wsX5_setWidth := goodIn_r _ [47, 48, 49, 50, 51, 65, 66, 67, 68, 69, 70, 71, 72, 73, 74, 75, 76, 77, 78, 79, 80, 81, 82, 83, 84, 85, 86, 87, 88, 89, 90, 91, 92, 93, 94, 95, 96] (by decide +kernel) (by decide +kernel)
set_option maxRecDepth 20000 in
theorem gX11_widths_X5_setWidth : GoodIn wsX11_widths (wsV RX11 134 RX5 yX5_setWidth wsX5_setWidth) := goodIn_app (goodIn_of _ (by decide +kernel)) ggX11_widths_X5_setWidth
theorem dX11_widths_0 : decode cX11_widths 0 = .ok (.aload_n 0, 1) := by decide +kernel
theorem dX11_widths_1 : decode cX11_widths 1 = .ok (.iconst 0, 1) := by decide +kernel
theorem dX11_widths_2 : decode cX11_widths 2 = .ok (.putfield 63, 3) := by decide +kernel
theorem dX11_widths_5 : decode cX11_widths 5 = .ok (.iload_n 1, 1) := by decide +kernel
theorem dX11_widths_6 : decode cX11_widths 6 = .ok (.invokestatic 103, 3) := by decide +kernel
theorem dX11_widths_9 : decode cX11_widths 9 = .ok (.ifCond .eq 15, 3) := by decide +kernel
theorem dX11_widths_12 : decode cX11_widths 12 = .ok (.aload_n 0, 1) := by decide +kernel
theorem dX11_widths_13 : decode cX11_widths 13 = .ok (.getfield 12, 3) := by decide +kernel
theorem dX11_widths_16 : decode cX11_widths 16 = .ok (.iload 5, 2) := by decide +kernel
theorem dX11_widths_18 : decode cX11_widths 18 = .ok (.invokevirtual 106, 3) := by decide +kernel
theorem dX11_widths_21 : decode cX11_widths 21 = .ok (.ifCond .ne 5, 3) := by decide +kernel
theorem dX11_widths_24 : decode cX11_widths 24 = .ok (.iconst (-1), 1) := by decide +kernel
theorem dX11_widths_25 : decode cX11_widths 25 = .ok (.ireturn, 1) := by decide +kernel
theorem dX11_widths_26 : decode cX11_widths 26 = .ok (.iload_n 2, 1) := by decide +kernel
theorem dX11_widths_27 : decode cX11_widths 27 = .ok (.invokestatic 109, 3) := by decide +kernel
theorem dX11_widths_30 : decode cX11_widths 30 = .ok (.ifCond .ne 6, 3) := by decide +kernel
theorem dX11_widths_33 : decode cX11_widths 33 = .ok (.bipush (-2), 2) := by decide +kernel
theorem dX11_widths_35 : decode cX11_widths 35 = .ok (.ireturn, 1) := by decide +kernel
theorem dX11_widths_36 : decode cX11_widths 36 = .ok (.aload_n 0, 1) := by decide +kernel
theorem dX11_widths_37 : decode cX11_widths 37 = .ok (.getfield 43, 3) := by decide +kernel
theorem dX11_widths_40 : decode cX11_widths 40 = .ok (.iload_n 1, 1) := by decide +kernel
theorem dX11_widths_41 : decode cX11_widths 41 = .ok (.aaload, 1) := by decide +kernel
theorem dX11_widths_42 : decode cX11_widths 42 = .ok (.astore 6, 2) := by decide +kernel
theorem dX11_widths_44 : decode cX11_widths 44 = .ok (.aload 6, 2) := by decide +kernel
theorem dX11_widths_46 : decode cX11_widths 46 = .ok (.iload_n 2, 1) := by decide +kernel
theorem dX11_widths_47 : decode cX11_widths 47 = .ok (.invokevirtual 112, 3) := by decide +kernel
theorem dX11_widths_50 : decode cX11_widths 50 = .ok (.ifCond .eq 9, 3) := by decide +kernel
theorem dX11_widths_53 : decode cX11_widths 53 = .ok (.aload_n 0, 1) := by decide +kernel
theorem dX11_widths_54 : decode cX11_widths 54 = .ok (.iconst 2, 1) := by decide +kernel
theorem dX11_widths_55 : decode cX11_widths 55 = .ok (.invokevirtual 115, 3) := by decide +kernel
theorem dX11_widths_58 : decode cX11_widths 58 = .ok (.ireturn, 1) := by decide +kernel
theorem dX11_widths_59 : decode cX11_widths 59 = .ok (.aload 6, 2) := by decide +kernel
theorem dX11_widths_61 : decode cX11_widths 61 = .ok (.getfield 119, 3) := by decide +kernel
theorem dX11_widths_64 : decode cX11_widths 64 = .ok (.ifCond .ne 9, 3) := by decide +kernel
theorem dX11_widths_67 : decode cX11_widths 67 = .ok (.aload_n 0, 1) := by decide +kernel
theorem dX11_widths_68 : decode cX11_widths 68 = .ok (.iconst 1, 1) := by decide +kernel
theorem dX11_widths_69 : decode cX11_widths 69 = .ok (.invokevirtual 115, 3) := by decide +kernel
theorem dX11_widths_72 : decode cX11_widths 72 = .ok (.ireturn, 1) := by decide +kernel
theorem dX11_widths_73 : decode cX11_widths 73 = .ok (.iload 4, 2) := by decide +kernel
theorem dX11_widths_75 : decode cX11_widths 75 = .ok (.ifCond .ge 9, 3) := by decide +kernel
theorem dX11_widths_78 : decode cX11_widths 78 = .ok (.aload_n 0, 1) := by decide +kernel
theorem dX11_widths_79 : decode cX11_widths 79 = .ok (.iconst 4, 1) := by decide +kernel
theorem dX11_widths_80 : decode cX11_widths 80 = .ok (.invokevirtual 115, 3) := by decide +kernel
theorem dX11_widths_83 : decode cX11_widths 83 = .ok (.ireturn, 1) := by decide +kernel
theorem dX11_widths_84 : decode cX11_widths 84 = .ok (.aload 6, 2) := by decide +kernel
theorem dX11_widths_86 : decode cX11_widths 86 = .ok (.iload_n 3, 1) := by decide +kernel
theorem dX11_widths_87 : decode cX11_widths 87 = .ok (.iload 4, 2) := by decide +kernel
theorem dX11_widths_89 : decode cX11_widths 89 = .ok (.invokevirtual 123, 3) := by decide +kernel
theorem dX11_widths_92 : decode cX11_widths 92 = .ok (.ifCond .eq 18, 3) := by decide +kernel
theorem dX11_widths_95 : decode cX11_widths 95 = .ok (.iload 4, 2) := by decide +kernel
theorem dX11_widths_97 : decode cX11_widths 97 = .ok (.aload_n 0, 1) := by decide +kernel
theorem dX11_widths_98 : decode cX11_widths 98 = .ok (.getfield 12, 3) := by decide +kernel
theorem dX11_widths_101 : decode cX11_widths 101 = .ok (.getfield 92, 3) := by decide +kernel
theorem dX11_widths_104 : decode cX11_widths 104 = .ok (.iload 5, 2) := by decide +kernel
theorem dX11_widths_106 : decode cX11_widths 106 = .ok (.isub, 1) := by decide +kernel
theorem dX11_widths_107 : decode cX11_widths 107 = .ok (.if_icmp .le 9, 3) := by decide +kernel
theorem dX11_widths_110 : decode cX11_widths 110 = .ok (.aload_n 0, 1) := by decide +kernel
theorem dX11_widths_111 : decode cX11_widths 111 = .ok (.iconst 3, 1) := by decide +kernel
theorem dX11_widths_112 : decode cX11_widths 112 = .ok (.invokevirtual 115, 3) := by decide +kernel
theorem dX11_widths_115 : decode cX11_widths 115 = .ok (.ireturn, 1) := by decide +kernel
theorem dX11_widths_116 : decode cX11_widths 116 = .ok (.aload 6, 2) := by decide +kernel
theorem dX11_widths_118 : decode cX11_widths 118 = .ok (.iload_n 3, 1) := by decide +kernel
theorem dX11_widths_119 : decode cX11_widths 119 = .ok (.iload 4, 2) := by decide +kernel
theorem dX11_widths_121 : decode cX11_widths 121 = .ok (.iconst 0, 1) := by decide +kernel
theorem dX11_widths_122 : decode cX11_widths 122 = .ok (.bipush 12, 2) := by decide +kernel
theorem dX11_widths_124 : decode cX11_widths 124 = .ok (.invokevirtual 127, 3) := by decide +kernel
theorem dX11_widths_127 : decode cX11_widths 127 = .ok (.ifCond .ne 6, 3) := by decide +kernel
theorem dX11_widths_130 : decode cX11_widths 130 = .ok (.bipush (-2), 2) := by decide +kernel
theorem dX11_widths_132 : decode cX11_widths 132 = .ok (.ireturn, 1) := by decide +kernel
theorem dX11_widths_133 : decode cX11_widths 133 = .ok (.iconst 0, 1) := by decide +kernel
theorem dX11_widths_134 : decode cX11_widths 134 = .ok (.istore 7, 2) := by decide +kernel
theorem dX11_widths_136 : decode cX11_widths 136 = .ok (.iload 7, 2) := by decide +kernel
theorem dX11_widths_138 : decode cX11_widths 138 = .ok (.iload 4, 2) := by decide +kernel
theorem dX11_widths_140 : decode cX11_widths 140 = .ok (.if_icmp .ge 32, 3) := by decide +kernel
theorem dX11_widths_143 : decode cX11_widths 143 = .ok (.aload_n 0, 1) := by decide +kernel
theorem dX11_widths_144 : decode cX11_widths 144 = .ok (.getfield 12, 3) := by decide +kernel
theorem dX11_widths_147 : decode cX11_widths 147 = .ok (.iload 5, 2) := by decide +kernel
theorem dX11_widths_149 : decode cX11_widths 149 = .ok (.iload 7, 2) := by decide +kernel
theorem dX11_widths_151 : decode cX11_widths 151 = .ok (.iadd, 1) := by decide +kernel
theorem dX11_widths_152 : decode cX11_widths 152 = .ok (.aload 6, 2) := by decide +kernel
theorem dX11_widths_154 : decode cX11_widths 154 = .ok (.getfield 131, 3) := by decide +kernel
theorem dX11_widths_157 : decode cX11_widths 157 = .ok (.iload_n 3, 1) := by decide +kernel
theorem dX11_widths_158 : decode cX11_widths 158 = .ok (.iload 7, 2) := by decide +kernel
theorem dX11_widths_160 : decode cX11_widths 160 = .ok (.iadd, 1) := by decide +kernel
theorem dX11_widths_161 : decode cX11_widths 161 = .ok (.laload, 1) := by decide +kernel
theorem dX11_widths_162 : decode cX11_widths 162 = .ok (.l2i, 1) := by decide +kernel
theorem dX11_widths_163 : decode cX11_widths 163 = .ok (.invokevirtual 134, 3) := by decide +kernel
theorem dX11_widths_166 : decode cX11_widths 166 = .ok (.iinc 7 1, 3) := by decide +kernel
theorem dX11_widths_169 : decode cX11_widths 169 = .ok (.goto (-33), 3) := by decide +kernel
theorem dX11_widths_172 : decode cX11_widths 172 = .ok (.iload 4, 2) := by decide +kernel
theorem dX11_widths_174 : decode cX11_widths 174 = .ok (.ireturn, 1) := by decide +kernel
set_option maxRecDepth 20000 in
theorem ggX11_width_X5_hasCrack : GoodIn wsX11_width wsX5_hasCrack := goodIn_r _ [8, 9, 31, 32, 33, 34, 35, 36, 37] (by decide +kernel) (by decide +kernel)
set_option maxRecDepth 20000 in
theorem gX11_width_X5_hasCrack : GoodIn wsX11_width (wsV RX11 106 RX5 yX5_hasCrack wsX5_hasCrack) := goodIn_app (goodIn_of _ (by decide +kernel)) ggX11_width_X5_hasCrack
set_option maxRecDepth 20000 in
theorem ggX11_width_X11_isWithin : GoodIn wsX11_width wsX11_isWithin := goodIn_r _ [13] (by decide +kernel) (by decide +kernel)
set_option maxRecDepth 20000 in
theorem gX11_width_X11_isWithin : GoodIn wsX11_width (va_wsS RX11 77 yX11_isWithin wsX11_isWithin) := goodIn_app (goodIn_of _ (by decide +kernel)) ggX11_width_X11_isWithin
set_option maxRecDepth 20000 in
theorem ggX11_width_X5_setWidth : GoodIn wsX11_width wsX5_setWidth := goodIn_r _ [17, 18, 19, 20, 21, 31, 32, 33, 34, 35, 36, 37, 38, 39, 40, 41, 42, 43, 44, 45, 46, 47, 48, 49, 50, 51, 52, 53, 54, 55, 56, 57, 58, 59, 60, 61, 62] (by decide +kernel) (by decide +kernel)
set_option maxRecDepth 20000 in
theorem gX11_width_X5_setWidth : GoodIn wsX11_width (wsV RX11 134 RX5 yX5_setWidth wsX5_setWidth) := goodIn_app (goodIn_of _ (by decide +kernel)) ggX11_width_X5_setWidth
theorem dX11_width_0 : decode cX11_width 0 = .ok (.aload_n 0, 1) := by decide +kernel
theorem dX11_width_1 : decode cX11_width 1 = .ok (.getfield 12, 3) := by decide +kernel
theorem dX11_width_4 : decode cX11_width 4 = .ok (.iload_n 1, 1) := by decide +kernel
theorem dX11_width_5 : decode cX11_width 5 = .ok (.invokevirtual 106, 3) := by decide +kernel
theorem dX11_width_8 : decode cX11_width 8 = .ok (.ifCond .ne 5, 3) := by decide +kernel
theorem dX11_width_11 : decode cX11_width 11 = .ok (.iconst (-1), 1) := by decide +kernel
theorem dX11_width_12 : decode cX11_width 12 = .ok (.ireturn, 1) := by decide +kernel
theorem dX11_width_13 : decode cX11_width 13 = .ok (.iload_n 2, 1) := by decide +kernel
theorem dX11_width_14 : decode cX11_width 14 = .ok (.i2l, 1) := by decide +kernel
theorem dX11_width_15 : decode cX11_width 15 = .ok (.iconst 0, 1) := by decide +kernel
theorem dX11_width_16 : decode cX11_width 16 = .ok (.bipush 12, 2) := by decide +kernel
theorem dX11_width_18 : decode cX11_width 18 = .ok (.invokestatic 77, 3) := by decide +kernel
theorem dX11_width_21 : decode cX11_width 21 = .ok (.ifCond .ne 6, 3) := by decide +kernel
theorem dX11_width_24 : decode cX11_width 24 = .ok (.bipush (-2), 2) := by decide +kernel
theorem dX11_width_26 : decode cX11_width 26 = .ok (.ireturn, 1) := by decide +kernel
theorem dX11_width_27 : decode cX11_width 27 = .ok (.aload_n 0, 1) := by decide +kernel
theorem dX11_width_28 : decode cX11_width 28 = .ok (.getfield 12, 3) := by decide +kernel
theorem dX11_width_31 : decode cX11_width 31 = .ok (.getfield 138, 3) := by decide +kernel
theorem dX11_width_34 : decode cX11_width 34 = .ok (.iload_n 1, 1) := by decide +kernel
theorem dX11_width_35 : decode cX11_width 35 = .ok (.aaload, 1) := by decide +kernel
theorem dX11_width_36 : decode cX11_width 36 = .ok (.getfield 142, 3) := by decide +kernel
theorem dX11_width_39 : decode cX11_width 39 = .ok (.istore_n 3, 1) := by decide +kernel
theorem dX11_width_40 : decode cX11_width 40 = .ok (.aload_n 0, 1) := by decide +kernel
theorem dX11_width_41 : decode cX11_width 41 = .ok (.getfield 12, 3) := by decide +kernel
theorem dX11_width_44 : decode cX11_width 44 = .ok (.iload_n 1, 1) := by decide +kernel
theorem dX11_width_45 : decode cX11_width 45 = .ok (.iload_n 2, 1) := by decide +kernel
theorem dX11_width_46 : decode cX11_width 46 = .ok (.invokevirtual 134, 3) := by decide +kernel
theorem dX11_width_49 : decode cX11_width 49 = .ok (.iload_n 3, 1) := by decide +kernel
theorem dX11_width_50 : decode cX11_width 50 = .ok (.ireturn, 1) := by decide +kernel
set_option maxRecDepth 20000 in
theorem ggX11_about_X5_hasCrack : GoodIn wsX11_about wsX5_hasCrack := goodIn_r _ [12, 13, 63, 64, 65, 66, 67, 68, 69] (by decide +kernel) (by decide +kernel)
set_option maxRecDepth 20000 in
theorem gX11_about_X5_hasCrack : GoodIn wsX11_about (wsV RX11 106 RX5 yX5_hasCrack wsX5_hasCrack) := goodIn_app (goodIn_of _ (by decide +kernel)) ggX11_about_X5_hasCrack
set_option maxRecDepth 20000 in
theorem ggX11_about_X0_kind : GoodIn wsX11_about wsX0_kind := goodIn_r _ [20] (by decide +kernel) (by decide +kernel)
set_option maxRecDepth 20000 in
theorem gX11_about_X0_kind_u153X0 : GoodIn wsX11_about (va_wsO RX11 153 RX0 "WideningCracks$Crack" ⟨"WideningCracks$Crack", "kind", "()I"⟩ yX0_kind wsX0_kind) := goodIn_app (goodIn_of _ (by decide +kernel)) ggX11_about_X0_kind
set_option maxRecDepth 20000 in
theorem ggX11_about_X2_kind : GoodIn wsX11_about wsX2_kind := goodIn_r _ [21] (by decide +kernel) (by decide +kernel)
set_option maxRecDepth 20000 in
theorem gX11_about_X2_kind : GoodIn wsX11_about (wsV RX11 153 RX2 yX2_kind wsX2_kind) := goodIn_app (goodIn_of _ (by decide +kernel)) ggX11_about_X2_kind
set_option maxRecDepth 20000 in
theorem ggX11_about_X3_kind : GoodIn wsX11_about wsX3_kind := goodIn_r _ [29] (by decide +kernel) (by decide +kernel)
set_option maxRecDepth 20000 in
theorem gX11_about_X3_kind_u153X3 : GoodIn wsX11_about (va_wsO RX11 153 RX3 "WideningCracks$Crack" ⟨"WideningCracks$Crack", "kind", "()I"⟩ yX3_kind wsX3_kind) := goodIn_app (goodIn_of _ (by decide +kernel)) ggX11_about_X3_kind
set_option maxRecDepth 20000 in
theorem ggX11_about_X7_kind : GoodIn wsX11_about wsX7_kind := goodIn_r _ [33] (by decide +kernel) (by decide +kernel)
set_option maxRecDepth 20000 in
theorem gX11_about_X7_kind_u153X7 : GoodIn wsX11_about (va_wsO RX11 153 RX7 "WideningCracks$Crack" ⟨"WideningCracks$Crack", "kind", "()I"⟩ yX7_kind wsX7_kind) := goodIn_app (goodIn_of _ (by decide +kernel)) ggX11_about_X7_kind
set_option maxRecDepth 20000 in
theorem ggX11_about_X10_kind : GoodIn wsX11_about wsX10_kind := goodIn_r _ [37] (by decide +kernel) (by decide +kernel)
set_option maxRecDepth 20000 in
theorem gX11_about_X10_kind_u153X10 : GoodIn wsX11_about (va_wsO RX11 153 RX10 "WideningCracks$Crack" ⟨"WideningCracks$Crack", "kind", "()I"⟩ yX10_kind wsX10_kind) := goodIn_app (goodIn_of _ (by decide +kernel)) ggX11_about_X10_kind
set_option maxRecDepth 20000 in
theorem ggX11_about_X2_lets : GoodIn wsX11_about wsX2_lets := goodIn_r _ [42, 43, 70, 71, 72, 73, 74, 75, 76, 77, 78, 79, 80, 81, 82, 83, 84, 85, 86, 87, 88, 89, 90, 91, 92, 93, 94] (by decide +kernel) (by decide +kernel)
set_option maxRecDepth 20000 in
theorem gX11_about_X2_lets_u162X0 : GoodIn wsX11_about (va_wsU RX11 162 RX0 "WideningCracks$Crack" ⟨"WideningCracks$Crack", "lets", "()I"⟩ yX2_lets wsX2_lets) := goodIn_app (goodIn_of _ (by decide +kernel)) ggX11_about_X2_lets
set_option maxRecDepth 20000 in
theorem gX11_about_X2_lets : GoodIn wsX11_about (wsV RX11 162 RX2 yX2_lets wsX2_lets) := goodIn_app (goodIn_of _ (by decide +kernel)) ggX11_about_X2_lets
set_option maxRecDepth 20000 in
theorem ggX11_about_X10_lets : GoodIn wsX11_about wsX10_lets := goodIn_r _ [49, 50, 51, 70, 71, 72, 73, 74, 75, 76, 77, 78, 79, 80, 81, 82, 83, 84, 85, 86, 87, 88, 89, 90, 91, 92, 93, 94] (by decide +kernel) (by decide +kernel)
set_option maxRecDepth 20000 in
theorem gX11_about_X10_lets_u162X3 : GoodIn wsX11_about (va_wsO RX11 162 RX3 "WideningCracks$Crack" ⟨"WideningCracks$Crack", "lets", "()I"⟩ yX10_lets wsX10_lets) := goodIn_app (goodIn_of _ (by decide +kernel)) ggX11_about_X10_lets
set_option maxRecDepth 20000 in
theorem gX11_about_X10_lets_u162X7 : GoodIn wsX11_about (va_wsO RX11 162 RX7 "WideningCracks$Crack" ⟨"WideningCracks$Crack", "lets", "()I"⟩ yX10_lets wsX10_lets) := goodIn_app (goodIn_of _ (by decide +kernel)) ggX11_about_X10_lets
set_option maxRecDepth 20000 in
theorem gX11_about_X10_lets_u162X10 : GoodIn wsX11_about (va_wsO RX11 162 RX10 "WideningCracks$Crack" ⟨"WideningCracks$Crack", "lets", "()I"⟩ yX10_lets wsX10_lets) := goodIn_app (goodIn_of _ (by decide +kernel)) ggX11_about_X10_lets
theorem dX11_about_0 : decode cX11_about 0 = .ok (.aload_n 0, 1) := by decide +kernel
theorem dX11_about_1 : decode cX11_about 1 = .ok (.getfield 12, 3) := by decide +kernel
theorem dX11_about_4 : decode cX11_about 4 = .ok (.iload_n 1, 1) := by decide +kernel
theorem dX11_about_5 : decode cX11_about 5 = .ok (.invokevirtual 106, 3) := by decide +kernel
theorem dX11_about_8 : decode cX11_about 8 = .ok (.ifCond .ne 5, 3) := by decide +kernel
theorem dX11_about_11 : decode cX11_about 11 = .ok (.iconst (-1), 1) := by decide +kernel
theorem dX11_about_12 : decode cX11_about 12 = .ok (.ireturn, 1) := by decide +kernel
theorem dX11_about_13 : decode cX11_about 13 = .ok (.aload_n 0, 1) := by decide +kernel
theorem dX11_about_14 : decode cX11_about 14 = .ok (.getfield 12, 3) := by decide +kernel
theorem dX11_about_17 : decode cX11_about 17 = .ok (.getfield 138, 3) := by decide +kernel
theorem dX11_about_20 : decode cX11_about 20 = .ok (.iload_n 1, 1) := by decide +kernel
theorem dX11_about_21 : decode cX11_about 21 = .ok (.aaload, 1) := by decide +kernel
theorem dX11_about_22 : decode cX11_about 22 = .ok (.astore_n 3, 1) := by decide +kernel
theorem dX11_about_23 : decode cX11_about 23 = .ok (.iload_n 2, 1) := by decide +kernel
theorem dX11_about_24 : decode cX11_about 24 = .ok (.tableswitch 79 0 6 #[44, 49, 54, 59, 64, 69, 74], 44) := by decide +kernel
theorem dX11_about_68 : decode cX11_about 68 = .ok (.aload_n 3, 1) := by decide +kernel
theorem dX11_about_69 : decode cX11_about 69 = .ok (.getfield 147, 3) := by decide +kernel
theorem dX11_about_72 : decode cX11_about 72 = .ok (.ireturn, 1) := by decide +kernel
theorem dX11_about_73 : decode cX11_about 73 = .ok (.aload_n 3, 1) := by decide +kernel
theorem dX11_about_74 : decode cX11_about 74 = .ok (.getfield 150, 3) := by decide +kernel
theorem dX11_about_77 : decode cX11_about 77 = .ok (.ireturn, 1) := by decide +kernel
theorem dX11_about_78 : decode cX11_about 78 = .ok (.aload_n 3, 1) := by decide +kernel
theorem dX11_about_79 : decode cX11_about 79 = .ok (.invokevirtual 153, 3) := by decide +kernel
theorem dX11_about_82 : decode cX11_about 82 = .ok (.ireturn, 1) := by decide +kernel
theorem dX11_about_83 : decode cX11_about 83 = .ok (.aload_n 3, 1) := by decide +kernel
theorem dX11_about_84 : decode cX11_about 84 = .ok (.getfield 142, 3) := by decide +kernel
theorem dX11_about_87 : decode cX11_about 87 = .ok (.ireturn, 1) := by decide +kernel
theorem dX11_about_88 : decode cX11_about 88 = .ok (.aload_n 3, 1) := by decide +kernel
theorem dX11_about_89 : decode cX11_about 89 = .ok (.getfield 156, 3) := by decide +kernel
theorem dX11_about_92 : decode cX11_about 92 = .ok (.ireturn, 1) := by decide +kernel
theorem dX11_about_93 : decode cX11_about 93 = .ok (.aload_n 3, 1) := by decide +kernel
theorem dX11_about_94 : decode cX11_about 94 = .ok (.getfield 159, 3) := by decide +kernel
theorem dX11_about_97 : decode cX11_about 97 = .ok (.ireturn, 1) := by decide +kernel
theorem dX11_about_98 : decode cX11_about 98 = .ok (.aload_n 3, 1) := by decide +kernel
theorem dX11_about_99 : decode cX11_about 99 = .ok (.invokevirtual 162, 3) := by decide +kernel
theorem dX11_about_102 : decode cX11_about 102 = .ok (.ireturn, 1) := by decide +kernel
theorem dX11_about_103 : decode cX11_about 103 = .ok (.bipush (-2), 2) := by decide +kernel
theorem dX11_about_105 : decode cX11_about 105 = .ok (.ireturn, 1) := by decide +kernel
set_option maxRecDepth 20000 in
theorem ggX11_at_X5_hasJoint : GoodIn wsX11_at wsX5_hasJoint := goodIn_r _ [9, 10, 128, 129, 130, 131, 132, 133, 134] (by decide +kernel) (by decide +kernel)
set_option maxRecDepth 20000 in
theorem gX11_at_X5_hasJoint : GoodIn wsX11_at (wsV RX11 73 RX5 yX5_hasJoint wsX5_hasJoint) := goodIn_app (goodIn_of _ (by decide +kernel)) ggX11_at_X5_hasJoint
set_option maxRecDepth 20000 in
theorem ggX11_at_X8_isDry : GoodIn wsX11_at wsX8_isDry := goodIn_r _ [15, 16, 17, 18, 19, 14, 20, 21, 22, 23, 24, 25, 26, 27, 8, 28, 10, 29, 30, 31, 32, 33, 34, 35, 36, 37, 38, 39, 40, 41, 42, 43, 44, 45, 46, 47, 48, 49, 50, 51, 52, 53, 54, 55, 56, 57, 58, 59, 60, 61, 62, 63, 64, 65, 66, 67, 68, 69, 70, 71, 72, 73, 74, 75, 76, 77, 78, 79, 80, 81, 82, 83, 84, 85, 86, 87, 88, 89, 90, 91, 92, 93, 94, 95, 96, 97, 98, 99, 100, 101, 102, 135, 136, 137, 138, 139, 140, 141, 142, 143, 128, 129, 130, 131, 132, 133, 134, 144, 145, 146, 147, 148, 149, 150, 151, 152, 153, 154, 155, 156, 157, 158, 159, 160, 161, 162, 163, 164, 165, 166, 167, 168] (by decide +kernel) (by decide +kernel)
set_option maxRecDepth 20000 in
theorem gX11_at_X8_isDry : GoodIn wsX11_at (wsV RX11 169 RX8 yX8_isDry wsX8_isDry) := goodIn_app (goodIn_of _ (by decide +kernel)) ggX11_at_X8_isDry
set_option maxRecDepth 20000 in
theorem ggX11_at_X5_openAt : GoodIn wsX11_at wsX5_openAt := goodIn_r _ [106, 34, 35, 38, 107, 108, 109, 110, 58, 111, 112, 113, 114, 115, 116, 117, 118, 128, 129, 130, 131, 132, 133, 134, 144, 145, 146, 147, 148, 149, 150, 151, 152, 153, 154, 155, 156, 157, 158, 159, 160, 161, 162, 163, 164, 165, 166, 167, 168] (by decide +kernel) (by decide +kernel)
set_option maxRecDepth 20000 in
theorem gX11_at_X5_openAt : GoodIn wsX11_at (wsV RX11 172 RX5 yX5_openAt wsX5_openAt) := goodIn_app (goodIn_of _ (by decide +kernel)) ggX11_at_X5_openAt
theorem dX11_at_0 : decode cX11_at 0 = .ok (.aload_n 0, 1) := by decide +kernel
theorem dX11_at_1 : decode cX11_at 1 = .ok (.getfield 12, 3) := by decide +kernel
theorem dX11_at_4 : decode cX11_at 4 = .ok (.iload_n 1, 1) := by decide +kernel
theorem dX11_at_5 : decode cX11_at 5 = .ok (.invokevirtual 73, 3) := by decide +kernel
theorem dX11_at_8 : decode cX11_at 8 = .ok (.ifCond .ne 5, 3) := by decide +kernel
theorem dX11_at_11 : decode cX11_at 11 = .ok (.iconst (-1), 1) := by decide +kernel
theorem dX11_at_12 : decode cX11_at 12 = .ok (.ireturn, 1) := by decide +kernel
theorem dX11_at_13 : decode cX11_at 13 = .ok (.iload_n 2, 1) := by decide +kernel
theorem dX11_at_14 : decode cX11_at 14 = .ok (.tableswitch 101 0 3 #[30, 48, 75, 92], 30) := by decide +kernel
theorem dX11_at_44 : decode cX11_at 44 = .ok (.aload_n 0, 1) := by decide +kernel
theorem dX11_at_45 : decode cX11_at 45 = .ok (.getfield 12, 3) := by decide +kernel
theorem dX11_at_48 : decode cX11_at 48 = .ok (.getfield 85, 3) := by decide +kernel
theorem dX11_at_51 : decode cX11_at 51 = .ok (.iload_n 1, 1) := by decide +kernel
theorem dX11_at_52 : decode cX11_at 52 = .ok (.baload, 1) := by decide +kernel
theorem dX11_at_53 : decode cX11_at 53 = .ok (.ifCond .eq 7, 3) := by decide +kernel
theorem dX11_at_56 : decode cX11_at 56 = .ok (.iconst 1, 1) := by decide +kernel
theorem dX11_at_57 : decode cX11_at 57 = .ok (.goto 4, 3) := by decide +kernel
theorem dX11_at_60 : decode cX11_at 60 = .ok (.iconst 0, 1) := by decide +kernel
theorem dX11_at_61 : decode cX11_at 61 = .ok (.ireturn, 1) := by decide +kernel
theorem dX11_at_62 : decode cX11_at 62 = .ok (.aload_n 0, 1) := by decide +kernel
theorem dX11_at_63 : decode cX11_at 63 = .ok (.getfield 12, 3) := by decide +kernel
theorem dX11_at_66 : decode cX11_at 66 = .ok (.getfield 85, 3) := by decide +kernel
theorem dX11_at_69 : decode cX11_at 69 = .ok (.iload_n 1, 1) := by decide +kernel
theorem dX11_at_70 : decode cX11_at 70 = .ok (.baload, 1) := by decide +kernel
theorem dX11_at_71 : decode cX11_at 71 = .ok (.ifCond .eq 15, 3) := by decide +kernel
theorem dX11_at_74 : decode cX11_at 74 = .ok (.aload_n 0, 1) := by decide +kernel
theorem dX11_at_75 : decode cX11_at 75 = .ok (.getfield 12, 3) := by decide +kernel
theorem dX11_at_78 : decode cX11_at 78 = .ok (.getfield 165, 3) := by decide +kernel
theorem dX11_at_81 : decode cX11_at 81 = .ok (.iload_n 1, 1) := by decide +kernel
theorem dX11_at_82 : decode cX11_at 82 = .ok (.iaload, 1) := by decide +kernel
theorem dX11_at_83 : decode cX11_at 83 = .ok (.goto 5, 3) := by decide +kernel
theorem dX11_at_86 : decode cX11_at 86 = .ok (.bipush (-9), 2) := by decide +kernel
theorem dX11_at_88 : decode cX11_at 88 = .ok (.ireturn, 1) := by decide +kernel
theorem dX11_at_89 : decode cX11_at 89 = .ok (.aload_n 0, 1) := by decide +kernel
theorem dX11_at_90 : decode cX11_at 90 = .ok (.getfield 23, 3) := by decide +kernel
theorem dX11_at_93 : decode cX11_at 93 = .ok (.iload_n 1, 1) := by decide +kernel
theorem dX11_at_94 : decode cX11_at 94 = .ok (.invokevirtual 169, 3) := by decide +kernel
theorem dX11_at_97 : decode cX11_at 97 = .ok (.ifCond .eq 7, 3) := by decide +kernel
theorem dX11_at_100 : decode cX11_at 100 = .ok (.iconst 1, 1) := by decide +kernel
theorem dX11_at_101 : decode cX11_at 101 = .ok (.goto 4, 3) := by decide +kernel
theorem dX11_at_104 : decode cX11_at 104 = .ok (.iconst 0, 1) := by decide +kernel
theorem dX11_at_105 : decode cX11_at 105 = .ok (.ireturn, 1) := by decide +kernel
theorem dX11_at_106 : decode cX11_at 106 = .ok (.aload_n 0, 1) := by decide +kernel
theorem dX11_at_107 : decode cX11_at 107 = .ok (.getfield 12, 3) := by decide +kernel
theorem dX11_at_110 : decode cX11_at 110 = .ok (.iload_n 1, 1) := by decide +kernel
theorem dX11_at_111 : decode cX11_at 111 = .ok (.invokevirtual 172, 3) := by decide +kernel
theorem dX11_at_114 : decode cX11_at 114 = .ok (.ireturn, 1) := by decide +kernel
theorem dX11_at_115 : decode cX11_at 115 = .ok (.bipush (-2), 2) := by decide +kernel
theorem dX11_at_117 : decode cX11_at 117 = .ok (.ireturn, 1) := by decide +kernel
set_option maxRecDepth 20000 in
theorem ggX11_head_X5_hasJoint : GoodIn wsX11_head wsX5_hasJoint := goodIn_r _ [8, 9, 130, 131, 132, 133, 134, 135, 136] (by decide +kernel) (by decide +kernel)
set_option maxRecDepth 20000 in
theorem gX11_head_X5_hasJoint : GoodIn wsX11_head (wsV RX11 73 RX5 yX5_hasJoint wsX5_hasJoint) := goodIn_app (goodIn_of _ (by decide +kernel)) ggX11_head_X5_hasJoint
set_option maxRecDepth 20000 in
theorem ggX11_head_X11_isPart : GoodIn wsX11_head wsX11_isPart := goodIn_r _ [13, 14, 15, 12, 16] (by decide +kernel) (by decide +kernel)
set_option maxRecDepth 20000 in
theorem gX11_head_X11_isPart : GoodIn wsX11_head (va_wsS RX11 175 yX11_isPart wsX11_isPart) := goodIn_app (goodIn_of _ (by decide +kernel)) ggX11_head_X11_isPart
set_option maxRecDepth 20000 in
theorem ggX11_head_X8_isDry : GoodIn wsX11_head wsX8_isDry := goodIn_r _ [21, 22, 23, 24, 25, 20, 26, 27, 28, 29, 30, 31, 32, 33, 7, 34, 9, 35, 36, 37, 38, 39, 40, 41, 42, 43, 44, 45, 46, 47, 48, 49, 50, 51, 52, 53, 54, 55, 56, 57, 58, 59, 60, 61, 62, 63, 64, 65, 66, 67, 68, 69, 70, 71, 72, 73, 74, 75, 76, 77, 78, 79, 80, 81, 82, 83, 84, 85, 86, 87, 88, 89, 90, 91, 92, 93, 94, 95, 96, 97, 98, 99, 100, 101, 102, 103, 104, 105, 106, 107, 108, 137, 138, 139, 140, 141, 142, 143, 144, 145, 130, 131, 132, 133, 134, 135, 136, 146, 147, 148, 149, 150, 151, 152, 153, 154, 155, 156, 157, 158, 159, 160, 161, 162, 163, 164, 165, 166, 167, 168, 169, 170] (by decide +kernel) (by decide +kernel)
set_option maxRecDepth 20000 in
theorem gX11_head_X8_isDry : GoodIn wsX11_head (wsV RX11 169 RX8 yX8_isDry wsX8_isDry) := goodIn_app (goodIn_of _ (by decide +kernel)) ggX11_head_X8_isDry
set_option maxRecDepth 20000 in
theorem ggX11_head_X8_headPart : GoodIn wsX11_head wsX8_headPart := goodIn_r _ [112, 92, 91, 23, 24, 25, 20, 26, 27, 28, 29, 22, 30, 31, 32, 33, 7, 34, 9, 35, 36, 37, 38, 39, 40, 41, 42, 43, 44, 45, 46, 47, 48, 49, 50, 51, 52, 53, 54, 55, 56, 57, 58, 59, 60, 61, 62, 63, 64, 65, 66, 67, 68, 69, 70, 71, 72, 73, 74, 75, 76, 77, 78, 79, 80, 81, 82, 83, 84, 85, 86, 87, 88, 89, 90, 93, 94, 95, 96, 97, 98, 99, 100, 101, 102, 103, 104, 105, 106, 107, 108, 113, 12, 114, 115, 116, 117, 3, 118, 119, 120, 137, 138, 139, 140, 141, 142, 143, 144, 145, 130, 131, 132, 133, 134, 135, 136, 146, 147, 148, 149, 150, 151, 152, 153, 154, 155, 156, 157, 158, 159, 160, 161, 162, 163, 164, 165, 166, 167, 168, 169, 170] (by decide +kernel) (by decide +kernel)
set_option maxRecDepth 20000 in
theorem gX11_head_X8_headPart : GoodIn wsX11_head (wsV RX11 180 RX8 yX8_headPart wsX8_headPart) := goodIn_app (goodIn_of _ (by decide +kernel)) ggX11_head_X8_headPart
theorem dX11_head_0 : decode cX11_head 0 = .ok (.aload_n 0, 1) := by decide +kernel
theorem dX11_head_1 : decode cX11_head 1 = .ok (.getfield 12, 3) := by decide +kernel
theorem dX11_head_4 : decode cX11_head 4 = .ok (.iload_n 1, 1) := by decide +kernel
theorem dX11_head_5 : decode cX11_head 5 = .ok (.invokevirtual 73, 3) := by decide +kernel
theorem dX11_head_8 : decode cX11_head 8 = .ok (.ifCond .eq 21, 3) := by decide +kernel
theorem dX11_head_11 : decode cX11_head 11 = .ok (.iload_n 2, 1) := by decide +kernel
theorem dX11_head_12 : decode cX11_head 12 = .ok (.invokestatic 175, 3) := by decide +kernel
theorem dX11_head_15 : decode cX11_head 15 = .ok (.ifCond .eq 14, 3) := by decide +kernel
theorem dX11_head_18 : decode cX11_head 18 = .ok (.aload_n 0, 1) := by decide +kernel
theorem dX11_head_19 : decode cX11_head 19 = .ok (.getfield 23, 3) := by decide +kernel
theorem dX11_head_22 : decode cX11_head 22 = .ok (.iload_n 1, 1) := by decide +kernel
theorem dX11_head_23 : decode cX11_head 23 = .ok (.invokevirtual 169, 3) := by decide +kernel
theorem dX11_head_26 : decode cX11_head 26 = .ok (.ifCond .eq 7, 3) := by decide +kernel
theorem dX11_head_29 : decode cX11_head 29 = .ok (.ldc2_w 178, 3) := by decide +kernel
theorem dX11_head_32 : decode cX11_head 32 = .ok (.lreturn, 1) := by decide +kernel
theorem dX11_head_33 : decode cX11_head 33 = .ok (.aload_n 0, 1) := by decide +kernel
theorem dX11_head_34 : decode cX11_head 34 = .ok (.getfield 23, 3) := by decide +kernel
theorem dX11_head_37 : decode cX11_head 37 = .ok (.iload_n 1, 1) := by decide +kernel
theorem dX11_head_38 : decode cX11_head 38 = .ok (.iload_n 2, 1) := by decide +kernel
theorem dX11_head_39 : decode cX11_head 39 = .ok (.invokevirtual 180, 3) := by decide +kernel
theorem dX11_head_42 : decode cX11_head 42 = .ok (.lreturn, 1) := by decide +kernel
set_option maxRecDepth 20000 in
theorem ggX11_flow_X5_hasCrack : GoodIn wsX11_flow wsX5_hasCrack := goodIn_r _ [8, 9, 126, 127, 128, 129, 130, 131, 132] (by decide +kernel) (by decide +kernel)
set_option maxRecDepth 20000 in
theorem gX11_flow_X5_hasCrack : GoodIn wsX11_flow (wsV RX11 106 RX5 yX5_hasCrack wsX5_hasCrack) := goodIn_app (goodIn_of _ (by decide +kernel)) ggX11_flow_X5_hasCrack
set_option maxRecDepth 20000 in
theorem ggX11_flow_X11_isPart : GoodIn wsX11_flow wsX11_isPart := goodIn_r _ [13, 14, 15, 12, 16] (by decide +kernel) (by decide +kernel)
set_option maxRecDepth 20000 in
theorem gX11_flow_X11_isPart : GoodIn wsX11_flow (va_wsS RX11 175 yX11_isPart wsX11_isPart) := goodIn_app (goodIn_of _ (by decide +kernel)) ggX11_flow_X11_isPart
set_option maxRecDepth 20000 in
theorem ggX11_flow_X8_flowPart : GoodIn wsX11_flow wsX8_flowPart := goodIn_r _ [21, 22, 23, 24, 25, 26, 20, 27, 28, 29, 30, 31, 32, 33, 34, 35, 7, 36, 37, 38, 39, 40, 41, 42, 9, 43, 44, 45, 46, 47, 48, 49, 50, 51, 52, 53, 54, 55, 56, 57, 58, 59, 60, 61, 62, 63, 64, 65, 66, 67, 68, 69, 70, 71, 72, 73, 74, 75, 76, 77, 78, 79, 80, 81, 82, 83, 84, 85, 86, 87, 88, 89, 90, 91, 92, 93, 94, 95, 96, 97, 98, 99, 100, 101, 102, 103, 104, 105, 106, 107, 108, 109, 12, 110, 111, 112, 113, 2, 114, 115, 116, 133, 134, 135, 136, 137, 138, 139, 140, 141, 126, 127, 128, 129, 130, 131, 132, 142, 143, 144, 145, 146, 147, 148, 149, 150, 151, 152, 153, 154, 155, 156, 157, 158, 159, 160, 161, 162, 163, 164, 165, 166] (by decide +kernel) (by decide +kernel)
set_option maxRecDepth 20000 in
theorem gX11_flow_X8_flowPart : GoodIn wsX11_flow (wsV RX11 184 RX8 yX8_flowPart wsX8_flowPart) := goodIn_app (goodIn_of _ (by decide +kernel)) ggX11_flow_X8_flowPart
theorem dX11_flow_0 : decode cX11_flow 0 = .ok (.aload_n 0, 1) := by decide +kernel
theorem dX11_flow_1 : decode cX11_flow 1 = .ok (.getfield 12, 3) := by decide +kernel
theorem dX11_flow_4 : decode cX11_flow 4 = .ok (.iload_n 1, 1) := by decide +kernel
theorem dX11_flow_5 : decode cX11_flow 5 = .ok (.invokevirtual 106, 3) := by decide +kernel
theorem dX11_flow_8 : decode cX11_flow 8 = .ok (.ifCond .eq 10, 3) := by decide +kernel
theorem dX11_flow_11 : decode cX11_flow 11 = .ok (.iload_n 2, 1) := by decide +kernel
theorem dX11_flow_12 : decode cX11_flow 12 = .ok (.invokestatic 175, 3) := by decide +kernel
theorem dX11_flow_15 : decode cX11_flow 15 = .ok (.ifCond .ne 7, 3) := by decide +kernel
theorem dX11_flow_18 : decode cX11_flow 18 = .ok (.ldc2_w 178, 3) := by decide +kernel
theorem dX11_flow_21 : decode cX11_flow 21 = .ok (.lreturn, 1) := by decide +kernel
theorem dX11_flow_22 : decode cX11_flow 22 = .ok (.aload_n 0, 1) := by decide +kernel
theorem dX11_flow_23 : decode cX11_flow 23 = .ok (.getfield 23, 3) := by decide +kernel
theorem dX11_flow_26 : decode cX11_flow 26 = .ok (.iload_n 1, 1) := by decide +kernel
theorem dX11_flow_27 : decode cX11_flow 27 = .ok (.iload_n 2, 1) := by decide +kernel
theorem dX11_flow_28 : decode cX11_flow 28 = .ok (.invokevirtual 184, 3) := by decide +kernel
theorem dX11_flow_31 : decode cX11_flow 31 = .ok (.lreturn, 1) := by decide +kernel
set_option maxRecDepth 20000 in
theorem ggX11_in_X5_hasJoint : GoodIn wsX11_in wsX5_hasJoint := goodIn_r _ [9, 10, 131, 132, 133, 134, 135, 136, 137] (by decide +kernel) (by decide +kernel)
set_option maxRecDepth 20000 in
theorem gX11_in_X5_hasJoint : GoodIn wsX11_in (wsV RX11 73 RX5 yX5_hasJoint wsX5_hasJoint) := goodIn_app (goodIn_of _ (by decide +kernel)) ggX11_in_X5_hasJoint
set_option maxRecDepth 20000 in
theorem ggX11_in_X11_isPart : GoodIn wsX11_in wsX11_isPart := goodIn_r _ [14, 15, 16, 13, 17] (by decide +kernel) (by decide +kernel)
set_option maxRecDepth 20000 in
theorem gX11_in_X11_isPart : GoodIn wsX11_in (va_wsS RX11 175 yX11_isPart wsX11_isPart) := goodIn_app (goodIn_of _ (by decide +kernel)) ggX11_in_X11_isPart
set_option maxRecDepth 20000 in
theorem ggX11_in_X8_inflowPart : GoodIn wsX11_in wsX8_inflowPart := goodIn_r _ [22, 23, 24, 25, 26, 21, 27, 28, 29, 30, 31, 32, 33, 34, 35, 8, 36, 10, 37, 38, 39, 40, 41, 42, 43, 44, 45, 46, 47, 48, 49, 50, 51, 52, 53, 54, 55, 56, 57, 58, 59, 60, 61, 62, 63, 64, 65, 66, 67, 68, 69, 70, 71, 72, 73, 74, 75, 76, 77, 78, 79, 80, 81, 82, 83, 84, 85, 86, 87, 88, 89, 90, 91, 92, 93, 94, 95, 96, 97, 98, 99, 100, 101, 102, 103, 104, 105, 106, 107, 108, 109, 110, 111, 112, 113, 114, 13, 115, 116, 117, 118, 3, 119, 120, 121, 138, 139, 140, 141, 142, 143, 144, 145, 146, 131, 132, 133, 134, 135, 136, 137, 147, 148, 149, 150, 151, 152, 153, 154, 155, 156, 157, 158, 159, 160, 161, 162, 163, 164, 165, 166, 167, 168, 169, 170, 171] (by decide +kernel) (by decide +kernel)
set_option maxRecDepth 20000 in
theorem gX11_in_X8_inflowPart : GoodIn wsX11_in (wsV RX11 187 RX8 yX8_inflowPart wsX8_inflowPart) := goodIn_app (goodIn_of _ (by decide +kernel)) ggX11_in_X8_inflowPart
theorem dX11_in_0 : decode cX11_in 0 = .ok (.aload_n 0, 1) := by decide +kernel
theorem dX11_in_1 : decode cX11_in 1 = .ok (.getfield 12, 3) := by decide +kernel
theorem dX11_in_4 : decode cX11_in 4 = .ok (.iload_n 1, 1) := by decide +kernel
theorem dX11_in_5 : decode cX11_in 5 = .ok (.invokevirtual 73, 3) := by decide +kernel
theorem dX11_in_8 : decode cX11_in 8 = .ok (.ifCond .eq 22, 3) := by decide +kernel
theorem dX11_in_11 : decode cX11_in 11 = .ok (.iload_n 2, 1) := by decide +kernel
theorem dX11_in_12 : decode cX11_in 12 = .ok (.invokestatic 175, 3) := by decide +kernel
theorem dX11_in_15 : decode cX11_in 15 = .ok (.ifCond .eq 15, 3) := by decide +kernel
theorem dX11_in_18 : decode cX11_in 18 = .ok (.aload_n 0, 1) := by decide +kernel
theorem dX11_in_19 : decode cX11_in 19 = .ok (.getfield 12, 3) := by decide +kernel
theorem dX11_in_22 : decode cX11_in 22 = .ok (.getfield 85, 3) := by decide +kernel
theorem dX11_in_25 : decode cX11_in 25 = .ok (.iload_n 1, 1) := by decide +kernel
theorem dX11_in_26 : decode cX11_in 26 = .ok (.baload, 1) := by decide +kernel
theorem dX11_in_27 : decode cX11_in 27 = .ok (.ifCond .ne 7, 3) := by decide +kernel
theorem dX11_in_30 : decode cX11_in 30 = .ok (.ldc2_w 178, 3) := by decide +kernel
theorem dX11_in_33 : decode cX11_in 33 = .ok (.lreturn, 1) := by decide +kernel
theorem dX11_in_34 : decode cX11_in 34 = .ok (.aload_n 0, 1) := by decide +kernel
theorem dX11_in_35 : decode cX11_in 35 = .ok (.getfield 23, 3) := by decide +kernel
theorem dX11_in_38 : decode cX11_in 38 = .ok (.iload_n 1, 1) := by decide +kernel
theorem dX11_in_39 : decode cX11_in 39 = .ok (.iload_n 2, 1) := by decide +kernel
theorem dX11_in_40 : decode cX11_in 40 = .ok (.invokevirtual 187, 3) := by decide +kernel
theorem dX11_in_43 : decode cX11_in 43 = .ok (.lreturn, 1) := by decide +kernel
set_option maxRecDepth 20000 in
theorem ggX11_work_X11_isPart : GoodIn wsX11_work wsX11_isPart := goodIn_r _ [6, 7, 8, 5, 9] (by decide +kernel) (by decide +kernel)
set_option maxRecDepth 20000 in
theorem gX11_work_X11_isPart : GoodIn wsX11_work (va_wsS RX11 175 yX11_isPart wsX11_isPart) := goodIn_app (goodIn_of _ (by decide +kernel)) ggX11_work_X11_isPart
set_option maxRecDepth 20000 in
theorem ggX11_work_X8_workPart : GoodIn wsX11_work wsX8_workPart := goodIn_r _ [14, 15, 16, 17, 18, 19, 20, 21, 22, 13, 23, 24, 25, 26, 27, 28, 29, 30, 31, 32, 33, 34, 35, 36, 37, 38, 39, 40, 41, 42, 43, 44, 45, 46, 47, 48, 49, 50, 51, 52, 53, 54, 55, 56, 57, 58, 59, 60, 61, 62, 63, 64, 65, 66, 67, 68, 69, 70, 71, 72, 73, 74, 75, 76, 77, 78, 79, 80, 81, 82, 83, 84, 85, 86, 87, 88, 89, 90, 91, 92, 93, 94, 95, 96, 97, 98, 99, 100, 101, 102, 103, 104, 105, 106, 107, 108, 109, 5, 110, 111, 112, 113, 1, 114, 115, 116, 126, 127, 128, 129, 130, 131, 132, 133, 134, 135, 136, 137, 138, 139, 140, 141, 142, 143, 144, 145, 146, 147, 148, 149, 150, 151, 152, 153, 154, 155, 156, 157, 158, 159, 160, 161, 162, 163, 164, 165, 166] (by decide +kernel) (by decide +kernel)
set_option maxRecDepth 20000 in
theorem gX11_work_X8_workPart : GoodIn wsX11_work (wsV RX11 190 RX8 yX8_workPart wsX8_workPart) := goodIn_app (goodIn_of _ (by decide +kernel)) ggX11_work_X8_workPart
theorem dX11_work_0 : decode cX11_work 0 = .ok (.iload_n 1, 1) := by decide +kernel
theorem dX11_work_1 : decode cX11_work 1 = .ok (.invokestatic 175, 3) := by decide +kernel
theorem dX11_work_4 : decode cX11_work 4 = .ok (.ifCond .ne 7, 3) := by decide +kernel
theorem dX11_work_7 : decode cX11_work 7 = .ok (.ldc2_w 178, 3) := by decide +kernel
theorem dX11_work_10 : decode cX11_work 10 = .ok (.lreturn, 1) := by decide +kernel
theorem dX11_work_11 : decode cX11_work 11 = .ok (.aload_n 0, 1) := by decide +kernel
theorem dX11_work_12 : decode cX11_work 12 = .ok (.getfield 23, 3) := by decide +kernel
theorem dX11_work_15 : decode cX11_work 15 = .ok (.iload_n 1, 1) := by decide +kernel
theorem dX11_work_16 : decode cX11_work 16 = .ok (.invokevirtual 190, 3) := by decide +kernel
theorem dX11_work_19 : decode cX11_work 19 = .ok (.lreturn, 1) := by decide +kernel
set_option maxRecDepth 20000 in
theorem ggX11_rate_X11_isWithin : GoodIn wsX11_rate wsX11_isWithin := goodIn_r _ [5] (by decide +kernel) (by decide +kernel)
set_option maxRecDepth 20000 in
theorem gX11_rate_X11_isWithin : GoodIn wsX11_rate (va_wsS RX11 77 yX11_isWithin wsX11_isWithin) := goodIn_app (goodIn_of _ (by decide +kernel)) ggX11_rate_X11_isWithin
theorem dX11_rate_0 : decode cX11_rate 0 = .ok (.iload_n 1, 1) := by decide +kernel
theorem dX11_rate_1 : decode cX11_rate 1 = .ok (.i2l, 1) := by decide +kernel
theorem dX11_rate_2 : decode cX11_rate 2 = .ok (.iconst 1, 1) := by decide +kernel
theorem dX11_rate_3 : decode cX11_rate 3 = .ok (.bipush 100, 2) := by decide +kernel
theorem dX11_rate_5 : decode cX11_rate 5 = .ok (.invokestatic 77, 3) := by decide +kernel
theorem dX11_rate_8 : decode cX11_rate 8 = .ok (.ifCond .ne 6, 3) := by decide +kernel
theorem dX11_rate_11 : decode cX11_rate 11 = .ok (.bipush (-2), 2) := by decide +kernel
theorem dX11_rate_13 : decode cX11_rate 13 = .ok (.ireturn, 1) := by decide +kernel
theorem dX11_rate_14 : decode cX11_rate 14 = .ok (.aload_n 0, 1) := by decide +kernel
theorem dX11_rate_15 : decode cX11_rate 15 = .ok (.getfield 59, 3) := by decide +kernel
theorem dX11_rate_18 : decode cX11_rate 18 = .ok (.istore_n 2, 1) := by decide +kernel
theorem dX11_rate_19 : decode cX11_rate 19 = .ok (.aload_n 0, 1) := by decide +kernel
theorem dX11_rate_20 : decode cX11_rate 20 = .ok (.iload_n 1, 1) := by decide +kernel
theorem dX11_rate_21 : decode cX11_rate 21 = .ok (.putfield 59, 3) := by decide +kernel
theorem dX11_rate_24 : decode cX11_rate 24 = .ok (.iload_n 2, 1) := by decide +kernel
theorem dX11_rate_25 : decode cX11_rate 25 = .ok (.ireturn, 1) := by decide +kernel
set_option maxRecDepth 20000 in
theorem ggX11_step_X11_isWithin : GoodIn wsX11_step wsX11_isWithin := goodIn_r _ [4] (by decide +kernel) (by decide +kernel)
set_option maxRecDepth 20000 in
theorem gX11_step_X11_isWithin : GoodIn wsX11_step (va_wsS RX11 77 yX11_isWithin wsX11_isWithin) := goodIn_app (goodIn_of _ (by decide +kernel)) ggX11_step_X11_isWithin
set_option maxRecDepth 20000 in
theorem ggX11_step_X11_oneStep : GoodIn wsX11_step wsX11_oneStep := goodIn_r _ [8, 9, 10, 11, 12, 13, 14, 15, 16, 17, 3, 18, 19, 20, 21, 22, 23, 24, 25, 26, 27, 28, 29, 30, 31, 32, 33, 34, 35, 36, 37, 38, 39, 40, 41, 42, 43, 44, 45, 46, 47, 48, 49, 50, 51, 52, 53, 54, 55, 56, 57, 58, 59, 60, 61, 62, 63, 64, 65, 66, 67, 68, 69, 70, 71, 72, 73, 74, 75, 76, 77, 78, 79, 80, 81, 82, 83, 84, 85, 86, 87, 88, 89, 90, 91, 92, 93, 94, 95, 96, 97, 98, 99, 100, 101, 102, 103, 104, 105, 106, 107, 108, 109, 110, 111, 112, 113, 114, 115, 116, 117, 118, 119, 120, 121, 122, 123, 124, 125, 126, 127, 128, 129, 130, 131, 132, 133, 134, 135, 136, 137, 138, 139, 140, 141, 142, 143, 144, 145, 146, 147, 148, 149, 150, 151, 152, 153, 154, 155, 156, 157, 158, 159, 160, 161, 162, 163, 164, 165, 166, 167, 168, 169, 170, 171, 172, 173, 174, 175, 176, 177, 178, 179, 180, 181, 182, 183, 184, 185, 186, 187, 188, 189, 190, 191, 192, 193, 194, 195, 196, 197, 198, 199, 200, 201, 202, 203, 204, 205, 206, 207, 208, 209, 210, 211, 212, 213, 214, 215, 216, 217, 218, 219, 220, 221, 222, 223, 224, 225, 226, 227, 228, 229, 230, 231, 232, 233, 234, 235, 236, 237] (by decide +kernel) (by decide +kernel)
set_option maxRecDepth 20000 in
theorem gX11_step_X11_oneStep : GoodIn wsX11_step (wsV RX11 194 RX11 yX11_oneStep wsX11_oneStep) := goodIn_app (goodIn_of _ (by decide +kernel)) ggX11_step_X11_oneStep
theorem dX11_step_0 : decode cX11_step 0 = .ok (.iload_n 1, 1) := by decide +kernel
theorem dX11_step_1 : decode cX11_step 1 = .ok (.i2l, 1) := by decide +kernel
theorem dX11_step_2 : decode cX11_step 2 = .ok (.iconst 0, 1) := by decide +kernel
theorem dX11_step_3 : decode cX11_step 3 = .ok (.bipush 50, 2) := by decide +kernel
theorem dX11_step_5 : decode cX11_step 5 = .ok (.invokestatic 77, 3) := by decide +kernel
theorem dX11_step_8 : decode cX11_step 8 = .ok (.ifCond .ne 6, 3) := by decide +kernel
theorem dX11_step_11 : decode cX11_step 11 = .ok (.bipush (-2), 2) := by decide +kernel
theorem dX11_step_13 : decode cX11_step 13 = .ok (.ireturn, 1) := by decide +kernel
theorem dX11_step_14 : decode cX11_step 14 = .ok (.iconst 0, 1) := by decide +kernel
theorem dX11_step_15 : decode cX11_step 15 = .ok (.istore_n 2, 1) := by decide +kernel
theorem dX11_step_16 : decode cX11_step 16 = .ok (.iconst 0, 1) := by decide +kernel
theorem dX11_step_17 : decode cX11_step 17 = .ok (.istore_n 3, 1) := by decide +kernel
theorem dX11_step_18 : decode cX11_step 18 = .ok (.iload_n 3, 1) := by decide +kernel
theorem dX11_step_19 : decode cX11_step 19 = .ok (.iload_n 1, 1) := by decide +kernel
theorem dX11_step_20 : decode cX11_step 20 = .ok (.if_icmp .ge 16, 3) := by decide +kernel
theorem dX11_step_23 : decode cX11_step 23 = .ok (.iload_n 2, 1) := by decide +kernel
theorem dX11_step_24 : decode cX11_step 24 = .ok (.aload_n 0, 1) := by decide +kernel
theorem dX11_step_25 : decode cX11_step 25 = .ok (.invokevirtual 194, 3) := by decide +kernel
theorem dX11_step_28 : decode cX11_step 28 = .ok (.iadd, 1) := by decide +kernel
theorem dX11_step_29 : decode cX11_step 29 = .ok (.istore_n 2, 1) := by decide +kernel
theorem dX11_step_30 : decode cX11_step 30 = .ok (.iinc 3 1, 3) := by decide +kernel
theorem dX11_step_33 : decode cX11_step 33 = .ok (.goto (-15), 3) := by decide +kernel
theorem dX11_step_36 : decode cX11_step 36 = .ok (.iload_n 2, 1) := by decide +kernel
theorem dX11_step_37 : decode cX11_step 37 = .ok (.ireturn, 1) := by decide +kernel
set_option maxRecDepth 20000 in
theorem ggX11_run_X11_isLeastWidth : GoodIn wsX11_run wsX11_isLeastWidth := goodIn_r _ [5, 6, 7, 4, 8] (by decide +kernel) (by decide +kernel)
set_option maxRecDepth 20000 in
theorem gX11_run_X11_isLeastWidth : GoodIn wsX11_run (va_wsS RX11 197 yX11_isLeastWidth wsX11_isLeastWidth) := goodIn_app (goodIn_of _ (by decide +kernel)) ggX11_run_X11_isLeastWidth
set_option maxRecDepth 20000 in
theorem ggX11_run_X9_isOne : GoodIn wsX11_run wsX9_isOne := goodIn_r _ [13, 14, 15, 16, 17, 18, 19, 12, 20, 21, 22, 23, 24, 25, 26, 27, 28, 29, 30, 31, 32, 33, 34, 35, 36, 37, 219, 220, 221, 222, 223, 224, 225, 226, 227, 228, 229, 230, 231, 232, 233, 234, 235, 236, 237, 238, 239, 240, 241, 242, 243, 244, 245, 246, 247, 248, 249, 250, 251, 252, 253, 254, 255] (by decide +kernel) (by decide +kernel)
set_option maxRecDepth 20000 in
theorem gX11_run_X9_isOne : GoodIn wsX11_run (wsV RX11 200 RX9 yX9_isOne wsX9_isOne) := goodIn_app (goodIn_of _ (by decide +kernel)) ggX11_run_X9_isOne
set_option maxRecDepth 20000 in
theorem ggX11_run_X11_oneStep : GoodIn wsX11_run wsX11_oneStep := goodIn_r _ [41, 42, 43, 44, 45, 46, 47, 48, 49, 50, 4, 51, 52, 53, 54, 55, 56, 57, 58, 59, 60, 61, 62, 63, 64, 65, 66, 67, 68, 69, 70, 71, 72, 73, 74, 75, 76, 77, 78, 79, 80, 81, 82, 83, 84, 85, 86, 87, 88, 89, 90, 91, 92, 93, 24, 94, 26, 28, 95, 30, 31, 32, 33, 34, 35, 36, 37, 96, 97, 98, 99, 100, 101, 102, 103, 104, 105, 106, 107, 108, 109, 110, 111, 112, 113, 114, 115, 116, 117, 118, 119, 120, 121, 122, 123, 124, 125, 126, 127, 128, 129, 130, 131, 132, 133, 134, 135, 136, 137, 138, 139, 140, 141, 142, 143, 144, 145, 146, 147, 148, 149, 150, 151, 152, 153, 154, 155, 156, 157, 158, 159, 160, 161, 162, 163, 164, 165, 166, 167, 168, 169, 170, 171, 172, 173, 174, 175, 176, 177, 178, 179, 180, 181, 182, 183, 184, 185, 186, 187, 188, 189, 190, 191, 192, 193, 194, 195, 196, 197, 198, 199, 200, 201, 202, 203, 204, 205, 206, 207, 208, 209, 210, 211, 212, 213, 214, 215, 216, 217, 218, 224, 225, 226, 227, 228, 229, 230, 231, 232, 233, 234, 235, 236, 237, 238, 239, 240, 241, 242, 243, 244, 245, 246, 247, 248, 249, 250, 251, 252, 253, 254, 255, 256, 257, 258, 259, 260, 261, 262, 263, 264] (by decide +kernel) (by decide +kernel)
set_option maxRecDepth 20000 in
theorem gX11_run_X11_oneStep : GoodIn wsX11_run (wsV RX11 194 RX11 yX11_oneStep wsX11_oneStep) := goodIn_app (goodIn_of _ (by decide +kernel)) ggX11_run_X11_oneStep
theorem dX11_run_0 : decode cX11_run 0 = .ok (.iload_n 1, 1) := by decide +kernel
theorem dX11_run_1 : decode cX11_run 1 = .ok (.invokestatic 197, 3) := by decide +kernel
theorem dX11_run_4 : decode cX11_run 4 = .ok (.ifCond .ne 6, 3) := by decide +kernel
theorem dX11_run_7 : decode cX11_run 7 = .ok (.bipush (-2), 2) := by decide +kernel
theorem dX11_run_9 : decode cX11_run 9 = .ok (.ireturn, 1) := by decide +kernel
theorem dX11_run_10 : decode cX11_run 10 = .ok (.aload_n 0, 1) := by decide +kernel
theorem dX11_run_11 : decode cX11_run 11 = .ok (.getfield 30, 3) := by decide +kernel
theorem dX11_run_14 : decode cX11_run 14 = .ok (.iload_n 1, 1) := by decide +kernel
theorem dX11_run_15 : decode cX11_run 15 = .ok (.invokevirtual 200, 3) := by decide +kernel
theorem dX11_run_18 : decode cX11_run 18 = .ok (.istore_n 2, 1) := by decide +kernel
theorem dX11_run_19 : decode cX11_run 19 = .ok (.iconst 0, 1) := by decide +kernel
theorem dX11_run_20 : decode cX11_run 20 = .ok (.istore_n 3, 1) := by decide +kernel
theorem dX11_run_21 : decode cX11_run 21 = .ok (.iload_n 2, 1) := by decide +kernel
theorem dX11_run_22 : decode cX11_run 22 = .ok (.ifCond .ne 44, 3) := by decide +kernel
theorem dX11_run_25 : decode cX11_run 25 = .ok (.iload_n 3, 1) := by decide +kernel
theorem dX11_run_26 : decode cX11_run 26 = .ok (.sipush 200, 3) := by decide +kernel
theorem dX11_run_29 : decode cX11_run 29 = .ok (.if_icmp .ge 37, 3) := by decide +kernel
theorem dX11_run_32 : decode cX11_run 32 = .ok (.aload_n 0, 1) := by decide +kernel
theorem dX11_run_33 : decode cX11_run 33 = .ok (.invokevirtual 194, 3) := by decide +kernel
theorem dX11_run_36 : decode cX11_run 36 = .ok (.istore 4, 2) := by decide +kernel
theorem dX11_run_38 : decode cX11_run 38 = .ok (.iinc 3 1, 3) := by decide +kernel
theorem dX11_run_41 : decode cX11_run 41 = .ok (.iload 4, 2) := by decide +kernel
theorem dX11_run_43 : decode cX11_run 43 = .ok (.ifCond .le 18, 3) := by decide +kernel
theorem dX11_run_46 : decode cX11_run 46 = .ok (.aload_n 0, 1) := by decide +kernel
theorem dX11_run_47 : decode cX11_run 47 = .ok (.getfield 30, 3) := by decide +kernel
theorem dX11_run_50 : decode cX11_run 50 = .ok (.iload_n 1, 1) := by decide +kernel
theorem dX11_run_51 : decode cX11_run 51 = .ok (.invokevirtual 200, 3) := by decide +kernel
theorem dX11_run_54 : decode cX11_run 54 = .ok (.ifCond .eq 7, 3) := by decide +kernel
theorem dX11_run_57 : decode cX11_run 57 = .ok (.iconst 1, 1) := by decide +kernel
theorem dX11_run_58 : decode cX11_run 58 = .ok (.goto 4, 3) := by decide +kernel
theorem dX11_run_61 : decode cX11_run 61 = .ok (.iconst 0, 1) := by decide +kernel
theorem dX11_run_62 : decode cX11_run 62 = .ok (.istore_n 2, 1) := by decide +kernel
theorem dX11_run_63 : decode cX11_run 63 = .ok (.goto (-42), 3) := by decide +kernel
theorem dX11_run_66 : decode cX11_run 66 = .ok (.iload_n 2, 1) := by decide +kernel
theorem dX11_run_67 : decode cX11_run 67 = .ok (.ifCond .eq 7, 3) := by decide +kernel
theorem dX11_run_70 : decode cX11_run 70 = .ok (.iload_n 3, 1) := by decide +kernel
theorem dX11_run_71 : decode cX11_run 71 = .ok (.goto 5, 3) := by decide +kernel
theorem dX11_run_74 : decode cX11_run 74 = .ok (.bipush (-9), 2) := by decide +kernel
theorem dX11_run_76 : decode cX11_run 76 = .ok (.ireturn, 1) := by decide +kernel
set_option maxRecDepth 20000 in
theorem ggX11_ways_X11_isLeastWidth : GoodIn wsX11_ways wsX11_isLeastWidth := goodIn_r _ [5, 6, 7, 4, 8] (by decide +kernel) (by decide +kernel)
set_option maxRecDepth 20000 in
theorem gX11_ways_X11_isLeastWidth : GoodIn wsX11_ways (va_wsS RX11 197 yX11_isLeastWidth wsX11_isLeastWidth) := goodIn_app (goodIn_of _ (by decide +kernel)) ggX11_ways_X11_isLeastWidth
set_option maxRecDepth 20000 in
theorem ggX11_ways_X9_count : GoodIn wsX11_ways wsX9_count := goodIn_r _ [13, 14, 15, 16, 12, 17, 18, 19, 20, 21, 22, 23, 24, 25, 26, 27, 28, 29, 30, 31, 32, 33, 34, 35, 36, 37, 38, 39, 40, 41, 42, 43, 44, 45, 46, 47, 48, 49, 50, 51, 52, 53, 54, 55, 56, 57, 58, 59, 60, 61, 62, 63, 64, 65, 75, 76, 77, 78, 79, 80, 81, 82, 83, 84, 85, 86, 87, 88, 89, 90, 91, 92, 93, 94, 95, 96, 97, 98, 99, 100, 101, 102, 103, 104, 105, 106, 107, 108, 109, 110, 111] (by decide +kernel) (by decide +kernel)
set_option maxRecDepth 20000 in
theorem gX11_ways_X9_count : GoodIn wsX11_ways (wsV RX11 203 RX9 yX9_count wsX9_count) := goodIn_app (goodIn_of _ (by decide +kernel)) ggX11_ways_X9_count
theorem dX11_ways_0 : decode cX11_ways 0 = .ok (.iload_n 1, 1) := by decide +kernel
theorem dX11_ways_1 : decode cX11_ways 1 = .ok (.invokestatic 197, 3) := by decide +kernel
theorem dX11_ways_4 : decode cX11_ways 4 = .ok (.ifCond .ne 6, 3) := by decide +kernel
theorem dX11_ways_7 : decode cX11_ways 7 = .ok (.bipush (-2), 2) := by decide +kernel
theorem dX11_ways_9 : decode cX11_ways 9 = .ok (.ireturn, 1) := by decide +kernel
theorem dX11_ways_10 : decode cX11_ways 10 = .ok (.aload_n 0, 1) := by decide +kernel
theorem dX11_ways_11 : decode cX11_ways 11 = .ok (.getfield 30, 3) := by decide +kernel
theorem dX11_ways_14 : decode cX11_ways 14 = .ok (.iload_n 1, 1) := by decide +kernel
theorem dX11_ways_15 : decode cX11_ways 15 = .ok (.invokevirtual 203, 3) := by decide +kernel
theorem dX11_ways_18 : decode cX11_ways 18 = .ok (.ireturn, 1) := by decide +kernel
set_option maxRecDepth 20000 in
theorem ggX11_through_X5_hasCrack : GoodIn wsX11_through wsX5_hasCrack := goodIn_r _ [7, 8, 77, 78, 79, 80, 81, 82, 83] (by decide +kernel) (by decide +kernel)
set_option maxRecDepth 20000 in
theorem gX11_through_X5_hasCrack : GoodIn wsX11_through (wsV RX11 106 RX5 yX5_hasCrack wsX5_hasCrack) := goodIn_app (goodIn_of _ (by decide +kernel)) ggX11_through_X5_hasCrack
set_option maxRecDepth 20000 in
theorem ggX11_through_X11_isLeastWidth : GoodIn wsX11_through wsX11_isLeastWidth := goodIn_r _ [12, 13, 14, 11, 15] (by decide +kernel) (by decide +kernel)
set_option maxRecDepth 20000 in
theorem gX11_through_X11_isLeastWidth : GoodIn wsX11_through (va_wsS RX11 197 yX11_isLeastWidth wsX11_isLeastWidth) := goodIn_app (goodIn_of _ (by decide +kernel)) ggX11_through_X11_isLeastWidth
set_option maxRecDepth 20000 in
theorem ggX11_through_X9_countOver : GoodIn wsX11_through wsX9_countOver := goodIn_r _ [20, 21, 22, 23, 24, 25, 26, 27, 28, 19, 29, 30, 31, 32, 33, 6, 34, 35, 36, 37, 38, 39, 40, 41, 42, 43, 44, 45, 46, 47, 48, 49, 50, 51, 52, 53, 54, 55, 56, 57, 58, 59, 60, 61, 62, 63, 64, 65, 66, 67, 84, 85, 86, 87, 88, 77, 78, 79, 80, 81, 82, 83, 89, 90, 91, 92, 93, 94, 95, 96, 97, 98, 99, 100, 101, 102, 103, 104, 105, 106, 107, 108, 109, 110, 111, 112, 113] (by decide +kernel) (by decide +kernel)
set_option maxRecDepth 20000 in
theorem gX11_through_X9_countOver : GoodIn wsX11_through (wsV RX11 206 RX9 yX9_countOver wsX9_countOver) := goodIn_app (goodIn_of _ (by decide +kernel)) ggX11_through_X9_countOver
theorem dX11_through_0 : decode cX11_through 0 = .ok (.aload_n 0, 1) := by decide +kernel
theorem dX11_through_1 : decode cX11_through 1 = .ok (.getfield 12, 3) := by decide +kernel
theorem dX11_through_4 : decode cX11_through 4 = .ok (.iload_n 1, 1) := by decide +kernel
theorem dX11_through_5 : decode cX11_through 5 = .ok (.invokevirtual 106, 3) := by decide +kernel
theorem dX11_through_8 : decode cX11_through 8 = .ok (.ifCond .ne 5, 3) := by decide +kernel
theorem dX11_through_11 : decode cX11_through 11 = .ok (.iconst (-1), 1) := by decide +kernel
theorem dX11_through_12 : decode cX11_through 12 = .ok (.ireturn, 1) := by decide +kernel
theorem dX11_through_13 : decode cX11_through 13 = .ok (.iload_n 2, 1) := by decide +kernel
theorem dX11_through_14 : decode cX11_through 14 = .ok (.invokestatic 197, 3) := by decide +kernel
theorem dX11_through_17 : decode cX11_through 17 = .ok (.ifCond .ne 6, 3) := by decide +kernel
theorem dX11_through_20 : decode cX11_through 20 = .ok (.bipush (-2), 2) := by decide +kernel
theorem dX11_through_22 : decode cX11_through 22 = .ok (.ireturn, 1) := by decide +kernel
theorem dX11_through_23 : decode cX11_through 23 = .ok (.aload_n 0, 1) := by decide +kernel
theorem dX11_through_24 : decode cX11_through 24 = .ok (.getfield 30, 3) := by decide +kernel
theorem dX11_through_27 : decode cX11_through 27 = .ok (.iload_n 1, 1) := by decide +kernel
theorem dX11_through_28 : decode cX11_through 28 = .ok (.iload_n 2, 1) := by decide +kernel
theorem dX11_through_29 : decode cX11_through 29 = .ok (.invokevirtual 206, 3) := by decide +kernel
theorem dX11_through_32 : decode cX11_through 32 = .ok (.ifCond .le 7, 3) := by decide +kernel
theorem dX11_through_35 : decode cX11_through 35 = .ok (.iconst 1, 1) := by decide +kernel
theorem dX11_through_36 : decode cX11_through 36 = .ok (.goto 4, 3) := by decide +kernel
theorem dX11_through_39 : decode cX11_through 39 = .ok (.iconst 0, 1) := by decide +kernel
theorem dX11_through_40 : decode cX11_through 40 = .ok (.ireturn, 1) := by decide +kernel
set_option maxRecDepth 20000 in
theorem ggX11_open_X9_isOne : GoodIn wsX11_open wsX9_isOne := goodIn_r _ [6, 7, 8, 9, 10, 11, 12, 5, 13, 14, 15, 16, 17, 18, 19, 20, 21, 22, 23, 24, 25, 26, 27, 28, 29, 30, 40, 41, 42, 43, 44, 45, 46, 47, 48, 49, 50, 51, 52, 53, 54, 55, 56, 57, 58, 59, 60, 61, 62, 63, 64, 65, 66, 67, 68, 69, 70, 71, 72, 73, 74, 75, 76] (by decide +kernel) (by decide +kernel)
set_option maxRecDepth 20000 in
theorem gX11_open_X9_isOne : GoodIn wsX11_open (wsV RX11 200 RX9 yX9_isOne wsX9_isOne) := goodIn_app (goodIn_of _ (by decide +kernel)) ggX11_open_X9_isOne
theorem dX11_open_0 : decode cX11_open 0 = .ok (.bipush 12, 2) := by decide +kernel
theorem dX11_open_2 : decode cX11_open 2 = .ok (.istore_n 1, 1) := by decide +kernel
theorem dX11_open_3 : decode cX11_open 3 = .ok (.iload_n 1, 1) := by decide +kernel
theorem dX11_open_4 : decode cX11_open 4 = .ok (.ifCond .le 22, 3) := by decide +kernel
theorem dX11_open_7 : decode cX11_open 7 = .ok (.aload_n 0, 1) := by decide +kernel
theorem dX11_open_8 : decode cX11_open 8 = .ok (.getfield 30, 3) := by decide +kernel
theorem dX11_open_11 : decode cX11_open 11 = .ok (.iload_n 1, 1) := by decide +kernel
theorem dX11_open_12 : decode cX11_open 12 = .ok (.invokevirtual 200, 3) := by decide +kernel
theorem dX11_open_15 : decode cX11_open 15 = .ok (.ifCond .eq 5, 3) := by decide +kernel
theorem dX11_open_18 : decode cX11_open 18 = .ok (.iload_n 1, 1) := by decide +kernel
theorem dX11_open_19 : decode cX11_open 19 = .ok (.ireturn, 1) := by decide +kernel
theorem dX11_open_20 : decode cX11_open 20 = .ok (.iinc 1 (-1), 3) := by decide +kernel
theorem dX11_open_23 : decode cX11_open 23 = .ok (.goto (-20), 3) := by decide +kernel
theorem dX11_open_26 : decode cX11_open 26 = .ok (.iconst 0, 1) := by decide +kernel
theorem dX11_open_27 : decode cX11_open 27 = .ok (.ireturn, 1) := by decide +kernel
set_option maxRecDepth 20000 in
theorem ggX11_eats_X5_hasCrack : GoodIn wsX11_eats wsX5_hasCrack := goodIn_r _ [8, 9, 138, 139, 140, 141, 142, 143, 144] (by decide +kernel) (by decide +kernel)
set_option maxRecDepth 20000 in
theorem gX11_eats_X5_hasCrack : GoodIn wsX11_eats (wsV RX11 106 RX5 yX5_hasCrack wsX5_hasCrack) := goodIn_app (goodIn_of _ (by decide +kernel)) ggX11_eats_X5_hasCrack
set_option maxRecDepth 20000 in
theorem ggX11_eats_X11_mealIn : GoodIn wsX11_eats wsX11_mealIn := goodIn_r _ [14, 1, 15, 16, 17, 18, 19, 20, 21, 22, 23, 24, 25, 26, 27, 28, 29, 30, 31, 32, 33, 34, 35, 36, 37, 38, 39, 40, 41, 42, 43, 44, 45, 46, 47, 48, 49, 50, 51, 52, 53, 54, 55, 56, 57, 7, 58, 59, 60, 61, 62, 63, 64, 9, 65, 66, 67, 68, 69, 70, 71, 72, 73, 74, 75, 76, 77, 78, 79, 80, 81, 82, 83, 84, 85, 86, 87, 88, 89, 90, 91, 92, 93, 94, 95, 96, 97, 98, 99, 100, 101, 102, 103, 104, 105, 106, 107, 108, 109, 110, 111, 112, 113, 114, 115, 116, 117, 118, 119, 120, 121, 122, 123, 124, 125, 126, 127, 128, 129, 130, 131, 132, 133, 134, 135, 136, 137, 138, 139, 140, 141, 142, 143, 144, 145, 146, 147, 148, 149, 150, 151, 152, 153, 154, 155, 156, 157, 158, 159, 160, 161, 162, 163, 164, 165, 166, 167, 168, 169, 170, 171, 172, 173, 174, 175, 176, 177, 178] (by decide +kernel) (by decide +kernel)
set_option maxRecDepth 20000 in
theorem gX11_eats_X11_mealIn : GoodIn wsX11_eats (wsV RX11 213 RX11 yX11_mealIn wsX11_mealIn) := goodIn_app (goodIn_of _ (by decide +kernel)) ggX11_eats_X11_mealIn
theorem dX11_eats_0 : decode cX11_eats 0 = .ok (.aload_n 0, 1) := by decide +kernel
theorem dX11_eats_1 : decode cX11_eats 1 = .ok (.getfield 12, 3) := by decide +kernel
theorem dX11_eats_4 : decode cX11_eats 4 = .ok (.iload_n 1, 1) := by decide +kernel
theorem dX11_eats_5 : decode cX11_eats 5 = .ok (.invokevirtual 106, 3) := by decide +kernel
theorem dX11_eats_8 : decode cX11_eats 8 = .ok (.ifCond .ne 7, 3) := by decide +kernel
theorem dX11_eats_11 : decode cX11_eats 11 = .ok (.ldc2_w 178, 3) := by decide +kernel
theorem dX11_eats_14 : decode cX11_eats 14 = .ok (.lreturn, 1) := by decide +kernel
theorem dX11_eats_15 : decode cX11_eats 15 = .ok (.aload_n 0, 1) := by decide +kernel
theorem dX11_eats_16 : decode cX11_eats 16 = .ok (.iload_n 1, 1) := by decide +kernel
theorem dX11_eats_17 : decode cX11_eats 17 = .ok (.aload_n 0, 1) := by decide +kernel
theorem dX11_eats_18 : decode cX11_eats 18 = .ok (.getfield 12, 3) := by decide +kernel
theorem dX11_eats_21 : decode cX11_eats 21 = .ok (.getfield 210, 3) := by decide +kernel
theorem dX11_eats_24 : decode cX11_eats 24 = .ok (.iconst 1, 1) := by decide +kernel
theorem dX11_eats_25 : decode cX11_eats 25 = .ok (.iadd, 1) := by decide +kernel
theorem dX11_eats_26 : decode cX11_eats 26 = .ok (.invokevirtual 213, 3) := by decide +kernel
theorem dX11_eats_29 : decode cX11_eats 29 = .ok (.lreturn, 1) := by decide +kernel
set_option maxRecDepth 20000 in
theorem ggX11_told_X5_heldOnes : GoodIn wsX11_told wsX5_heldOnes := goodIn_r _ [11, 12, 13, 121, 122, 123, 124, 125, 126, 127] (by decide +kernel) (by decide +kernel)
set_option maxRecDepth 20000 in
theorem gX11_told_X5_heldOnes : GoodIn wsX11_told (wsV RX11 216 RX5 yX5_heldOnes wsX5_heldOnes) := goodIn_app (goodIn_of _ (by decide +kernel)) ggX11_told_X5_heldOnes
set_option maxRecDepth 20000 in
theorem ggX11_told_J6_bitCount_0f7a4 : GoodIn wsX11_told wsJ6_bitCount_0f7a4 := goodIn_r _ [17, 18, 19, 20] (by decide +kernel) (by decide +kernel)
set_option maxRecDepth 20000 in
theorem gX11_told_J6_bitCount_0f7a4 : GoodIn wsX11_told (va_wsS RX11 219 yJ6_bitCount_0f7a4 wsJ6_bitCount_0f7a4) := goodIn_app (goodIn_of _ (by decide +kernel)) ggX11_told_J6_bitCount_0f7a4
set_option maxRecDepth 20000 in
theorem ggX11_told_X8_dryCount : GoodIn wsX11_told wsX8_dryCount := goodIn_r _ [25, 26, 27, 28, 29, 30, 31, 24, 32, 33, 34, 35, 36, 8, 9, 10, 11, 12, 13, 37, 38, 39, 40, 41, 42, 43, 44, 45, 46, 47, 48, 49, 50, 51, 52, 53, 54, 55, 56, 57, 58, 59, 60, 61, 62, 63, 64, 65, 66, 67, 68, 69, 70, 71, 72, 73, 74, 75, 76, 77, 78, 79, 80, 81, 82, 83, 84, 85, 86, 87, 88, 89, 90, 91, 92, 93, 94, 15, 16, 17, 18, 19, 20, 95, 96, 97, 98, 99, 100, 101, 102, 103, 128, 129, 130, 131, 132, 133, 134, 135, 136, 121, 122, 123, 124, 125, 126, 127, 137, 138, 139, 140, 141, 142, 143, 144, 145, 146, 147, 148, 149, 150, 151, 152, 153, 154, 155, 156, 157, 158, 159, 160, 161] (by decide +kernel) (by decide +kernel)
set_option maxRecDepth 20000 in
theorem gX11_told_X8_dryCount : GoodIn wsX11_told (wsV RX11 224 RX8 yX8_dryCount wsX8_dryCount) := goodIn_app (goodIn_of _ (by decide +kernel)) ggX11_told_X8_dryCount
set_option maxRecDepth 20000 in
theorem ggX11_told_X5_openCount : GoodIn wsX11_told wsX5_openCount := goodIn_r _ [107, 41, 42, 45, 121, 122, 123, 124, 125, 126, 127, 137, 138, 139, 140, 141, 142, 143, 144, 145, 146, 147, 148, 149, 150, 151, 152, 153, 154, 155, 156, 157, 158, 159, 160, 161] (by decide +kernel) (by decide +kernel)
set_option maxRecDepth 20000 in
theorem gX11_told_X5_openCount : GoodIn wsX11_told (wsV RX11 227 RX5 yX5_openCount wsX5_openCount) := goodIn_app (goodIn_of _ (by decide +kernel)) ggX11_told_X5_openCount
set_option maxRecDepth 20000 in
theorem ggX11_told_X5_widthSum : GoodIn wsX11_told wsX5_widthSum := goodIn_r _ [111, 41, 42, 45, 121, 122, 123, 124, 125, 126, 127, 137, 138, 139, 140, 141, 142, 143, 144, 145, 146, 147, 148, 149, 150, 151, 152, 153, 154, 155, 156, 157, 158, 159, 160, 161] (by decide +kernel) (by decide +kernel)
set_option maxRecDepth 20000 in
theorem gX11_told_X5_widthSum : GoodIn wsX11_told (wsV RX11 230 RX5 yX5_widthSum wsX5_widthSum) := goodIn_app (goodIn_of _ (by decide +kernel)) ggX11_told_X5_widthSum
theorem dX11_told_0 : decode cX11_told 0 = .ok (.iload_n 1, 1) := by decide +kernel
theorem dX11_told_1 : decode cX11_told 1 = .ok (.tableswitch 111 0 7 #[47, 55, 63, 71, 76, 87, 95, 103], 47) := by decide +kernel
theorem dX11_told_48 : decode cX11_told 48 = .ok (.aload_n 0, 1) := by decide +kernel
theorem dX11_told_49 : decode cX11_told 49 = .ok (.getfield 12, 3) := by decide +kernel
theorem dX11_told_52 : decode cX11_told 52 = .ok (.getfield 66, 3) := by decide +kernel
theorem dX11_told_55 : decode cX11_told 55 = .ok (.ireturn, 1) := by decide +kernel
theorem dX11_told_56 : decode cX11_told 56 = .ok (.aload_n 0, 1) := by decide +kernel
theorem dX11_told_57 : decode cX11_told 57 = .ok (.getfield 12, 3) := by decide +kernel
theorem dX11_told_60 : decode cX11_told 60 = .ok (.getfield 92, 3) := by decide +kernel
theorem dX11_told_63 : decode cX11_told 63 = .ok (.ireturn, 1) := by decide +kernel
theorem dX11_told_64 : decode cX11_told 64 = .ok (.aload_n 0, 1) := by decide +kernel
theorem dX11_told_65 : decode cX11_told 65 = .ok (.getfield 12, 3) := by decide +kernel
theorem dX11_told_68 : decode cX11_told 68 = .ok (.getfield 210, 3) := by decide +kernel
theorem dX11_told_71 : decode cX11_told 71 = .ok (.ireturn, 1) := by decide +kernel
theorem dX11_told_72 : decode cX11_told 72 = .ok (.aload_n 0, 1) := by decide +kernel
theorem dX11_told_73 : decode cX11_told 73 = .ok (.getfield 59, 3) := by decide +kernel
theorem dX11_told_76 : decode cX11_told 76 = .ok (.ireturn, 1) := by decide +kernel
theorem dX11_told_77 : decode cX11_told 77 = .ok (.aload_n 0, 1) := by decide +kernel
theorem dX11_told_78 : decode cX11_told 78 = .ok (.getfield 12, 3) := by decide +kernel
theorem dX11_told_81 : decode cX11_told 81 = .ok (.invokevirtual 216, 3) := by decide +kernel
theorem dX11_told_84 : decode cX11_told 84 = .ok (.invokestatic 219, 3) := by decide +kernel
theorem dX11_told_87 : decode cX11_told 87 = .ok (.ireturn, 1) := by decide +kernel
theorem dX11_told_88 : decode cX11_told 88 = .ok (.aload_n 0, 1) := by decide +kernel
theorem dX11_told_89 : decode cX11_told 89 = .ok (.getfield 23, 3) := by decide +kernel
theorem dX11_told_92 : decode cX11_told 92 = .ok (.invokevirtual 224, 3) := by decide +kernel
theorem dX11_told_95 : decode cX11_told 95 = .ok (.ireturn, 1) := by decide +kernel
theorem dX11_told_96 : decode cX11_told 96 = .ok (.aload_n 0, 1) := by decide +kernel
theorem dX11_told_97 : decode cX11_told 97 = .ok (.getfield 12, 3) := by decide +kernel
theorem dX11_told_100 : decode cX11_told 100 = .ok (.invokevirtual 227, 3) := by decide +kernel
theorem dX11_told_103 : decode cX11_told 103 = .ok (.ireturn, 1) := by decide +kernel
theorem dX11_told_104 : decode cX11_told 104 = .ok (.aload_n 0, 1) := by decide +kernel
theorem dX11_told_105 : decode cX11_told 105 = .ok (.getfield 12, 3) := by decide +kernel
theorem dX11_told_108 : decode cX11_told 108 = .ok (.invokevirtual 230, 3) := by decide +kernel
theorem dX11_told_111 : decode cX11_told 111 = .ok (.ireturn, 1) := by decide +kernel
theorem dX11_told_112 : decode cX11_told 112 = .ok (.bipush (-2), 2) := by decide +kernel
theorem dX11_told_114 : decode cX11_told 114 = .ok (.ireturn, 1) := by decide +kernel
set_option maxRecDepth 20000 in
theorem ggX11_keep_X4_push : GoodIn wsX11_keep wsX4_push := goodIn_r _ [8, 9, 10, 11, 12, 13, 14, 15, 16, 17, 18, 19, 20, 21, 22, 23, 39, 40, 41, 42, 43, 44, 45, 33, 34, 35, 36, 37, 38, 46, 47, 48, 49, 50, 51, 52, 53, 54, 55, 56, 57, 58, 59, 60, 61, 62, 63, 64, 65, 66, 67, 68, 69, 70] (by decide +kernel) (by decide +kernel)
set_option maxRecDepth 20000 in
theorem gX11_keep_X4_push : GoodIn wsX11_keep (wsV RX11 233 RX4 yX4_push wsX4_push) := goodIn_app (goodIn_of _ (by decide +kernel)) ggX11_keep_X4_push
theorem dX11_keep_0 : decode cX11_keep 0 = .ok (.aload_n 0, 1) := by decide +kernel
theorem dX11_keep_1 : decode cX11_keep 1 = .ok (.getfield 37, 3) := by decide +kernel
theorem dX11_keep_4 : decode cX11_keep 4 = .ok (.aload_n 0, 1) := by decide +kernel
theorem dX11_keep_5 : decode cX11_keep 5 = .ok (.getfield 12, 3) := by decide +kernel
theorem dX11_keep_8 : decode cX11_keep 8 = .ok (.invokevirtual 233, 3) := by decide +kernel
theorem dX11_keep_11 : decode cX11_keep 11 = .ok (.aload_n 0, 1) := by decide +kernel
theorem dX11_keep_12 : decode cX11_keep 12 = .ok (.getfield 37, 3) := by decide +kernel
theorem dX11_keep_15 : decode cX11_keep 15 = .ok (.getfield 236, 3) := by decide +kernel
theorem dX11_keep_18 : decode cX11_keep 18 = .ok (.ireturn, 1) := by decide +kernel
set_option maxRecDepth 20000 in
theorem ggX11_back_X4_pop : GoodIn wsX11_back wsX4_pop := goodIn_r _ [8, 9, 10, 11, 12, 13, 14, 15, 16, 17, 18, 19, 20, 21, 22, 23, 24, 25, 26, 36, 37, 38, 39, 40, 41, 42, 43, 44, 45, 46, 47, 48, 49, 50, 51, 52, 53, 54, 55, 56, 57, 58, 59, 60, 61, 62, 63, 64, 65, 66, 67, 68, 69, 70, 71, 72, 73] (by decide +kernel) (by decide +kernel)
set_option maxRecDepth 20000 in
theorem gX11_back_X4_pop : GoodIn wsX11_back (wsV RX11 238 RX4 yX4_pop wsX4_pop) := goodIn_app (goodIn_of _ (by decide +kernel)) ggX11_back_X4_pop
theorem dX11_back_0 : decode cX11_back 0 = .ok (.aload_n 0, 1) := by decide +kernel
theorem dX11_back_1 : decode cX11_back 1 = .ok (.getfield 37, 3) := by decide +kernel
theorem dX11_back_4 : decode cX11_back 4 = .ok (.getfield 236, 3) := by decide +kernel
theorem dX11_back_7 : decode cX11_back 7 = .ok (.ifCond .ne 6, 3) := by decide +kernel
theorem dX11_back_10 : decode cX11_back 10 = .ok (.bipush (-3), 2) := by decide +kernel
theorem dX11_back_12 : decode cX11_back 12 = .ok (.ireturn, 1) := by decide +kernel
theorem dX11_back_13 : decode cX11_back 13 = .ok (.aload_n 0, 1) := by decide +kernel
theorem dX11_back_14 : decode cX11_back 14 = .ok (.getfield 37, 3) := by decide +kernel
theorem dX11_back_17 : decode cX11_back 17 = .ok (.aload_n 0, 1) := by decide +kernel
theorem dX11_back_18 : decode cX11_back 18 = .ok (.getfield 12, 3) := by decide +kernel
theorem dX11_back_21 : decode cX11_back 21 = .ok (.invokevirtual 238, 3) := by decide +kernel
theorem dX11_back_24 : decode cX11_back 24 = .ok (.aload_n 0, 1) := by decide +kernel
theorem dX11_back_25 : decode cX11_back 25 = .ok (.getfield 37, 3) := by decide +kernel
theorem dX11_back_28 : decode cX11_back 28 = .ok (.getfield 236, 3) := by decide +kernel
theorem dX11_back_31 : decode cX11_back 31 = .ok (.ireturn, 1) := by decide +kernel
set_option maxRecDepth 20000 in
theorem ggX11_core_X11_isCore : GoodIn wsX11_core wsX11_isCore := goodIn_r _ [6, 7, 8, 5, 9] (by decide +kernel) (by decide +kernel)
set_option maxRecDepth 20000 in
theorem gX11_core_X11_isCore : GoodIn wsX11_core (va_wsS RX11 103 yX11_isCore wsX11_isCore) := goodIn_app (goodIn_of _ (by decide +kernel)) ggX11_core_X11_isCore
set_option maxRecDepth 20000 in
theorem ggX11_core_X11_isLane : GoodIn wsX11_core wsX11_isLane := goodIn_r _ [12, 7, 8, 5, 9] (by decide +kernel) (by decide +kernel)
set_option maxRecDepth 20000 in
theorem gX11_core_X11_isLane : GoodIn wsX11_core (va_wsS RX11 109 yX11_isLane wsX11_isLane) := goodIn_app (goodIn_of _ (by decide +kernel)) ggX11_core_X11_isLane
set_option maxRecDepth 20000 in
theorem ggX11_core_X11_faulted : GoodIn wsX11_core wsX11_faulted := goodIn_r _ [16, 1, 30, 31, 32, 33, 34, 35, 36, 37, 38] (by decide +kernel) (by decide +kernel)
set_option maxRecDepth 20000 in
theorem gX11_core_X11_faulted : GoodIn wsX11_core (wsV RX11 115 RX11 yX11_faulted wsX11_faulted) := goodIn_app (goodIn_of _ (by decide +kernel)) ggX11_core_X11_faulted
set_option maxRecDepth 20000 in
theorem ggX11_core_X1_renew : GoodIn wsX11_core wsX1_renew := goodIn_r _ [21, 22, 23, 24, 25, 26, 27, 28, 29, 39, 40, 41, 42] (by decide +kernel) (by decide +kernel)
set_option maxRecDepth 20000 in
theorem gX11_core_X1_renew : GoodIn wsX11_core (wsV RX11 241 RX1 yX1_renew wsX1_renew) := goodIn_app (goodIn_of _ (by decide +kernel)) ggX11_core_X1_renew
theorem dX11_core_0 : decode cX11_core 0 = .ok (.aload_n 0, 1) := by decide +kernel
theorem dX11_core_1 : decode cX11_core 1 = .ok (.iconst 0, 1) := by decide +kernel
theorem dX11_core_2 : decode cX11_core 2 = .ok (.putfield 63, 3) := by decide +kernel
theorem dX11_core_5 : decode cX11_core 5 = .ok (.iload_n 1, 1) := by decide +kernel
theorem dX11_core_6 : decode cX11_core 6 = .ok (.invokestatic 103, 3) := by decide +kernel
theorem dX11_core_9 : decode cX11_core 9 = .ok (.ifCond .ne 5, 3) := by decide +kernel
theorem dX11_core_12 : decode cX11_core 12 = .ok (.iconst (-1), 1) := by decide +kernel
theorem dX11_core_13 : decode cX11_core 13 = .ok (.ireturn, 1) := by decide +kernel
theorem dX11_core_14 : decode cX11_core 14 = .ok (.iload_n 2, 1) := by decide +kernel
theorem dX11_core_15 : decode cX11_core 15 = .ok (.invokestatic 109, 3) := by decide +kernel
theorem dX11_core_18 : decode cX11_core 18 = .ok (.ifCond .eq 9, 3) := by decide +kernel
theorem dX11_core_21 : decode cX11_core 21 = .ok (.iload_n 3, 1) := by decide +kernel
theorem dX11_core_22 : decode cX11_core 22 = .ok (.bipush 24, 2) := by decide +kernel
theorem dX11_core_24 : decode cX11_core 24 = .ok (.if_icmp .le 6, 3) := by decide +kernel
theorem dX11_core_27 : decode cX11_core 27 = .ok (.bipush (-2), 2) := by decide +kernel
theorem dX11_core_29 : decode cX11_core 29 = .ok (.ireturn, 1) := by decide +kernel
theorem dX11_core_30 : decode cX11_core 30 = .ok (.iload_n 3, 1) := by decide +kernel
theorem dX11_core_31 : decode cX11_core 31 = .ok (.ifCond .ge 9, 3) := by decide +kernel
theorem dX11_core_34 : decode cX11_core 34 = .ok (.aload_n 0, 1) := by decide +kernel
theorem dX11_core_35 : decode cX11_core 35 = .ok (.iconst 4, 1) := by decide +kernel
theorem dX11_core_36 : decode cX11_core 36 = .ok (.invokevirtual 115, 3) := by decide +kernel
theorem dX11_core_39 : decode cX11_core 39 = .ok (.ireturn, 1) := by decide +kernel
theorem dX11_core_40 : decode cX11_core 40 = .ok (.aload_n 0, 1) := by decide +kernel
theorem dX11_core_41 : decode cX11_core 41 = .ok (.getfield 43, 3) := by decide +kernel
theorem dX11_core_44 : decode cX11_core 44 = .ok (.iload_n 1, 1) := by decide +kernel
theorem dX11_core_45 : decode cX11_core 45 = .ok (.aaload, 1) := by decide +kernel
theorem dX11_core_46 : decode cX11_core 46 = .ok (.iload_n 2, 1) := by decide +kernel
theorem dX11_core_47 : decode cX11_core 47 = .ok (.iload_n 3, 1) := by decide +kernel
theorem dX11_core_48 : decode cX11_core 48 = .ok (.invokevirtual 241, 3) := by decide +kernel
theorem dX11_core_51 : decode cX11_core 51 = .ok (.iconst 1, 1) := by decide +kernel
theorem dX11_core_52 : decode cX11_core 52 = .ok (.ireturn, 1) := by decide +kernel
set_option maxRecDepth 20000 in
theorem ggX11_lose_X11_isCore : GoodIn wsX11_lose wsX11_isCore := goodIn_r _ [6, 7, 8, 5, 9] (by decide +kernel) (by decide +kernel)
set_option maxRecDepth 20000 in
theorem gX11_lose_X11_isCore : GoodIn wsX11_lose (va_wsS RX11 103 yX11_isCore wsX11_isCore) := goodIn_app (goodIn_of _ (by decide +kernel)) ggX11_lose_X11_isCore
theorem dX11_lose_0 : decode cX11_lose 0 = .ok (.iload_n 1, 1) := by decide +kernel
theorem dX11_lose_1 : decode cX11_lose 1 = .ok (.invokestatic 103, 3) := by decide +kernel
theorem dX11_lose_4 : decode cX11_lose 4 = .ok (.ifCond .ne 5, 3) := by decide +kernel
theorem dX11_lose_7 : decode cX11_lose 7 = .ok (.iconst (-1), 1) := by decide +kernel
theorem dX11_lose_8 : decode cX11_lose 8 = .ok (.ireturn, 1) := by decide +kernel
theorem dX11_lose_9 : decode cX11_lose 9 = .ok (.aload_n 0, 1) := by decide +kernel
theorem dX11_lose_10 : decode cX11_lose 10 = .ok (.getfield 43, 3) := by decide +kernel
theorem dX11_lose_13 : decode cX11_lose 13 = .ok (.iload_n 1, 1) := by decide +kernel
theorem dX11_lose_14 : decode cX11_lose 14 = .ok (.aaload, 1) := by decide +kernel
theorem dX11_lose_15 : decode cX11_lose 15 = .ok (.getfield 119, 3) := by decide +kernel
theorem dX11_lose_18 : decode cX11_lose 18 = .ok (.ifCond .ne 5, 3) := by decide +kernel
theorem dX11_lose_21 : decode cX11_lose 21 = .ok (.iconst 0, 1) := by decide +kernel
theorem dX11_lose_22 : decode cX11_lose 22 = .ok (.ireturn, 1) := by decide +kernel
theorem dX11_lose_23 : decode cX11_lose 23 = .ok (.aload_n 0, 1) := by decide +kernel
theorem dX11_lose_24 : decode cX11_lose 24 = .ok (.getfield 43, 3) := by decide +kernel
theorem dX11_lose_27 : decode cX11_lose 27 = .ok (.iload_n 1, 1) := by decide +kernel
theorem dX11_lose_28 : decode cX11_lose 28 = .ok (.aaload, 1) := by decide +kernel
theorem dX11_lose_29 : decode cX11_lose 29 = .ok (.iconst 0, 1) := by decide +kernel
theorem dX11_lose_30 : decode cX11_lose 30 = .ok (.putfield 119, 3) := by decide +kernel
theorem dX11_lose_33 : decode cX11_lose 33 = .ok (.iconst 1, 1) := by decide +kernel
theorem dX11_lose_34 : decode cX11_lose 34 = .ok (.ireturn, 1) := by decide +kernel
set_option maxRecDepth 20000 in
theorem ggX11_put_X11_isCore : GoodIn wsX11_put wsX11_isCore := goodIn_r _ [8, 9, 10, 7, 11] (by decide +kernel) (by decide +kernel)
set_option maxRecDepth 20000 in
theorem gX11_put_X11_isCore : GoodIn wsX11_put (va_wsS RX11 103 yX11_isCore wsX11_isCore) := goodIn_app (goodIn_of _ (by decide +kernel)) ggX11_put_X11_isCore
set_option maxRecDepth 20000 in
theorem ggX11_put_X11_faulted : GoodIn wsX11_put wsX11_faulted := goodIn_r _ [15, 1, 27, 28, 29, 30, 31, 32, 33, 34, 35] (by decide +kernel) (by decide +kernel)
set_option maxRecDepth 20000 in
theorem gX11_put_X11_faulted : GoodIn wsX11_put (wsV RX11 115 RX11 yX11_faulted wsX11_faulted) := goodIn_app (goodIn_of _ (by decide +kernel)) ggX11_put_X11_faulted
set_option maxRecDepth 20000 in
theorem ggX11_put_X1_hasCells : GoodIn wsX11_put wsX1_hasCells := goodIn_r _ [20, 21, 36, 37, 38, 39] (by decide +kernel) (by decide +kernel)
set_option maxRecDepth 20000 in
theorem gX11_put_X1_hasCells : GoodIn wsX11_put (wsV RX11 123 RX1 yX1_hasCells wsX1_hasCells) := goodIn_app (goodIn_of _ (by decide +kernel)) ggX11_put_X1_hasCells
set_option maxRecDepth 20000 in
theorem ggX11_put_X1_cut : GoodIn wsX11_put wsX1_cut := goodIn_r _ [25, 26, 36, 37, 38, 39] (by decide +kernel) (by decide +kernel)
set_option maxRecDepth 20000 in
theorem gX11_put_X1_cut : GoodIn wsX11_put (wsV RX11 244 RX1 yX1_cut wsX1_cut) := goodIn_app (goodIn_of _ (by decide +kernel)) ggX11_put_X1_cut
theorem dX11_put_0 : decode cX11_put 0 = .ok (.aload_n 0, 1) := by decide +kernel
theorem dX11_put_1 : decode cX11_put 1 = .ok (.iconst 0, 1) := by decide +kernel
theorem dX11_put_2 : decode cX11_put 2 = .ok (.putfield 63, 3) := by decide +kernel
theorem dX11_put_5 : decode cX11_put 5 = .ok (.iload_n 1, 1) := by decide +kernel
theorem dX11_put_6 : decode cX11_put 6 = .ok (.invokestatic 103, 3) := by decide +kernel
theorem dX11_put_9 : decode cX11_put 9 = .ok (.ifCond .ne 5, 3) := by decide +kernel
theorem dX11_put_12 : decode cX11_put 12 = .ok (.iconst (-1), 1) := by decide +kernel
theorem dX11_put_13 : decode cX11_put 13 = .ok (.ireturn, 1) := by decide +kernel
theorem dX11_put_14 : decode cX11_put 14 = .ok (.aload_n 0, 1) := by decide +kernel
theorem dX11_put_15 : decode cX11_put 15 = .ok (.getfield 43, 3) := by decide +kernel
theorem dX11_put_18 : decode cX11_put 18 = .ok (.iload_n 1, 1) := by decide +kernel
theorem dX11_put_19 : decode cX11_put 19 = .ok (.aaload, 1) := by decide +kernel
theorem dX11_put_20 : decode cX11_put 20 = .ok (.astore 5, 2) := by decide +kernel
theorem dX11_put_22 : decode cX11_put 22 = .ok (.aload 5, 2) := by decide +kernel
theorem dX11_put_24 : decode cX11_put 24 = .ok (.getfield 119, 3) := by decide +kernel
theorem dX11_put_27 : decode cX11_put 27 = .ok (.ifCond .ne 9, 3) := by decide +kernel
theorem dX11_put_30 : decode cX11_put 30 = .ok (.aload_n 0, 1) := by decide +kernel
theorem dX11_put_31 : decode cX11_put 31 = .ok (.iconst 1, 1) := by decide +kernel
theorem dX11_put_32 : decode cX11_put 32 = .ok (.invokevirtual 115, 3) := by decide +kernel
theorem dX11_put_35 : decode cX11_put 35 = .ok (.ireturn, 1) := by decide +kernel
theorem dX11_put_36 : decode cX11_put 36 = .ok (.aload 5, 2) := by decide +kernel
theorem dX11_put_38 : decode cX11_put 38 = .ok (.iload_n 2, 1) := by decide +kernel
theorem dX11_put_39 : decode cX11_put 39 = .ok (.iconst 1, 1) := by decide +kernel
theorem dX11_put_40 : decode cX11_put 40 = .ok (.invokevirtual 123, 3) := by decide +kernel
theorem dX11_put_43 : decode cX11_put 43 = .ok (.ifCond .ne 9, 3) := by decide +kernel
theorem dX11_put_46 : decode cX11_put 46 = .ok (.aload_n 0, 1) := by decide +kernel
theorem dX11_put_47 : decode cX11_put 47 = .ok (.iconst 3, 1) := by decide +kernel
theorem dX11_put_48 : decode cX11_put 48 = .ok (.invokevirtual 115, 3) := by decide +kernel
theorem dX11_put_51 : decode cX11_put 51 = .ok (.ireturn, 1) := by decide +kernel
theorem dX11_put_52 : decode cX11_put 52 = .ok (.aload 5, 2) := by decide +kernel
theorem dX11_put_54 : decode cX11_put 54 = .ok (.getfield 131, 3) := by decide +kernel
theorem dX11_put_57 : decode cX11_put 57 = .ok (.iload_n 2, 1) := by decide +kernel
theorem dX11_put_58 : decode cX11_put 58 = .ok (.aload 5, 2) := by decide +kernel
theorem dX11_put_60 : decode cX11_put 60 = .ok (.lload_n 3, 1) := by decide +kernel
theorem dX11_put_61 : decode cX11_put 61 = .ok (.invokevirtual 244, 3) := by decide +kernel
theorem dX11_put_64 : decode cX11_put 64 = .ok (.lastore, 1) := by decide +kernel
theorem dX11_put_65 : decode cX11_put 65 = .ok (.iconst 1, 1) := by decide +kernel
theorem dX11_put_66 : decode cX11_put 66 = .ok (.ireturn, 1) := by decide +kernel
set_option maxRecDepth 20000 in
theorem ggX11_cell_X11_isCore : GoodIn wsX11_cell wsX11_isCore := goodIn_r _ [9, 10, 11, 8, 12] (by decide +kernel) (by decide +kernel)
set_option maxRecDepth 20000 in
theorem gX11_cell_X11_isCore : GoodIn wsX11_cell (va_wsS RX11 103 yX11_isCore wsX11_isCore) := goodIn_app (goodIn_of _ (by decide +kernel)) ggX11_cell_X11_isCore
set_option maxRecDepth 20000 in
theorem ggX11_cell_X11_isLane : GoodIn wsX11_cell wsX11_isLane := goodIn_r _ [15, 10, 11, 8, 12] (by decide +kernel) (by decide +kernel)
set_option maxRecDepth 20000 in
theorem gX11_cell_X11_isLane : GoodIn wsX11_cell (va_wsS RX11 109 yX11_isLane wsX11_isLane) := goodIn_app (goodIn_of _ (by decide +kernel)) ggX11_cell_X11_isLane
set_option maxRecDepth 20000 in
theorem ggX11_cell_X1_isOfAnotherLane : GoodIn wsX11_cell wsX1_isOfAnotherLane := goodIn_r _ [20, 21, 22, 41, 42, 43, 44] (by decide +kernel) (by decide +kernel)
set_option maxRecDepth 20000 in
theorem gX11_cell_X1_isOfAnotherLane : GoodIn wsX11_cell (wsV RX11 112 RX1 yX1_isOfAnotherLane wsX1_isOfAnotherLane) := goodIn_app (goodIn_of _ (by decide +kernel)) ggX11_cell_X1_isOfAnotherLane
set_option maxRecDepth 20000 in
theorem ggX11_cell_X11_lost : GoodIn wsX11_cell wsX11_lost := goodIn_r _ [26, 1, 2, 32, 33, 34, 35, 36, 37, 38, 39, 40] (by decide +kernel) (by decide +kernel)
set_option maxRecDepth 20000 in
theorem gX11_cell_X11_lost : GoodIn wsX11_cell (wsV RX11 248 RX11 yX11_lost wsX11_lost) := goodIn_app (goodIn_of _ (by decide +kernel)) ggX11_cell_X11_lost
set_option maxRecDepth 20000 in
theorem ggX11_cell_X1_hasCells : GoodIn wsX11_cell wsX1_hasCells := goodIn_r _ [30, 31, 41, 42, 43, 44] (by decide +kernel) (by decide +kernel)
set_option maxRecDepth 20000 in
theorem gX11_cell_X1_hasCells : GoodIn wsX11_cell (wsV RX11 123 RX1 yX1_hasCells wsX1_hasCells) := goodIn_app (goodIn_of _ (by decide +kernel)) ggX11_cell_X1_hasCells
theorem dX11_cell_0 : decode cX11_cell 0 = .ok (.aload_n 0, 1) := by decide +kernel
theorem dX11_cell_1 : decode cX11_cell 1 = .ok (.iconst 0, 1) := by decide +kernel
theorem dX11_cell_2 : decode cX11_cell 2 = .ok (.putfield 63, 3) := by decide +kernel
theorem dX11_cell_5 : decode cX11_cell 5 = .ok (.iload_n 1, 1) := by decide +kernel
theorem dX11_cell_6 : decode cX11_cell 6 = .ok (.invokestatic 103, 3) := by decide +kernel
theorem dX11_cell_9 : decode cX11_cell 9 = .ok (.ifCond .eq 10, 3) := by decide +kernel
theorem dX11_cell_12 : decode cX11_cell 12 = .ok (.iload_n 3, 1) := by decide +kernel
theorem dX11_cell_13 : decode cX11_cell 13 = .ok (.invokestatic 109, 3) := by decide +kernel
theorem dX11_cell_16 : decode cX11_cell 16 = .ok (.ifCond .ne 7, 3) := by decide +kernel
theorem dX11_cell_19 : decode cX11_cell 19 = .ok (.ldc2_w 178, 3) := by decide +kernel
theorem dX11_cell_22 : decode cX11_cell 22 = .ok (.lreturn, 1) := by decide +kernel
theorem dX11_cell_23 : decode cX11_cell 23 = .ok (.aload_n 0, 1) := by decide +kernel
theorem dX11_cell_24 : decode cX11_cell 24 = .ok (.getfield 43, 3) := by decide +kernel
theorem dX11_cell_27 : decode cX11_cell 27 = .ok (.iload_n 1, 1) := by decide +kernel
theorem dX11_cell_28 : decode cX11_cell 28 = .ok (.aaload, 1) := by decide +kernel
theorem dX11_cell_29 : decode cX11_cell 29 = .ok (.astore 4, 2) := by decide +kernel
theorem dX11_cell_31 : decode cX11_cell 31 = .ok (.aload 4, 2) := by decide +kernel
theorem dX11_cell_33 : decode cX11_cell 33 = .ok (.iload_n 3, 1) := by decide +kernel
theorem dX11_cell_34 : decode cX11_cell 34 = .ok (.invokevirtual 112, 3) := by decide +kernel
theorem dX11_cell_37 : decode cX11_cell 37 = .ok (.ifCond .eq 9, 3) := by decide +kernel
theorem dX11_cell_40 : decode cX11_cell 40 = .ok (.aload_n 0, 1) := by decide +kernel
theorem dX11_cell_41 : decode cX11_cell 41 = .ok (.iconst 2, 1) := by decide +kernel
theorem dX11_cell_42 : decode cX11_cell 42 = .ok (.invokevirtual 248, 3) := by decide +kernel
theorem dX11_cell_45 : decode cX11_cell 45 = .ok (.lreturn, 1) := by decide +kernel
theorem dX11_cell_46 : decode cX11_cell 46 = .ok (.aload 4, 2) := by decide +kernel
theorem dX11_cell_48 : decode cX11_cell 48 = .ok (.getfield 119, 3) := by decide +kernel
theorem dX11_cell_51 : decode cX11_cell 51 = .ok (.ifCond .ne 9, 3) := by decide +kernel
theorem dX11_cell_54 : decode cX11_cell 54 = .ok (.aload_n 0, 1) := by decide +kernel
theorem dX11_cell_55 : decode cX11_cell 55 = .ok (.iconst 1, 1) := by decide +kernel
theorem dX11_cell_56 : decode cX11_cell 56 = .ok (.invokevirtual 248, 3) := by decide +kernel
theorem dX11_cell_59 : decode cX11_cell 59 = .ok (.lreturn, 1) := by decide +kernel
theorem dX11_cell_60 : decode cX11_cell 60 = .ok (.aload 4, 2) := by decide +kernel
theorem dX11_cell_62 : decode cX11_cell 62 = .ok (.iload_n 2, 1) := by decide +kernel
theorem dX11_cell_63 : decode cX11_cell 63 = .ok (.iconst 1, 1) := by decide +kernel
theorem dX11_cell_64 : decode cX11_cell 64 = .ok (.invokevirtual 123, 3) := by decide +kernel
theorem dX11_cell_67 : decode cX11_cell 67 = .ok (.ifCond .ne 9, 3) := by decide +kernel
theorem dX11_cell_70 : decode cX11_cell 70 = .ok (.aload_n 0, 1) := by decide +kernel
theorem dX11_cell_71 : decode cX11_cell 71 = .ok (.iconst 3, 1) := by decide +kernel
theorem dX11_cell_72 : decode cX11_cell 72 = .ok (.invokevirtual 248, 3) := by decide +kernel
theorem dX11_cell_75 : decode cX11_cell 75 = .ok (.lreturn, 1) := by decide +kernel
theorem dX11_cell_76 : decode cX11_cell 76 = .ok (.aload 4, 2) := by decide +kernel
theorem dX11_cell_78 : decode cX11_cell 78 = .ok (.getfield 131, 3) := by decide +kernel
theorem dX11_cell_81 : decode cX11_cell 81 = .ok (.iload_n 2, 1) := by decide +kernel
theorem dX11_cell_82 : decode cX11_cell 82 = .ok (.laload, 1) := by decide +kernel
theorem dX11_cell_83 : decode cX11_cell 83 = .ok (.lreturn, 1) := by decide +kernel
set_option maxRecDepth 20000 in
theorem ggX11_copy_X11_isCore : GoodIn wsX11_copy wsX11_isCore := goodIn_r _ [13, 14, 15, 12, 16] (by decide +kernel) (by decide +kernel)
set_option maxRecDepth 20000 in
theorem gX11_copy_X11_isCore : GoodIn wsX11_copy (va_wsS RX11 103 yX11_isCore wsX11_isCore) := goodIn_app (goodIn_of _ (by decide +kernel)) ggX11_copy_X11_isCore
set_option maxRecDepth 20000 in
theorem ggX11_copy_X11_faulted : GoodIn wsX11_copy wsX11_faulted := goodIn_r _ [20, 1, 27, 28, 29, 30, 31, 32, 33, 34, 35] (by decide +kernel) (by decide +kernel)
set_option maxRecDepth 20000 in
theorem gX11_copy_X11_faulted : GoodIn wsX11_copy (wsV RX11 115 RX11 yX11_faulted wsX11_faulted) := goodIn_app (goodIn_of _ (by decide +kernel)) ggX11_copy_X11_faulted
set_option maxRecDepth 20000 in
theorem ggX11_copy_X1_hasCells : GoodIn wsX11_copy wsX1_hasCells := goodIn_r _ [25, 26, 36, 37, 38, 39] (by decide +kernel) (by decide +kernel)
set_option maxRecDepth 20000 in
theorem gX11_copy_X1_hasCells : GoodIn wsX11_copy (wsV RX11 123 RX1 yX1_hasCells wsX1_hasCells) := goodIn_app (goodIn_of _ (by decide +kernel)) ggX11_copy_X1_hasCells
theorem dX11_copy_0 : decode cX11_copy 0 = .ok (.aload_n 0, 1) := by decide +kernel
theorem dX11_copy_1 : decode cX11_copy 1 = .ok (.iconst 0, 1) := by decide +kernel
theorem dX11_copy_2 : decode cX11_copy 2 = .ok (.putfield 63, 3) := by decide +kernel
theorem dX11_copy_5 : decode cX11_copy 5 = .ok (.iload_n 1, 1) := by decide +kernel
theorem dX11_copy_6 : decode cX11_copy 6 = .ok (.invokestatic 103, 3) := by decide +kernel
theorem dX11_copy_9 : decode cX11_copy 9 = .ok (.ifCond .eq 10, 3) := by decide +kernel
theorem dX11_copy_12 : decode cX11_copy 12 = .ok (.iload_n 3, 1) := by decide +kernel
theorem dX11_copy_13 : decode cX11_copy 13 = .ok (.invokestatic 103, 3) := by decide +kernel
theorem dX11_copy_16 : decode cX11_copy 16 = .ok (.ifCond .ne 5, 3) := by decide +kernel
theorem dX11_copy_19 : decode cX11_copy 19 = .ok (.iconst (-1), 1) := by decide +kernel
theorem dX11_copy_20 : decode cX11_copy 20 = .ok (.ireturn, 1) := by decide +kernel
theorem dX11_copy_21 : decode cX11_copy 21 = .ok (.aload_n 0, 1) := by decide +kernel
theorem dX11_copy_22 : decode cX11_copy 22 = .ok (.getfield 43, 3) := by decide +kernel
theorem dX11_copy_25 : decode cX11_copy 25 = .ok (.iload_n 1, 1) := by decide +kernel
theorem dX11_copy_26 : decode cX11_copy 26 = .ok (.aaload, 1) := by decide +kernel
theorem dX11_copy_27 : decode cX11_copy 27 = .ok (.astore 6, 2) := by decide +kernel
theorem dX11_copy_29 : decode cX11_copy 29 = .ok (.aload_n 0, 1) := by decide +kernel
theorem dX11_copy_30 : decode cX11_copy 30 = .ok (.getfield 43, 3) := by decide +kernel
theorem dX11_copy_33 : decode cX11_copy 33 = .ok (.iload_n 3, 1) := by decide +kernel
theorem dX11_copy_34 : decode cX11_copy 34 = .ok (.aaload, 1) := by decide +kernel
theorem dX11_copy_35 : decode cX11_copy 35 = .ok (.astore 7, 2) := by decide +kernel
theorem dX11_copy_37 : decode cX11_copy 37 = .ok (.aload 6, 2) := by decide +kernel
theorem dX11_copy_39 : decode cX11_copy 39 = .ok (.getfield 119, 3) := by decide +kernel
theorem dX11_copy_42 : decode cX11_copy 42 = .ok (.ifCond .eq 11, 3) := by decide +kernel
theorem dX11_copy_45 : decode cX11_copy 45 = .ok (.aload 7, 2) := by decide +kernel
theorem dX11_copy_47 : decode cX11_copy 47 = .ok (.getfield 119, 3) := by decide +kernel
theorem dX11_copy_50 : decode cX11_copy 50 = .ok (.ifCond .ne 9, 3) := by decide +kernel
theorem dX11_copy_53 : decode cX11_copy 53 = .ok (.aload_n 0, 1) := by decide +kernel
theorem dX11_copy_54 : decode cX11_copy 54 = .ok (.iconst 1, 1) := by decide +kernel
theorem dX11_copy_55 : decode cX11_copy 55 = .ok (.invokevirtual 115, 3) := by decide +kernel
theorem dX11_copy_58 : decode cX11_copy 58 = .ok (.ireturn, 1) := by decide +kernel
theorem dX11_copy_59 : decode cX11_copy 59 = .ok (.aload 6, 2) := by decide +kernel
theorem dX11_copy_61 : decode cX11_copy 61 = .ok (.getfield 251, 3) := by decide +kernel
theorem dX11_copy_64 : decode cX11_copy 64 = .ok (.aload 7, 2) := by decide +kernel
theorem dX11_copy_66 : decode cX11_copy 66 = .ok (.getfield 251, 3) := by decide +kernel
theorem dX11_copy_69 : decode cX11_copy 69 = .ok (.if_icmp .eq 9, 3) := by decide +kernel
theorem dX11_copy_72 : decode cX11_copy 72 = .ok (.aload_n 0, 1) := by decide +kernel
theorem dX11_copy_73 : decode cX11_copy 73 = .ok (.iconst 2, 1) := by decide +kernel
theorem dX11_copy_74 : decode cX11_copy 74 = .ok (.invokevirtual 115, 3) := by decide +kernel
theorem dX11_copy_77 : decode cX11_copy 77 = .ok (.ireturn, 1) := by decide +kernel
theorem dX11_copy_78 : decode cX11_copy 78 = .ok (.iload 5, 2) := by decide +kernel
theorem dX11_copy_80 : decode cX11_copy 80 = .ok (.ifCond .lt 26, 3) := by decide +kernel
theorem dX11_copy_83 : decode cX11_copy 83 = .ok (.aload 6, 2) := by decide +kernel
theorem dX11_copy_85 : decode cX11_copy 85 = .ok (.iload_n 2, 1) := by decide +kernel
theorem dX11_copy_86 : decode cX11_copy 86 = .ok (.iload 5, 2) := by decide +kernel
theorem dX11_copy_88 : decode cX11_copy 88 = .ok (.invokevirtual 123, 3) := by decide +kernel
theorem dX11_copy_91 : decode cX11_copy 91 = .ok (.ifCond .eq 15, 3) := by decide +kernel
theorem dX11_copy_94 : decode cX11_copy 94 = .ok (.aload 7, 2) := by decide +kernel
theorem dX11_copy_96 : decode cX11_copy 96 = .ok (.iload 4, 2) := by decide +kernel
theorem dX11_copy_98 : decode cX11_copy 98 = .ok (.iload 5, 2) := by decide +kernel
theorem dX11_copy_100 : decode cX11_copy 100 = .ok (.invokevirtual 123, 3) := by decide +kernel
theorem dX11_copy_103 : decode cX11_copy 103 = .ok (.ifCond .ne 9, 3) := by decide +kernel
theorem dX11_copy_106 : decode cX11_copy 106 = .ok (.aload_n 0, 1) := by decide +kernel
theorem dX11_copy_107 : decode cX11_copy 107 = .ok (.iconst 3, 1) := by decide +kernel
theorem dX11_copy_108 : decode cX11_copy 108 = .ok (.invokevirtual 115, 3) := by decide +kernel
theorem dX11_copy_111 : decode cX11_copy 111 = .ok (.ireturn, 1) := by decide +kernel
theorem dX11_copy_112 : decode cX11_copy 112 = .ok (.aload 6, 2) := by decide +kernel
theorem dX11_copy_114 : decode cX11_copy 114 = .ok (.getfield 131, 3) := by decide +kernel
theorem dX11_copy_117 : decode cX11_copy 117 = .ok (.iload_n 2, 1) := by decide +kernel
theorem dX11_copy_118 : decode cX11_copy 118 = .ok (.aload 7, 2) := by decide +kernel
theorem dX11_copy_120 : decode cX11_copy 120 = .ok (.getfield 131, 3) := by decide +kernel
theorem dX11_copy_123 : decode cX11_copy 123 = .ok (.iload 4, 2) := by decide +kernel
theorem dX11_copy_125 : decode cX11_copy 125 = .ok (.iload 5, 2) := by decide +kernel
theorem dX11_copy_127 : decode cX11_copy 127 = .ok (.invokestatic 254, 3) := by decide +kernel
theorem dX11_copy_130 : decode cX11_copy 130 = .ok (.iload 5, 2) := by decide +kernel
theorem dX11_copy_132 : decode cX11_copy 132 = .ok (.ireturn, 1) := by decide +kernel
set_option maxRecDepth 20000 in
theorem ggX11_tell_X5_hasCrack : GoodIn wsX11_tell wsX5_hasCrack := goodIn_r _ [8, 9, 73, 74, 75, 76, 77, 78, 79] (by decide +kernel) (by decide +kernel)
set_option maxRecDepth 20000 in
theorem gX11_tell_X5_hasCrack : GoodIn wsX11_tell (wsV RX11 106 RX5 yX5_hasCrack wsX5_hasCrack) := goodIn_app (goodIn_of _ (by decide +kernel)) ggX11_tell_X5_hasCrack
set_option maxRecDepth 20000 in
theorem ggX11_tell_X0_telling : GoodIn wsX11_tell wsX0_telling := goodIn_r _ [16, 17, 18, 19, 20, 21, 22, 23, 24, 25, 26, 27, 28, 29, 30, 80, 81, 82, 83, 84, 85, 86, 87, 88, 89, 90, 91, 92, 93, 94, 95, 96, 97, 98, 99, 100, 101, 102, 103, 104, 105] (by decide +kernel) (by decide +kernel)
set_option maxRecDepth 20000 in
theorem gX11_tell_X0_telling_u260X0 : GoodIn wsX11_tell (va_wsO RX11 260 RX0 "WideningCracks$Crack" ⟨"WideningCracks$Crack", "telling", "(LWideningCracks$Trace;)I"⟩ yX0_telling wsX0_telling) := goodIn_app (goodIn_of _ (by decide +kernel)) ggX11_tell_X0_telling
set_option maxRecDepth 20000 in
theorem ggX11_tell_X2_telling : GoodIn wsX11_tell wsX2_telling := goodIn_r _ [31, 35, 36, 37, 26, 27, 28, 29, 30, 18, 19, 20, 21, 22, 38, 39, 40, 41, 42, 81, 82, 83, 84, 85, 86, 87, 88, 89, 90, 91, 92, 93, 94, 95, 96, 97, 98, 99, 100, 101, 102, 103, 104, 105, 80] (by decide +kernel) (by decide +kernel)
set_option maxRecDepth 20000 in
theorem gX11_tell_X2_telling : GoodIn wsX11_tell (wsV RX11 260 RX2 yX2_telling wsX2_telling) := goodIn_app (goodIn_of _ (by decide +kernel)) ggX11_tell_X2_telling
set_option maxRecDepth 20000 in
theorem ggX11_tell_X10_telling : GoodIn wsX11_tell wsX10_telling := goodIn_r _ [46, 47, 18, 19, 20, 21, 22, 48, 49, 50, 26, 27, 28, 29, 30, 51, 52, 80, 81, 82, 83, 84, 85, 86, 87, 88, 89, 90, 91, 92, 93, 94, 95, 96, 97, 98, 99, 100, 101, 102, 103, 104, 105] (by decide +kernel) (by decide +kernel)
set_option maxRecDepth 20000 in
theorem gX11_tell_X10_telling_u260X3 : GoodIn wsX11_tell (va_wsO RX11 260 RX3 "WideningCracks$Crack" ⟨"WideningCracks$Crack", "telling", "(LWideningCracks$Trace;)I"⟩ yX10_telling wsX10_telling) := goodIn_app (goodIn_of _ (by decide +kernel)) ggX11_tell_X10_telling
set_option maxRecDepth 20000 in
theorem ggX11_tell_X7_telling : GoodIn wsX11_tell wsX7_telling := goodIn_r _ [56, 57, 58, 59, 18, 19, 20, 21, 22, 60, 61, 62, 26, 27, 28, 29, 30, 81, 82, 83, 84, 85, 86, 87, 88, 89, 90, 91, 92, 93, 94, 95, 96, 97, 98, 99, 100, 101, 102, 103, 104, 105, 80] (by decide +kernel) (by decide +kernel)
set_option maxRecDepth 20000 in
theorem gX11_tell_X7_telling_u260X7 : GoodIn wsX11_tell (va_wsO RX11 260 RX7 "WideningCracks$Crack" ⟨"WideningCracks$Crack", "telling", "(LWideningCracks$Trace;)I"⟩ yX7_telling wsX7_telling) := goodIn_app (goodIn_of _ (by decide +kernel)) ggX11_tell_X7_telling
set_option maxRecDepth 20000 in
theorem gX11_tell_X10_telling_u260X10 : GoodIn wsX11_tell (va_wsO RX11 260 RX10 "WideningCracks$Crack" ⟨"WideningCracks$Crack", "telling", "(LWideningCracks$Trace;)I"⟩ yX10_telling wsX10_telling) := goodIn_app (goodIn_of _ (by decide +kernel)) ggX11_tell_X10_telling
theorem dX11_tell_0 : decode cX11_tell 0 = .ok (.aload_n 0, 1) := by decide +kernel
theorem dX11_tell_1 : decode cX11_tell 1 = .ok (.getfield 12, 3) := by decide +kernel
theorem dX11_tell_4 : decode cX11_tell 4 = .ok (.iload_n 1, 1) := by decide +kernel
theorem dX11_tell_5 : decode cX11_tell 5 = .ok (.invokevirtual 106, 3) := by decide +kernel
theorem dX11_tell_8 : decode cX11_tell 8 = .ok (.ifCond .ne 5, 3) := by decide +kernel
theorem dX11_tell_11 : decode cX11_tell 11 = .ok (.iconst (-1), 1) := by decide +kernel
theorem dX11_tell_12 : decode cX11_tell 12 = .ok (.ireturn, 1) := by decide +kernel
theorem dX11_tell_13 : decode cX11_tell 13 = .ok (.aload_n 0, 1) := by decide +kernel
theorem dX11_tell_14 : decode cX11_tell 14 = .ok (.getfield 12, 3) := by decide +kernel
theorem dX11_tell_17 : decode cX11_tell 17 = .ok (.getfield 138, 3) := by decide +kernel
theorem dX11_tell_20 : decode cX11_tell 20 = .ok (.iload_n 1, 1) := by decide +kernel
theorem dX11_tell_21 : decode cX11_tell 21 = .ok (.aaload, 1) := by decide +kernel
theorem dX11_tell_22 : decode cX11_tell 22 = .ok (.aload_n 0, 1) := by decide +kernel
theorem dX11_tell_23 : decode cX11_tell 23 = .ok (.getfield 51, 3) := by decide +kernel
theorem dX11_tell_26 : decode cX11_tell 26 = .ok (.invokevirtual 260, 3) := by decide +kernel
theorem dX11_tell_29 : decode cX11_tell 29 = .ok (.ireturn, 1) := by decide +kernel
set_option maxRecDepth 20000 in
theorem ggX11_judge_X5_hasCrack : GoodIn wsX11_judge wsX5_hasCrack := goodIn_r _ [8, 9, 65, 66, 67, 68, 69, 70, 71] (by decide +kernel) (by decide +kernel)
set_option maxRecDepth 20000 in
theorem gX11_judge_X5_hasCrack : GoodIn wsX11_judge (wsV RX11 106 RX5 yX5_hasCrack wsX5_hasCrack) := goodIn_app (goodIn_of _ (by decide +kernel)) ggX11_judge_X5_hasCrack
set_option maxRecDepth 20000 in
theorem ggX11_judge_X2_judgement : GoodIn wsX11_judge wsX2_judgement := goodIn_r _ [15, 16, 17, 18, 19, 20, 21, 22, 23, 24, 25, 26, 27, 28, 29, 30, 31, 32, 14, 33, 34, 35, 36, 37, 38, 39, 40, 41, 42, 43, 44, 72] (by decide +kernel) (by decide +kernel)
set_option maxRecDepth 20000 in
theorem gX11_judge_X2_judgement_u264X0 : GoodIn wsX11_judge (va_wsU RX11 264 RX0 "WideningCracks$Crack" ⟨"WideningCracks$Crack", "judgement", "(LWideningCracks$Trace;)I"⟩ yX2_judgement wsX2_judgement) := goodIn_app (goodIn_of _ (by decide +kernel)) ggX11_judge_X2_judgement
set_option maxRecDepth 20000 in
theorem gX11_judge_X2_judgement : GoodIn wsX11_judge (wsV RX11 264 RX2 yX2_judgement wsX2_judgement) := goodIn_app (goodIn_of _ (by decide +kernel)) ggX11_judge_X2_judgement
set_option maxRecDepth 20000 in
theorem ggX11_judge_X3_judgement : GoodIn wsX11_judge wsX3_judgement := goodIn_r _ [50, 51, 52, 53, 17, 18, 19, 20, 21, 73, 74, 75, 76, 77, 78, 79, 80, 81, 82, 83, 84, 85, 86, 87, 88, 89, 90, 91, 92, 93, 94, 95, 96, 97, 72] (by decide +kernel) (by decide +kernel)
set_option maxRecDepth 20000 in
theorem gX11_judge_X3_judgement_u264X3 : GoodIn wsX11_judge (va_wsO RX11 264 RX3 "WideningCracks$Crack" ⟨"WideningCracks$Crack", "judgement", "(LWideningCracks$Trace;)I"⟩ yX3_judgement wsX3_judgement) := goodIn_app (goodIn_of _ (by decide +kernel)) ggX11_judge_X3_judgement
set_option maxRecDepth 20000 in
theorem gX11_judge_X3_judgement_u264X7 : GoodIn wsX11_judge (va_wsO RX11 264 RX7 "WideningCracks$Crack" ⟨"WideningCracks$Crack", "judgement", "(LWideningCracks$Trace;)I"⟩ yX3_judgement wsX3_judgement) := goodIn_app (goodIn_of _ (by decide +kernel)) ggX11_judge_X3_judgement
set_option maxRecDepth 20000 in
theorem gX11_judge_X2_judgement_u264X10 : GoodIn wsX11_judge (va_wsU RX11 264 RX10 "WideningCracks$Crack" ⟨"WideningCracks$Crack", "judgement", "(LWideningCracks$Trace;)I"⟩ yX2_judgement wsX2_judgement) := goodIn_app (goodIn_of _ (by decide +kernel)) ggX11_judge_X2_judgement
theorem dX11_judge_0 : decode cX11_judge 0 = .ok (.aload_n 0, 1) := by decide +kernel
theorem dX11_judge_1 : decode cX11_judge 1 = .ok (.getfield 12, 3) := by decide +kernel
theorem dX11_judge_4 : decode cX11_judge 4 = .ok (.iload_n 1, 1) := by decide +kernel
theorem dX11_judge_5 : decode cX11_judge 5 = .ok (.invokevirtual 106, 3) := by decide +kernel
theorem dX11_judge_8 : decode cX11_judge 8 = .ok (.ifCond .ne 5, 3) := by decide +kernel
theorem dX11_judge_11 : decode cX11_judge 11 = .ok (.iconst (-1), 1) := by decide +kernel
theorem dX11_judge_12 : decode cX11_judge 12 = .ok (.ireturn, 1) := by decide +kernel
theorem dX11_judge_13 : decode cX11_judge 13 = .ok (.aload_n 0, 1) := by decide +kernel
theorem dX11_judge_14 : decode cX11_judge 14 = .ok (.getfield 12, 3) := by decide +kernel
theorem dX11_judge_17 : decode cX11_judge 17 = .ok (.getfield 138, 3) := by decide +kernel
theorem dX11_judge_20 : decode cX11_judge 20 = .ok (.iload_n 1, 1) := by decide +kernel
theorem dX11_judge_21 : decode cX11_judge 21 = .ok (.aaload, 1) := by decide +kernel
theorem dX11_judge_22 : decode cX11_judge 22 = .ok (.aload_n 0, 1) := by decide +kernel
theorem dX11_judge_23 : decode cX11_judge 23 = .ok (.getfield 51, 3) := by decide +kernel
theorem dX11_judge_26 : decode cX11_judge 26 = .ok (.invokevirtual 264, 3) := by decide +kernel
theorem dX11_judge_29 : decode cX11_judge 29 = .ok (.ireturn, 1) := by decide +kernel
set_option maxRecDepth 20000 in
theorem ggX11_as_X5_hasCrack : GoodIn wsX11_as wsX5_hasCrack := goodIn_r _ [8, 9, 37, 38, 39, 40, 41, 42, 43] (by decide +kernel) (by decide +kernel)
set_option maxRecDepth 20000 in
theorem gX11_as_X5_hasCrack : GoodIn wsX11_as (wsV RX11 106 RX5 yX5_hasCrack wsX5_hasCrack) := goodIn_app (goodIn_of _ (by decide +kernel)) ggX11_as_X5_hasCrack
set_option maxRecDepth 20000 in
theorem ggX11_as_X11_isKind : GoodIn wsX11_as wsX11_isKind := goodIn_r _ [13, 14, 15, 12, 16] (by decide +kernel) (by decide +kernel)
set_option maxRecDepth 20000 in
theorem gX11_as_X11_isKind : GoodIn wsX11_as (va_wsS RX11 89 yX11_isKind wsX11_isKind) := goodIn_app (goodIn_of _ (by decide +kernel)) ggX11_as_X11_isKind
set_option maxRecDepth 20000 in
theorem ggX11_as_X11_isOfKind : GoodIn wsX11_as wsX11_isOfKind := goodIn_r _ [19, 20, 21, 22, 23] (by decide +kernel) (by decide +kernel)
set_option maxRecDepth 20000 in
theorem gX11_as_X11_isOfKind : GoodIn wsX11_as (va_wsS RX11 267 yX11_isOfKind wsX11_isOfKind) := goodIn_app (goodIn_of _ (by decide +kernel)) ggX11_as_X11_isOfKind
set_option maxRecDepth 20000 in
theorem ggX11_as_X11_faulted : GoodIn wsX11_as wsX11_faulted := goodIn_r _ [27, 1, 28, 29, 30, 31, 32, 33, 34, 35, 36] (by decide +kernel) (by decide +kernel)
set_option maxRecDepth 20000 in
theorem gX11_as_X11_faulted : GoodIn wsX11_as (wsV RX11 115 RX11 yX11_faulted wsX11_faulted) := goodIn_app (goodIn_of _ (by decide +kernel)) ggX11_as_X11_faulted
theorem dX11_as_0 : decode cX11_as 0 = .ok (.aload_n 0, 1) := by decide +kernel
theorem dX11_as_1 : decode cX11_as 1 = .ok (.iconst 0, 1) := by decide +kernel
theorem dX11_as_2 : decode cX11_as 2 = .ok (.putfield 63, 3) := by decide +kernel
theorem dX11_as_5 : decode cX11_as 5 = .ok (.aload_n 0, 1) := by decide +kernel
theorem dX11_as_6 : decode cX11_as 6 = .ok (.getfield 12, 3) := by decide +kernel
theorem dX11_as_9 : decode cX11_as 9 = .ok (.iload_n 1, 1) := by decide +kernel
theorem dX11_as_10 : decode cX11_as 10 = .ok (.invokevirtual 106, 3) := by decide +kernel
theorem dX11_as_13 : decode cX11_as 13 = .ok (.ifCond .ne 5, 3) := by decide +kernel
theorem dX11_as_16 : decode cX11_as 16 = .ok (.iconst (-1), 1) := by decide +kernel
theorem dX11_as_17 : decode cX11_as 17 = .ok (.ireturn, 1) := by decide +kernel
theorem dX11_as_18 : decode cX11_as 18 = .ok (.iload_n 2, 1) := by decide +kernel
theorem dX11_as_19 : decode cX11_as 19 = .ok (.invokestatic 89, 3) := by decide +kernel
theorem dX11_as_22 : decode cX11_as 22 = .ok (.ifCond .ne 6, 3) := by decide +kernel
theorem dX11_as_25 : decode cX11_as 25 = .ok (.bipush (-2), 2) := by decide +kernel
theorem dX11_as_27 : decode cX11_as 27 = .ok (.ireturn, 1) := by decide +kernel
theorem dX11_as_28 : decode cX11_as 28 = .ok (.aload_n 0, 1) := by decide +kernel
theorem dX11_as_29 : decode cX11_as 29 = .ok (.getfield 12, 3) := by decide +kernel
theorem dX11_as_32 : decode cX11_as 32 = .ok (.getfield 138, 3) := by decide +kernel
theorem dX11_as_35 : decode cX11_as 35 = .ok (.iload_n 1, 1) := by decide +kernel
theorem dX11_as_36 : decode cX11_as 36 = .ok (.aaload, 1) := by decide +kernel
theorem dX11_as_37 : decode cX11_as 37 = .ok (.iload_n 2, 1) := by decide +kernel
theorem dX11_as_38 : decode cX11_as 38 = .ok (.invokestatic 267, 3) := by decide +kernel
theorem dX11_as_41 : decode cX11_as 41 = .ok (.ifCond .ne 9, 3) := by decide +kernel
theorem dX11_as_44 : decode cX11_as 44 = .ok (.aload_n 0, 1) := by decide +kernel
theorem dX11_as_45 : decode cX11_as 45 = .ok (.iconst 2, 1) := by decide +kernel
theorem dX11_as_46 : decode cX11_as 46 = .ok (.invokevirtual 115, 3) := by decide +kernel
theorem dX11_as_49 : decode cX11_as 49 = .ok (.ireturn, 1) := by decide +kernel
theorem dX11_as_50 : decode cX11_as 50 = .ok (.iconst 1, 1) := by decide +kernel
theorem dX11_as_51 : decode cX11_as 51 = .ok (.ireturn, 1) := by decide +kernel
theorem dX11_trace_0 : decode cX11_trace 0 = .ok (.aload_n 0, 1) := by decide +kernel
theorem dX11_trace_1 : decode cX11_trace 1 = .ok (.getfield 51, 3) := by decide +kernel
theorem dX11_trace_4 : decode cX11_trace 4 = .ok (.getfield 271, 3) := by decide +kernel
theorem dX11_trace_7 : decode cX11_trace 7 = .ok (.ireturn, 1) := by decide +kernel
theorem dX11_fault_0 : decode cX11_fault 0 = .ok (.aload_n 0, 1) := by decide +kernel
theorem dX11_fault_1 : decode cX11_fault 1 = .ok (.getfield 63, 3) := by decide +kernel
theorem dX11_fault_4 : decode cX11_fault 4 = .ok (.ireturn, 1) := by decide +kernel
theorem dX11_isWithin_0 : decode cX11_isWithin 0 = .ok (.lload_n 0, 1) := by decide +kernel
theorem dX11_isWithin_1 : decode cX11_isWithin 1 = .ok (.iload_n 2, 1) := by decide +kernel
theorem dX11_isWithin_2 : decode cX11_isWithin 2 = .ok (.i2l, 1) := by decide +kernel
theorem dX11_isWithin_3 : decode cX11_isWithin 3 = .ok (.lcmp, 1) := by decide +kernel
theorem dX11_isWithin_4 : decode cX11_isWithin 4 = .ok (.ifCond .lt 14, 3) := by decide +kernel
theorem dX11_isWithin_7 : decode cX11_isWithin 7 = .ok (.lload_n 0, 1) := by decide +kernel
theorem dX11_isWithin_8 : decode cX11_isWithin 8 = .ok (.iload_n 3, 1) := by decide +kernel
theorem dX11_isWithin_9 : decode cX11_isWithin 9 = .ok (.i2l, 1) := by decide +kernel
theorem dX11_isWithin_10 : decode cX11_isWithin 10 = .ok (.lcmp, 1) := by decide +kernel
theorem dX11_isWithin_11 : decode cX11_isWithin 11 = .ok (.ifCond .gt 7, 3) := by decide +kernel
theorem dX11_isWithin_14 : decode cX11_isWithin 14 = .ok (.iconst 1, 1) := by decide +kernel
theorem dX11_isWithin_15 : decode cX11_isWithin 15 = .ok (.goto 4, 3) := by decide +kernel
theorem dX11_isWithin_18 : decode cX11_isWithin 18 = .ok (.iconst 0, 1) := by decide +kernel
theorem dX11_isWithin_19 : decode cX11_isWithin 19 = .ok (.ireturn, 1) := by decide +kernel
set_option maxRecDepth 20000 in
theorem ggX11_isKind_X11_isWithin : GoodIn wsX11_isKind wsX11_isWithin := goodIn_r _ [4] (by decide +kernel) (by decide +kernel)
set_option maxRecDepth 20000 in
theorem gX11_isKind_X11_isWithin : GoodIn wsX11_isKind (va_wsS RX11 77 yX11_isWithin wsX11_isWithin) := goodIn_app (goodIn_of _ (by decide +kernel)) ggX11_isKind_X11_isWithin
theorem dX11_isKind_0 : decode cX11_isKind 0 = .ok (.iload_n 0, 1) := by decide +kernel
theorem dX11_isKind_1 : decode cX11_isKind 1 = .ok (.i2l, 1) := by decide +kernel
theorem dX11_isKind_2 : decode cX11_isKind 2 = .ok (.iconst 0, 1) := by decide +kernel
theorem dX11_isKind_3 : decode cX11_isKind 3 = .ok (.iconst 4, 1) := by decide +kernel
theorem dX11_isKind_4 : decode cX11_isKind 4 = .ok (.invokestatic 77, 3) := by decide +kernel
theorem dX11_isKind_7 : decode cX11_isKind 7 = .ok (.ireturn, 1) := by decide +kernel
set_option maxRecDepth 20000 in
theorem ggX11_isLane_X11_isWithin : GoodIn wsX11_isLane wsX11_isWithin := goodIn_r _ [4] (by decide +kernel) (by decide +kernel)
set_option maxRecDepth 20000 in
theorem gX11_isLane_X11_isWithin : GoodIn wsX11_isLane (va_wsS RX11 77 yX11_isWithin wsX11_isWithin) := goodIn_app (goodIn_of _ (by decide +kernel)) ggX11_isLane_X11_isWithin
theorem dX11_isLane_0 : decode cX11_isLane 0 = .ok (.iload_n 0, 1) := by decide +kernel
theorem dX11_isLane_1 : decode cX11_isLane 1 = .ok (.i2l, 1) := by decide +kernel
theorem dX11_isLane_2 : decode cX11_isLane 2 = .ok (.iconst 0, 1) := by decide +kernel
theorem dX11_isLane_3 : decode cX11_isLane 3 = .ok (.iconst 3, 1) := by decide +kernel
theorem dX11_isLane_4 : decode cX11_isLane 4 = .ok (.invokestatic 77, 3) := by decide +kernel
theorem dX11_isLane_7 : decode cX11_isLane 7 = .ok (.ireturn, 1) := by decide +kernel
set_option maxRecDepth 20000 in
theorem ggX11_isCore_X11_isWithin : GoodIn wsX11_isCore wsX11_isWithin := goodIn_r _ [4] (by decide +kernel) (by decide +kernel)
set_option maxRecDepth 20000 in
theorem gX11_isCore_X11_isWithin : GoodIn wsX11_isCore (va_wsS RX11 77 yX11_isWithin wsX11_isWithin) := goodIn_app (goodIn_of _ (by decide +kernel)) ggX11_isCore_X11_isWithin
theorem dX11_isCore_0 : decode cX11_isCore 0 = .ok (.iload_n 0, 1) := by decide +kernel
theorem dX11_isCore_1 : decode cX11_isCore 1 = .ok (.i2l, 1) := by decide +kernel
theorem dX11_isCore_2 : decode cX11_isCore 2 = .ok (.iconst 0, 1) := by decide +kernel
theorem dX11_isCore_3 : decode cX11_isCore 3 = .ok (.iconst 3, 1) := by decide +kernel
theorem dX11_isCore_4 : decode cX11_isCore 4 = .ok (.invokestatic 77, 3) := by decide +kernel
theorem dX11_isCore_7 : decode cX11_isCore 7 = .ok (.ireturn, 1) := by decide +kernel
set_option maxRecDepth 20000 in
theorem ggX11_isPart_X11_isWithin : GoodIn wsX11_isPart wsX11_isWithin := goodIn_r _ [4] (by decide +kernel) (by decide +kernel)
set_option maxRecDepth 20000 in
theorem gX11_isPart_X11_isWithin : GoodIn wsX11_isPart (va_wsS RX11 77 yX11_isWithin wsX11_isWithin) := goodIn_app (goodIn_of _ (by decide +kernel)) ggX11_isPart_X11_isWithin
theorem dX11_isPart_0 : decode cX11_isPart 0 = .ok (.iload_n 0, 1) := by decide +kernel
theorem dX11_isPart_1 : decode cX11_isPart 1 = .ok (.i2l, 1) := by decide +kernel
theorem dX11_isPart_2 : decode cX11_isPart 2 = .ok (.iconst 0, 1) := by decide +kernel
theorem dX11_isPart_3 : decode cX11_isPart 3 = .ok (.iconst 1, 1) := by decide +kernel
theorem dX11_isPart_4 : decode cX11_isPart 4 = .ok (.invokestatic 77, 3) := by decide +kernel
theorem dX11_isPart_7 : decode cX11_isPart 7 = .ok (.ireturn, 1) := by decide +kernel
set_option maxRecDepth 20000 in
theorem ggX11_isLeastWidth_X11_isWithin : GoodIn wsX11_isLeastWidth wsX11_isWithin := goodIn_r _ [4] (by decide +kernel) (by decide +kernel)
set_option maxRecDepth 20000 in
theorem gX11_isLeastWidth_X11_isWithin : GoodIn wsX11_isLeastWidth (va_wsS RX11 77 yX11_isWithin wsX11_isWithin) := goodIn_app (goodIn_of _ (by decide +kernel)) ggX11_isLeastWidth_X11_isWithin
theorem dX11_isLeastWidth_0 : decode cX11_isLeastWidth 0 = .ok (.iload_n 0, 1) := by decide +kernel
theorem dX11_isLeastWidth_1 : decode cX11_isLeastWidth 1 = .ok (.i2l, 1) := by decide +kernel
theorem dX11_isLeastWidth_2 : decode cX11_isLeastWidth 2 = .ok (.iconst 1, 1) := by decide +kernel
theorem dX11_isLeastWidth_3 : decode cX11_isLeastWidth 3 = .ok (.bipush 12, 2) := by decide +kernel
theorem dX11_isLeastWidth_5 : decode cX11_isLeastWidth 5 = .ok (.invokestatic 77, 3) := by decide +kernel
theorem dX11_isLeastWidth_8 : decode cX11_isLeastWidth 8 = .ok (.ireturn, 1) := by decide +kernel
theorem dX11_faulted_0 : decode cX11_faulted 0 = .ok (.aload_n 0, 1) := by decide +kernel
theorem dX11_faulted_1 : decode cX11_faulted 1 = .ok (.iload_n 1, 1) := by decide +kernel
theorem dX11_faulted_2 : decode cX11_faulted 2 = .ok (.putfield 63, 3) := by decide +kernel
theorem dX11_faulted_5 : decode cX11_faulted 5 = .ok (.bipush (-10), 2) := by decide +kernel
theorem dX11_faulted_7 : decode cX11_faulted 7 = .ok (.iload_n 1, 1) := by decide +kernel
theorem dX11_faulted_8 : decode cX11_faulted 8 = .ok (.isub, 1) := by decide +kernel
theorem dX11_faulted_9 : decode cX11_faulted 9 = .ok (.ireturn, 1) := by decide +kernel
theorem dX11_lost_0 : decode cX11_lost 0 = .ok (.aload_n 0, 1) := by decide +kernel
theorem dX11_lost_1 : decode cX11_lost 1 = .ok (.iload_n 1, 1) := by decide +kernel
theorem dX11_lost_2 : decode cX11_lost 2 = .ok (.putfield 63, 3) := by decide +kernel
theorem dX11_lost_5 : decode cX11_lost 5 = .ok (.ldc2_w 178, 3) := by decide +kernel
theorem dX11_lost_8 : decode cX11_lost 8 = .ok (.lreturn, 1) := by decide +kernel
set_option maxRecDepth 20000 in
theorem ggX11_newCrack_X10_init : GoodIn wsX11_newCrack wsX10_init := goodIn_r _ [18, 19, 20, 15, 21, 22, 23, 24, 25, 26, 27, 28, 47, 48, 49, 50, 51, 62, 63, 64, 65, 66, 52, 53, 54, 55, 56, 57, 58, 59, 60, 61, 42, 43, 44, 45, 46] (by decide +kernel) (by decide +kernel)
set_option maxRecDepth 20000 in
theorem gX11_newCrack_X10_init : GoodIn wsX11_newCrack (wsX10_init) := ggX11_newCrack_X10_init
set_option maxRecDepth 20000 in
theorem ggX11_newCrack_X0_init : GoodIn wsX11_newCrack wsX0_init := goodIn_r _ [31, 32, 20, 15, 21, 22, 23, 24, 25, 26, 27, 28, 47, 48, 49, 50, 51, 62, 63, 64, 65, 66, 52, 53, 54, 55, 56, 57, 58, 59, 60, 61, 42, 43, 44, 45, 46] (by decide +kernel) (by decide +kernel)
set_option maxRecDepth 20000 in
theorem gX11_newCrack_X0_init : GoodIn wsX11_newCrack (wsX0_init) := ggX11_newCrack_X0_init
set_option maxRecDepth 20000 in
theorem ggX11_newCrack_X3_init : GoodIn wsX11_newCrack wsX3_init := goodIn_r _ [35, 36, 17, 3, 18, 19, 20, 15, 21, 22, 23, 24, 25, 26, 27, 28, 47, 48, 49, 50, 51, 62, 63, 64, 65, 66, 52, 53, 54, 55, 56, 57, 58, 59, 60, 61, 42, 43, 44, 45, 46] (by decide +kernel) (by decide +kernel)
set_option maxRecDepth 20000 in
theorem gX11_newCrack_X3_init : GoodIn wsX11_newCrack (wsX3_init) := ggX11_newCrack_X3_init
set_option maxRecDepth 20000 in
theorem ggX11_newCrack_X7_init : GoodIn wsX11_newCrack wsX7_init := goodIn_r _ [39, 40, 34, 9, 35, 36, 17, 3, 18, 19, 20, 15, 21, 22, 23, 24, 25, 26, 27, 28, 47, 48, 49, 50, 51, 62, 63, 64, 65, 66, 52, 53, 54, 55, 56, 57, 58, 59, 60, 61, 42, 43, 44, 45, 46] (by decide +kernel) (by decide +kernel)
set_option maxRecDepth 20000 in
theorem gX11_newCrack_X7_init : GoodIn wsX11_newCrack (wsX7_init) := ggX11_newCrack_X7_init
set_option maxRecDepth 20000 in
theorem ggX11_newCrack_X2_init : GoodIn wsX11_newCrack wsX2_init := goodIn_r _ [21, 22, 23, 24, 25, 26, 27, 28, 47, 48, 49, 50, 51, 62, 63, 64, 65, 66, 52, 53, 54, 55, 56, 57, 58, 59, 60, 61, 42, 43, 44, 45, 46] (by decide +kernel) (by decide +kernel)
set_option maxRecDepth 20000 in
theorem gX11_newCrack_X2_init : GoodIn wsX11_newCrack (wsX2_init) := ggX11_newCrack_X2_init
theorem dX11_newCrack_0 : decode cX11_newCrack 0 = .ok (.iload_n 2, 1) := by decide +kernel
theorem dX11_newCrack_1 : decode cX11_newCrack 1 = .ok (.tableswitch 83 1 4 #[31, 44, 57, 70], 31) := by decide +kernel
theorem dX11_newCrack_32 : decode cX11_newCrack 32 = .ok (.new 274, 3) := by decide +kernel
theorem dX11_newCrack_35 : decode cX11_newCrack 35 = .ok (.dup, 1) := by decide +kernel
theorem dX11_newCrack_36 : decode cX11_newCrack 36 = .ok (.iload_n 0, 1) := by decide +kernel
theorem dX11_newCrack_37 : decode cX11_newCrack 37 = .ok (.iload_n 1, 1) := by decide +kernel
theorem dX11_newCrack_38 : decode cX11_newCrack 38 = .ok (.iload_n 3, 1) := by decide +kernel
theorem dX11_newCrack_39 : decode cX11_newCrack 39 = .ok (.iload 4, 2) := by decide +kernel
theorem dX11_newCrack_41 : decode cX11_newCrack 41 = .ok (.invokespecial 276, 3) := by decide +kernel
theorem dX11_newCrack_44 : decode cX11_newCrack 44 = .ok (.areturn, 1) := by decide +kernel
theorem dX11_newCrack_45 : decode cX11_newCrack 45 = .ok (.new 279, 3) := by decide +kernel
theorem dX11_newCrack_48 : decode cX11_newCrack 48 = .ok (.dup, 1) := by decide +kernel
theorem dX11_newCrack_49 : decode cX11_newCrack 49 = .ok (.iload_n 0, 1) := by decide +kernel
theorem dX11_newCrack_50 : decode cX11_newCrack 50 = .ok (.iload_n 1, 1) := by decide +kernel
theorem dX11_newCrack_51 : decode cX11_newCrack 51 = .ok (.iload_n 3, 1) := by decide +kernel
theorem dX11_newCrack_52 : decode cX11_newCrack 52 = .ok (.iload 4, 2) := by decide +kernel
theorem dX11_newCrack_54 : decode cX11_newCrack 54 = .ok (.invokespecial 281, 3) := by decide +kernel
theorem dX11_newCrack_57 : decode cX11_newCrack 57 = .ok (.areturn, 1) := by decide +kernel
theorem dX11_newCrack_58 : decode cX11_newCrack 58 = .ok (.new 282, 3) := by decide +kernel
theorem dX11_newCrack_61 : decode cX11_newCrack 61 = .ok (.dup, 1) := by decide +kernel
theorem dX11_newCrack_62 : decode cX11_newCrack 62 = .ok (.iload_n 0, 1) := by decide +kernel
theorem dX11_newCrack_63 : decode cX11_newCrack 63 = .ok (.iload_n 1, 1) := by decide +kernel
theorem dX11_newCrack_64 : decode cX11_newCrack 64 = .ok (.iload_n 3, 1) := by decide +kernel
theorem dX11_newCrack_65 : decode cX11_newCrack 65 = .ok (.iload 4, 2) := by decide +kernel
theorem dX11_newCrack_67 : decode cX11_newCrack 67 = .ok (.invokespecial 284, 3) := by decide +kernel
theorem dX11_newCrack_70 : decode cX11_newCrack 70 = .ok (.areturn, 1) := by decide +kernel
theorem dX11_newCrack_71 : decode cX11_newCrack 71 = .ok (.new 285, 3) := by decide +kernel
theorem dX11_newCrack_74 : decode cX11_newCrack 74 = .ok (.dup, 1) := by decide +kernel
theorem dX11_newCrack_75 : decode cX11_newCrack 75 = .ok (.iload_n 0, 1) := by decide +kernel
theorem dX11_newCrack_76 : decode cX11_newCrack 76 = .ok (.iload_n 1, 1) := by decide +kernel
theorem dX11_newCrack_77 : decode cX11_newCrack 77 = .ok (.iload_n 3, 1) := by decide +kernel
theorem dX11_newCrack_78 : decode cX11_newCrack 78 = .ok (.iload 4, 2) := by decide +kernel
theorem dX11_newCrack_80 : decode cX11_newCrack 80 = .ok (.invokespecial 287, 3) := by decide +kernel
theorem dX11_newCrack_83 : decode cX11_newCrack 83 = .ok (.areturn, 1) := by decide +kernel
theorem dX11_newCrack_84 : decode cX11_newCrack 84 = .ok (.new 143, 3) := by decide +kernel
theorem dX11_newCrack_87 : decode cX11_newCrack 87 = .ok (.dup, 1) := by decide +kernel
theorem dX11_newCrack_88 : decode cX11_newCrack 88 = .ok (.iload_n 0, 1) := by decide +kernel
theorem dX11_newCrack_89 : decode cX11_newCrack 89 = .ok (.iload_n 1, 1) := by decide +kernel
theorem dX11_newCrack_90 : decode cX11_newCrack 90 = .ok (.iload_n 3, 1) := by decide +kernel
theorem dX11_newCrack_91 : decode cX11_newCrack 91 = .ok (.iload 4, 2) := by decide +kernel
theorem dX11_newCrack_93 : decode cX11_newCrack 93 = .ok (.invokespecial 288, 3) := by decide +kernel
theorem dX11_newCrack_96 : decode cX11_newCrack 96 = .ok (.areturn, 1) := by decide +kernel
theorem dX11_isOfKind_0 : decode cX11_isOfKind 0 = .ok (.iload_n 1, 1) := by decide +kernel
theorem dX11_isOfKind_1 : decode cX11_isOfKind 1 = .ok (.tableswitch 51 1 4 #[31, 36, 41, 46], 31) := by decide +kernel
theorem dX11_isOfKind_32 : decode cX11_isOfKind 32 = .ok (.aload_n 0, 1) := by decide +kernel
theorem dX11_isOfKind_33 : decode cX11_isOfKind 33 = .ok (.instanceof 274, 3) := by decide +kernel
theorem dX11_isOfKind_36 : decode cX11_isOfKind 36 = .ok (.ireturn, 1) := by decide +kernel
theorem dX11_isOfKind_37 : decode cX11_isOfKind 37 = .ok (.aload_n 0, 1) := by decide +kernel
theorem dX11_isOfKind_38 : decode cX11_isOfKind 38 = .ok (.instanceof 279, 3) := by decide +kernel
theorem dX11_isOfKind_41 : decode cX11_isOfKind 41 = .ok (.ireturn, 1) := by decide +kernel
theorem dX11_isOfKind_42 : decode cX11_isOfKind 42 = .ok (.aload_n 0, 1) := by decide +kernel
theorem dX11_isOfKind_43 : decode cX11_isOfKind 43 = .ok (.instanceof 282, 3) := by decide +kernel
theorem dX11_isOfKind_46 : decode cX11_isOfKind 46 = .ok (.ireturn, 1) := by decide +kernel
theorem dX11_isOfKind_47 : decode cX11_isOfKind 47 = .ok (.aload_n 0, 1) := by decide +kernel
theorem dX11_isOfKind_48 : decode cX11_isOfKind 48 = .ok (.instanceof 285, 3) := by decide +kernel
theorem dX11_isOfKind_51 : decode cX11_isOfKind 51 = .ok (.ireturn, 1) := by decide +kernel
theorem dX11_isOfKind_52 : decode cX11_isOfKind 52 = .ok (.iload_n 1, 1) := by decide +kernel
theorem dX11_isOfKind_53 : decode cX11_isOfKind 53 = .ok (.ifCond .ne 7, 3) := by decide +kernel
theorem dX11_isOfKind_56 : decode cX11_isOfKind 56 = .ok (.iconst 1, 1) := by decide +kernel
theorem dX11_isOfKind_57 : decode cX11_isOfKind 57 = .ok (.goto 4, 3) := by decide +kernel
theorem dX11_isOfKind_60 : decode cX11_isOfKind 60 = .ok (.iconst 0, 1) := by decide +kernel
theorem dX11_isOfKind_61 : decode cX11_isOfKind 61 = .ok (.ireturn, 1) := by decide +kernel
set_option maxRecDepth 20000 in
theorem ggX11_mealIn_X2_eatsIn : GoodIn wsX11_mealIn wsX2_eatsIn := goodIn_r _ [10] (by decide +kernel) (by decide +kernel)
set_option maxRecDepth 20000 in
theorem gX11_mealIn_X2_eatsIn_u289X0 : GoodIn wsX11_mealIn (va_wsU RX11 289 RX0 "WideningCracks$Crack" ⟨"WideningCracks$Crack", "eatsIn", "(I)Z"⟩ yX2_eatsIn wsX2_eatsIn) := goodIn_app (goodIn_of _ (by decide +kernel)) ggX11_mealIn_X2_eatsIn
set_option maxRecDepth 20000 in
theorem gX11_mealIn_X2_eatsIn : GoodIn wsX11_mealIn (wsV RX11 289 RX2 yX2_eatsIn wsX2_eatsIn) := goodIn_app (goodIn_of _ (by decide +kernel)) ggX11_mealIn_X2_eatsIn
set_option maxRecDepth 20000 in
theorem ggX11_mealIn_X3_eatsIn : GoodIn wsX11_mealIn wsX3_eatsIn := goodIn_r _ [17, 18, 19, 134, 135, 136, 137, 138, 139, 140, 141, 142, 143, 144, 145, 146, 147, 148, 149, 150, 151, 152, 153, 154, 155, 156, 157, 158] (by decide +kernel) (by decide +kernel)
set_option maxRecDepth 20000 in
theorem gX11_mealIn_X3_eatsIn_u289X3 : GoodIn wsX11_mealIn (va_wsO RX11 289 RX3 "WideningCracks$Crack" ⟨"WideningCracks$Crack", "eatsIn", "(I)Z"⟩ yX3_eatsIn wsX3_eatsIn) := goodIn_app (goodIn_of _ (by decide +kernel)) ggX11_mealIn_X3_eatsIn
set_option maxRecDepth 20000 in
theorem gX11_mealIn_X3_eatsIn_u289X7 : GoodIn wsX11_mealIn (va_wsO RX11 289 RX7 "WideningCracks$Crack" ⟨"WideningCracks$Crack", "eatsIn", "(I)Z"⟩ yX3_eatsIn wsX3_eatsIn) := goodIn_app (goodIn_of _ (by decide +kernel)) ggX11_mealIn_X3_eatsIn
set_option maxRecDepth 20000 in
theorem gX11_mealIn_X2_eatsIn_u289X10 : GoodIn wsX11_mealIn (va_wsU RX11 289 RX10 "WideningCracks$Crack" ⟨"WideningCracks$Crack", "eatsIn", "(I)Z"⟩ yX2_eatsIn wsX2_eatsIn) := goodIn_app (goodIn_of _ (by decide +kernel)) ggX11_mealIn_X2_eatsIn
set_option maxRecDepth 20000 in
theorem ggX11_mealIn_X8_amount : GoodIn wsX11_mealIn wsX8_amount := goodIn_r _ [26, 27, 28, 29, 30, 31, 32, 33, 34, 35, 25, 36, 37, 38, 39, 40, 41, 42, 43, 44, 45, 46, 47, 48, 49, 50, 51, 52, 53, 54, 55, 56, 57, 58, 59, 60, 61, 62, 63, 64, 65, 66, 67, 68, 69, 70, 71, 72, 73, 74, 75, 76, 9, 77, 78, 79, 80, 81, 82, 83, 84, 85, 86, 87, 88, 89, 90, 91, 92, 93, 94, 95, 96, 97, 98, 99, 100, 101, 102, 103, 104, 105, 106, 107, 108, 109, 110, 111, 112, 113, 114, 115, 116, 117, 159, 160, 161, 162, 163, 164, 165, 166, 167, 127, 128, 129, 130, 131, 132, 133, 134, 135, 136, 137, 138, 139, 140, 141, 142, 143, 144, 145, 146, 147, 148, 149, 150, 151, 152, 153, 154, 155, 156, 157, 158] (by decide +kernel) (by decide +kernel)
set_option maxRecDepth 20000 in
theorem gX11_mealIn_X8_amount : GoodIn wsX11_mealIn (wsV RX11 292 RX8 yX8_amount wsX8_amount) := goodIn_app (goodIn_of _ (by decide +kernel)) ggX11_mealIn_X8_amount
theorem dX11_mealIn_0 : decode cX11_mealIn 0 = .ok (.aload_n 0, 1) := by decide +kernel
theorem dX11_mealIn_1 : decode cX11_mealIn 1 = .ok (.getfield 12, 3) := by decide +kernel
theorem dX11_mealIn_4 : decode cX11_mealIn 4 = .ok (.getfield 138, 3) := by decide +kernel
theorem dX11_mealIn_7 : decode cX11_mealIn 7 = .ok (.iload_n 1, 1) := by decide +kernel
theorem dX11_mealIn_8 : decode cX11_mealIn 8 = .ok (.aaload, 1) := by decide +kernel
theorem dX11_mealIn_9 : decode cX11_mealIn 9 = .ok (.iload_n 2, 1) := by decide +kernel
theorem dX11_mealIn_10 : decode cX11_mealIn 10 = .ok (.invokevirtual 289, 3) := by decide +kernel
theorem dX11_mealIn_13 : decode cX11_mealIn 13 = .ok (.ifCond .eq 18, 3) := by decide +kernel
theorem dX11_mealIn_16 : decode cX11_mealIn 16 = .ok (.aload_n 0, 1) := by decide +kernel
theorem dX11_mealIn_17 : decode cX11_mealIn 17 = .ok (.getfield 23, 3) := by decide +kernel
theorem dX11_mealIn_20 : decode cX11_mealIn 20 = .ok (.iload_n 1, 1) := by decide +kernel
theorem dX11_mealIn_21 : decode cX11_mealIn 21 = .ok (.aload_n 0, 1) := by decide +kernel
theorem dX11_mealIn_22 : decode cX11_mealIn 22 = .ok (.getfield 59, 3) := by decide +kernel
theorem dX11_mealIn_25 : decode cX11_mealIn 25 = .ok (.invokevirtual 292, 3) := by decide +kernel
theorem dX11_mealIn_28 : decode cX11_mealIn 28 = .ok (.goto 4, 3) := by decide +kernel
theorem dX11_mealIn_31 : decode cX11_mealIn 31 = .ok (.lconst 0, 1) := by decide +kernel
theorem dX11_mealIn_32 : decode cX11_mealIn 32 = .ok (.lreturn, 1) := by decide +kernel
set_option maxRecDepth 20000 in
theorem ggX11_oneStep_X11_mealIn : GoodIn wsX11_oneStep wsX11_mealIn := goodIn_r _ [11, 1, 5, 12, 13, 14, 15, 16, 17, 18, 19, 20, 21, 22, 23, 24, 25, 26, 27, 28, 29, 30, 31, 32, 33, 34, 35, 36, 37, 38, 39, 40, 41, 42, 43, 44, 45, 46, 47, 48, 49, 50, 51, 52, 53, 54, 55, 56, 57, 58, 59, 60, 61, 62, 63, 64, 65, 66, 67, 68, 69, 70, 71, 72, 73, 74, 75, 76, 77, 78, 79, 80, 81, 82, 83, 84, 85, 86, 87, 88, 89, 90, 91, 92, 93, 94, 95, 96, 97, 98, 99, 100, 101, 102, 103, 104, 105, 106, 107, 108, 109, 110, 111, 112, 113, 114, 115, 116, 117, 118, 119, 120, 121, 122, 123, 124, 125, 126, 181, 182, 183, 184, 185, 186, 187, 188, 189, 190, 191, 192, 193, 194, 195, 196, 197, 198, 199, 200, 201, 202, 203, 204, 205, 206, 207, 208, 209, 210, 211, 212, 213, 214, 215, 216, 217, 218, 219, 220, 221, 222, 223, 224, 225, 226, 227, 228, 229, 230] (by decide +kernel) (by decide +kernel)
set_option maxRecDepth 20000 in
theorem gX11_oneStep_X11_mealIn : GoodIn wsX11_oneStep (wsV RX11 213 RX11 yX11_mealIn wsX11_mealIn) := goodIn_app (goodIn_of _ (by decide +kernel)) ggX11_oneStep_X11_mealIn
set_option maxRecDepth 20000 in
theorem ggX11_oneStep_X2_eatsIn : GoodIn wsX11_oneStep wsX2_eatsIn := goodIn_r _ [19] (by decide +kernel) (by decide +kernel)
set_option maxRecDepth 20000 in
theorem gX11_oneStep_X2_eatsIn_u289X0 : GoodIn wsX11_oneStep (va_wsU RX11 289 RX0 "WideningCracks$Crack" ⟨"WideningCracks$Crack", "eatsIn", "(I)Z"⟩ yX2_eatsIn wsX2_eatsIn) := goodIn_app (goodIn_of _ (by decide +kernel)) ggX11_oneStep_X2_eatsIn
set_option maxRecDepth 20000 in
theorem gX11_oneStep_X2_eatsIn : GoodIn wsX11_oneStep (wsV RX11 289 RX2 yX2_eatsIn wsX2_eatsIn) := goodIn_app (goodIn_of _ (by decide +kernel)) ggX11_oneStep_X2_eatsIn
set_option maxRecDepth 20000 in
theorem ggX11_oneStep_X3_eatsIn : GoodIn wsX11_oneStep wsX3_eatsIn := goodIn_r _ [26, 27, 28, 197, 198, 199, 200, 201, 202, 203, 204, 205, 206, 207, 208, 209, 210, 211, 212, 213, 214, 215, 216, 217, 218, 219, 220, 221] (by decide +kernel) (by decide +kernel)
set_option maxRecDepth 20000 in
theorem gX11_oneStep_X3_eatsIn_u289X3 : GoodIn wsX11_oneStep (va_wsO RX11 289 RX3 "WideningCracks$Crack" ⟨"WideningCracks$Crack", "eatsIn", "(I)Z"⟩ yX3_eatsIn wsX3_eatsIn) := goodIn_app (goodIn_of _ (by decide +kernel)) ggX11_oneStep_X3_eatsIn
set_option maxRecDepth 20000 in
theorem gX11_oneStep_X3_eatsIn_u289X7 : GoodIn wsX11_oneStep (va_wsO RX11 289 RX7 "WideningCracks$Crack" ⟨"WideningCracks$Crack", "eatsIn", "(I)Z"⟩ yX3_eatsIn wsX3_eatsIn) := goodIn_app (goodIn_of _ (by decide +kernel)) ggX11_oneStep_X3_eatsIn
set_option maxRecDepth 20000 in
theorem gX11_oneStep_X2_eatsIn_u289X10 : GoodIn wsX11_oneStep (va_wsU RX11 289 RX10 "WideningCracks$Crack" ⟨"WideningCracks$Crack", "eatsIn", "(I)Z"⟩ yX2_eatsIn wsX2_eatsIn) := goodIn_app (goodIn_of _ (by decide +kernel)) ggX11_oneStep_X2_eatsIn
set_option maxRecDepth 20000 in
theorem ggX11_oneStep_X2_takeIn : GoodIn wsX11_oneStep wsX2_takeIn := goodIn_r _ [131, 132, 133, 134, 135, 40, 136, 87, 137, 138, 139, 140, 141, 142, 143, 144, 145, 146, 147, 148, 149, 18, 150, 151, 152, 153, 154, 155, 156, 157, 158, 159, 160, 161, 162, 163, 164, 165, 166, 167, 168, 169, 170, 171, 172, 173, 174, 175, 197, 198, 199, 200, 201, 202, 203, 204, 205, 206, 207, 208, 209, 210, 211, 212, 213, 214, 215, 216, 217, 218, 219, 220, 221] (by decide +kernel) (by decide +kernel)
set_option maxRecDepth 20000 in
theorem gX11_oneStep_X2_takeIn_u295X0 : GoodIn wsX11_oneStep (va_wsU RX11 295 RX0 "WideningCracks$Crack" ⟨"WideningCracks$Crack", "takeIn", "(J)Z"⟩ yX2_takeIn wsX2_takeIn) := goodIn_app (goodIn_of _ (by decide +kernel)) ggX11_oneStep_X2_takeIn
set_option maxRecDepth 20000 in
theorem gX11_oneStep_X2_takeIn : GoodIn wsX11_oneStep (wsV RX11 295 RX2 yX2_takeIn wsX2_takeIn) := goodIn_app (goodIn_of _ (by decide +kernel)) ggX11_oneStep_X2_takeIn
set_option maxRecDepth 20000 in
theorem gX11_oneStep_X2_takeIn_u295X3 : GoodIn wsX11_oneStep (va_wsU RX11 295 RX3 "WideningCracks$Crack" ⟨"WideningCracks$Crack", "takeIn", "(J)Z"⟩ yX2_takeIn wsX2_takeIn) := goodIn_app (goodIn_of _ (by decide +kernel)) ggX11_oneStep_X2_takeIn
set_option maxRecDepth 20000 in
theorem gX11_oneStep_X2_takeIn_u295X7 : GoodIn wsX11_oneStep (va_wsU RX11 295 RX7 "WideningCracks$Crack" ⟨"WideningCracks$Crack", "takeIn", "(J)Z"⟩ yX2_takeIn wsX2_takeIn) := goodIn_app (goodIn_of _ (by decide +kernel)) ggX11_oneStep_X2_takeIn
set_option maxRecDepth 20000 in
theorem gX11_oneStep_X2_takeIn_u295X10 : GoodIn wsX11_oneStep (va_wsU RX11 295 RX10 "WideningCracks$Crack" ⟨"WideningCracks$Crack", "takeIn", "(J)Z"⟩ yX2_takeIn wsX2_takeIn) := goodIn_app (goodIn_of _ (by decide +kernel)) ggX11_oneStep_X2_takeIn
theorem dX11_oneStep_0 : decode cX11_oneStep 0 = .ok (.aload_n 0, 1) := by decide +kernel
theorem dX11_oneStep_1 : decode cX11_oneStep 1 = .ok (.getfield 12, 3) := by decide +kernel
theorem dX11_oneStep_4 : decode cX11_oneStep 4 = .ok (.getfield 210, 3) := by decide +kernel
theorem dX11_oneStep_7 : decode cX11_oneStep 7 = .ok (.iconst 1, 1) := by decide +kernel
theorem dX11_oneStep_8 : decode cX11_oneStep 8 = .ok (.iadd, 1) := by decide +kernel
theorem dX11_oneStep_9 : decode cX11_oneStep 9 = .ok (.istore_n 1, 1) := by decide +kernel
theorem dX11_oneStep_10 : decode cX11_oneStep 10 = .ok (.iconst 0, 1) := by decide +kernel
theorem dX11_oneStep_11 : decode cX11_oneStep 11 = .ok (.istore_n 2, 1) := by decide +kernel
theorem dX11_oneStep_12 : decode cX11_oneStep 12 = .ok (.iload_n 2, 1) := by decide +kernel
theorem dX11_oneStep_13 : decode cX11_oneStep 13 = .ok (.aload_n 0, 1) := by decide +kernel
theorem dX11_oneStep_14 : decode cX11_oneStep 14 = .ok (.getfield 12, 3) := by decide +kernel
theorem dX11_oneStep_17 : decode cX11_oneStep 17 = .ok (.getfield 92, 3) := by decide +kernel
theorem dX11_oneStep_20 : decode cX11_oneStep 20 = .ok (.if_icmp .ge 21, 3) := by decide +kernel
theorem dX11_oneStep_23 : decode cX11_oneStep 23 = .ok (.aload_n 0, 1) := by decide +kernel
theorem dX11_oneStep_24 : decode cX11_oneStep 24 = .ok (.getfield 55, 3) := by decide +kernel
theorem dX11_oneStep_27 : decode cX11_oneStep 27 = .ok (.iload_n 2, 1) := by decide +kernel
theorem dX11_oneStep_28 : decode cX11_oneStep 28 = .ok (.aload_n 0, 1) := by decide +kernel
theorem dX11_oneStep_29 : decode cX11_oneStep 29 = .ok (.iload_n 2, 1) := by decide +kernel
theorem dX11_oneStep_30 : decode cX11_oneStep 30 = .ok (.iload_n 1, 1) := by decide +kernel
theorem dX11_oneStep_31 : decode cX11_oneStep 31 = .ok (.invokevirtual 213, 3) := by decide +kernel
theorem dX11_oneStep_34 : decode cX11_oneStep 34 = .ok (.lastore, 1) := by decide +kernel
theorem dX11_oneStep_35 : decode cX11_oneStep 35 = .ok (.iinc 2 1, 3) := by decide +kernel
theorem dX11_oneStep_38 : decode cX11_oneStep 38 = .ok (.goto (-26), 3) := by decide +kernel
theorem dX11_oneStep_41 : decode cX11_oneStep 41 = .ok (.iconst 0, 1) := by decide +kernel
theorem dX11_oneStep_42 : decode cX11_oneStep 42 = .ok (.istore_n 2, 1) := by decide +kernel
theorem dX11_oneStep_43 : decode cX11_oneStep 43 = .ok (.iconst 0, 1) := by decide +kernel
theorem dX11_oneStep_44 : decode cX11_oneStep 44 = .ok (.istore_n 3, 1) := by decide +kernel
theorem dX11_oneStep_45 : decode cX11_oneStep 45 = .ok (.iload_n 3, 1) := by decide +kernel
theorem dX11_oneStep_46 : decode cX11_oneStep 46 = .ok (.aload_n 0, 1) := by decide +kernel
theorem dX11_oneStep_47 : decode cX11_oneStep 47 = .ok (.getfield 12, 3) := by decide +kernel
theorem dX11_oneStep_50 : decode cX11_oneStep 50 = .ok (.getfield 92, 3) := by decide +kernel
theorem dX11_oneStep_53 : decode cX11_oneStep 53 = .ok (.if_icmp .ge 49, 3) := by decide +kernel
theorem dX11_oneStep_56 : decode cX11_oneStep 56 = .ok (.aload_n 0, 1) := by decide +kernel
theorem dX11_oneStep_57 : decode cX11_oneStep 57 = .ok (.getfield 12, 3) := by decide +kernel
theorem dX11_oneStep_60 : decode cX11_oneStep 60 = .ok (.getfield 138, 3) := by decide +kernel
theorem dX11_oneStep_63 : decode cX11_oneStep 63 = .ok (.iload_n 3, 1) := by decide +kernel
theorem dX11_oneStep_64 : decode cX11_oneStep 64 = .ok (.aaload, 1) := by decide +kernel
theorem dX11_oneStep_65 : decode cX11_oneStep 65 = .ok (.iload_n 1, 1) := by decide +kernel
theorem dX11_oneStep_66 : decode cX11_oneStep 66 = .ok (.invokevirtual 289, 3) := by decide +kernel
theorem dX11_oneStep_69 : decode cX11_oneStep 69 = .ok (.ifCond .eq 27, 3) := by decide +kernel
theorem dX11_oneStep_72 : decode cX11_oneStep 72 = .ok (.aload_n 0, 1) := by decide +kernel
theorem dX11_oneStep_73 : decode cX11_oneStep 73 = .ok (.getfield 12, 3) := by decide +kernel
theorem dX11_oneStep_76 : decode cX11_oneStep 76 = .ok (.getfield 138, 3) := by decide +kernel
theorem dX11_oneStep_79 : decode cX11_oneStep 79 = .ok (.iload_n 3, 1) := by decide +kernel
theorem dX11_oneStep_80 : decode cX11_oneStep 80 = .ok (.aaload, 1) := by decide +kernel
theorem dX11_oneStep_81 : decode cX11_oneStep 81 = .ok (.aload_n 0, 1) := by decide +kernel
theorem dX11_oneStep_82 : decode cX11_oneStep 82 = .ok (.getfield 55, 3) := by decide +kernel
theorem dX11_oneStep_85 : decode cX11_oneStep 85 = .ok (.iload_n 3, 1) := by decide +kernel
theorem dX11_oneStep_86 : decode cX11_oneStep 86 = .ok (.laload, 1) := by decide +kernel
theorem dX11_oneStep_87 : decode cX11_oneStep 87 = .ok (.invokevirtual 295, 3) := by decide +kernel
theorem dX11_oneStep_90 : decode cX11_oneStep 90 = .ok (.ifCond .eq 6, 3) := by decide +kernel
theorem dX11_oneStep_93 : decode cX11_oneStep 93 = .ok (.iinc 2 1, 3) := by decide +kernel
theorem dX11_oneStep_96 : decode cX11_oneStep 96 = .ok (.iinc 3 1, 3) := by decide +kernel
theorem dX11_oneStep_99 : decode cX11_oneStep 99 = .ok (.goto (-54), 3) := by decide +kernel
theorem dX11_oneStep_102 : decode cX11_oneStep 102 = .ok (.iload_n 2, 1) := by decide +kernel
theorem dX11_oneStep_103 : decode cX11_oneStep 103 = .ok (.ifCond .le 16, 3) := by decide +kernel
theorem dX11_oneStep_106 : decode cX11_oneStep 106 = .ok (.aload_n 0, 1) := by decide +kernel
theorem dX11_oneStep_107 : decode cX11_oneStep 107 = .ok (.getfield 12, 3) := by decide +kernel
theorem dX11_oneStep_110 : decode cX11_oneStep 110 = .ok (.dup, 1) := by decide +kernel
theorem dX11_oneStep_111 : decode cX11_oneStep 111 = .ok (.getfield 299, 3) := by decide +kernel
theorem dX11_oneStep_114 : decode cX11_oneStep 114 = .ok (.iconst 1, 1) := by decide +kernel
theorem dX11_oneStep_115 : decode cX11_oneStep 115 = .ok (.iadd, 1) := by decide +kernel
theorem dX11_oneStep_116 : decode cX11_oneStep 116 = .ok (.putfield 299, 3) := by decide +kernel
theorem dX11_oneStep_119 : decode cX11_oneStep 119 = .ok (.aload_n 0, 1) := by decide +kernel
theorem dX11_oneStep_120 : decode cX11_oneStep 120 = .ok (.getfield 12, 3) := by decide +kernel
theorem dX11_oneStep_123 : decode cX11_oneStep 123 = .ok (.iload_n 1, 1) := by decide +kernel
theorem dX11_oneStep_124 : decode cX11_oneStep 124 = .ok (.putfield 210, 3) := by decide +kernel
theorem dX11_oneStep_127 : decode cX11_oneStep 127 = .ok (.iload_n 2, 1) := by decide +kernel
theorem dX11_oneStep_128 : decode cX11_oneStep 128 = .ok (.ireturn, 1) := by decide +kernel
theorem dX11_greatestDivisor_0 : decode cX11_greatestDivisor 0 = .ok (.iconst 0, 1) := by decide +kernel
theorem dX11_greatestDivisor_1 : decode cX11_greatestDivisor 1 = .ok (.istore 4, 2) := by decide +kernel
theorem dX11_greatestDivisor_3 : decode cX11_greatestDivisor 3 = .ok (.lload_n 2, 1) := by decide +kernel
theorem dX11_greatestDivisor_4 : decode cX11_greatestDivisor 4 = .ok (.lconst 0, 1) := by decide +kernel
theorem dX11_greatestDivisor_5 : decode cX11_greatestDivisor 5 = .ok (.lcmp, 1) := by decide +kernel
theorem dX11_greatestDivisor_6 : decode cX11_greatestDivisor 6 = .ok (.ifCond .eq 26, 3) := by decide +kernel
theorem dX11_greatestDivisor_9 : decode cX11_greatestDivisor 9 = .ok (.iload 4, 2) := by decide +kernel
theorem dX11_greatestDivisor_11 : decode cX11_greatestDivisor 11 = .ok (.bipush 100, 2) := by decide +kernel
theorem dX11_greatestDivisor_13 : decode cX11_greatestDivisor 13 = .ok (.if_icmp .ge 19, 3) := by decide +kernel
theorem dX11_greatestDivisor_16 : decode cX11_greatestDivisor 16 = .ok (.lload_n 0, 1) := by decide +kernel
theorem dX11_greatestDivisor_17 : decode cX11_greatestDivisor 17 = .ok (.lload_n 2, 1) := by decide +kernel
theorem dX11_greatestDivisor_18 : decode cX11_greatestDivisor 18 = .ok (.lrem, 1) := by decide +kernel
theorem dX11_greatestDivisor_19 : decode cX11_greatestDivisor 19 = .ok (.lstore 5, 2) := by decide +kernel
theorem dX11_greatestDivisor_21 : decode cX11_greatestDivisor 21 = .ok (.lload_n 2, 1) := by decide +kernel
theorem dX11_greatestDivisor_22 : decode cX11_greatestDivisor 22 = .ok (.lstore_n 0, 1) := by decide +kernel
theorem dX11_greatestDivisor_23 : decode cX11_greatestDivisor 23 = .ok (.lload 5, 2) := by decide +kernel
theorem dX11_greatestDivisor_25 : decode cX11_greatestDivisor 25 = .ok (.lstore_n 2, 1) := by decide +kernel
theorem dX11_greatestDivisor_26 : decode cX11_greatestDivisor 26 = .ok (.iinc 4 1, 3) := by decide +kernel
theorem dX11_greatestDivisor_29 : decode cX11_greatestDivisor 29 = .ok (.goto (-26), 3) := by decide +kernel
theorem dX11_greatestDivisor_32 : decode cX11_greatestDivisor 32 = .ok (.lload_n 0, 1) := by decide +kernel
theorem dX11_greatestDivisor_33 : decode cX11_greatestDivisor 33 = .ok (.lreturn, 1) := by decide +kernel
set_option maxRecDepth 20000 in
theorem ggX11_partOf_X11_greatestDivisor : GoodIn wsX11_partOf wsX11_greatestDivisor := goodIn_r _ [9] (by decide +kernel) (by decide +kernel)
set_option maxRecDepth 20000 in
theorem gX11_partOf_X11_greatestDivisor : GoodIn wsX11_partOf (va_wsS RX11 307 yX11_greatestDivisor wsX11_greatestDivisor) := goodIn_app (goodIn_of _ (by decide +kernel)) ggX11_partOf_X11_greatestDivisor
theorem dX11_partOf_0 : decode cX11_partOf 0 = .ok (.lload_n 0, 1) := by decide +kernel
theorem dX11_partOf_1 : decode cX11_partOf 1 = .ok (.invokestatic 302, 3) := by decide +kernel
theorem dX11_partOf_4 : decode cX11_partOf 4 = .ok (.lload_n 2, 1) := by decide +kernel
theorem dX11_partOf_5 : decode cX11_partOf 5 = .ok (.invokestatic 307, 3) := by decide +kernel
theorem dX11_partOf_8 : decode cX11_partOf 8 = .ok (.lstore 5, 2) := by decide +kernel
theorem dX11_partOf_10 : decode cX11_partOf 10 = .ok (.lload 5, 2) := by decide +kernel
theorem dX11_partOf_12 : decode cX11_partOf 12 = .ok (.lconst 1, 1) := by decide +kernel
theorem dX11_partOf_13 : decode cX11_partOf 13 = .ok (.lcmp, 1) := by decide +kernel
theorem dX11_partOf_14 : decode cX11_partOf 14 = .ok (.ifCond .ge 7, 3) := by decide +kernel
theorem dX11_partOf_17 : decode cX11_partOf 17 = .ok (.ldc2_w 178, 3) := by decide +kernel
theorem dX11_partOf_20 : decode cX11_partOf 20 = .ok (.lreturn, 1) := by decide +kernel
theorem dX11_partOf_21 : decode cX11_partOf 21 = .ok (.iload 4, 2) := by decide +kernel
theorem dX11_partOf_23 : decode cX11_partOf 23 = .ok (.ifCond .ne 7, 3) := by decide +kernel
theorem dX11_partOf_26 : decode cX11_partOf 26 = .ok (.lload_n 0, 1) := by decide +kernel
theorem dX11_partOf_27 : decode cX11_partOf 27 = .ok (.goto 4, 3) := by decide +kernel
theorem dX11_partOf_30 : decode cX11_partOf 30 = .ok (.lload_n 2, 1) := by decide +kernel
theorem dX11_partOf_31 : decode cX11_partOf 31 = .ok (.lload 5, 2) := by decide +kernel
theorem dX11_partOf_33 : decode cX11_partOf 33 = .ok (.ldiv, 1) := by decide +kernel
theorem dX11_partOf_34 : decode cX11_partOf 34 = .ok (.lreturn, 1) := by decide +kernel
