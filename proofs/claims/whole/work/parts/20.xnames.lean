theorem dJ6_bitCount_0f7a4_0 : decode cJ6_bitCount_0f7a4 0 = .ok (.iload_n 0, 1) := by decide +kernel
theorem dJ6_bitCount_0f7a4_1 : decode cJ6_bitCount_0f7a4 1 = .ok (.iload_n 0, 1) := by decide +kernel
theorem dJ6_bitCount_0f7a4_2 : decode cJ6_bitCount_0f7a4 2 = .ok (.iconst 1, 1) := by decide +kernel
theorem dJ6_bitCount_0f7a4_3 : decode cJ6_bitCount_0f7a4 3 = .ok (.iushr, 1) := by decide +kernel
theorem dJ6_bitCount_0f7a4_4 : decode cJ6_bitCount_0f7a4 4 = .ok (.ldc_w 265, 3) := by decide +kernel
theorem dJ6_bitCount_0f7a4_7 : decode cJ6_bitCount_0f7a4 7 = .ok (.iand, 1) := by decide +kernel
theorem dJ6_bitCount_0f7a4_8 : decode cJ6_bitCount_0f7a4 8 = .ok (.isub, 1) := by decide +kernel
theorem dJ6_bitCount_0f7a4_9 : decode cJ6_bitCount_0f7a4 9 = .ok (.istore_n 0, 1) := by decide +kernel
theorem dJ6_bitCount_0f7a4_10 : decode cJ6_bitCount_0f7a4 10 = .ok (.iload_n 0, 1) := by decide +kernel
theorem dJ6_bitCount_0f7a4_11 : decode cJ6_bitCount_0f7a4 11 = .ok (.ldc_w 266, 3) := by decide +kernel
theorem dJ6_bitCount_0f7a4_14 : decode cJ6_bitCount_0f7a4 14 = .ok (.iand, 1) := by decide +kernel
theorem dJ6_bitCount_0f7a4_15 : decode cJ6_bitCount_0f7a4 15 = .ok (.iload_n 0, 1) := by decide +kernel
theorem dJ6_bitCount_0f7a4_16 : decode cJ6_bitCount_0f7a4 16 = .ok (.iconst 2, 1) := by decide +kernel
theorem dJ6_bitCount_0f7a4_17 : decode cJ6_bitCount_0f7a4 17 = .ok (.iushr, 1) := by decide +kernel
theorem dJ6_bitCount_0f7a4_18 : decode cJ6_bitCount_0f7a4 18 = .ok (.ldc_w 266, 3) := by decide +kernel
theorem dJ6_bitCount_0f7a4_21 : decode cJ6_bitCount_0f7a4 21 = .ok (.iand, 1) := by decide +kernel
theorem dJ6_bitCount_0f7a4_22 : decode cJ6_bitCount_0f7a4 22 = .ok (.iadd, 1) := by decide +kernel
theorem dJ6_bitCount_0f7a4_23 : decode cJ6_bitCount_0f7a4 23 = .ok (.istore_n 0, 1) := by decide +kernel
theorem dJ6_bitCount_0f7a4_24 : decode cJ6_bitCount_0f7a4 24 = .ok (.iload_n 0, 1) := by decide +kernel
theorem dJ6_bitCount_0f7a4_25 : decode cJ6_bitCount_0f7a4 25 = .ok (.iload_n 0, 1) := by decide +kernel
theorem dJ6_bitCount_0f7a4_26 : decode cJ6_bitCount_0f7a4 26 = .ok (.iconst 4, 1) := by decide +kernel
theorem dJ6_bitCount_0f7a4_27 : decode cJ6_bitCount_0f7a4 27 = .ok (.iushr, 1) := by decide +kernel
theorem dJ6_bitCount_0f7a4_28 : decode cJ6_bitCount_0f7a4 28 = .ok (.iadd, 1) := by decide +kernel
theorem dJ6_bitCount_0f7a4_29 : decode cJ6_bitCount_0f7a4 29 = .ok (.ldc_w 267, 3) := by decide +kernel
theorem dJ6_bitCount_0f7a4_32 : decode cJ6_bitCount_0f7a4 32 = .ok (.iand, 1) := by decide +kernel
theorem dJ6_bitCount_0f7a4_33 : decode cJ6_bitCount_0f7a4 33 = .ok (.istore_n 0, 1) := by decide +kernel
theorem dJ6_bitCount_0f7a4_34 : decode cJ6_bitCount_0f7a4 34 = .ok (.iload_n 0, 1) := by decide +kernel
theorem dJ6_bitCount_0f7a4_35 : decode cJ6_bitCount_0f7a4 35 = .ok (.iload_n 0, 1) := by decide +kernel
theorem dJ6_bitCount_0f7a4_36 : decode cJ6_bitCount_0f7a4 36 = .ok (.bipush 8, 2) := by decide +kernel
theorem dJ6_bitCount_0f7a4_38 : decode cJ6_bitCount_0f7a4 38 = .ok (.iushr, 1) := by decide +kernel
theorem dJ6_bitCount_0f7a4_39 : decode cJ6_bitCount_0f7a4 39 = .ok (.iadd, 1) := by decide +kernel
theorem dJ6_bitCount_0f7a4_40 : decode cJ6_bitCount_0f7a4 40 = .ok (.istore_n 0, 1) := by decide +kernel
theorem dJ6_bitCount_0f7a4_41 : decode cJ6_bitCount_0f7a4 41 = .ok (.iload_n 0, 1) := by decide +kernel
theorem dJ6_bitCount_0f7a4_42 : decode cJ6_bitCount_0f7a4 42 = .ok (.iload_n 0, 1) := by decide +kernel
theorem dJ6_bitCount_0f7a4_43 : decode cJ6_bitCount_0f7a4 43 = .ok (.bipush 16, 2) := by decide +kernel
theorem dJ6_bitCount_0f7a4_45 : decode cJ6_bitCount_0f7a4 45 = .ok (.iushr, 1) := by decide +kernel
theorem dJ6_bitCount_0f7a4_46 : decode cJ6_bitCount_0f7a4 46 = .ok (.iadd, 1) := by decide +kernel
theorem dJ6_bitCount_0f7a4_47 : decode cJ6_bitCount_0f7a4 47 = .ok (.istore_n 0, 1) := by decide +kernel
theorem dJ6_bitCount_0f7a4_48 : decode cJ6_bitCount_0f7a4 48 = .ok (.iload_n 0, 1) := by decide +kernel
theorem dJ6_bitCount_0f7a4_49 : decode cJ6_bitCount_0f7a4 49 = .ok (.bipush 63, 2) := by decide +kernel
theorem dJ6_bitCount_0f7a4_51 : decode cJ6_bitCount_0f7a4 51 = .ok (.iand, 1) := by decide +kernel
theorem dJ6_bitCount_0f7a4_52 : decode cJ6_bitCount_0f7a4 52 = .ok (.ireturn, 1) := by decide +kernel
theorem dJ7_fill_d0a16_0 : decode cJ7_fill_d0a16 0 = .ok (.iconst 0, 1) := by decide +kernel
theorem dJ7_fill_d0a16_1 : decode cJ7_fill_d0a16 1 = .ok (.istore_n 3, 1) := by decide +kernel
theorem dJ7_fill_d0a16_2 : decode cJ7_fill_d0a16 2 = .ok (.aload_n 0, 1) := by decide +kernel
theorem dJ7_fill_d0a16_3 : decode cJ7_fill_d0a16 3 = .ok (.arraylength, 1) := by decide +kernel
theorem dJ7_fill_d0a16_4 : decode cJ7_fill_d0a16 4 = .ok (.istore 4, 2) := by decide +kernel
theorem dJ7_fill_d0a16_6 : decode cJ7_fill_d0a16 6 = .ok (.iload_n 3, 1) := by decide +kernel
theorem dJ7_fill_d0a16_7 : decode cJ7_fill_d0a16 7 = .ok (.iload 4, 2) := by decide +kernel
theorem dJ7_fill_d0a16_9 : decode cJ7_fill_d0a16 9 = .ok (.if_icmp .ge 13, 3) := by decide +kernel
theorem dJ7_fill_d0a16_12 : decode cJ7_fill_d0a16 12 = .ok (.aload_n 0, 1) := by decide +kernel
theorem dJ7_fill_d0a16_13 : decode cJ7_fill_d0a16 13 = .ok (.iload_n 3, 1) := by decide +kernel
theorem dJ7_fill_d0a16_14 : decode cJ7_fill_d0a16 14 = .ok (.lload_n 1, 1) := by decide +kernel
theorem dJ7_fill_d0a16_15 : decode cJ7_fill_d0a16 15 = .ok (.lastore, 1) := by decide +kernel
theorem dJ7_fill_d0a16_16 : decode cJ7_fill_d0a16 16 = .ok (.iinc 3 1, 3) := by decide +kernel
theorem dJ7_fill_d0a16_19 : decode cJ7_fill_d0a16 19 = .ok (.goto (-13), 3) := by decide +kernel
theorem dJ7_fill_d0a16_22 : decode cJ7_fill_d0a16 22 = .ok (.return_, 1) := by decide +kernel
set_option maxRecDepth 20000 in
theorem ggX0_init_X2_init : GoodIn wsX0_init wsX2_init := goodIn_r _ [4, 5, 6, 7, 8, 9, 10, 11, 12, 13, 14, 15, 16, 17, 18, 19, 20, 21, 22, 23, 24, 25, 26, 27, 28, 29, 30, 31, 32, 33, 34, 35, 36] (by decide +kernel) (by decide +kernel)
set_option maxRecDepth 20000 in
theorem gX0_init_X2_init : GoodIn wsX0_init (wsX2_init) := ggX0_init_X2_init
theorem dX0_init_0 : decode cX0_init 0 = .ok (.aload_n 0, 1) := by decide +kernel
theorem dX0_init_1 : decode cX0_init 1 = .ok (.iload_n 1, 1) := by decide +kernel
theorem dX0_init_2 : decode cX0_init 2 = .ok (.iload_n 2, 1) := by decide +kernel
theorem dX0_init_3 : decode cX0_init 3 = .ok (.iload_n 3, 1) := by decide +kernel
theorem dX0_init_4 : decode cX0_init 4 = .ok (.iload 4, 2) := by decide +kernel
theorem dX0_init_6 : decode cX0_init 6 = .ok (.invokespecial 3, 3) := by decide +kernel
theorem dX0_init_9 : decode cX0_init 9 = .ok (.return_, 1) := by decide +kernel
theorem dX0_kind_0 : decode cX0_kind 0 = .ok (.iconst 2, 1) := by decide +kernel
theorem dX0_kind_1 : decode cX0_kind 1 = .ok (.ireturn, 1) := by decide +kernel
theorem dX0_room_0 : decode cX0_room 0 = .ok (.aload_n 0, 1) := by decide +kernel
theorem dX0_room_1 : decode cX0_room 1 = .ok (.getfield 9, 3) := by decide +kernel
theorem dX0_room_4 : decode cX0_room 4 = .ok (.ireturn, 1) := by decide +kernel
theorem dX0_widthAfter_0 : decode cX0_widthAfter 0 = .ok (.aload_n 0, 1) := by decide +kernel
theorem dX0_widthAfter_1 : decode cX0_widthAfter 1 = .ok (.getfield 9, 3) := by decide +kernel
theorem dX0_widthAfter_4 : decode cX0_widthAfter 4 = .ok (.iload_n 1, 1) := by decide +kernel
theorem dX0_widthAfter_5 : decode cX0_widthAfter 5 = .ok (.isub, 1) := by decide +kernel
theorem dX0_widthAfter_6 : decode cX0_widthAfter 6 = .ok (.ireturn, 1) := by decide +kernel
set_option maxRecDepth 20000 in
theorem ggX0_telling_X6_leave : GoodIn wsX0_telling wsX6_leave := goodIn_r _ [5, 6, 15] (by decide +kernel) (by decide +kernel)
set_option maxRecDepth 20000 in
theorem gX0_telling_X6_leave : GoodIn wsX0_telling (wsV RX0 15 RX6 yX6_leave wsX6_leave) := goodIn_app (goodIn_of _ (by decide +kernel)) ggX0_telling_X6_leave
set_option maxRecDepth 20000 in
theorem ggX0_telling_X2_plainTelling : GoodIn wsX0_telling wsX2_plainTelling := goodIn_r _ [12, 13, 14, 2, 3, 4, 5, 6, 16, 17, 18, 19, 20, 21, 22, 23, 24, 25, 26, 27, 28, 29, 30, 31, 32, 33, 34, 35, 36, 37, 38, 39, 40, 15] (by decide +kernel) (by decide +kernel)
set_option maxRecDepth 20000 in
theorem gX0_telling_X2_plainTelling_u21X0 : GoodIn wsX0_telling (va_wsU RX0 21 RX0 "WideningCracks$Crack" ⟨"WideningCracks$Clogging", "plainTelling", "(LWideningCracks$Trace;)I"⟩ yX2_plainTelling wsX2_plainTelling) := goodIn_app (goodIn_of _ (by decide +kernel)) ggX0_telling_X2_plainTelling
theorem dX0_telling_0 : decode cX0_telling 0 = .ok (.aload_n 1, 1) := by decide +kernel
theorem dX0_telling_1 : decode cX0_telling 1 = .ok (.iconst 3, 1) := by decide +kernel
theorem dX0_telling_2 : decode cX0_telling 2 = .ok (.invokevirtual 15, 3) := by decide +kernel
theorem dX0_telling_5 : decode cX0_telling 5 = .ok (.aload_n 0, 1) := by decide +kernel
theorem dX0_telling_6 : decode cX0_telling 6 = .ok (.aload_n 1, 1) := by decide +kernel
theorem dX0_telling_7 : decode cX0_telling 7 = .ok (.invokevirtual 21, 3) := by decide +kernel
theorem dX0_telling_10 : decode cX0_telling 10 = .ok (.bipush 20, 2) := by decide +kernel
theorem dX0_telling_12 : decode cX0_telling 12 = .ok (.isub, 1) := by decide +kernel
theorem dX0_telling_13 : decode cX0_telling 13 = .ok (.ireturn, 1) := by decide +kernel
theorem dX1_init_0 : decode cX1_init 0 = .ok (.aload_n 0, 1) := by decide +kernel
theorem dX1_init_1 : decode cX1_init 1 = .ok (.invokespecial 3, 3) := by decide +kernel
theorem dX1_init_4 : decode cX1_init 4 = .ok (.aload_n 0, 1) := by decide +kernel
theorem dX1_init_5 : decode cX1_init 5 = .ok (.bipush 24, 2) := by decide +kernel
theorem dX1_init_7 : decode cX1_init 7 = .ok (.newarray .long, 2) := by decide +kernel
theorem dX1_init_9 : decode cX1_init 9 = .ok (.putfield 9, 3) := by decide +kernel
theorem dX1_init_12 : decode cX1_init 12 = .ok (.return_, 1) := by decide +kernel
set_option maxRecDepth 20000 in
theorem ggX1_renew_J7_fill_d0a16 : GoodIn wsX1_renew wsJ7_fill_d0a16 := goodIn_r _ [8] (by decide +kernel) (by decide +kernel)
set_option maxRecDepth 20000 in
theorem gX1_renew_J7_fill_d0a16 : GoodIn wsX1_renew (va_wsS RX1 26 yJ7_fill_d0a16 wsJ7_fill_d0a16) := goodIn_app (goodIn_of _ (by decide +kernel)) ggX1_renew_J7_fill_d0a16
theorem dX1_renew_0 : decode cX1_renew 0 = .ok (.aload_n 0, 1) := by decide +kernel
theorem dX1_renew_1 : decode cX1_renew 1 = .ok (.iconst 1, 1) := by decide +kernel
theorem dX1_renew_2 : decode cX1_renew 2 = .ok (.putfield 15, 3) := by decide +kernel
theorem dX1_renew_5 : decode cX1_renew 5 = .ok (.aload_n 0, 1) := by decide +kernel
theorem dX1_renew_6 : decode cX1_renew 6 = .ok (.iload_n 1, 1) := by decide +kernel
theorem dX1_renew_7 : decode cX1_renew 7 = .ok (.putfield 19, 3) := by decide +kernel
theorem dX1_renew_10 : decode cX1_renew 10 = .ok (.aload_n 0, 1) := by decide +kernel
theorem dX1_renew_11 : decode cX1_renew 11 = .ok (.iload_n 2, 1) := by decide +kernel
theorem dX1_renew_12 : decode cX1_renew 12 = .ok (.putfield 23, 3) := by decide +kernel
theorem dX1_renew_15 : decode cX1_renew 15 = .ok (.aload_n 0, 1) := by decide +kernel
theorem dX1_renew_16 : decode cX1_renew 16 = .ok (.getfield 9, 3) := by decide +kernel
theorem dX1_renew_19 : decode cX1_renew 19 = .ok (.lconst 0, 1) := by decide +kernel
theorem dX1_renew_20 : decode cX1_renew 20 = .ok (.invokestatic 26, 3) := by decide +kernel
theorem dX1_renew_23 : decode cX1_renew 23 = .ok (.return_, 1) := by decide +kernel
theorem dX1_isOfAnotherLane_0 : decode cX1_isOfAnotherLane 0 = .ok (.aload_n 0, 1) := by decide +kernel
theorem dX1_isOfAnotherLane_1 : decode cX1_isOfAnotherLane 1 = .ok (.getfield 15, 3) := by decide +kernel
theorem dX1_isOfAnotherLane_4 : decode cX1_isOfAnotherLane 4 = .ok (.ifCond .eq 15, 3) := by decide +kernel
theorem dX1_isOfAnotherLane_7 : decode cX1_isOfAnotherLane 7 = .ok (.aload_n 0, 1) := by decide +kernel
theorem dX1_isOfAnotherLane_8 : decode cX1_isOfAnotherLane 8 = .ok (.getfield 19, 3) := by decide +kernel
theorem dX1_isOfAnotherLane_11 : decode cX1_isOfAnotherLane 11 = .ok (.iload_n 1, 1) := by decide +kernel
theorem dX1_isOfAnotherLane_12 : decode cX1_isOfAnotherLane 12 = .ok (.if_icmp .eq 7, 3) := by decide +kernel
theorem dX1_isOfAnotherLane_15 : decode cX1_isOfAnotherLane 15 = .ok (.iconst 1, 1) := by decide +kernel
theorem dX1_isOfAnotherLane_16 : decode cX1_isOfAnotherLane 16 = .ok (.goto 4, 3) := by decide +kernel
theorem dX1_isOfAnotherLane_19 : decode cX1_isOfAnotherLane 19 = .ok (.iconst 0, 1) := by decide +kernel
theorem dX1_isOfAnotherLane_20 : decode cX1_isOfAnotherLane 20 = .ok (.ireturn, 1) := by decide +kernel
theorem dX1_hasCells_0 : decode cX1_hasCells 0 = .ok (.iload_n 1, 1) := by decide +kernel
theorem dX1_hasCells_1 : decode cX1_hasCells 1 = .ok (.ifCond .lt 17, 3) := by decide +kernel
theorem dX1_hasCells_4 : decode cX1_hasCells 4 = .ok (.iload_n 2, 1) := by decide +kernel
theorem dX1_hasCells_5 : decode cX1_hasCells 5 = .ok (.aload_n 0, 1) := by decide +kernel
theorem dX1_hasCells_6 : decode cX1_hasCells 6 = .ok (.getfield 23, 3) := by decide +kernel
theorem dX1_hasCells_9 : decode cX1_hasCells 9 = .ok (.iload_n 1, 1) := by decide +kernel
theorem dX1_hasCells_10 : decode cX1_hasCells 10 = .ok (.isub, 1) := by decide +kernel
theorem dX1_hasCells_11 : decode cX1_hasCells 11 = .ok (.if_icmp .gt 7, 3) := by decide +kernel
theorem dX1_hasCells_14 : decode cX1_hasCells 14 = .ok (.iconst 1, 1) := by decide +kernel
theorem dX1_hasCells_15 : decode cX1_hasCells 15 = .ok (.goto 4, 3) := by decide +kernel
theorem dX1_hasCells_18 : decode cX1_hasCells 18 = .ok (.iconst 0, 1) := by decide +kernel
theorem dX1_hasCells_19 : decode cX1_hasCells 19 = .ok (.ireturn, 1) := by decide +kernel
set_option maxRecDepth 20000 in
theorem ggX1_areWithin_X11_isWithin : GoodIn wsX1_areWithin wsX11_isWithin := goodIn_r _ [4] (by decide +kernel) (by decide +kernel)
set_option maxRecDepth 20000 in
theorem gX1_areWithin_X11_isWithin_n32 : GoodIn wsX1_areWithin (wsX11_isWithin) := ggX1_areWithin_X11_isWithin
theorem dX1_areWithin_0 : decode cX1_areWithin 0 = .ok (.iconst 0, 1) := by decide +kernel
theorem dX1_areWithin_1 : decode cX1_areWithin 1 = .ok (.istore 5, 2) := by decide +kernel
theorem dX1_areWithin_3 : decode cX1_areWithin 3 = .ok (.iload 5, 2) := by decide +kernel
theorem dX1_areWithin_5 : decode cX1_areWithin 5 = .ok (.iload_n 2, 1) := by decide +kernel
theorem dX1_areWithin_6 : decode cX1_areWithin 6 = .ok (.if_icmp .ge 29, 3) := by decide +kernel
theorem dX1_areWithin_9 : decode cX1_areWithin 9 = .ok (.aload_n 0, 1) := by decide +kernel
theorem dX1_areWithin_10 : decode cX1_areWithin 10 = .ok (.getfield 9, 3) := by decide +kernel
theorem dX1_areWithin_13 : decode cX1_areWithin 13 = .ok (.iload_n 1, 1) := by decide +kernel
theorem dX1_areWithin_14 : decode cX1_areWithin 14 = .ok (.iload 5, 2) := by decide +kernel
theorem dX1_areWithin_16 : decode cX1_areWithin 16 = .ok (.iadd, 1) := by decide +kernel
theorem dX1_areWithin_17 : decode cX1_areWithin 17 = .ok (.laload, 1) := by decide +kernel
theorem dX1_areWithin_18 : decode cX1_areWithin 18 = .ok (.iload_n 3, 1) := by decide +kernel
theorem dX1_areWithin_19 : decode cX1_areWithin 19 = .ok (.iload 4, 2) := by decide +kernel
theorem dX1_areWithin_21 : decode cX1_areWithin 21 = .ok (.invokestatic 32, 3) := by decide +kernel
theorem dX1_areWithin_24 : decode cX1_areWithin 24 = .ok (.ifCond .ne 5, 3) := by decide +kernel
theorem dX1_areWithin_27 : decode cX1_areWithin 27 = .ok (.iconst 0, 1) := by decide +kernel
theorem dX1_areWithin_28 : decode cX1_areWithin 28 = .ok (.ireturn, 1) := by decide +kernel
theorem dX1_areWithin_29 : decode cX1_areWithin 29 = .ok (.iinc 5 1, 3) := by decide +kernel
theorem dX1_areWithin_32 : decode cX1_areWithin 32 = .ok (.goto (-29), 3) := by decide +kernel
theorem dX1_areWithin_35 : decode cX1_areWithin 35 = .ok (.iconst 1, 1) := by decide +kernel
theorem dX1_areWithin_36 : decode cX1_areWithin 36 = .ok (.ireturn, 1) := by decide +kernel
theorem dX1_cut_0 : decode cX1_cut 0 = .ok (.aload_n 0, 1) := by decide +kernel
theorem dX1_cut_1 : decode cX1_cut 1 = .ok (.getfield 19, 3) := by decide +kernel
theorem dX1_cut_4 : decode cX1_cut 4 = .ok (.tableswitch 42 0 2 #[28, 33, 38], 28) := by decide +kernel
theorem dX1_cut_32 : decode cX1_cut 32 = .ok (.lload_n 1, 1) := by decide +kernel
theorem dX1_cut_33 : decode cX1_cut 33 = .ok (.l2i, 1) := by decide +kernel
theorem dX1_cut_34 : decode cX1_cut 34 = .ok (.i2b, 1) := by decide +kernel
theorem dX1_cut_35 : decode cX1_cut 35 = .ok (.i2l, 1) := by decide +kernel
theorem dX1_cut_36 : decode cX1_cut 36 = .ok (.lreturn, 1) := by decide +kernel
theorem dX1_cut_37 : decode cX1_cut 37 = .ok (.lload_n 1, 1) := by decide +kernel
theorem dX1_cut_38 : decode cX1_cut 38 = .ok (.l2i, 1) := by decide +kernel
theorem dX1_cut_39 : decode cX1_cut 39 = .ok (.i2s, 1) := by decide +kernel
theorem dX1_cut_40 : decode cX1_cut 40 = .ok (.i2l, 1) := by decide +kernel
theorem dX1_cut_41 : decode cX1_cut 41 = .ok (.lreturn, 1) := by decide +kernel
theorem dX1_cut_42 : decode cX1_cut 42 = .ok (.lload_n 1, 1) := by decide +kernel
theorem dX1_cut_43 : decode cX1_cut 43 = .ok (.l2i, 1) := by decide +kernel
theorem dX1_cut_44 : decode cX1_cut 44 = .ok (.i2l, 1) := by decide +kernel
theorem dX1_cut_45 : decode cX1_cut 45 = .ok (.lreturn, 1) := by decide +kernel
theorem dX1_cut_46 : decode cX1_cut 46 = .ok (.lload_n 1, 1) := by decide +kernel
theorem dX1_cut_47 : decode cX1_cut 47 = .ok (.lreturn, 1) := by decide +kernel
theorem dX2_init_0 : decode cX2_init 0 = .ok (.aload_n 0, 1) := by decide +kernel
theorem dX2_init_1 : decode cX2_init 1 = .ok (.invokespecial 3, 3) := by decide +kernel
theorem dX2_init_4 : decode cX2_init 4 = .ok (.aload_n 0, 1) := by decide +kernel
theorem dX2_init_5 : decode cX2_init 5 = .ok (.iload_n 1, 1) := by decide +kernel
theorem dX2_init_6 : decode cX2_init 6 = .ok (.putfield 9, 3) := by decide +kernel
theorem dX2_init_9 : decode cX2_init 9 = .ok (.aload_n 0, 1) := by decide +kernel
theorem dX2_init_10 : decode cX2_init 10 = .ok (.iload_n 2, 1) := by decide +kernel
theorem dX2_init_11 : decode cX2_init 11 = .ok (.putfield 15, 3) := by decide +kernel
theorem dX2_init_14 : decode cX2_init 14 = .ok (.aload_n 0, 1) := by decide +kernel
theorem dX2_init_15 : decode cX2_init 15 = .ok (.iload_n 3, 1) := by decide +kernel
theorem dX2_init_16 : decode cX2_init 16 = .ok (.putfield 18, 3) := by decide +kernel
theorem dX2_init_19 : decode cX2_init 19 = .ok (.aload_n 0, 1) := by decide +kernel
theorem dX2_init_20 : decode cX2_init 20 = .ok (.iload 4, 2) := by decide +kernel
theorem dX2_init_22 : decode cX2_init 22 = .ok (.putfield 21, 3) := by decide +kernel
theorem dX2_init_25 : decode cX2_init 25 = .ok (.return_, 1) := by decide +kernel
theorem dX2_kind_0 : decode cX2_kind 0 = .ok (.iconst 0, 1) := by decide +kernel
theorem dX2_kind_1 : decode cX2_kind 1 = .ok (.ireturn, 1) := by decide +kernel
theorem dX2_lets_0 : decode cX2_lets 0 = .ok (.aload_n 0, 1) := by decide +kernel
theorem dX2_lets_1 : decode cX2_lets 1 = .ok (.getfield 18, 3) := by decide +kernel
theorem dX2_lets_4 : decode cX2_lets 4 = .ok (.ireturn, 1) := by decide +kernel
theorem dX2_eatsIn_0 : decode cX2_eatsIn 0 = .ok (.iconst 1, 1) := by decide +kernel
theorem dX2_eatsIn_1 : decode cX2_eatsIn 1 = .ok (.ireturn, 1) := by decide +kernel
theorem dX2_room_0 : decode cX2_room 0 = .ok (.bipush 12, 2) := by decide +kernel
theorem dX2_room_2 : decode cX2_room 2 = .ok (.aload_n 0, 1) := by decide +kernel
theorem dX2_room_3 : decode cX2_room 3 = .ok (.getfield 18, 3) := by decide +kernel
theorem dX2_room_6 : decode cX2_room 6 = .ok (.isub, 1) := by decide +kernel
theorem dX2_room_7 : decode cX2_room 7 = .ok (.ireturn, 1) := by decide +kernel
theorem dX2_widthAfter_0 : decode cX2_widthAfter 0 = .ok (.aload_n 0, 1) := by decide +kernel
theorem dX2_widthAfter_1 : decode cX2_widthAfter 1 = .ok (.getfield 18, 3) := by decide +kernel
theorem dX2_widthAfter_4 : decode cX2_widthAfter 4 = .ok (.iload_n 1, 1) := by decide +kernel
theorem dX2_widthAfter_5 : decode cX2_widthAfter 5 = .ok (.iadd, 1) := by decide +kernel
theorem dX2_widthAfter_6 : decode cX2_widthAfter 6 = .ok (.ireturn, 1) := by decide +kernel
set_option maxRecDepth 20000 in
theorem ggX2_telling_X2_plainTelling : GoodIn wsX2_telling wsX2_plainTelling := goodIn_r _ [6, 7, 8, 9, 10, 11, 12, 13, 19, 20, 21, 22, 23, 24, 25, 26, 27, 28, 29, 30, 31, 32, 33, 34, 35, 36, 37, 38, 39, 40, 41, 42, 43, 44] (by decide +kernel) (by decide +kernel)
set_option maxRecDepth 20000 in
theorem gX2_telling_X2_plainTelling_u24X0 : GoodIn wsX2_telling (va_wsU RX2 24 RX0 "WideningCracks$Crack" ⟨"WideningCracks$Crack", "plainTelling", "(LWideningCracks$Trace;)I"⟩ yX2_plainTelling wsX2_plainTelling) := goodIn_app (goodIn_of _ (by decide +kernel)) ggX2_telling_X2_plainTelling
set_option maxRecDepth 20000 in
theorem gX2_telling_X2_plainTelling : GoodIn wsX2_telling (wsV RX2 24 RX2 yX2_plainTelling wsX2_plainTelling) := goodIn_app (goodIn_of _ (by decide +kernel)) ggX2_telling_X2_plainTelling
set_option maxRecDepth 20000 in
theorem gX2_telling_X2_plainTelling_u24X3 : GoodIn wsX2_telling (va_wsU RX2 24 RX3 "WideningCracks$Crack" ⟨"WideningCracks$Crack", "plainTelling", "(LWideningCracks$Trace;)I"⟩ yX2_plainTelling wsX2_plainTelling) := goodIn_app (goodIn_of _ (by decide +kernel)) ggX2_telling_X2_plainTelling
set_option maxRecDepth 20000 in
theorem gX2_telling_X2_plainTelling_u24X7 : GoodIn wsX2_telling (va_wsU RX2 24 RX7 "WideningCracks$Crack" ⟨"WideningCracks$Crack", "plainTelling", "(LWideningCracks$Trace;)I"⟩ yX2_plainTelling wsX2_plainTelling) := goodIn_app (goodIn_of _ (by decide +kernel)) ggX2_telling_X2_plainTelling
set_option maxRecDepth 20000 in
theorem gX2_telling_X2_plainTelling_u24X10 : GoodIn wsX2_telling (va_wsU RX2 24 RX10 "WideningCracks$Crack" ⟨"WideningCracks$Crack", "plainTelling", "(LWideningCracks$Trace;)I"⟩ yX2_plainTelling wsX2_plainTelling) := goodIn_app (goodIn_of _ (by decide +kernel)) ggX2_telling_X2_plainTelling
theorem dX2_telling_0 : decode cX2_telling 0 = .ok (.aload_n 0, 1) := by decide +kernel
theorem dX2_telling_1 : decode cX2_telling 1 = .ok (.aload_n 1, 1) := by decide +kernel
theorem dX2_telling_2 : decode cX2_telling 2 = .ok (.invokevirtual 24, 3) := by decide +kernel
theorem dX2_telling_5 : decode cX2_telling 5 = .ok (.ireturn, 1) := by decide +kernel
set_option maxRecDepth 20000 in
theorem ggX2_judgement_X6_leave : GoodIn wsX2_judgement wsX6_leave := goodIn_r _ [5, 6, 31] (by decide +kernel) (by decide +kernel)
set_option maxRecDepth 20000 in
theorem gX2_judgement_X6_leave : GoodIn wsX2_judgement (wsV RX2 28 RX6 yX6_leave wsX6_leave) := goodIn_app (goodIn_of _ (by decide +kernel)) ggX2_judgement_X6_leave
set_option maxRecDepth 20000 in
theorem ggX2_judgement_X0_kind : GoodIn wsX2_judgement wsX0_kind := goodIn_r _ [13] (by decide +kernel) (by decide +kernel)
set_option maxRecDepth 20000 in
theorem gX2_judgement_X0_kind_u34X0 : GoodIn wsX2_judgement (va_wsO RX2 34 RX0 "WideningCracks$Crack" ⟨"WideningCracks$Crack", "kind", "()I"⟩ yX0_kind wsX0_kind) := goodIn_app (goodIn_of _ (by decide +kernel)) ggX2_judgement_X0_kind
set_option maxRecDepth 20000 in
theorem ggX2_judgement_X2_kind : GoodIn wsX2_judgement wsX2_kind := goodIn_r _ [14] (by decide +kernel) (by decide +kernel)
set_option maxRecDepth 20000 in
theorem gX2_judgement_X2_kind : GoodIn wsX2_judgement (wsV RX2 34 RX2 yX2_kind wsX2_kind) := goodIn_app (goodIn_of _ (by decide +kernel)) ggX2_judgement_X2_kind
set_option maxRecDepth 20000 in
theorem ggX2_judgement_X3_kind : GoodIn wsX2_judgement wsX3_kind := goodIn_r _ [22] (by decide +kernel) (by decide +kernel)
set_option maxRecDepth 20000 in
theorem gX2_judgement_X3_kind_u34X3 : GoodIn wsX2_judgement (va_wsO RX2 34 RX3 "WideningCracks$Crack" ⟨"WideningCracks$Crack", "kind", "()I"⟩ yX3_kind wsX3_kind) := goodIn_app (goodIn_of _ (by decide +kernel)) ggX2_judgement_X3_kind
set_option maxRecDepth 20000 in
theorem ggX2_judgement_X7_kind : GoodIn wsX2_judgement wsX7_kind := goodIn_r _ [26] (by decide +kernel) (by decide +kernel)
set_option maxRecDepth 20000 in
theorem gX2_judgement_X7_kind_u34X7 : GoodIn wsX2_judgement (va_wsO RX2 34 RX7 "WideningCracks$Crack" ⟨"WideningCracks$Crack", "kind", "()I"⟩ yX7_kind wsX7_kind) := goodIn_app (goodIn_of _ (by decide +kernel)) ggX2_judgement_X7_kind
set_option maxRecDepth 20000 in
theorem ggX2_judgement_X10_kind : GoodIn wsX2_judgement wsX10_kind := goodIn_r _ [30] (by decide +kernel) (by decide +kernel)
set_option maxRecDepth 20000 in
theorem gX2_judgement_X10_kind_u34X10 : GoodIn wsX2_judgement (va_wsO RX2 34 RX10 "WideningCracks$Crack" ⟨"WideningCracks$Crack", "kind", "()I"⟩ yX10_kind wsX10_kind) := goodIn_app (goodIn_of _ (by decide +kernel)) ggX2_judgement_X10_kind
theorem dX2_judgement_0 : decode cX2_judgement 0 = .ok (.aload_n 1, 1) := by decide +kernel
theorem dX2_judgement_1 : decode cX2_judgement 1 = .ok (.iconst 5, 1) := by decide +kernel
theorem dX2_judgement_2 : decode cX2_judgement 2 = .ok (.invokevirtual 28, 3) := by decide +kernel
theorem dX2_judgement_5 : decode cX2_judgement 5 = .ok (.bipush 100, 2) := by decide +kernel
theorem dX2_judgement_7 : decode cX2_judgement 7 = .ok (.aload_n 0, 1) := by decide +kernel
theorem dX2_judgement_8 : decode cX2_judgement 8 = .ok (.invokevirtual 34, 3) := by decide +kernel
theorem dX2_judgement_11 : decode cX2_judgement 11 = .ok (.iadd, 1) := by decide +kernel
theorem dX2_judgement_12 : decode cX2_judgement 12 = .ok (.ireturn, 1) := by decide +kernel
set_option maxRecDepth 20000 in
theorem ggX2_plainTelling_X6_leave : GoodIn wsX2_plainTelling wsX6_leave := goodIn_r _ [6, 7, 33] (by decide +kernel) (by decide +kernel)
set_option maxRecDepth 20000 in
theorem gX2_plainTelling_X6_leave : GoodIn wsX2_plainTelling (wsV RX2 28 RX6 yX6_leave wsX6_leave) := goodIn_app (goodIn_of _ (by decide +kernel)) ggX2_plainTelling_X6_leave
theorem dX2_plainTelling_0 : decode cX2_plainTelling 0 = .ok (.aload_n 1, 1) := by decide +kernel
theorem dX2_plainTelling_1 : decode cX2_plainTelling 1 = .ok (.iconst 1, 1) := by decide +kernel
theorem dX2_plainTelling_2 : decode cX2_plainTelling 2 = .ok (.invokevirtual 28, 3) := by decide +kernel
theorem dX2_plainTelling_5 : decode cX2_plainTelling 5 = .ok (.aload_n 0, 1) := by decide +kernel
theorem dX2_plainTelling_6 : decode cX2_plainTelling 6 = .ok (.getfield 18, 3) := by decide +kernel
theorem dX2_plainTelling_9 : decode cX2_plainTelling 9 = .ok (.ireturn, 1) := by decide +kernel
set_option maxRecDepth 20000 in
theorem ggX2_takeIn_X0_room : GoodIn wsX2_takeIn wsX0_room := goodIn_r _ [14, 15, 16, 48, 49, 50, 51, 52, 53, 54, 55, 56, 57, 58, 59, 60, 61, 62, 63, 64, 65, 66, 67, 68, 69, 70, 71, 72] (by decide +kernel) (by decide +kernel)
set_option maxRecDepth 20000 in
theorem gX2_takeIn_X0_room_u43X0 : GoodIn wsX2_takeIn (va_wsO RX2 43 RX0 "WideningCracks$Crack" ⟨"WideningCracks$Crack", "room", "()I"⟩ yX0_room wsX0_room) := goodIn_app (goodIn_of _ (by decide +kernel)) ggX2_takeIn_X0_room
set_option maxRecDepth 20000 in
theorem ggX2_takeIn_X2_room : GoodIn wsX2_takeIn wsX2_room := goodIn_r _ [17, 7, 48, 49, 50, 51, 52, 53, 54, 55, 56, 57, 58, 59, 60, 61, 62, 63, 64, 65, 66, 67, 68, 69, 70, 71, 72] (by decide +kernel) (by decide +kernel)
set_option maxRecDepth 20000 in
theorem gX2_takeIn_X2_room : GoodIn wsX2_takeIn (wsV RX2 43 RX2 yX2_room wsX2_room) := goodIn_app (goodIn_of _ (by decide +kernel)) ggX2_takeIn_X2_room
set_option maxRecDepth 20000 in
theorem gX2_takeIn_X2_room_u43X3 : GoodIn wsX2_takeIn (va_wsU RX2 43 RX3 "WideningCracks$Crack" ⟨"WideningCracks$Crack", "room", "()I"⟩ yX2_room wsX2_room) := goodIn_app (goodIn_of _ (by decide +kernel)) ggX2_takeIn_X2_room
set_option maxRecDepth 20000 in
theorem ggX2_takeIn_X7_room : GoodIn wsX2_takeIn wsX7_room := goodIn_r _ [26, 27, 28, 29, 30, 31, 32, 5, 33, 48, 49, 50, 51, 52, 53, 54, 55, 56, 57, 58, 59, 60, 61, 62, 63, 64, 65, 66, 67, 68, 69, 70, 71, 72] (by decide +kernel) (by decide +kernel)
set_option maxRecDepth 20000 in
theorem gX2_takeIn_X7_room_u43X7 : GoodIn wsX2_takeIn (va_wsO RX2 43 RX7 "WideningCracks$Crack" ⟨"WideningCracks$Crack", "room", "()I"⟩ yX7_room wsX7_room) := goodIn_app (goodIn_of _ (by decide +kernel)) ggX2_takeIn_X7_room
set_option maxRecDepth 20000 in
theorem gX2_takeIn_X2_room_u43X10 : GoodIn wsX2_takeIn (va_wsU RX2 43 RX10 "WideningCracks$Crack" ⟨"WideningCracks$Crack", "room", "()I"⟩ yX2_room wsX2_room) := goodIn_app (goodIn_of _ (by decide +kernel)) ggX2_takeIn_X2_room
set_option maxRecDepth 20000 in
theorem ggX2_takeIn_X0_widthAfter : GoodIn wsX2_takeIn wsX0_widthAfter := goodIn_r _ [40, 15, 16, 48, 49, 50, 51, 52, 53, 54, 55, 56, 57, 58, 59, 60, 61, 62, 63, 64, 65, 66, 67, 68, 69, 70, 71, 72] (by decide +kernel) (by decide +kernel)
set_option maxRecDepth 20000 in
theorem gX2_takeIn_X0_widthAfter_u52X0 : GoodIn wsX2_takeIn (va_wsO RX2 52 RX0 "WideningCracks$Crack" ⟨"WideningCracks$Crack", "widthAfter", "(I)I"⟩ yX0_widthAfter wsX0_widthAfter) := goodIn_app (goodIn_of _ (by decide +kernel)) ggX2_takeIn_X0_widthAfter
set_option maxRecDepth 20000 in
theorem ggX2_takeIn_X2_widthAfter : GoodIn wsX2_takeIn wsX2_widthAfter := goodIn_r _ [41, 7, 48, 49, 50, 51, 52, 53, 54, 55, 56, 57, 58, 59, 60, 61, 62, 63, 64, 65, 66, 67, 68, 69, 70, 71, 72] (by decide +kernel) (by decide +kernel)
set_option maxRecDepth 20000 in
theorem gX2_takeIn_X2_widthAfter : GoodIn wsX2_takeIn (wsV RX2 52 RX2 yX2_widthAfter wsX2_widthAfter) := goodIn_app (goodIn_of _ (by decide +kernel)) ggX2_takeIn_X2_widthAfter
set_option maxRecDepth 20000 in
theorem gX2_takeIn_X2_widthAfter_u52X3 : GoodIn wsX2_takeIn (va_wsU RX2 52 RX3 "WideningCracks$Crack" ⟨"WideningCracks$Crack", "widthAfter", "(I)I"⟩ yX2_widthAfter wsX2_widthAfter) := goodIn_app (goodIn_of _ (by decide +kernel)) ggX2_takeIn_X2_widthAfter
set_option maxRecDepth 20000 in
theorem gX2_takeIn_X2_widthAfter_u52X7 : GoodIn wsX2_takeIn (va_wsU RX2 52 RX7 "WideningCracks$Crack" ⟨"WideningCracks$Crack", "widthAfter", "(I)I"⟩ yX2_widthAfter wsX2_widthAfter) := goodIn_app (goodIn_of _ (by decide +kernel)) ggX2_takeIn_X2_widthAfter
set_option maxRecDepth 20000 in
theorem gX2_takeIn_X2_widthAfter_u52X10 : GoodIn wsX2_takeIn (va_wsU RX2 52 RX10 "WideningCracks$Crack" ⟨"WideningCracks$Crack", "widthAfter", "(I)I"⟩ yX2_widthAfter wsX2_widthAfter) := goodIn_app (goodIn_of _ (by decide +kernel)) ggX2_takeIn_X2_widthAfter
theorem dX2_takeIn_0 : decode cX2_takeIn 0 = .ok (.aload_n 0, 1) := by decide +kernel
theorem dX2_takeIn_1 : decode cX2_takeIn 1 = .ok (.getfield 38, 3) := by decide +kernel
theorem dX2_takeIn_4 : decode cX2_takeIn 4 = .ok (.i2l, 1) := by decide +kernel
theorem dX2_takeIn_5 : decode cX2_takeIn 5 = .ok (.lload_n 1, 1) := by decide +kernel
theorem dX2_takeIn_6 : decode cX2_takeIn 6 = .ok (.ladd, 1) := by decide +kernel
theorem dX2_takeIn_7 : decode cX2_takeIn 7 = .ok (.lstore_n 3, 1) := by decide +kernel
theorem dX2_takeIn_8 : decode cX2_takeIn 8 = .ok (.lload_n 3, 1) := by decide +kernel
theorem dX2_takeIn_9 : decode cX2_takeIn 9 = .ok (.ldc2_w 41, 3) := by decide +kernel
theorem dX2_takeIn_12 : decode cX2_takeIn 12 = .ok (.ldiv, 1) := by decide +kernel
theorem dX2_takeIn_13 : decode cX2_takeIn 13 = .ok (.aload_n 0, 1) := by decide +kernel
theorem dX2_takeIn_14 : decode cX2_takeIn 14 = .ok (.invokevirtual 43, 3) := by decide +kernel
theorem dX2_takeIn_17 : decode cX2_takeIn 17 = .ok (.i2l, 1) := by decide +kernel
theorem dX2_takeIn_18 : decode cX2_takeIn 18 = .ok (.invokestatic 46, 3) := by decide +kernel
theorem dX2_takeIn_21 : decode cX2_takeIn 21 = .ok (.l2i, 1) := by decide +kernel
theorem dX2_takeIn_22 : decode cX2_takeIn 22 = .ok (.istore 5, 2) := by decide +kernel
theorem dX2_takeIn_24 : decode cX2_takeIn 24 = .ok (.aload_n 0, 1) := by decide +kernel
theorem dX2_takeIn_25 : decode cX2_takeIn 25 = .ok (.aload_n 0, 1) := by decide +kernel
theorem dX2_takeIn_26 : decode cX2_takeIn 26 = .ok (.iload 5, 2) := by decide +kernel
theorem dX2_takeIn_28 : decode cX2_takeIn 28 = .ok (.invokevirtual 52, 3) := by decide +kernel
theorem dX2_takeIn_31 : decode cX2_takeIn 31 = .ok (.putfield 18, 3) := by decide +kernel
theorem dX2_takeIn_34 : decode cX2_takeIn 34 = .ok (.aload_n 0, 1) := by decide +kernel
theorem dX2_takeIn_35 : decode cX2_takeIn 35 = .ok (.aload_n 0, 1) := by decide +kernel
theorem dX2_takeIn_36 : decode cX2_takeIn 36 = .ok (.invokevirtual 43, 3) := by decide +kernel
theorem dX2_takeIn_39 : decode cX2_takeIn 39 = .ok (.ifCond .ne 7, 3) := by decide +kernel
theorem dX2_takeIn_42 : decode cX2_takeIn 42 = .ok (.iconst 0, 1) := by decide +kernel
theorem dX2_takeIn_43 : decode cX2_takeIn 43 = .ok (.goto 9, 3) := by decide +kernel
theorem dX2_takeIn_46 : decode cX2_takeIn 46 = .ok (.lload_n 3, 1) := by decide +kernel
theorem dX2_takeIn_47 : decode cX2_takeIn 47 = .ok (.ldc2_w 41, 3) := by decide +kernel
theorem dX2_takeIn_50 : decode cX2_takeIn 50 = .ok (.lrem, 1) := by decide +kernel
theorem dX2_takeIn_51 : decode cX2_takeIn 51 = .ok (.l2i, 1) := by decide +kernel
theorem dX2_takeIn_52 : decode cX2_takeIn 52 = .ok (.putfield 38, 3) := by decide +kernel
theorem dX2_takeIn_55 : decode cX2_takeIn 55 = .ok (.iload 5, 2) := by decide +kernel
theorem dX2_takeIn_57 : decode cX2_takeIn 57 = .ok (.ifCond .le 7, 3) := by decide +kernel
theorem dX2_takeIn_60 : decode cX2_takeIn 60 = .ok (.iconst 1, 1) := by decide +kernel
theorem dX2_takeIn_61 : decode cX2_takeIn 61 = .ok (.goto 4, 3) := by decide +kernel
theorem dX2_takeIn_64 : decode cX2_takeIn 64 = .ok (.iconst 0, 1) := by decide +kernel
theorem dX2_takeIn_65 : decode cX2_takeIn 65 = .ok (.ireturn, 1) := by decide +kernel
theorem dX2_isAt_0 : decode cX2_isAt 0 = .ok (.aload_n 0, 1) := by decide +kernel
theorem dX2_isAt_1 : decode cX2_isAt 1 = .ok (.getfield 9, 3) := by decide +kernel
theorem dX2_isAt_4 : decode cX2_isAt 4 = .ok (.iload_n 1, 1) := by decide +kernel
theorem dX2_isAt_5 : decode cX2_isAt 5 = .ok (.if_icmp .eq 11, 3) := by decide +kernel
theorem dX2_isAt_8 : decode cX2_isAt 8 = .ok (.aload_n 0, 1) := by decide +kernel
theorem dX2_isAt_9 : decode cX2_isAt 9 = .ok (.getfield 15, 3) := by decide +kernel
theorem dX2_isAt_12 : decode cX2_isAt 12 = .ok (.iload_n 1, 1) := by decide +kernel
theorem dX2_isAt_13 : decode cX2_isAt 13 = .ok (.if_icmp .ne 7, 3) := by decide +kernel
theorem dX2_isAt_16 : decode cX2_isAt 16 = .ok (.iconst 1, 1) := by decide +kernel
theorem dX2_isAt_17 : decode cX2_isAt 17 = .ok (.goto 4, 3) := by decide +kernel
theorem dX2_isAt_20 : decode cX2_isAt 20 = .ok (.iconst 0, 1) := by decide +kernel
theorem dX2_isAt_21 : decode cX2_isAt 21 = .ok (.ireturn, 1) := by decide +kernel
theorem dX2_otherEnd_0 : decode cX2_otherEnd 0 = .ok (.aload_n 0, 1) := by decide +kernel
theorem dX2_otherEnd_1 : decode cX2_otherEnd 1 = .ok (.getfield 9, 3) := by decide +kernel
theorem dX2_otherEnd_4 : decode cX2_otherEnd 4 = .ok (.iload_n 1, 1) := by decide +kernel
theorem dX2_otherEnd_5 : decode cX2_otherEnd 5 = .ok (.if_icmp .ne 10, 3) := by decide +kernel
theorem dX2_otherEnd_8 : decode cX2_otherEnd 8 = .ok (.aload_n 0, 1) := by decide +kernel
theorem dX2_otherEnd_9 : decode cX2_otherEnd 9 = .ok (.getfield 15, 3) := by decide +kernel
theorem dX2_otherEnd_12 : decode cX2_otherEnd 12 = .ok (.goto 7, 3) := by decide +kernel
theorem dX2_otherEnd_15 : decode cX2_otherEnd 15 = .ok (.aload_n 0, 1) := by decide +kernel
theorem dX2_otherEnd_16 : decode cX2_otherEnd 16 = .ok (.getfield 9, 3) := by decide +kernel
theorem dX2_otherEnd_19 : decode cX2_otherEnd 19 = .ok (.ireturn, 1) := by decide +kernel
set_option maxRecDepth 20000 in
theorem ggX3_init_X10_init : GoodIn wsX3_init wsX10_init := goodIn_r _ [4, 5, 6, 7, 8, 9, 10, 11, 12, 13, 14, 15, 16, 17, 18, 19, 20, 21, 22, 23, 24, 25, 26, 27, 28, 29, 30, 31, 32, 33, 34, 35, 36, 37, 38, 39, 40] (by decide +kernel) (by decide +kernel)
set_option maxRecDepth 20000 in
theorem gX3_init_X10_init : GoodIn wsX3_init (wsX10_init) := ggX3_init_X10_init
theorem dX3_init_0 : decode cX3_init 0 = .ok (.aload_n 0, 1) := by decide +kernel
theorem dX3_init_1 : decode cX3_init 1 = .ok (.iload_n 1, 1) := by decide +kernel
theorem dX3_init_2 : decode cX3_init 2 = .ok (.iload_n 2, 1) := by decide +kernel
theorem dX3_init_3 : decode cX3_init 3 = .ok (.iload_n 3, 1) := by decide +kernel
theorem dX3_init_4 : decode cX3_init 4 = .ok (.iload 4, 2) := by decide +kernel
theorem dX3_init_6 : decode cX3_init 6 = .ok (.invokespecial 3, 3) := by decide +kernel
theorem dX3_init_9 : decode cX3_init 9 = .ok (.return_, 1) := by decide +kernel
theorem dX3_kind_0 : decode cX3_kind 0 = .ok (.iconst 3, 1) := by decide +kernel
theorem dX3_kind_1 : decode cX3_kind 1 = .ok (.ireturn, 1) := by decide +kernel
theorem dX3_eatsIn_0 : decode cX3_eatsIn 0 = .ok (.aload_n 0, 1) := by decide +kernel
theorem dX3_eatsIn_1 : decode cX3_eatsIn 1 = .ok (.getfield 9, 3) := by decide +kernel
theorem dX3_eatsIn_4 : decode cX3_eatsIn 4 = .ok (.ifCond .le 16, 3) := by decide +kernel
theorem dX3_eatsIn_7 : decode cX3_eatsIn 7 = .ok (.iload_n 1, 1) := by decide +kernel
theorem dX3_eatsIn_8 : decode cX3_eatsIn 8 = .ok (.aload_n 0, 1) := by decide +kernel
theorem dX3_eatsIn_9 : decode cX3_eatsIn 9 = .ok (.getfield 9, 3) := by decide +kernel
theorem dX3_eatsIn_12 : decode cX3_eatsIn 12 = .ok (.irem, 1) := by decide +kernel
theorem dX3_eatsIn_13 : decode cX3_eatsIn 13 = .ok (.ifCond .ne 7, 3) := by decide +kernel
theorem dX3_eatsIn_16 : decode cX3_eatsIn 16 = .ok (.iconst 1, 1) := by decide +kernel
theorem dX3_eatsIn_17 : decode cX3_eatsIn 17 = .ok (.goto 4, 3) := by decide +kernel
theorem dX3_eatsIn_20 : decode cX3_eatsIn 20 = .ok (.iconst 0, 1) := by decide +kernel
theorem dX3_eatsIn_21 : decode cX3_eatsIn 21 = .ok (.ireturn, 1) := by decide +kernel
set_option maxRecDepth 20000 in
theorem ggX3_judgement_X6_leave : GoodIn wsX3_judgement wsX6_leave := goodIn_r _ [7, 8, 34] (by decide +kernel) (by decide +kernel)
set_option maxRecDepth 20000 in
theorem gX3_judgement_X6_leave : GoodIn wsX3_judgement (wsV RX3 15 RX6 yX6_leave wsX6_leave) := goodIn_app (goodIn_of _ (by decide +kernel)) ggX3_judgement_X6_leave
theorem dX3_judgement_0 : decode cX3_judgement 0 = .ok (.aload_n 1, 1) := by decide +kernel
theorem dX3_judgement_1 : decode cX3_judgement 1 = .ok (.bipush 6, 2) := by decide +kernel
theorem dX3_judgement_3 : decode cX3_judgement 3 = .ok (.invokevirtual 15, 3) := by decide +kernel
theorem dX3_judgement_6 : decode cX3_judgement 6 = .ok (.aload_n 0, 1) := by decide +kernel
theorem dX3_judgement_7 : decode cX3_judgement 7 = .ok (.getfield 9, 3) := by decide +kernel
theorem dX3_judgement_10 : decode cX3_judgement 10 = .ok (.ireturn, 1) := by decide +kernel
theorem dX4_init_0 : decode cX4_init 0 = .ok (.aload_n 0, 1) := by decide +kernel
theorem dX4_init_1 : decode cX4_init 1 = .ok (.invokespecial 3, 3) := by decide +kernel
theorem dX4_init_4 : decode cX4_init 4 = .ok (.aload_n 0, 1) := by decide +kernel
theorem dX4_init_5 : decode cX4_init 5 = .ok (.bipush 8, 2) := by decide +kernel
theorem dX4_init_7 : decode cX4_init 7 = .ok (.bipush 12, 2) := by decide +kernel
theorem dX4_init_9 : decode cX4_init 9 = .ok (.multianewarray 9 2, 4) := by decide +kernel
theorem dX4_init_13 : decode cX4_init 13 = .ok (.putfield 11, 3) := by decide +kernel
theorem dX4_init_16 : decode cX4_init 16 = .ok (.aload_n 0, 1) := by decide +kernel
theorem dX4_init_17 : decode cX4_init 17 = .ok (.bipush 8, 2) := by decide +kernel
theorem dX4_init_19 : decode cX4_init 19 = .ok (.bipush 12, 2) := by decide +kernel
theorem dX4_init_21 : decode cX4_init 21 = .ok (.multianewarray 9 2, 4) := by decide +kernel
theorem dX4_init_25 : decode cX4_init 25 = .ok (.putfield 16, 3) := by decide +kernel
theorem dX4_init_28 : decode cX4_init 28 = .ok (.aload_n 0, 1) := by decide +kernel
theorem dX4_init_29 : decode cX4_init 29 = .ok (.bipush 8, 2) := by decide +kernel
theorem dX4_init_31 : decode cX4_init 31 = .ok (.newarray .int, 2) := by decide +kernel
theorem dX4_init_33 : decode cX4_init 33 = .ok (.putfield 19, 3) := by decide +kernel
theorem dX4_init_36 : decode cX4_init 36 = .ok (.aload_n 0, 1) := by decide +kernel
theorem dX4_init_37 : decode cX4_init 37 = .ok (.bipush 8, 2) := by decide +kernel
theorem dX4_init_39 : decode cX4_init 39 = .ok (.newarray .int, 2) := by decide +kernel
theorem dX4_init_41 : decode cX4_init 41 = .ok (.putfield 23, 3) := by decide +kernel
theorem dX4_init_44 : decode cX4_init 44 = .ok (.return_, 1) := by decide +kernel
theorem dX4_push_0 : decode cX4_push 0 = .ok (.iconst 0, 1) := by decide +kernel
theorem dX4_push_1 : decode cX4_push 1 = .ok (.istore_n 2, 1) := by decide +kernel
theorem dX4_push_2 : decode cX4_push 2 = .ok (.iload_n 2, 1) := by decide +kernel
theorem dX4_push_3 : decode cX4_push 3 = .ok (.aload_n 1, 1) := by decide +kernel
theorem dX4_push_4 : decode cX4_push 4 = .ok (.getfield 26, 3) := by decide +kernel
theorem dX4_push_7 : decode cX4_push 7 = .ok (.if_icmp .ge 49, 3) := by decide +kernel
theorem dX4_push_10 : decode cX4_push 10 = .ok (.aload_n 0, 1) := by decide +kernel
theorem dX4_push_11 : decode cX4_push 11 = .ok (.getfield 11, 3) := by decide +kernel
theorem dX4_push_14 : decode cX4_push 14 = .ok (.aload_n 0, 1) := by decide +kernel
theorem dX4_push_15 : decode cX4_push 15 = .ok (.getfield 32, 3) := by decide +kernel
theorem dX4_push_18 : decode cX4_push 18 = .ok (.aaload, 1) := by decide +kernel
theorem dX4_push_19 : decode cX4_push 19 = .ok (.iload_n 2, 1) := by decide +kernel
theorem dX4_push_20 : decode cX4_push 20 = .ok (.aload_n 1, 1) := by decide +kernel
theorem dX4_push_21 : decode cX4_push 21 = .ok (.getfield 35, 3) := by decide +kernel
theorem dX4_push_24 : decode cX4_push 24 = .ok (.iload_n 2, 1) := by decide +kernel
theorem dX4_push_25 : decode cX4_push 25 = .ok (.aaload, 1) := by decide +kernel
theorem dX4_push_26 : decode cX4_push 26 = .ok (.getfield 39, 3) := by decide +kernel
theorem dX4_push_29 : decode cX4_push 29 = .ok (.iastore, 1) := by decide +kernel
theorem dX4_push_30 : decode cX4_push 30 = .ok (.aload_n 0, 1) := by decide +kernel
theorem dX4_push_31 : decode cX4_push 31 = .ok (.getfield 16, 3) := by decide +kernel
theorem dX4_push_34 : decode cX4_push 34 = .ok (.aload_n 0, 1) := by decide +kernel
theorem dX4_push_35 : decode cX4_push 35 = .ok (.getfield 32, 3) := by decide +kernel
theorem dX4_push_38 : decode cX4_push 38 = .ok (.aaload, 1) := by decide +kernel
theorem dX4_push_39 : decode cX4_push 39 = .ok (.iload_n 2, 1) := by decide +kernel
theorem dX4_push_40 : decode cX4_push 40 = .ok (.aload_n 1, 1) := by decide +kernel
theorem dX4_push_41 : decode cX4_push 41 = .ok (.getfield 35, 3) := by decide +kernel
theorem dX4_push_44 : decode cX4_push 44 = .ok (.iload_n 2, 1) := by decide +kernel
theorem dX4_push_45 : decode cX4_push 45 = .ok (.aaload, 1) := by decide +kernel
theorem dX4_push_46 : decode cX4_push 46 = .ok (.getfield 44, 3) := by decide +kernel
theorem dX4_push_49 : decode cX4_push 49 = .ok (.iastore, 1) := by decide +kernel
theorem dX4_push_50 : decode cX4_push 50 = .ok (.iinc 2 1, 3) := by decide +kernel
theorem dX4_push_53 : decode cX4_push 53 = .ok (.goto (-51), 3) := by decide +kernel
theorem dX4_push_56 : decode cX4_push 56 = .ok (.aload_n 0, 1) := by decide +kernel
theorem dX4_push_57 : decode cX4_push 57 = .ok (.getfield 19, 3) := by decide +kernel
theorem dX4_push_60 : decode cX4_push 60 = .ok (.aload_n 0, 1) := by decide +kernel
theorem dX4_push_61 : decode cX4_push 61 = .ok (.getfield 32, 3) := by decide +kernel
theorem dX4_push_64 : decode cX4_push 64 = .ok (.aload_n 1, 1) := by decide +kernel
theorem dX4_push_65 : decode cX4_push 65 = .ok (.getfield 26, 3) := by decide +kernel
theorem dX4_push_68 : decode cX4_push 68 = .ok (.iastore, 1) := by decide +kernel
theorem dX4_push_69 : decode cX4_push 69 = .ok (.aload_n 0, 1) := by decide +kernel
theorem dX4_push_70 : decode cX4_push 70 = .ok (.getfield 23, 3) := by decide +kernel
theorem dX4_push_73 : decode cX4_push 73 = .ok (.aload_n 0, 1) := by decide +kernel
theorem dX4_push_74 : decode cX4_push 74 = .ok (.getfield 32, 3) := by decide +kernel
theorem dX4_push_77 : decode cX4_push 77 = .ok (.aload_n 1, 1) := by decide +kernel
theorem dX4_push_78 : decode cX4_push 78 = .ok (.getfield 47, 3) := by decide +kernel
theorem dX4_push_81 : decode cX4_push 81 = .ok (.iastore, 1) := by decide +kernel
theorem dX4_push_82 : decode cX4_push 82 = .ok (.aload_n 0, 1) := by decide +kernel
theorem dX4_push_83 : decode cX4_push 83 = .ok (.aload_n 0, 1) := by decide +kernel
theorem dX4_push_84 : decode cX4_push 84 = .ok (.getfield 32, 3) := by decide +kernel
theorem dX4_push_87 : decode cX4_push 87 = .ok (.iconst 1, 1) := by decide +kernel
theorem dX4_push_88 : decode cX4_push 88 = .ok (.iadd, 1) := by decide +kernel
theorem dX4_push_89 : decode cX4_push 89 = .ok (.bipush 8, 2) := by decide +kernel
theorem dX4_push_91 : decode cX4_push 91 = .ok (.irem, 1) := by decide +kernel
theorem dX4_push_92 : decode cX4_push 92 = .ok (.putfield 32, 3) := by decide +kernel
theorem dX4_push_95 : decode cX4_push 95 = .ok (.aload_n 0, 1) := by decide +kernel
theorem dX4_push_96 : decode cX4_push 96 = .ok (.aload_n 0, 1) := by decide +kernel
theorem dX4_push_97 : decode cX4_push 97 = .ok (.getfield 50, 3) := by decide +kernel
theorem dX4_push_100 : decode cX4_push 100 = .ok (.iconst 1, 1) := by decide +kernel
theorem dX4_push_101 : decode cX4_push 101 = .ok (.iadd, 1) := by decide +kernel
theorem dX4_push_102 : decode cX4_push 102 = .ok (.bipush 8, 2) := by decide +kernel
theorem dX4_push_104 : decode cX4_push 104 = .ok (.invokestatic 53, 3) := by decide +kernel
theorem dX4_push_107 : decode cX4_push 107 = .ok (.putfield 50, 3) := by decide +kernel
theorem dX4_push_110 : decode cX4_push 110 = .ok (.return_, 1) := by decide +kernel
set_option maxRecDepth 20000 in
theorem ggX4_pop_X5_setWidth : GoodIn wsX4_pop wsX5_setWidth := goodIn_r _ [14, 15, 16, 17, 18, 25, 26, 27, 28, 29, 30, 31, 32, 33, 34, 35, 36, 37, 38, 39, 40, 41, 42, 43, 44, 45, 46, 47, 48, 49, 50, 51, 52, 53, 54, 55, 56] (by decide +kernel) (by decide +kernel)
set_option maxRecDepth 20000 in
theorem gX4_pop_X5_setWidth : GoodIn wsX4_pop (wsV RX4 59 RX5 yX5_setWidth wsX5_setWidth) := goodIn_app (goodIn_of _ (by decide +kernel)) ggX4_pop_X5_setWidth
theorem dX4_pop_0 : decode cX4_pop 0 = .ok (.aload_n 0, 1) := by decide +kernel
theorem dX4_pop_1 : decode cX4_pop 1 = .ok (.aload_n 0, 1) := by decide +kernel
theorem dX4_pop_2 : decode cX4_pop 2 = .ok (.getfield 32, 3) := by decide +kernel
theorem dX4_pop_5 : decode cX4_pop 5 = .ok (.bipush 8, 2) := by decide +kernel
theorem dX4_pop_7 : decode cX4_pop 7 = .ok (.iadd, 1) := by decide +kernel
theorem dX4_pop_8 : decode cX4_pop 8 = .ok (.iconst 1, 1) := by decide +kernel
theorem dX4_pop_9 : decode cX4_pop 9 = .ok (.isub, 1) := by decide +kernel
theorem dX4_pop_10 : decode cX4_pop 10 = .ok (.bipush 8, 2) := by decide +kernel
theorem dX4_pop_12 : decode cX4_pop 12 = .ok (.irem, 1) := by decide +kernel
theorem dX4_pop_13 : decode cX4_pop 13 = .ok (.putfield 32, 3) := by decide +kernel
theorem dX4_pop_16 : decode cX4_pop 16 = .ok (.aload_n 0, 1) := by decide +kernel
theorem dX4_pop_17 : decode cX4_pop 17 = .ok (.dup, 1) := by decide +kernel
theorem dX4_pop_18 : decode cX4_pop 18 = .ok (.getfield 50, 3) := by decide +kernel
theorem dX4_pop_21 : decode cX4_pop 21 = .ok (.iconst 1, 1) := by decide +kernel
theorem dX4_pop_22 : decode cX4_pop 22 = .ok (.isub, 1) := by decide +kernel
theorem dX4_pop_23 : decode cX4_pop 23 = .ok (.putfield 50, 3) := by decide +kernel
theorem dX4_pop_26 : decode cX4_pop 26 = .ok (.iconst 0, 1) := by decide +kernel
theorem dX4_pop_27 : decode cX4_pop 27 = .ok (.istore_n 2, 1) := by decide +kernel
theorem dX4_pop_28 : decode cX4_pop 28 = .ok (.iload_n 2, 1) := by decide +kernel
theorem dX4_pop_29 : decode cX4_pop 29 = .ok (.aload_n 0, 1) := by decide +kernel
theorem dX4_pop_30 : decode cX4_pop 30 = .ok (.getfield 19, 3) := by decide +kernel
theorem dX4_pop_33 : decode cX4_pop 33 = .ok (.aload_n 0, 1) := by decide +kernel
theorem dX4_pop_34 : decode cX4_pop 34 = .ok (.getfield 32, 3) := by decide +kernel
theorem dX4_pop_37 : decode cX4_pop 37 = .ok (.iaload, 1) := by decide +kernel
theorem dX4_pop_38 : decode cX4_pop 38 = .ok (.if_icmp .ge 45, 3) := by decide +kernel
theorem dX4_pop_41 : decode cX4_pop 41 = .ok (.aload_n 1, 1) := by decide +kernel
theorem dX4_pop_42 : decode cX4_pop 42 = .ok (.iload_n 2, 1) := by decide +kernel
theorem dX4_pop_43 : decode cX4_pop 43 = .ok (.aload_n 0, 1) := by decide +kernel
theorem dX4_pop_44 : decode cX4_pop 44 = .ok (.getfield 11, 3) := by decide +kernel
theorem dX4_pop_47 : decode cX4_pop 47 = .ok (.aload_n 0, 1) := by decide +kernel
theorem dX4_pop_48 : decode cX4_pop 48 = .ok (.getfield 32, 3) := by decide +kernel
theorem dX4_pop_51 : decode cX4_pop 51 = .ok (.aaload, 1) := by decide +kernel
theorem dX4_pop_52 : decode cX4_pop 52 = .ok (.iload_n 2, 1) := by decide +kernel
theorem dX4_pop_53 : decode cX4_pop 53 = .ok (.iaload, 1) := by decide +kernel
theorem dX4_pop_54 : decode cX4_pop 54 = .ok (.invokevirtual 59, 3) := by decide +kernel
theorem dX4_pop_57 : decode cX4_pop 57 = .ok (.aload_n 1, 1) := by decide +kernel
theorem dX4_pop_58 : decode cX4_pop 58 = .ok (.getfield 35, 3) := by decide +kernel
theorem dX4_pop_61 : decode cX4_pop 61 = .ok (.iload_n 2, 1) := by decide +kernel
theorem dX4_pop_62 : decode cX4_pop 62 = .ok (.aaload, 1) := by decide +kernel
theorem dX4_pop_63 : decode cX4_pop 63 = .ok (.aload_n 0, 1) := by decide +kernel
theorem dX4_pop_64 : decode cX4_pop 64 = .ok (.getfield 16, 3) := by decide +kernel
theorem dX4_pop_67 : decode cX4_pop 67 = .ok (.aload_n 0, 1) := by decide +kernel
theorem dX4_pop_68 : decode cX4_pop 68 = .ok (.getfield 32, 3) := by decide +kernel
theorem dX4_pop_71 : decode cX4_pop 71 = .ok (.aaload, 1) := by decide +kernel
theorem dX4_pop_72 : decode cX4_pop 72 = .ok (.iload_n 2, 1) := by decide +kernel
theorem dX4_pop_73 : decode cX4_pop 73 = .ok (.iaload, 1) := by decide +kernel
theorem dX4_pop_74 : decode cX4_pop 74 = .ok (.putfield 44, 3) := by decide +kernel
theorem dX4_pop_77 : decode cX4_pop 77 = .ok (.iinc 2 1, 3) := by decide +kernel
theorem dX4_pop_80 : decode cX4_pop 80 = .ok (.goto (-52), 3) := by decide +kernel
theorem dX4_pop_83 : decode cX4_pop 83 = .ok (.aload_n 1, 1) := by decide +kernel
theorem dX4_pop_84 : decode cX4_pop 84 = .ok (.aload_n 0, 1) := by decide +kernel
theorem dX4_pop_85 : decode cX4_pop 85 = .ok (.getfield 23, 3) := by decide +kernel
theorem dX4_pop_88 : decode cX4_pop 88 = .ok (.aload_n 0, 1) := by decide +kernel
theorem dX4_pop_89 : decode cX4_pop 89 = .ok (.getfield 32, 3) := by decide +kernel
theorem dX4_pop_92 : decode cX4_pop 92 = .ok (.iaload, 1) := by decide +kernel
theorem dX4_pop_93 : decode cX4_pop 93 = .ok (.putfield 47, 3) := by decide +kernel
theorem dX4_pop_96 : decode cX4_pop 96 = .ok (.return_, 1) := by decide +kernel
theorem dX5_init_0 : decode cX5_init 0 = .ok (.aload_n 0, 1) := by decide +kernel
theorem dX5_init_1 : decode cX5_init 1 = .ok (.invokespecial 3, 3) := by decide +kernel
theorem dX5_init_4 : decode cX5_init 4 = .ok (.aload_n 0, 1) := by decide +kernel
theorem dX5_init_5 : decode cX5_init 5 = .ok (.bipush 6, 2) := by decide +kernel
theorem dX5_init_7 : decode cX5_init 7 = .ok (.newarray .boolean, 2) := by decide +kernel
theorem dX5_init_9 : decode cX5_init 9 = .ok (.putfield 9, 3) := by decide +kernel
theorem dX5_init_12 : decode cX5_init 12 = .ok (.aload_n 0, 1) := by decide +kernel
theorem dX5_init_13 : decode cX5_init 13 = .ok (.bipush 6, 2) := by decide +kernel
theorem dX5_init_15 : decode cX5_init 15 = .ok (.newarray .int, 2) := by decide +kernel
theorem dX5_init_17 : decode cX5_init 17 = .ok (.putfield 15, 3) := by decide +kernel
theorem dX5_init_20 : decode cX5_init 20 = .ok (.aload_n 0, 1) := by decide +kernel
theorem dX5_init_21 : decode cX5_init 21 = .ok (.bipush 12, 2) := by decide +kernel
theorem dX5_init_23 : decode cX5_init 23 = .ok (.anewarray 19, 3) := by decide +kernel
theorem dX5_init_26 : decode cX5_init 26 = .ok (.putfield 21, 3) := by decide +kernel
theorem dX5_init_29 : decode cX5_init 29 = .ok (.return_, 1) := by decide +kernel
theorem dX5_hasJoint_0 : decode cX5_hasJoint 0 = .ok (.iload_n 1, 1) := by decide +kernel
theorem dX5_hasJoint_1 : decode cX5_hasJoint 1 = .ok (.ifCond .lt 15, 3) := by decide +kernel
theorem dX5_hasJoint_4 : decode cX5_hasJoint 4 = .ok (.iload_n 1, 1) := by decide +kernel
theorem dX5_hasJoint_5 : decode cX5_hasJoint 5 = .ok (.aload_n 0, 1) := by decide +kernel
theorem dX5_hasJoint_6 : decode cX5_hasJoint 6 = .ok (.getfield 25, 3) := by decide +kernel
theorem dX5_hasJoint_9 : decode cX5_hasJoint 9 = .ok (.if_icmp .ge 7, 3) := by decide +kernel
theorem dX5_hasJoint_12 : decode cX5_hasJoint 12 = .ok (.iconst 1, 1) := by decide +kernel
theorem dX5_hasJoint_13 : decode cX5_hasJoint 13 = .ok (.goto 4, 3) := by decide +kernel
theorem dX5_hasJoint_16 : decode cX5_hasJoint 16 = .ok (.iconst 0, 1) := by decide +kernel
theorem dX5_hasJoint_17 : decode cX5_hasJoint 17 = .ok (.ireturn, 1) := by decide +kernel
theorem dX5_hasCrack_0 : decode cX5_hasCrack 0 = .ok (.iload_n 1, 1) := by decide +kernel
theorem dX5_hasCrack_1 : decode cX5_hasCrack 1 = .ok (.ifCond .lt 15, 3) := by decide +kernel
theorem dX5_hasCrack_4 : decode cX5_hasCrack 4 = .ok (.iload_n 1, 1) := by decide +kernel
theorem dX5_hasCrack_5 : decode cX5_hasCrack 5 = .ok (.aload_n 0, 1) := by decide +kernel
theorem dX5_hasCrack_6 : decode cX5_hasCrack 6 = .ok (.getfield 29, 3) := by decide +kernel
theorem dX5_hasCrack_9 : decode cX5_hasCrack 9 = .ok (.if_icmp .ge 7, 3) := by decide +kernel
theorem dX5_hasCrack_12 : decode cX5_hasCrack 12 = .ok (.iconst 1, 1) := by decide +kernel
theorem dX5_hasCrack_13 : decode cX5_hasCrack 13 = .ok (.goto 4, 3) := by decide +kernel
theorem dX5_hasCrack_16 : decode cX5_hasCrack 16 = .ok (.iconst 0, 1) := by decide +kernel
theorem dX5_hasCrack_17 : decode cX5_hasCrack 17 = .ok (.ireturn, 1) := by decide +kernel
theorem dX5_addJoint_0 : decode cX5_addJoint 0 = .ok (.aload_n 0, 1) := by decide +kernel
theorem dX5_addJoint_1 : decode cX5_addJoint 1 = .ok (.dup, 1) := by decide +kernel
theorem dX5_addJoint_2 : decode cX5_addJoint 2 = .ok (.getfield 32, 3) := by decide +kernel
theorem dX5_addJoint_5 : decode cX5_addJoint 5 = .ok (.iconst 1, 1) := by decide +kernel
theorem dX5_addJoint_6 : decode cX5_addJoint 6 = .ok (.iadd, 1) := by decide +kernel
theorem dX5_addJoint_7 : decode cX5_addJoint 7 = .ok (.putfield 32, 3) := by decide +kernel
theorem dX5_addJoint_10 : decode cX5_addJoint 10 = .ok (.aload_n 0, 1) := by decide +kernel
theorem dX5_addJoint_11 : decode cX5_addJoint 11 = .ok (.dup, 1) := by decide +kernel
theorem dX5_addJoint_12 : decode cX5_addJoint 12 = .ok (.getfield 25, 3) := by decide +kernel
theorem dX5_addJoint_15 : decode cX5_addJoint 15 = .ok (.iconst 1, 1) := by decide +kernel
theorem dX5_addJoint_16 : decode cX5_addJoint 16 = .ok (.iadd, 1) := by decide +kernel
theorem dX5_addJoint_17 : decode cX5_addJoint 17 = .ok (.putfield 25, 3) := by decide +kernel
theorem dX5_addJoint_20 : decode cX5_addJoint 20 = .ok (.aload_n 0, 1) := by decide +kernel
theorem dX5_addJoint_21 : decode cX5_addJoint 21 = .ok (.getfield 25, 3) := by decide +kernel
theorem dX5_addJoint_24 : decode cX5_addJoint 24 = .ok (.iconst 1, 1) := by decide +kernel
theorem dX5_addJoint_25 : decode cX5_addJoint 25 = .ok (.isub, 1) := by decide +kernel
theorem dX5_addJoint_26 : decode cX5_addJoint 26 = .ok (.ireturn, 1) := by decide +kernel
theorem dX5_addCrack_0 : decode cX5_addCrack 0 = .ok (.aload_n 0, 1) := by decide +kernel
theorem dX5_addCrack_1 : decode cX5_addCrack 1 = .ok (.getfield 21, 3) := by decide +kernel
theorem dX5_addCrack_4 : decode cX5_addCrack 4 = .ok (.aload_n 0, 1) := by decide +kernel
theorem dX5_addCrack_5 : decode cX5_addCrack 5 = .ok (.getfield 29, 3) := by decide +kernel
theorem dX5_addCrack_8 : decode cX5_addCrack 8 = .ok (.aload_n 1, 1) := by decide +kernel
theorem dX5_addCrack_9 : decode cX5_addCrack 9 = .ok (.aastore, 1) := by decide +kernel
theorem dX5_addCrack_10 : decode cX5_addCrack 10 = .ok (.aload_n 0, 1) := by decide +kernel
theorem dX5_addCrack_11 : decode cX5_addCrack 11 = .ok (.dup, 1) := by decide +kernel
theorem dX5_addCrack_12 : decode cX5_addCrack 12 = .ok (.getfield 32, 3) := by decide +kernel
theorem dX5_addCrack_15 : decode cX5_addCrack 15 = .ok (.iconst 1, 1) := by decide +kernel
theorem dX5_addCrack_16 : decode cX5_addCrack 16 = .ok (.iadd, 1) := by decide +kernel
theorem dX5_addCrack_17 : decode cX5_addCrack 17 = .ok (.putfield 32, 3) := by decide +kernel
theorem dX5_addCrack_20 : decode cX5_addCrack 20 = .ok (.aload_n 0, 1) := by decide +kernel
theorem dX5_addCrack_21 : decode cX5_addCrack 21 = .ok (.dup, 1) := by decide +kernel
theorem dX5_addCrack_22 : decode cX5_addCrack 22 = .ok (.getfield 29, 3) := by decide +kernel
theorem dX5_addCrack_25 : decode cX5_addCrack 25 = .ok (.iconst 1, 1) := by decide +kernel
theorem dX5_addCrack_26 : decode cX5_addCrack 26 = .ok (.iadd, 1) := by decide +kernel
theorem dX5_addCrack_27 : decode cX5_addCrack 27 = .ok (.putfield 29, 3) := by decide +kernel
theorem dX5_addCrack_30 : decode cX5_addCrack 30 = .ok (.aload_n 0, 1) := by decide +kernel
theorem dX5_addCrack_31 : decode cX5_addCrack 31 = .ok (.getfield 29, 3) := by decide +kernel
theorem dX5_addCrack_34 : decode cX5_addCrack 34 = .ok (.iconst 1, 1) := by decide +kernel
theorem dX5_addCrack_35 : decode cX5_addCrack 35 = .ok (.isub, 1) := by decide +kernel
theorem dX5_addCrack_36 : decode cX5_addCrack 36 = .ok (.ireturn, 1) := by decide +kernel
theorem dX5_setHeld_0 : decode cX5_setHeld 0 = .ok (.aload_n 0, 1) := by decide +kernel
theorem dX5_setHeld_1 : decode cX5_setHeld 1 = .ok (.getfield 9, 3) := by decide +kernel
theorem dX5_setHeld_4 : decode cX5_setHeld 4 = .ok (.iload_n 1, 1) := by decide +kernel
theorem dX5_setHeld_5 : decode cX5_setHeld 5 = .ok (.iload_n 2, 1) := by decide +kernel
theorem dX5_setHeld_6 : decode cX5_setHeld 6 = .ok (.bastore, 1) := by decide +kernel
theorem dX5_setHeld_7 : decode cX5_setHeld 7 = .ok (.aload_n 0, 1) := by decide +kernel
theorem dX5_setHeld_8 : decode cX5_setHeld 8 = .ok (.getfield 15, 3) := by decide +kernel
theorem dX5_setHeld_11 : decode cX5_setHeld 11 = .ok (.iload_n 1, 1) := by decide +kernel
theorem dX5_setHeld_12 : decode cX5_setHeld 12 = .ok (.iload_n 3, 1) := by decide +kernel
theorem dX5_setHeld_13 : decode cX5_setHeld 13 = .ok (.iastore, 1) := by decide +kernel
theorem dX5_setHeld_14 : decode cX5_setHeld 14 = .ok (.aload_n 0, 1) := by decide +kernel
theorem dX5_setHeld_15 : decode cX5_setHeld 15 = .ok (.dup, 1) := by decide +kernel
theorem dX5_setHeld_16 : decode cX5_setHeld 16 = .ok (.getfield 32, 3) := by decide +kernel
theorem dX5_setHeld_19 : decode cX5_setHeld 19 = .ok (.iconst 1, 1) := by decide +kernel
theorem dX5_setHeld_20 : decode cX5_setHeld 20 = .ok (.iadd, 1) := by decide +kernel
theorem dX5_setHeld_21 : decode cX5_setHeld 21 = .ok (.putfield 32, 3) := by decide +kernel
theorem dX5_setHeld_24 : decode cX5_setHeld 24 = .ok (.return_, 1) := by decide +kernel
theorem dX5_setWidth_0 : decode cX5_setWidth 0 = .ok (.aload_n 0, 1) := by decide +kernel
theorem dX5_setWidth_1 : decode cX5_setWidth 1 = .ok (.getfield 21, 3) := by decide +kernel
theorem dX5_setWidth_4 : decode cX5_setWidth 4 = .ok (.iload_n 1, 1) := by decide +kernel
theorem dX5_setWidth_5 : decode cX5_setWidth 5 = .ok (.aaload, 1) := by decide +kernel
theorem dX5_setWidth_6 : decode cX5_setWidth 6 = .ok (.iload_n 2, 1) := by decide +kernel
theorem dX5_setWidth_7 : decode cX5_setWidth 7 = .ok (.putfield 35, 3) := by decide +kernel
theorem dX5_setWidth_10 : decode cX5_setWidth 10 = .ok (.aload_n 0, 1) := by decide +kernel
theorem dX5_setWidth_11 : decode cX5_setWidth 11 = .ok (.getfield 21, 3) := by decide +kernel
theorem dX5_setWidth_14 : decode cX5_setWidth 14 = .ok (.iload_n 1, 1) := by decide +kernel
theorem dX5_setWidth_15 : decode cX5_setWidth 15 = .ok (.aaload, 1) := by decide +kernel
theorem dX5_setWidth_16 : decode cX5_setWidth 16 = .ok (.iconst 0, 1) := by decide +kernel
theorem dX5_setWidth_17 : decode cX5_setWidth 17 = .ok (.putfield 38, 3) := by decide +kernel
theorem dX5_setWidth_20 : decode cX5_setWidth 20 = .ok (.aload_n 0, 1) := by decide +kernel
theorem dX5_setWidth_21 : decode cX5_setWidth 21 = .ok (.dup, 1) := by decide +kernel
theorem dX5_setWidth_22 : decode cX5_setWidth 22 = .ok (.getfield 32, 3) := by decide +kernel
theorem dX5_setWidth_25 : decode cX5_setWidth 25 = .ok (.iconst 1, 1) := by decide +kernel
theorem dX5_setWidth_26 : decode cX5_setWidth 26 = .ok (.iadd, 1) := by decide +kernel
theorem dX5_setWidth_27 : decode cX5_setWidth 27 = .ok (.putfield 32, 3) := by decide +kernel
theorem dX5_setWidth_30 : decode cX5_setWidth 30 = .ok (.return_, 1) := by decide +kernel
set_option maxRecDepth 20000 in
theorem ggX5_openAt_X2_isAt : GoodIn wsX5_openAt wsX2_isAt := goodIn_r _ [9, 10, 11, 24, 25, 26, 27, 28, 29, 30, 31, 32, 33, 34, 35, 36, 37, 38, 39, 40, 41, 42, 43, 44, 45, 46, 47, 48] (by decide +kernel) (by decide +kernel)
set_option maxRecDepth 20000 in
theorem gX5_openAt_X2_isAt_u41X0 : GoodIn wsX5_openAt (va_wsU RX5 41 RX0 "WideningCracks$Crack" ⟨"WideningCracks$Crack", "isAt", "(I)Z"⟩ yX2_isAt wsX2_isAt) := goodIn_app (goodIn_of _ (by decide +kernel)) ggX5_openAt_X2_isAt
set_option maxRecDepth 20000 in
theorem gX5_openAt_X2_isAt : GoodIn wsX5_openAt (wsV RX5 41 RX2 yX2_isAt wsX2_isAt) := goodIn_app (goodIn_of _ (by decide +kernel)) ggX5_openAt_X2_isAt
set_option maxRecDepth 20000 in
theorem gX5_openAt_X2_isAt_u41X3 : GoodIn wsX5_openAt (va_wsU RX5 41 RX3 "WideningCracks$Crack" ⟨"WideningCracks$Crack", "isAt", "(I)Z"⟩ yX2_isAt wsX2_isAt) := goodIn_app (goodIn_of _ (by decide +kernel)) ggX5_openAt_X2_isAt
set_option maxRecDepth 20000 in
theorem gX5_openAt_X2_isAt_u41X7 : GoodIn wsX5_openAt (va_wsU RX5 41 RX7 "WideningCracks$Crack" ⟨"WideningCracks$Crack", "isAt", "(I)Z"⟩ yX2_isAt wsX2_isAt) := goodIn_app (goodIn_of _ (by decide +kernel)) ggX5_openAt_X2_isAt
set_option maxRecDepth 20000 in
theorem gX5_openAt_X2_isAt_u41X10 : GoodIn wsX5_openAt (va_wsU RX5 41 RX10 "WideningCracks$Crack" ⟨"WideningCracks$Crack", "isAt", "(I)Z"⟩ yX2_isAt wsX2_isAt) := goodIn_app (goodIn_of _ (by decide +kernel)) ggX5_openAt_X2_isAt
theorem dX5_openAt_0 : decode cX5_openAt 0 = .ok (.iconst 0, 1) := by decide +kernel
theorem dX5_openAt_1 : decode cX5_openAt 1 = .ok (.istore_n 2, 1) := by decide +kernel
theorem dX5_openAt_2 : decode cX5_openAt 2 = .ok (.iconst 0, 1) := by decide +kernel
theorem dX5_openAt_3 : decode cX5_openAt 3 = .ok (.istore_n 3, 1) := by decide +kernel
theorem dX5_openAt_4 : decode cX5_openAt 4 = .ok (.iload_n 3, 1) := by decide +kernel
theorem dX5_openAt_5 : decode cX5_openAt 5 = .ok (.aload_n 0, 1) := by decide +kernel
theorem dX5_openAt_6 : decode cX5_openAt 6 = .ok (.getfield 29, 3) := by decide +kernel
theorem dX5_openAt_9 : decode cX5_openAt 9 = .ok (.if_icmp .ge 37, 3) := by decide +kernel
theorem dX5_openAt_12 : decode cX5_openAt 12 = .ok (.aload_n 0, 1) := by decide +kernel
theorem dX5_openAt_13 : decode cX5_openAt 13 = .ok (.getfield 21, 3) := by decide +kernel
theorem dX5_openAt_16 : decode cX5_openAt 16 = .ok (.iload_n 3, 1) := by decide +kernel
theorem dX5_openAt_17 : decode cX5_openAt 17 = .ok (.aaload, 1) := by decide +kernel
theorem dX5_openAt_18 : decode cX5_openAt 18 = .ok (.getfield 35, 3) := by decide +kernel
theorem dX5_openAt_21 : decode cX5_openAt 21 = .ok (.ifCond .le 19, 3) := by decide +kernel
theorem dX5_openAt_24 : decode cX5_openAt 24 = .ok (.aload_n 0, 1) := by decide +kernel
theorem dX5_openAt_25 : decode cX5_openAt 25 = .ok (.getfield 21, 3) := by decide +kernel
theorem dX5_openAt_28 : decode cX5_openAt 28 = .ok (.iload_n 3, 1) := by decide +kernel
theorem dX5_openAt_29 : decode cX5_openAt 29 = .ok (.aaload, 1) := by decide +kernel
theorem dX5_openAt_30 : decode cX5_openAt 30 = .ok (.iload_n 1, 1) := by decide +kernel
theorem dX5_openAt_31 : decode cX5_openAt 31 = .ok (.invokevirtual 41, 3) := by decide +kernel
theorem dX5_openAt_34 : decode cX5_openAt 34 = .ok (.ifCond .eq 6, 3) := by decide +kernel
theorem dX5_openAt_37 : decode cX5_openAt 37 = .ok (.iinc 2 1, 3) := by decide +kernel
theorem dX5_openAt_40 : decode cX5_openAt 40 = .ok (.iinc 3 1, 3) := by decide +kernel
theorem dX5_openAt_43 : decode cX5_openAt 43 = .ok (.goto (-39), 3) := by decide +kernel
theorem dX5_openAt_46 : decode cX5_openAt 46 = .ok (.iload_n 2, 1) := by decide +kernel
theorem dX5_openAt_47 : decode cX5_openAt 47 = .ok (.ireturn, 1) := by decide +kernel
theorem dX5_openCount_0 : decode cX5_openCount 0 = .ok (.iconst 0, 1) := by decide +kernel
theorem dX5_openCount_1 : decode cX5_openCount 1 = .ok (.istore_n 1, 1) := by decide +kernel
theorem dX5_openCount_2 : decode cX5_openCount 2 = .ok (.iconst 0, 1) := by decide +kernel
theorem dX5_openCount_3 : decode cX5_openCount 3 = .ok (.istore_n 2, 1) := by decide +kernel
theorem dX5_openCount_4 : decode cX5_openCount 4 = .ok (.iload_n 2, 1) := by decide +kernel
theorem dX5_openCount_5 : decode cX5_openCount 5 = .ok (.aload_n 0, 1) := by decide +kernel
theorem dX5_openCount_6 : decode cX5_openCount 6 = .ok (.getfield 29, 3) := by decide +kernel
theorem dX5_openCount_9 : decode cX5_openCount 9 = .ok (.if_icmp .ge 24, 3) := by decide +kernel
theorem dX5_openCount_12 : decode cX5_openCount 12 = .ok (.aload_n 0, 1) := by decide +kernel
theorem dX5_openCount_13 : decode cX5_openCount 13 = .ok (.getfield 21, 3) := by decide +kernel
theorem dX5_openCount_16 : decode cX5_openCount 16 = .ok (.iload_n 2, 1) := by decide +kernel
theorem dX5_openCount_17 : decode cX5_openCount 17 = .ok (.aaload, 1) := by decide +kernel
theorem dX5_openCount_18 : decode cX5_openCount 18 = .ok (.getfield 35, 3) := by decide +kernel
theorem dX5_openCount_21 : decode cX5_openCount 21 = .ok (.ifCond .le 6, 3) := by decide +kernel
theorem dX5_openCount_24 : decode cX5_openCount 24 = .ok (.iinc 1 1, 3) := by decide +kernel
theorem dX5_openCount_27 : decode cX5_openCount 27 = .ok (.iinc 2 1, 3) := by decide +kernel
theorem dX5_openCount_30 : decode cX5_openCount 30 = .ok (.goto (-26), 3) := by decide +kernel
theorem dX5_openCount_33 : decode cX5_openCount 33 = .ok (.iload_n 1, 1) := by decide +kernel
theorem dX5_openCount_34 : decode cX5_openCount 34 = .ok (.ireturn, 1) := by decide +kernel
theorem dX5_widthSum_0 : decode cX5_widthSum 0 = .ok (.iconst 0, 1) := by decide +kernel
theorem dX5_widthSum_1 : decode cX5_widthSum 1 = .ok (.istore_n 1, 1) := by decide +kernel
theorem dX5_widthSum_2 : decode cX5_widthSum 2 = .ok (.iconst 0, 1) := by decide +kernel
theorem dX5_widthSum_3 : decode cX5_widthSum 3 = .ok (.istore_n 2, 1) := by decide +kernel
theorem dX5_widthSum_4 : decode cX5_widthSum 4 = .ok (.iload_n 2, 1) := by decide +kernel
theorem dX5_widthSum_5 : decode cX5_widthSum 5 = .ok (.aload_n 0, 1) := by decide +kernel
theorem dX5_widthSum_6 : decode cX5_widthSum 6 = .ok (.getfield 29, 3) := by decide +kernel
theorem dX5_widthSum_9 : decode cX5_widthSum 9 = .ok (.if_icmp .ge 21, 3) := by decide +kernel
theorem dX5_widthSum_12 : decode cX5_widthSum 12 = .ok (.iload_n 1, 1) := by decide +kernel
theorem dX5_widthSum_13 : decode cX5_widthSum 13 = .ok (.aload_n 0, 1) := by decide +kernel
theorem dX5_widthSum_14 : decode cX5_widthSum 14 = .ok (.getfield 21, 3) := by decide +kernel
theorem dX5_widthSum_17 : decode cX5_widthSum 17 = .ok (.iload_n 2, 1) := by decide +kernel
theorem dX5_widthSum_18 : decode cX5_widthSum 18 = .ok (.aaload, 1) := by decide +kernel
theorem dX5_widthSum_19 : decode cX5_widthSum 19 = .ok (.getfield 35, 3) := by decide +kernel
theorem dX5_widthSum_22 : decode cX5_widthSum 22 = .ok (.iadd, 1) := by decide +kernel
theorem dX5_widthSum_23 : decode cX5_widthSum 23 = .ok (.istore_n 1, 1) := by decide +kernel
theorem dX5_widthSum_24 : decode cX5_widthSum 24 = .ok (.iinc 2 1, 3) := by decide +kernel
theorem dX5_widthSum_27 : decode cX5_widthSum 27 = .ok (.goto (-23), 3) := by decide +kernel
theorem dX5_widthSum_30 : decode cX5_widthSum 30 = .ok (.iload_n 1, 1) := by decide +kernel
theorem dX5_widthSum_31 : decode cX5_widthSum 31 = .ok (.ireturn, 1) := by decide +kernel
theorem dX5_heldOnes_0 : decode cX5_heldOnes 0 = .ok (.iconst 0, 1) := by decide +kernel
theorem dX5_heldOnes_1 : decode cX5_heldOnes 1 = .ok (.istore_n 1, 1) := by decide +kernel
theorem dX5_heldOnes_2 : decode cX5_heldOnes 2 = .ok (.iconst 0, 1) := by decide +kernel
theorem dX5_heldOnes_3 : decode cX5_heldOnes 3 = .ok (.istore_n 2, 1) := by decide +kernel
theorem dX5_heldOnes_4 : decode cX5_heldOnes 4 = .ok (.iload_n 2, 1) := by decide +kernel
theorem dX5_heldOnes_5 : decode cX5_heldOnes 5 = .ok (.aload_n 0, 1) := by decide +kernel
theorem dX5_heldOnes_6 : decode cX5_heldOnes 6 = .ok (.getfield 25, 3) := by decide +kernel
theorem dX5_heldOnes_9 : decode cX5_heldOnes 9 = .ok (.if_icmp .ge 24, 3) := by decide +kernel
theorem dX5_heldOnes_12 : decode cX5_heldOnes 12 = .ok (.aload_n 0, 1) := by decide +kernel
theorem dX5_heldOnes_13 : decode cX5_heldOnes 13 = .ok (.getfield 9, 3) := by decide +kernel
theorem dX5_heldOnes_16 : decode cX5_heldOnes 16 = .ok (.iload_n 2, 1) := by decide +kernel
theorem dX5_heldOnes_17 : decode cX5_heldOnes 17 = .ok (.baload, 1) := by decide +kernel
theorem dX5_heldOnes_18 : decode cX5_heldOnes 18 = .ok (.ifCond .eq 9, 3) := by decide +kernel
theorem dX5_heldOnes_21 : decode cX5_heldOnes 21 = .ok (.iload_n 1, 1) := by decide +kernel
theorem dX5_heldOnes_22 : decode cX5_heldOnes 22 = .ok (.iconst 1, 1) := by decide +kernel
theorem dX5_heldOnes_23 : decode cX5_heldOnes 23 = .ok (.iload_n 2, 1) := by decide +kernel
theorem dX5_heldOnes_24 : decode cX5_heldOnes 24 = .ok (.ishl, 1) := by decide +kernel
theorem dX5_heldOnes_25 : decode cX5_heldOnes 25 = .ok (.ior, 1) := by decide +kernel
theorem dX5_heldOnes_26 : decode cX5_heldOnes 26 = .ok (.istore_n 1, 1) := by decide +kernel
theorem dX5_heldOnes_27 : decode cX5_heldOnes 27 = .ok (.iinc 2 1, 3) := by decide +kernel
theorem dX5_heldOnes_30 : decode cX5_heldOnes 30 = .ok (.goto (-26), 3) := by decide +kernel
theorem dX5_heldOnes_33 : decode cX5_heldOnes 33 = .ok (.iload_n 1, 1) := by decide +kernel
theorem dX5_heldOnes_34 : decode cX5_heldOnes 34 = .ok (.ireturn, 1) := by decide +kernel
theorem dX5_heldMost_0 : decode cX5_heldMost 0 = .ok (.bipush (-101), 2) := by decide +kernel
theorem dX5_heldMost_2 : decode cX5_heldMost 2 = .ok (.istore_n 2, 1) := by decide +kernel
theorem dX5_heldMost_3 : decode cX5_heldMost 3 = .ok (.iconst 0, 1) := by decide +kernel
theorem dX5_heldMost_4 : decode cX5_heldMost 4 = .ok (.istore_n 3, 1) := by decide +kernel
theorem dX5_heldMost_5 : decode cX5_heldMost 5 = .ok (.iconst 0, 1) := by decide +kernel
theorem dX5_heldMost_6 : decode cX5_heldMost 6 = .ok (.istore 4, 2) := by decide +kernel
theorem dX5_heldMost_8 : decode cX5_heldMost 8 = .ok (.iload 4, 2) := by decide +kernel
theorem dX5_heldMost_10 : decode cX5_heldMost 10 = .ok (.aload_n 0, 1) := by decide +kernel
theorem dX5_heldMost_11 : decode cX5_heldMost 11 = .ok (.getfield 25, 3) := by decide +kernel
theorem dX5_heldMost_14 : decode cX5_heldMost 14 = .ok (.if_icmp .ge 64, 3) := by decide +kernel
theorem dX5_heldMost_17 : decode cX5_heldMost 17 = .ok (.iload_n 1, 1) := by decide +kernel
theorem dX5_heldMost_18 : decode cX5_heldMost 18 = .ok (.aload_n 0, 1) := by decide +kernel
theorem dX5_heldMost_19 : decode cX5_heldMost 19 = .ok (.getfield 15, 3) := by decide +kernel
theorem dX5_heldMost_22 : decode cX5_heldMost 22 = .ok (.iload 4, 2) := by decide +kernel
theorem dX5_heldMost_24 : decode cX5_heldMost 24 = .ok (.iaload, 1) := by decide +kernel
theorem dX5_heldMost_25 : decode cX5_heldMost 25 = .ok (.imul, 1) := by decide +kernel
theorem dX5_heldMost_26 : decode cX5_heldMost 26 = .ok (.istore 5, 2) := by decide +kernel
theorem dX5_heldMost_28 : decode cX5_heldMost 28 = .ok (.aload_n 0, 1) := by decide +kernel
theorem dX5_heldMost_29 : decode cX5_heldMost 29 = .ok (.getfield 9, 3) := by decide +kernel
theorem dX5_heldMost_32 : decode cX5_heldMost 32 = .ok (.iload 4, 2) := by decide +kernel
theorem dX5_heldMost_34 : decode cX5_heldMost 34 = .ok (.baload, 1) := by decide +kernel
theorem dX5_heldMost_35 : decode cX5_heldMost 35 = .ok (.ifCond .eq 14, 3) := by decide +kernel
theorem dX5_heldMost_38 : decode cX5_heldMost 38 = .ok (.iload 5, 2) := by decide +kernel
theorem dX5_heldMost_40 : decode cX5_heldMost 40 = .ok (.iload_n 2, 1) := by decide +kernel
theorem dX5_heldMost_41 : decode cX5_heldMost 41 = .ok (.if_icmp .le 8, 3) := by decide +kernel
theorem dX5_heldMost_44 : decode cX5_heldMost 44 = .ok (.iload 5, 2) := by decide +kernel
theorem dX5_heldMost_46 : decode cX5_heldMost 46 = .ok (.istore_n 2, 1) := by decide +kernel
theorem dX5_heldMost_47 : decode cX5_heldMost 47 = .ok (.iconst 0, 1) := by decide +kernel
theorem dX5_heldMost_48 : decode cX5_heldMost 48 = .ok (.istore_n 3, 1) := by decide +kernel
theorem dX5_heldMost_49 : decode cX5_heldMost 49 = .ok (.aload_n 0, 1) := by decide +kernel
theorem dX5_heldMost_50 : decode cX5_heldMost 50 = .ok (.getfield 9, 3) := by decide +kernel
theorem dX5_heldMost_53 : decode cX5_heldMost 53 = .ok (.iload 4, 2) := by decide +kernel
theorem dX5_heldMost_55 : decode cX5_heldMost 55 = .ok (.baload, 1) := by decide +kernel
theorem dX5_heldMost_56 : decode cX5_heldMost 56 = .ok (.ifCond .eq 16, 3) := by decide +kernel
theorem dX5_heldMost_59 : decode cX5_heldMost 59 = .ok (.iload 5, 2) := by decide +kernel
theorem dX5_heldMost_61 : decode cX5_heldMost 61 = .ok (.iload_n 2, 1) := by decide +kernel
theorem dX5_heldMost_62 : decode cX5_heldMost 62 = .ok (.if_icmp .ne 10, 3) := by decide +kernel
theorem dX5_heldMost_65 : decode cX5_heldMost 65 = .ok (.iload_n 3, 1) := by decide +kernel
theorem dX5_heldMost_66 : decode cX5_heldMost 66 = .ok (.iconst 1, 1) := by decide +kernel
theorem dX5_heldMost_67 : decode cX5_heldMost 67 = .ok (.iload 4, 2) := by decide +kernel
theorem dX5_heldMost_69 : decode cX5_heldMost 69 = .ok (.ishl, 1) := by decide +kernel
theorem dX5_heldMost_70 : decode cX5_heldMost 70 = .ok (.ior, 1) := by decide +kernel
theorem dX5_heldMost_71 : decode cX5_heldMost 71 = .ok (.istore_n 3, 1) := by decide +kernel
theorem dX5_heldMost_72 : decode cX5_heldMost 72 = .ok (.iinc 4 1, 3) := by decide +kernel
theorem dX5_heldMost_75 : decode cX5_heldMost 75 = .ok (.goto (-67), 3) := by decide +kernel
theorem dX5_heldMost_78 : decode cX5_heldMost 78 = .ok (.iload_n 3, 1) := by decide +kernel
theorem dX5_heldMost_79 : decode cX5_heldMost 79 = .ok (.ireturn, 1) := by decide +kernel
theorem dX5_reachedFrom_0 : decode cX5_reachedFrom 0 = .ok (.iconst 1, 1) := by decide +kernel
theorem dX5_reachedFrom_1 : decode cX5_reachedFrom 1 = .ok (.istore_n 3, 1) := by decide +kernel
theorem dX5_reachedFrom_2 : decode cX5_reachedFrom 2 = .ok (.iconst 0, 1) := by decide +kernel
theorem dX5_reachedFrom_3 : decode cX5_reachedFrom 3 = .ok (.istore 4, 2) := by decide +kernel
theorem dX5_reachedFrom_5 : decode cX5_reachedFrom 5 = .ok (.iload_n 3, 1) := by decide +kernel
theorem dX5_reachedFrom_6 : decode cX5_reachedFrom 6 = .ok (.ifCond .eq 102, 3) := by decide +kernel
theorem dX5_reachedFrom_9 : decode cX5_reachedFrom 9 = .ok (.iload 4, 2) := by decide +kernel
theorem dX5_reachedFrom_11 : decode cX5_reachedFrom 11 = .ok (.bipush 6, 2) := by decide +kernel
theorem dX5_reachedFrom_13 : decode cX5_reachedFrom 13 = .ok (.if_icmp .ge 95, 3) := by decide +kernel
theorem dX5_reachedFrom_16 : decode cX5_reachedFrom 16 = .ok (.iload_n 1, 1) := by decide +kernel
theorem dX5_reachedFrom_17 : decode cX5_reachedFrom 17 = .ok (.istore 5, 2) := by decide +kernel
theorem dX5_reachedFrom_19 : decode cX5_reachedFrom 19 = .ok (.iconst 0, 1) := by decide +kernel
theorem dX5_reachedFrom_20 : decode cX5_reachedFrom 20 = .ok (.istore 6, 2) := by decide +kernel
theorem dX5_reachedFrom_22 : decode cX5_reachedFrom 22 = .ok (.iload 6, 2) := by decide +kernel
theorem dX5_reachedFrom_24 : decode cX5_reachedFrom 24 = .ok (.aload_n 0, 1) := by decide +kernel
theorem dX5_reachedFrom_25 : decode cX5_reachedFrom 25 = .ok (.getfield 29, 3) := by decide +kernel
theorem dX5_reachedFrom_28 : decode cX5_reachedFrom 28 = .ok (.if_icmp .ge 62, 3) := by decide +kernel
theorem dX5_reachedFrom_31 : decode cX5_reachedFrom 31 = .ok (.iconst 1, 1) := by decide +kernel
theorem dX5_reachedFrom_32 : decode cX5_reachedFrom 32 = .ok (.aload_n 0, 1) := by decide +kernel
theorem dX5_reachedFrom_33 : decode cX5_reachedFrom 33 = .ok (.getfield 21, 3) := by decide +kernel
theorem dX5_reachedFrom_36 : decode cX5_reachedFrom 36 = .ok (.iload 6, 2) := by decide +kernel
theorem dX5_reachedFrom_38 : decode cX5_reachedFrom 38 = .ok (.aaload, 1) := by decide +kernel
theorem dX5_reachedFrom_39 : decode cX5_reachedFrom 39 = .ok (.getfield 45, 3) := by decide +kernel
theorem dX5_reachedFrom_42 : decode cX5_reachedFrom 42 = .ok (.ishl, 1) := by decide +kernel
theorem dX5_reachedFrom_43 : decode cX5_reachedFrom 43 = .ok (.iconst 1, 1) := by decide +kernel
theorem dX5_reachedFrom_44 : decode cX5_reachedFrom 44 = .ok (.aload_n 0, 1) := by decide +kernel
theorem dX5_reachedFrom_45 : decode cX5_reachedFrom 45 = .ok (.getfield 21, 3) := by decide +kernel
theorem dX5_reachedFrom_48 : decode cX5_reachedFrom 48 = .ok (.iload 6, 2) := by decide +kernel
theorem dX5_reachedFrom_50 : decode cX5_reachedFrom 50 = .ok (.aaload, 1) := by decide +kernel
theorem dX5_reachedFrom_51 : decode cX5_reachedFrom 51 = .ok (.getfield 48, 3) := by decide +kernel
theorem dX5_reachedFrom_54 : decode cX5_reachedFrom 54 = .ok (.ishl, 1) := by decide +kernel
theorem dX5_reachedFrom_55 : decode cX5_reachedFrom 55 = .ok (.ior, 1) := by decide +kernel
theorem dX5_reachedFrom_56 : decode cX5_reachedFrom 56 = .ok (.istore 7, 2) := by decide +kernel
theorem dX5_reachedFrom_58 : decode cX5_reachedFrom 58 = .ok (.aload_n 0, 1) := by decide +kernel
theorem dX5_reachedFrom_59 : decode cX5_reachedFrom 59 = .ok (.getfield 21, 3) := by decide +kernel
theorem dX5_reachedFrom_62 : decode cX5_reachedFrom 62 = .ok (.iload 6, 2) := by decide +kernel
theorem dX5_reachedFrom_64 : decode cX5_reachedFrom 64 = .ok (.aaload, 1) := by decide +kernel
theorem dX5_reachedFrom_65 : decode cX5_reachedFrom 65 = .ok (.getfield 35, 3) := by decide +kernel
theorem dX5_reachedFrom_68 : decode cX5_reachedFrom 68 = .ok (.iload_n 2, 1) := by decide +kernel
theorem dX5_reachedFrom_69 : decode cX5_reachedFrom 69 = .ok (.if_icmp .lt 15, 3) := by decide +kernel
theorem dX5_reachedFrom_72 : decode cX5_reachedFrom 72 = .ok (.iload_n 1, 1) := by decide +kernel
theorem dX5_reachedFrom_73 : decode cX5_reachedFrom 73 = .ok (.iload 7, 2) := by decide +kernel
theorem dX5_reachedFrom_75 : decode cX5_reachedFrom 75 = .ok (.iand, 1) := by decide +kernel
theorem dX5_reachedFrom_76 : decode cX5_reachedFrom 76 = .ok (.ifCond .eq 8, 3) := by decide +kernel
theorem dX5_reachedFrom_79 : decode cX5_reachedFrom 79 = .ok (.iload_n 1, 1) := by decide +kernel
theorem dX5_reachedFrom_80 : decode cX5_reachedFrom 80 = .ok (.iload 7, 2) := by decide +kernel
theorem dX5_reachedFrom_82 : decode cX5_reachedFrom 82 = .ok (.ior, 1) := by decide +kernel
theorem dX5_reachedFrom_83 : decode cX5_reachedFrom 83 = .ok (.istore_n 1, 1) := by decide +kernel
theorem dX5_reachedFrom_84 : decode cX5_reachedFrom 84 = .ok (.iinc 6 1, 3) := by decide +kernel
theorem dX5_reachedFrom_87 : decode cX5_reachedFrom 87 = .ok (.goto (-65), 3) := by decide +kernel
theorem dX5_reachedFrom_90 : decode cX5_reachedFrom 90 = .ok (.iload_n 1, 1) := by decide +kernel
theorem dX5_reachedFrom_91 : decode cX5_reachedFrom 91 = .ok (.iload 5, 2) := by decide +kernel
theorem dX5_reachedFrom_93 : decode cX5_reachedFrom 93 = .ok (.if_icmp .eq 7, 3) := by decide +kernel
theorem dX5_reachedFrom_96 : decode cX5_reachedFrom 96 = .ok (.iconst 1, 1) := by decide +kernel
theorem dX5_reachedFrom_97 : decode cX5_reachedFrom 97 = .ok (.goto 4, 3) := by decide +kernel
theorem dX5_reachedFrom_100 : decode cX5_reachedFrom 100 = .ok (.iconst 0, 1) := by decide +kernel
theorem dX5_reachedFrom_101 : decode cX5_reachedFrom 101 = .ok (.istore_n 3, 1) := by decide +kernel
theorem dX5_reachedFrom_102 : decode cX5_reachedFrom 102 = .ok (.iinc 4 1, 3) := by decide +kernel
theorem dX5_reachedFrom_105 : decode cX5_reachedFrom 105 = .ok (.goto (-100), 3) := by decide +kernel
theorem dX5_reachedFrom_108 : decode cX5_reachedFrom 108 = .ok (.iload_n 1, 1) := by decide +kernel
theorem dX5_reachedFrom_109 : decode cX5_reachedFrom 109 = .ok (.ireturn, 1) := by decide +kernel
theorem dX6_init_0 : decode cX6_init 0 = .ok (.aload_n 0, 1) := by decide +kernel
theorem dX6_init_1 : decode cX6_init 1 = .ok (.invokespecial 1, 3) := by decide +kernel
theorem dX6_init_4 : decode cX6_init 4 = .ok (.return_, 1) := by decide +kernel
theorem dX6_leave_0 : decode cX6_leave 0 = .ok (.aload_n 0, 1) := by decide +kernel
theorem dX6_leave_1 : decode cX6_leave 1 = .ok (.bipush 31, 2) := by decide +kernel
theorem dX6_leave_3 : decode cX6_leave 3 = .ok (.aload_n 0, 1) := by decide +kernel
theorem dX6_leave_4 : decode cX6_leave 4 = .ok (.getfield 7, 3) := by decide +kernel
theorem dX6_leave_7 : decode cX6_leave 7 = .ok (.imul, 1) := by decide +kernel
theorem dX6_leave_8 : decode cX6_leave 8 = .ok (.iload_n 1, 1) := by decide +kernel
theorem dX6_leave_9 : decode cX6_leave 9 = .ok (.iadd, 1) := by decide +kernel
theorem dX6_leave_10 : decode cX6_leave 10 = .ok (.putfield 7, 3) := by decide +kernel
theorem dX6_leave_13 : decode cX6_leave 13 = .ok (.return_, 1) := by decide +kernel
set_option maxRecDepth 20000 in
theorem ggX7_init_X3_init : GoodIn wsX7_init wsX3_init := goodIn_r _ [4, 5, 6, 7, 8, 9, 10, 11, 12, 13, 14, 15, 16, 17, 18, 19, 20, 21, 22, 23, 24, 25, 26, 27, 28, 29, 30, 31, 32, 33, 34, 35, 36, 37, 38, 39, 40, 41, 42, 43, 44] (by decide +kernel) (by decide +kernel)
set_option maxRecDepth 20000 in
theorem gX7_init_X3_init : GoodIn wsX7_init (wsX3_init) := ggX7_init_X3_init
theorem dX7_init_0 : decode cX7_init 0 = .ok (.aload_n 0, 1) := by decide +kernel
theorem dX7_init_1 : decode cX7_init 1 = .ok (.iload_n 1, 1) := by decide +kernel
theorem dX7_init_2 : decode cX7_init 2 = .ok (.iload_n 2, 1) := by decide +kernel
theorem dX7_init_3 : decode cX7_init 3 = .ok (.iload_n 3, 1) := by decide +kernel
theorem dX7_init_4 : decode cX7_init 4 = .ok (.iload 4, 2) := by decide +kernel
theorem dX7_init_6 : decode cX7_init 6 = .ok (.invokespecial 3, 3) := by decide +kernel
theorem dX7_init_9 : decode cX7_init 9 = .ok (.return_, 1) := by decide +kernel
theorem dX7_kind_0 : decode cX7_kind 0 = .ok (.iconst 4, 1) := by decide +kernel
theorem dX7_kind_1 : decode cX7_kind 1 = .ok (.ireturn, 1) := by decide +kernel
theorem dX7_room_0 : decode cX7_room 0 = .ok (.iconst 0, 1) := by decide +kernel
theorem dX7_room_1 : decode cX7_room 1 = .ok (.aload_n 0, 1) := by decide +kernel
theorem dX7_room_2 : decode cX7_room 2 = .ok (.getfield 9, 3) := by decide +kernel
theorem dX7_room_5 : decode cX7_room 5 = .ok (.aload_n 0, 1) := by decide +kernel
theorem dX7_room_6 : decode cX7_room 6 = .ok (.getfield 15, 3) := by decide +kernel
theorem dX7_room_9 : decode cX7_room 9 = .ok (.isub, 1) := by decide +kernel
theorem dX7_room_10 : decode cX7_room 10 = .ok (.invokestatic 18, 3) := by decide +kernel
theorem dX7_room_13 : decode cX7_room 13 = .ok (.ireturn, 1) := by decide +kernel
set_option maxRecDepth 20000 in
theorem ggX7_telling_X6_leave : GoodIn wsX7_telling wsX6_leave := goodIn_r _ [7, 8, 42] (by decide +kernel) (by decide +kernel)
set_option maxRecDepth 20000 in
theorem gX7_telling_X6_leave : GoodIn wsX7_telling (wsV RX7 24 RX6 yX6_leave wsX6_leave) := goodIn_app (goodIn_of _ (by decide +kernel)) ggX7_telling_X6_leave
set_option maxRecDepth 20000 in
theorem ggX7_telling_X2_plainTelling : GoodIn wsX7_telling wsX2_plainTelling := goodIn_r _ [14, 15, 16, 4, 5, 6, 7, 8, 17, 18, 19, 20, 21, 22, 23, 24, 25, 26, 27, 28, 29, 30, 31, 32, 33, 34, 35, 36, 37, 38, 39, 40, 41, 42] (by decide +kernel) (by decide +kernel)
set_option maxRecDepth 20000 in
theorem gX7_telling_X2_plainTelling_u30X7 : GoodIn wsX7_telling (va_wsU RX7 30 RX7 "WideningCracks$Crack" ⟨"WideningCracks$Tube", "plainTelling", "(LWideningCracks$Trace;)I"⟩ yX2_plainTelling wsX2_plainTelling) := goodIn_app (goodIn_of _ (by decide +kernel)) ggX7_telling_X2_plainTelling
theorem dX7_telling_0 : decode cX7_telling 0 = .ok (.aload_n 1, 1) := by decide +kernel
theorem dX7_telling_1 : decode cX7_telling 1 = .ok (.iconst 4, 1) := by decide +kernel
theorem dX7_telling_2 : decode cX7_telling 2 = .ok (.invokevirtual 24, 3) := by decide +kernel
theorem dX7_telling_5 : decode cX7_telling 5 = .ok (.aload_n 0, 1) := by decide +kernel
theorem dX7_telling_6 : decode cX7_telling 6 = .ok (.aload_n 1, 1) := by decide +kernel
theorem dX7_telling_7 : decode cX7_telling 7 = .ok (.invokevirtual 30, 3) := by decide +kernel
theorem dX7_telling_10 : decode cX7_telling 10 = .ok (.aload_n 0, 1) := by decide +kernel
theorem dX7_telling_11 : decode cX7_telling 11 = .ok (.getfield 9, 3) := by decide +kernel
theorem dX7_telling_14 : decode cX7_telling 14 = .ok (.iadd, 1) := by decide +kernel
theorem dX7_telling_15 : decode cX7_telling 15 = .ok (.ireturn, 1) := by decide +kernel
theorem dX8_init_0 : decode cX8_init 0 = .ok (.aload_n 0, 1) := by decide +kernel
theorem dX8_init_1 : decode cX8_init 1 = .ok (.invokespecial 3, 3) := by decide +kernel
theorem dX8_init_4 : decode cX8_init 4 = .ok (.aload_n 0, 1) := by decide +kernel
theorem dX8_init_5 : decode cX8_init 5 = .ok (.bipush 6, 2) := by decide +kernel
theorem dX8_init_7 : decode cX8_init 7 = .ok (.bipush 7, 2) := by decide +kernel
theorem dX8_init_9 : decode cX8_init 9 = .ok (.multianewarray 9 2, 4) := by decide +kernel
theorem dX8_init_13 : decode cX8_init 13 = .ok (.putfield 11, 3) := by decide +kernel
theorem dX8_init_16 : decode cX8_init 16 = .ok (.aload_n 0, 1) := by decide +kernel
theorem dX8_init_17 : decode cX8_init 17 = .ok (.sipush 128, 3) := by decide +kernel
theorem dX8_init_20 : decode cX8_init 20 = .ok (.newarray .long, 2) := by decide +kernel
theorem dX8_init_22 : decode cX8_init 22 = .ok (.putfield 16, 3) := by decide +kernel
theorem dX8_init_25 : decode cX8_init 25 = .ok (.aload_n 0, 1) := by decide +kernel
theorem dX8_init_26 : decode cX8_init 26 = .ok (.bipush 6, 2) := by decide +kernel
theorem dX8_init_28 : decode cX8_init 28 = .ok (.newarray .long, 2) := by decide +kernel
theorem dX8_init_30 : decode cX8_init 30 = .ok (.putfield 20, 3) := by decide +kernel
theorem dX8_init_33 : decode cX8_init 33 = .ok (.aload_n 0, 1) := by decide +kernel
theorem dX8_init_34 : decode cX8_init 34 = .ok (.bipush 12, 2) := by decide +kernel
theorem dX8_init_36 : decode cX8_init 36 = .ok (.newarray .long, 2) := by decide +kernel
theorem dX8_init_38 : decode cX8_init 38 = .ok (.putfield 23, 3) := by decide +kernel
theorem dX8_init_41 : decode cX8_init 41 = .ok (.aload_n 0, 1) := by decide +kernel
theorem dX8_init_42 : decode cX8_init 42 = .ok (.lconst 1, 1) := by decide +kernel
theorem dX8_init_43 : decode cX8_init 43 = .ok (.putfield 26, 3) := by decide +kernel
theorem dX8_init_46 : decode cX8_init 46 = .ok (.aload_n 0, 1) := by decide +kernel
theorem dX8_init_47 : decode cX8_init 47 = .ok (.iconst (-1), 1) := by decide +kernel
theorem dX8_init_48 : decode cX8_init 48 = .ok (.putfield 30, 3) := by decide +kernel
theorem dX8_init_51 : decode cX8_init 51 = .ok (.aload_n 0, 1) := by decide +kernel
theorem dX8_init_52 : decode cX8_init 52 = .ok (.aload_n 1, 1) := by decide +kernel
theorem dX8_init_53 : decode cX8_init 53 = .ok (.putfield 34, 3) := by decide +kernel
theorem dX8_init_56 : decode cX8_init 56 = .ok (.return_, 1) := by decide +kernel
set_option maxRecDepth 20000 in
theorem ggX8_isDry_X8_settle : GoodIn wsX8_isDry wsX8_settle := goodIn_r _ [6, 7, 8, 9, 1, 10, 11, 12, 13, 14, 15, 16, 17, 18, 19, 20, 21, 22, 23, 24, 25, 26, 27, 28, 29, 5, 30, 31, 32, 33, 34, 35, 36, 37, 38, 39, 40, 41, 42, 43, 44, 45, 46, 47, 48, 49, 50, 51, 52, 53, 54, 55, 56, 57, 58, 59, 60, 61, 62, 63, 64, 65, 66, 67, 68, 69, 70, 71, 72, 73, 74, 75, 76, 77, 78, 79, 80, 81, 82, 83, 84, 85, 86, 87, 88, 89, 90, 91, 92, 93, 94, 95, 96, 97, 98, 99, 100, 101, 102, 103, 104, 105, 106, 107, 108, 109, 110, 111, 112, 113, 114, 115, 116, 117, 118, 119, 120, 121, 122, 123, 124, 125, 126, 127, 128, 129, 130, 131] (by decide +kernel) (by decide +kernel)
set_option maxRecDepth 20000 in
theorem gX8_isDry_X8_settle : GoodIn wsX8_isDry (wsV RX8 38 RX8 yX8_settle wsX8_settle) := goodIn_app (goodIn_of _ (by decide +kernel)) ggX8_isDry_X8_settle
theorem dX8_isDry_0 : decode cX8_isDry 0 = .ok (.aload_n 0, 1) := by decide +kernel
theorem dX8_isDry_1 : decode cX8_isDry 1 = .ok (.invokevirtual 38, 3) := by decide +kernel
theorem dX8_isDry_4 : decode cX8_isDry 4 = .ok (.aload_n 0, 1) := by decide +kernel
theorem dX8_isDry_5 : decode cX8_isDry 5 = .ok (.getfield 41, 3) := by decide +kernel
theorem dX8_isDry_8 : decode cX8_isDry 8 = .ok (.iload_n 1, 1) := by decide +kernel
theorem dX8_isDry_9 : decode cX8_isDry 9 = .ok (.ishr, 1) := by decide +kernel
theorem dX8_isDry_10 : decode cX8_isDry 10 = .ok (.iconst 1, 1) := by decide +kernel
theorem dX8_isDry_11 : decode cX8_isDry 11 = .ok (.iand, 1) := by decide +kernel
theorem dX8_isDry_12 : decode cX8_isDry 12 = .ok (.ifCond .ne 7, 3) := by decide +kernel
theorem dX8_isDry_15 : decode cX8_isDry 15 = .ok (.iconst 1, 1) := by decide +kernel
theorem dX8_isDry_16 : decode cX8_isDry 16 = .ok (.goto 4, 3) := by decide +kernel
theorem dX8_isDry_19 : decode cX8_isDry 19 = .ok (.iconst 0, 1) := by decide +kernel
theorem dX8_isDry_20 : decode cX8_isDry 20 = .ok (.ireturn, 1) := by decide +kernel
set_option maxRecDepth 20000 in
theorem ggX8_dryCount_X8_settle : GoodIn wsX8_dryCount wsX8_settle := goodIn_r _ [8, 9, 1, 10, 3, 11, 12, 13, 14, 15, 16, 17, 18, 19, 20, 21, 22, 23, 24, 25, 26, 27, 28, 29, 30, 7, 31, 32, 33, 34, 35, 36, 37, 38, 39, 40, 41, 42, 43, 44, 45, 46, 47, 48, 49, 50, 51, 52, 53, 54, 55, 56, 57, 58, 59, 60, 61, 62, 63, 64, 65, 66, 67, 68, 69, 70, 71, 72, 73, 74, 75, 76, 77, 78, 79, 80, 81, 82, 83, 84, 85, 86, 87, 88, 89, 90, 91, 92, 93, 94, 95, 96, 97, 98, 99, 100, 101, 102, 103, 104, 105, 106, 107, 108, 109, 110, 111, 112, 113, 114, 115, 116, 117, 118, 119, 120, 121, 122, 123, 124, 125, 126, 127, 128, 129, 130, 131, 132] (by decide +kernel) (by decide +kernel)
set_option maxRecDepth 20000 in
theorem gX8_dryCount_X8_settle : GoodIn wsX8_dryCount (wsV RX8 38 RX8 yX8_settle wsX8_settle) := goodIn_app (goodIn_of _ (by decide +kernel)) ggX8_dryCount_X8_settle
set_option maxRecDepth 20000 in
theorem ggX8_dryCount_J6_bitCount_0f7a4 : GoodIn wsX8_dryCount wsJ6_bitCount_0f7a4 := goodIn_r _ [79, 80, 81, 82] (by decide +kernel) (by decide +kernel)
set_option maxRecDepth 20000 in
theorem gX8_dryCount_J6_bitCount_0f7a4 : GoodIn wsX8_dryCount (va_wsS RX8 49 yJ6_bitCount_0f7a4 wsJ6_bitCount_0f7a4) := goodIn_app (goodIn_of _ (by decide +kernel)) ggX8_dryCount_J6_bitCount_0f7a4
theorem dX8_dryCount_0 : decode cX8_dryCount 0 = .ok (.aload_n 0, 1) := by decide +kernel
theorem dX8_dryCount_1 : decode cX8_dryCount 1 = .ok (.invokevirtual 38, 3) := by decide +kernel
theorem dX8_dryCount_4 : decode cX8_dryCount 4 = .ok (.aload_n 0, 1) := by decide +kernel
theorem dX8_dryCount_5 : decode cX8_dryCount 5 = .ok (.getfield 34, 3) := by decide +kernel
theorem dX8_dryCount_8 : decode cX8_dryCount 8 = .ok (.getfield 44, 3) := by decide +kernel
theorem dX8_dryCount_11 : decode cX8_dryCount 11 = .ok (.aload_n 0, 1) := by decide +kernel
theorem dX8_dryCount_12 : decode cX8_dryCount 12 = .ok (.getfield 41, 3) := by decide +kernel
theorem dX8_dryCount_15 : decode cX8_dryCount 15 = .ok (.invokestatic 49, 3) := by decide +kernel
theorem dX8_dryCount_18 : decode cX8_dryCount 18 = .ok (.isub, 1) := by decide +kernel
theorem dX8_dryCount_19 : decode cX8_dryCount 19 = .ok (.ireturn, 1) := by decide +kernel
set_option maxRecDepth 20000 in
theorem ggX8_headPart_X8_settle : GoodIn wsX8_headPart wsX8_settle := goodIn_r _ [7, 8, 9, 10, 11, 12, 13, 14, 15, 16, 17, 18, 19, 20, 21, 22, 23, 24, 25, 26, 27, 28, 29, 30, 31, 6, 32, 33, 34, 35, 36, 37, 38, 39, 40, 41, 42, 43, 44, 45, 46, 47, 48, 49, 50, 51, 52, 53, 54, 55, 56, 57, 58, 59, 60, 61, 62, 63, 64, 65, 66, 67, 68, 69, 70, 71, 72, 73, 74, 2, 1, 75, 76, 77, 78, 79, 80, 81, 82, 83, 84, 85, 86, 87, 88, 89, 90, 101, 102, 103, 104, 105, 106, 107, 108, 109, 110, 111, 112, 113, 114, 115, 116, 117, 118, 119, 120, 121, 122, 123, 124, 125, 126, 127, 128, 129, 130, 131, 132, 133, 134, 135, 136, 137, 138, 139, 140, 141] (by decide +kernel) (by decide +kernel)
set_option maxRecDepth 20000 in
theorem gX8_headPart_X8_settle : GoodIn wsX8_headPart (wsV RX8 38 RX8 yX8_settle wsX8_settle) := goodIn_app (goodIn_of _ (by decide +kernel)) ggX8_headPart_X8_settle
set_option maxRecDepth 20000 in
theorem ggX8_headPart_X11_partOf : GoodIn wsX8_headPart wsX11_partOf := goodIn_r _ [93, 94, 95, 73, 96, 97, 98, 99, 92, 100] (by decide +kernel) (by decide +kernel)
set_option maxRecDepth 20000 in
theorem gX8_headPart_X11_partOf_n55 : GoodIn wsX8_headPart (wsX11_partOf) := ggX8_headPart_X11_partOf
theorem dX8_headPart_0 : decode cX8_headPart 0 = .ok (.aload_n 0, 1) := by decide +kernel
theorem dX8_headPart_1 : decode cX8_headPart 1 = .ok (.invokevirtual 38, 3) := by decide +kernel
theorem dX8_headPart_4 : decode cX8_headPart 4 = .ok (.aload_n 0, 1) := by decide +kernel
theorem dX8_headPart_5 : decode cX8_headPart 5 = .ok (.getfield 20, 3) := by decide +kernel
theorem dX8_headPart_8 : decode cX8_headPart 8 = .ok (.iload_n 1, 1) := by decide +kernel
theorem dX8_headPart_9 : decode cX8_headPart 9 = .ok (.laload, 1) := by decide +kernel
theorem dX8_headPart_10 : decode cX8_headPart 10 = .ok (.aload_n 0, 1) := by decide +kernel
theorem dX8_headPart_11 : decode cX8_headPart 11 = .ok (.getfield 26, 3) := by decide +kernel
theorem dX8_headPart_14 : decode cX8_headPart 14 = .ok (.iload_n 2, 1) := by decide +kernel
theorem dX8_headPart_15 : decode cX8_headPart 15 = .ok (.invokestatic 55, 3) := by decide +kernel
theorem dX8_headPart_18 : decode cX8_headPart 18 = .ok (.lreturn, 1) := by decide +kernel
set_option maxRecDepth 20000 in
theorem ggX8_flowPart_X8_settle : GoodIn wsX8_flowPart wsX8_settle := goodIn_r _ [7, 8, 9, 10, 11, 12, 13, 14, 15, 16, 17, 18, 19, 20, 21, 22, 23, 24, 25, 26, 27, 28, 29, 30, 31, 6, 32, 33, 34, 35, 36, 37, 38, 39, 40, 41, 42, 43, 44, 45, 46, 47, 48, 49, 50, 51, 52, 53, 54, 55, 56, 57, 58, 59, 60, 61, 62, 63, 64, 65, 66, 67, 68, 69, 70, 71, 72, 73, 74, 2, 75, 76, 77, 78, 79, 80, 81, 82, 83, 84, 85, 86, 87, 88, 89, 90, 1, 101, 102, 103, 104, 105, 106, 107, 108, 109, 110, 111, 112, 113, 114, 115, 116, 117, 118, 119, 120, 121, 122, 123, 124, 125, 126, 127, 128, 129, 130, 131, 132, 133, 134, 135, 136, 137, 138, 139, 140, 141] (by decide +kernel) (by decide +kernel)
set_option maxRecDepth 20000 in
theorem gX8_flowPart_X8_settle : GoodIn wsX8_flowPart (wsV RX8 38 RX8 yX8_settle wsX8_settle) := goodIn_app (goodIn_of _ (by decide +kernel)) ggX8_flowPart_X8_settle
set_option maxRecDepth 20000 in
theorem ggX8_flowPart_X11_partOf : GoodIn wsX8_flowPart wsX11_partOf := goodIn_r _ [93, 94, 95, 73, 96, 97, 98, 99, 92, 100] (by decide +kernel) (by decide +kernel)
set_option maxRecDepth 20000 in
theorem gX8_flowPart_X11_partOf_n55 : GoodIn wsX8_flowPart (wsX11_partOf) := ggX8_flowPart_X11_partOf
theorem dX8_flowPart_0 : decode cX8_flowPart 0 = .ok (.aload_n 0, 1) := by decide +kernel
theorem dX8_flowPart_1 : decode cX8_flowPart 1 = .ok (.invokevirtual 38, 3) := by decide +kernel
theorem dX8_flowPart_4 : decode cX8_flowPart 4 = .ok (.aload_n 0, 1) := by decide +kernel
theorem dX8_flowPart_5 : decode cX8_flowPart 5 = .ok (.getfield 23, 3) := by decide +kernel
theorem dX8_flowPart_8 : decode cX8_flowPart 8 = .ok (.iload_n 1, 1) := by decide +kernel
theorem dX8_flowPart_9 : decode cX8_flowPart 9 = .ok (.laload, 1) := by decide +kernel
theorem dX8_flowPart_10 : decode cX8_flowPart 10 = .ok (.aload_n 0, 1) := by decide +kernel
theorem dX8_flowPart_11 : decode cX8_flowPart 11 = .ok (.getfield 26, 3) := by decide +kernel
theorem dX8_flowPart_14 : decode cX8_flowPart 14 = .ok (.iload_n 2, 1) := by decide +kernel
theorem dX8_flowPart_15 : decode cX8_flowPart 15 = .ok (.invokestatic 55, 3) := by decide +kernel
theorem dX8_flowPart_18 : decode cX8_flowPart 18 = .ok (.lreturn, 1) := by decide +kernel
set_option maxRecDepth 20000 in
theorem ggX8_inflowPart_X8_settle : GoodIn wsX8_inflowPart wsX8_settle := goodIn_r _ [6, 7, 8, 9, 10, 11, 12, 13, 14, 15, 16, 17, 18, 19, 20, 21, 22, 23, 24, 25, 26, 27, 28, 29, 30, 5, 31, 32, 33, 34, 35, 36, 37, 38, 39, 40, 41, 42, 43, 44, 45, 46, 47, 48, 49, 50, 51, 52, 53, 54, 55, 56, 57, 58, 59, 60, 61, 62, 63, 64, 65, 66, 67, 68, 69, 70, 71, 72, 73, 1, 74, 75, 76, 77, 78, 79, 80, 81, 82, 83, 84, 85, 86, 87, 88, 89, 90, 105, 106, 107, 108, 109, 110, 111, 112, 113, 114, 115, 116, 117, 118, 119, 120, 121, 122, 123, 124, 125, 126, 127, 128, 129, 130, 131, 132, 133, 134, 135, 136, 137, 138, 139, 140, 141, 142, 143, 144, 145] (by decide +kernel) (by decide +kernel)
set_option maxRecDepth 20000 in
theorem gX8_inflowPart_X8_settle : GoodIn wsX8_inflowPart (wsV RX8 38 RX8 yX8_settle wsX8_settle) := goodIn_app (goodIn_of _ (by decide +kernel)) ggX8_inflowPart_X8_settle
set_option maxRecDepth 20000 in
theorem ggX8_inflowPart_X8_inflowUpper : GoodIn wsX8_inflowPart wsX8_inflowUpper := goodIn_r _ [94, 8, 35, 36, 37, 90, 38, 105, 106, 107, 108, 109, 110, 111, 112, 113, 114, 115, 116, 117, 118, 119, 120, 121, 122, 123, 124, 125, 126, 127, 128, 129, 130, 131, 132, 133, 134, 135, 136, 137, 138, 139, 140, 141, 142, 143, 144, 145] (by decide +kernel) (by decide +kernel)
set_option maxRecDepth 20000 in
theorem gX8_inflowPart_X8_inflowUpper : GoodIn wsX8_inflowPart (wsV RX8 59 RX8 yX8_inflowUpper wsX8_inflowUpper) := goodIn_app (goodIn_of _ (by decide +kernel)) ggX8_inflowPart_X8_inflowUpper
set_option maxRecDepth 20000 in
theorem ggX8_inflowPart_X11_partOf : GoodIn wsX8_inflowPart wsX11_partOf := goodIn_r _ [97, 98, 99, 72, 100, 101, 102, 103, 96, 104] (by decide +kernel) (by decide +kernel)
set_option maxRecDepth 20000 in
theorem gX8_inflowPart_X11_partOf_n55 : GoodIn wsX8_inflowPart (wsX11_partOf) := ggX8_inflowPart_X11_partOf
theorem dX8_inflowPart_0 : decode cX8_inflowPart 0 = .ok (.aload_n 0, 1) := by decide +kernel
theorem dX8_inflowPart_1 : decode cX8_inflowPart 1 = .ok (.invokevirtual 38, 3) := by decide +kernel
theorem dX8_inflowPart_4 : decode cX8_inflowPart 4 = .ok (.aload_n 0, 1) := by decide +kernel
theorem dX8_inflowPart_5 : decode cX8_inflowPart 5 = .ok (.iload_n 1, 1) := by decide +kernel
theorem dX8_inflowPart_6 : decode cX8_inflowPart 6 = .ok (.invokevirtual 59, 3) := by decide +kernel
theorem dX8_inflowPart_9 : decode cX8_inflowPart 9 = .ok (.aload_n 0, 1) := by decide +kernel
theorem dX8_inflowPart_10 : decode cX8_inflowPart 10 = .ok (.getfield 26, 3) := by decide +kernel
theorem dX8_inflowPart_13 : decode cX8_inflowPart 13 = .ok (.iload_n 2, 1) := by decide +kernel
theorem dX8_inflowPart_14 : decode cX8_inflowPart 14 = .ok (.invokestatic 55, 3) := by decide +kernel
theorem dX8_inflowPart_17 : decode cX8_inflowPart 17 = .ok (.lreturn, 1) := by decide +kernel
set_option maxRecDepth 20000 in
theorem ggX8_workPart_X8_settle : GoodIn wsX8_workPart wsX8_settle := goodIn_r _ [10, 11, 1, 12, 13, 14, 15, 16, 17, 18, 19, 20, 21, 22, 23, 24, 25, 26, 27, 28, 29, 30, 31, 32, 33, 9, 34, 35, 3, 4, 36, 37, 38, 39, 40, 41, 42, 43, 44, 45, 46, 47, 48, 49, 50, 51, 52, 53, 54, 55, 56, 57, 58, 59, 60, 61, 62, 63, 64, 65, 66, 67, 68, 69, 70, 71, 72, 73, 74, 5, 75, 76, 77, 78, 79, 80, 81, 82, 83, 84, 85, 86, 87, 88, 89, 90, 91, 106, 107, 108, 109, 110, 111, 112, 113, 114, 115, 116, 117, 118, 119, 120, 121, 122, 123, 124, 125, 126, 127, 128, 129, 130, 131, 132, 133, 134, 135, 136, 137, 138, 139, 140, 141, 142, 143, 144, 145, 146] (by decide +kernel) (by decide +kernel)
set_option maxRecDepth 20000 in
theorem gX8_workPart_X8_settle : GoodIn wsX8_workPart (wsV RX8 38 RX8 yX8_settle wsX8_settle) := goodIn_app (goodIn_of _ (by decide +kernel)) ggX8_workPart_X8_settle
set_option maxRecDepth 20000 in
theorem ggX8_workPart_X8_inflowUpper : GoodIn wsX8_workPart wsX8_inflowUpper := goodIn_r _ [95, 1, 36, 37, 38, 91, 39, 106, 107, 108, 109, 110, 111, 112, 113, 114, 115, 116, 117, 118, 119, 120, 121, 122, 123, 124, 125, 126, 127, 128, 129, 130, 131, 132, 133, 134, 135, 136, 137, 138, 139, 140, 141, 142, 143, 144, 145, 146] (by decide +kernel) (by decide +kernel)
set_option maxRecDepth 20000 in
theorem gX8_workPart_X8_inflowUpper : GoodIn wsX8_workPart (wsV RX8 59 RX8 yX8_inflowUpper wsX8_inflowUpper) := goodIn_app (goodIn_of _ (by decide +kernel)) ggX8_workPart_X8_inflowUpper
set_option maxRecDepth 20000 in
theorem ggX8_workPart_X11_partOf : GoodIn wsX8_workPart wsX11_partOf := goodIn_r _ [98, 99, 100, 73, 101, 102, 103, 104, 97, 105] (by decide +kernel) (by decide +kernel)
set_option maxRecDepth 20000 in
theorem gX8_workPart_X11_partOf_n55 : GoodIn wsX8_workPart (wsX11_partOf) := ggX8_workPart_X11_partOf
theorem dX8_workPart_0 : decode cX8_workPart 0 = .ok (.aload_n 0, 1) := by decide +kernel
theorem dX8_workPart_1 : decode cX8_workPart 1 = .ok (.invokevirtual 38, 3) := by decide +kernel
theorem dX8_workPart_4 : decode cX8_workPart 4 = .ok (.lconst 0, 1) := by decide +kernel
theorem dX8_workPart_5 : decode cX8_workPart 5 = .ok (.lstore_n 2, 1) := by decide +kernel
theorem dX8_workPart_6 : decode cX8_workPart 6 = .ok (.iconst 0, 1) := by decide +kernel
theorem dX8_workPart_7 : decode cX8_workPart 7 = .ok (.istore 4, 2) := by decide +kernel
theorem dX8_workPart_9 : decode cX8_workPart 9 = .ok (.iload 4, 2) := by decide +kernel
theorem dX8_workPart_11 : decode cX8_workPart 11 = .ok (.aload_n 0, 1) := by decide +kernel
theorem dX8_workPart_12 : decode cX8_workPart 12 = .ok (.getfield 34, 3) := by decide +kernel
theorem dX8_workPart_15 : decode cX8_workPart 15 = .ok (.getfield 44, 3) := by decide +kernel
theorem dX8_workPart_18 : decode cX8_workPart 18 = .ok (.if_icmp .ge 43, 3) := by decide +kernel
theorem dX8_workPart_21 : decode cX8_workPart 21 = .ok (.aload_n 0, 1) := by decide +kernel
theorem dX8_workPart_22 : decode cX8_workPart 22 = .ok (.getfield 34, 3) := by decide +kernel
theorem dX8_workPart_25 : decode cX8_workPart 25 = .ok (.getfield 63, 3) := by decide +kernel
theorem dX8_workPart_28 : decode cX8_workPart 28 = .ok (.iload 4, 2) := by decide +kernel
theorem dX8_workPart_30 : decode cX8_workPart 30 = .ok (.baload, 1) := by decide +kernel
theorem dX8_workPart_31 : decode cX8_workPart 31 = .ok (.ifCond .eq 24, 3) := by decide +kernel
theorem dX8_workPart_34 : decode cX8_workPart 34 = .ok (.lload_n 2, 1) := by decide +kernel
theorem dX8_workPart_35 : decode cX8_workPart 35 = .ok (.aload_n 0, 1) := by decide +kernel
theorem dX8_workPart_36 : decode cX8_workPart 36 = .ok (.getfield 34, 3) := by decide +kernel
theorem dX8_workPart_39 : decode cX8_workPart 39 = .ok (.getfield 67, 3) := by decide +kernel
theorem dX8_workPart_42 : decode cX8_workPart 42 = .ok (.iload 4, 2) := by decide +kernel
theorem dX8_workPart_44 : decode cX8_workPart 44 = .ok (.iaload, 1) := by decide +kernel
theorem dX8_workPart_45 : decode cX8_workPart 45 = .ok (.i2l, 1) := by decide +kernel
theorem dX8_workPart_46 : decode cX8_workPart 46 = .ok (.aload_n 0, 1) := by decide +kernel
theorem dX8_workPart_47 : decode cX8_workPart 47 = .ok (.iload 4, 2) := by decide +kernel
theorem dX8_workPart_49 : decode cX8_workPart 49 = .ok (.invokevirtual 59, 3) := by decide +kernel
theorem dX8_workPart_52 : decode cX8_workPart 52 = .ok (.lmul, 1) := by decide +kernel
theorem dX8_workPart_53 : decode cX8_workPart 53 = .ok (.ladd, 1) := by decide +kernel
theorem dX8_workPart_54 : decode cX8_workPart 54 = .ok (.lstore_n 2, 1) := by decide +kernel
theorem dX8_workPart_55 : decode cX8_workPart 55 = .ok (.iinc 4 1, 3) := by decide +kernel
theorem dX8_workPart_58 : decode cX8_workPart 58 = .ok (.goto (-49), 3) := by decide +kernel
theorem dX8_workPart_61 : decode cX8_workPart 61 = .ok (.lload_n 2, 1) := by decide +kernel
theorem dX8_workPart_62 : decode cX8_workPart 62 = .ok (.aload_n 0, 1) := by decide +kernel
theorem dX8_workPart_63 : decode cX8_workPart 63 = .ok (.getfield 26, 3) := by decide +kernel
theorem dX8_workPart_66 : decode cX8_workPart 66 = .ok (.iload_n 1, 1) := by decide +kernel
theorem dX8_workPart_67 : decode cX8_workPart 67 = .ok (.invokestatic 55, 3) := by decide +kernel
theorem dX8_workPart_70 : decode cX8_workPart 70 = .ok (.lreturn, 1) := by decide +kernel
set_option maxRecDepth 20000 in
theorem ggX8_amount_X8_settle : GoodIn wsX8_amount wsX8_settle := goodIn_r _ [11, 12, 13, 14, 15, 16, 17, 18, 19, 20, 21, 22, 23, 24, 25, 26, 27, 28, 29, 30, 31, 32, 33, 34, 35, 10, 36, 37, 38, 39, 40, 41, 42, 43, 44, 45, 46, 47, 48, 49, 50, 51, 52, 53, 54, 55, 56, 57, 58, 59, 60, 61, 62, 63, 64, 65, 66, 67, 68, 69, 70, 71, 72, 73, 74, 75, 76, 5, 77, 1, 78, 79, 80, 81, 82, 83, 84, 85, 86, 87, 88, 89, 90, 91, 92, 93, 2, 94, 95, 96, 97, 98, 99, 100, 101, 102, 103, 104, 105, 106, 107, 108, 109, 110, 111, 112, 113, 114, 115, 116, 117, 118, 119, 120, 121, 122, 123, 124, 125, 126, 127, 128, 129, 130, 131, 132, 133, 134] (by decide +kernel) (by decide +kernel)
set_option maxRecDepth 20000 in
theorem gX8_amount_X8_settle : GoodIn wsX8_amount (wsV RX8 38 RX8 yX8_settle wsX8_settle) := goodIn_app (goodIn_of _ (by decide +kernel)) ggX8_amount_X8_settle
theorem dX8_amount_0 : decode cX8_amount 0 = .ok (.aload_n 0, 1) := by decide +kernel
theorem dX8_amount_1 : decode cX8_amount 1 = .ok (.invokevirtual 38, 3) := by decide +kernel
theorem dX8_amount_4 : decode cX8_amount 4 = .ok (.aload_n 0, 1) := by decide +kernel
theorem dX8_amount_5 : decode cX8_amount 5 = .ok (.getfield 26, 3) := by decide +kernel
theorem dX8_amount_8 : decode cX8_amount 8 = .ok (.lconst 0, 1) := by decide +kernel
theorem dX8_amount_9 : decode cX8_amount 9 = .ok (.lcmp, 1) := by decide +kernel
theorem dX8_amount_10 : decode cX8_amount 10 = .ok (.ifCond .le 23, 3) := by decide +kernel
theorem dX8_amount_13 : decode cX8_amount 13 = .ok (.aload_n 0, 1) := by decide +kernel
theorem dX8_amount_14 : decode cX8_amount 14 = .ok (.getfield 23, 3) := by decide +kernel
theorem dX8_amount_17 : decode cX8_amount 17 = .ok (.iload_n 1, 1) := by decide +kernel
theorem dX8_amount_18 : decode cX8_amount 18 = .ok (.laload, 1) := by decide +kernel
theorem dX8_amount_19 : decode cX8_amount 19 = .ok (.invokestatic 71, 3) := by decide +kernel
theorem dX8_amount_22 : decode cX8_amount 22 = .ok (.iload_n 2, 1) := by decide +kernel
theorem dX8_amount_23 : decode cX8_amount 23 = .ok (.i2l, 1) := by decide +kernel
theorem dX8_amount_24 : decode cX8_amount 24 = .ok (.lmul, 1) := by decide +kernel
theorem dX8_amount_25 : decode cX8_amount 25 = .ok (.aload_n 0, 1) := by decide +kernel
theorem dX8_amount_26 : decode cX8_amount 26 = .ok (.getfield 26, 3) := by decide +kernel
theorem dX8_amount_29 : decode cX8_amount 29 = .ok (.ldiv, 1) := by decide +kernel
theorem dX8_amount_30 : decode cX8_amount 30 = .ok (.goto 4, 3) := by decide +kernel
theorem dX8_amount_33 : decode cX8_amount 33 = .ok (.lconst 0, 1) := by decide +kernel
theorem dX8_amount_34 : decode cX8_amount 34 = .ok (.lreturn, 1) := by decide +kernel
theorem dX8_inflowUpper_0 : decode cX8_inflowUpper 0 = .ok (.lconst 0, 1) := by decide +kernel
theorem dX8_inflowUpper_1 : decode cX8_inflowUpper 1 = .ok (.lstore_n 2, 1) := by decide +kernel
theorem dX8_inflowUpper_2 : decode cX8_inflowUpper 2 = .ok (.iconst 0, 1) := by decide +kernel
theorem dX8_inflowUpper_3 : decode cX8_inflowUpper 3 = .ok (.istore 4, 2) := by decide +kernel
theorem dX8_inflowUpper_5 : decode cX8_inflowUpper 5 = .ok (.iload 4, 2) := by decide +kernel
theorem dX8_inflowUpper_7 : decode cX8_inflowUpper 7 = .ok (.aload_n 0, 1) := by decide +kernel
theorem dX8_inflowUpper_8 : decode cX8_inflowUpper 8 = .ok (.getfield 34, 3) := by decide +kernel
theorem dX8_inflowUpper_11 : decode cX8_inflowUpper 11 = .ok (.getfield 77, 3) := by decide +kernel
theorem dX8_inflowUpper_14 : decode cX8_inflowUpper 14 = .ok (.if_icmp .ge 63, 3) := by decide +kernel
theorem dX8_inflowUpper_17 : decode cX8_inflowUpper 17 = .ok (.aload_n 0, 1) := by decide +kernel
theorem dX8_inflowUpper_18 : decode cX8_inflowUpper 18 = .ok (.getfield 34, 3) := by decide +kernel
theorem dX8_inflowUpper_21 : decode cX8_inflowUpper 21 = .ok (.getfield 80, 3) := by decide +kernel
theorem dX8_inflowUpper_24 : decode cX8_inflowUpper 24 = .ok (.iload 4, 2) := by decide +kernel
theorem dX8_inflowUpper_26 : decode cX8_inflowUpper 26 = .ok (.aaload, 1) := by decide +kernel
theorem dX8_inflowUpper_27 : decode cX8_inflowUpper 27 = .ok (.getfield 84, 3) := by decide +kernel
theorem dX8_inflowUpper_30 : decode cX8_inflowUpper 30 = .ok (.iload_n 1, 1) := by decide +kernel
theorem dX8_inflowUpper_31 : decode cX8_inflowUpper 31 = .ok (.if_icmp .ne 13, 3) := by decide +kernel
theorem dX8_inflowUpper_34 : decode cX8_inflowUpper 34 = .ok (.lload_n 2, 1) := by decide +kernel
theorem dX8_inflowUpper_35 : decode cX8_inflowUpper 35 = .ok (.aload_n 0, 1) := by decide +kernel
theorem dX8_inflowUpper_36 : decode cX8_inflowUpper 36 = .ok (.getfield 23, 3) := by decide +kernel
theorem dX8_inflowUpper_39 : decode cX8_inflowUpper 39 = .ok (.iload 4, 2) := by decide +kernel
theorem dX8_inflowUpper_41 : decode cX8_inflowUpper 41 = .ok (.laload, 1) := by decide +kernel
theorem dX8_inflowUpper_42 : decode cX8_inflowUpper 42 = .ok (.ladd, 1) := by decide +kernel
theorem dX8_inflowUpper_43 : decode cX8_inflowUpper 43 = .ok (.lstore_n 2, 1) := by decide +kernel
theorem dX8_inflowUpper_44 : decode cX8_inflowUpper 44 = .ok (.aload_n 0, 1) := by decide +kernel
theorem dX8_inflowUpper_45 : decode cX8_inflowUpper 45 = .ok (.getfield 34, 3) := by decide +kernel
theorem dX8_inflowUpper_48 : decode cX8_inflowUpper 48 = .ok (.getfield 80, 3) := by decide +kernel
theorem dX8_inflowUpper_51 : decode cX8_inflowUpper 51 = .ok (.iload 4, 2) := by decide +kernel
theorem dX8_inflowUpper_53 : decode cX8_inflowUpper 53 = .ok (.aaload, 1) := by decide +kernel
theorem dX8_inflowUpper_54 : decode cX8_inflowUpper 54 = .ok (.getfield 89, 3) := by decide +kernel
theorem dX8_inflowUpper_57 : decode cX8_inflowUpper 57 = .ok (.iload_n 1, 1) := by decide +kernel
theorem dX8_inflowUpper_58 : decode cX8_inflowUpper 58 = .ok (.if_icmp .ne 13, 3) := by decide +kernel
theorem dX8_inflowUpper_61 : decode cX8_inflowUpper 61 = .ok (.lload_n 2, 1) := by decide +kernel
theorem dX8_inflowUpper_62 : decode cX8_inflowUpper 62 = .ok (.aload_n 0, 1) := by decide +kernel
theorem dX8_inflowUpper_63 : decode cX8_inflowUpper 63 = .ok (.getfield 23, 3) := by decide +kernel
theorem dX8_inflowUpper_66 : decode cX8_inflowUpper 66 = .ok (.iload 4, 2) := by decide +kernel
theorem dX8_inflowUpper_68 : decode cX8_inflowUpper 68 = .ok (.laload, 1) := by decide +kernel
theorem dX8_inflowUpper_69 : decode cX8_inflowUpper 69 = .ok (.lsub, 1) := by decide +kernel
theorem dX8_inflowUpper_70 : decode cX8_inflowUpper 70 = .ok (.lstore_n 2, 1) := by decide +kernel
theorem dX8_inflowUpper_71 : decode cX8_inflowUpper 71 = .ok (.iinc 4 1, 3) := by decide +kernel
theorem dX8_inflowUpper_74 : decode cX8_inflowUpper 74 = .ok (.goto (-69), 3) := by decide +kernel
theorem dX8_inflowUpper_77 : decode cX8_inflowUpper 77 = .ok (.lload_n 2, 1) := by decide +kernel
theorem dX8_inflowUpper_78 : decode cX8_inflowUpper 78 = .ok (.lreturn, 1) := by decide +kernel
set_option maxRecDepth 20000 in
theorem ggX8_settle_X5_heldOnes : GoodIn wsX8_settle wsX5_heldOnes := goodIn_r _ [10, 11, 12, 96, 97, 98, 99, 100, 101, 102] (by decide +kernel) (by decide +kernel)
set_option maxRecDepth 20000 in
theorem gX8_settle_X5_heldOnes : GoodIn wsX8_settle (wsV RX8 95 RX5 yX5_heldOnes wsX5_heldOnes) := goodIn_app (goodIn_of _ (by decide +kernel)) ggX8_settle_X5_heldOnes
set_option maxRecDepth 20000 in
theorem ggX8_settle_X5_reachedFrom : GoodIn wsX8_settle wsX5_reachedFrom := goodIn_r _ [16, 17, 18, 19, 20, 21, 96, 97, 98, 99, 100, 101, 102, 103, 104, 105, 106, 107, 108, 109, 110, 111, 112, 113, 114, 115, 116, 117, 118, 119, 120, 121, 122, 123, 124, 125, 126, 127] (by decide +kernel) (by decide +kernel)
set_option maxRecDepth 20000 in
theorem gX8_settle_X5_reachedFrom : GoodIn wsX8_settle (wsV RX8 99 RX5 yX5_reachedFrom wsX5_reachedFrom) := goodIn_app (goodIn_of _ (by decide +kernel)) ggX8_settle_X5_reachedFrom
set_option maxRecDepth 20000 in
theorem ggX8_settle_X8_writeRows : GoodIn wsX8_settle wsX8_writeRows := goodIn_r _ [26, 27, 5, 2, 28, 29, 30, 31, 32, 33, 34, 35, 36, 37, 38, 39, 40, 41, 42, 43, 44, 45, 46, 47, 48, 49, 50, 51, 52, 53, 54, 55, 56, 57, 58, 25, 59, 87, 88, 89, 90, 91, 92, 93, 94, 95, 96, 97, 98, 99, 100, 101, 102, 103, 104, 105, 106, 107, 108, 109, 110, 111, 112, 113, 114, 115, 116, 117, 118, 119, 120, 121, 122, 123, 124, 125, 126, 127] (by decide +kernel) (by decide +kernel)
set_option maxRecDepth 20000 in
theorem gX8_settle_X8_writeRows : GoodIn wsX8_settle (wsV RX8 106 RX8 yX8_writeRows wsX8_writeRows) := goodIn_app (goodIn_of _ (by decide +kernel)) ggX8_settle_X8_writeRows
set_option maxRecDepth 20000 in
theorem ggX8_settle_X8_solveRows : GoodIn wsX8_settle wsX8_solveRows := goodIn_r _ [63, 64, 27, 65, 66, 67, 68, 69, 70, 71, 72, 73, 74, 75, 76, 77, 78, 79, 80, 25, 81, 87, 88, 89, 90, 91, 92, 93, 94, 95] (by decide +kernel) (by decide +kernel)
set_option maxRecDepth 20000 in
theorem gX8_settle_X8_solveRows : GoodIn wsX8_settle (wsV RX8 109 RX8 yX8_solveRows wsX8_solveRows) := goodIn_app (goodIn_of _ (by decide +kernel)) ggX8_settle_X8_solveRows
set_option maxRecDepth 20000 in
theorem ggX8_settle_X8_reckonFlows : GoodIn wsX8_settle wsX8_reckonFlows := goodIn_r _ [85, 2, 30, 31, 86, 70, 32, 33, 38, 39, 40, 41, 42, 43, 44, 45, 46, 47, 48, 49, 50, 51, 52, 53, 54, 55, 87, 88, 89, 90, 91, 92, 93, 94, 95, 96, 97, 98, 99, 100, 101, 102, 103, 104, 105, 106, 107, 108, 109, 110, 111, 112, 113, 114, 115, 116, 117, 118, 119, 120, 121, 122, 123, 124, 125, 126, 127] (by decide +kernel) (by decide +kernel)
set_option maxRecDepth 20000 in
theorem gX8_settle_X8_reckonFlows : GoodIn wsX8_settle (wsV RX8 112 RX8 yX8_reckonFlows wsX8_reckonFlows) := goodIn_app (goodIn_of _ (by decide +kernel)) ggX8_settle_X8_reckonFlows
theorem dX8_settle_0 : decode cX8_settle 0 = .ok (.aload_n 0, 1) := by decide +kernel
theorem dX8_settle_1 : decode cX8_settle 1 = .ok (.getfield 30, 3) := by decide +kernel
theorem dX8_settle_4 : decode cX8_settle 4 = .ok (.aload_n 0, 1) := by decide +kernel
theorem dX8_settle_5 : decode cX8_settle 5 = .ok (.getfield 34, 3) := by decide +kernel
theorem dX8_settle_8 : decode cX8_settle 8 = .ok (.getfield 92, 3) := by decide +kernel
theorem dX8_settle_11 : decode cX8_settle 11 = .ok (.if_icmp .ne 4, 3) := by decide +kernel
theorem dX8_settle_14 : decode cX8_settle 14 = .ok (.return_, 1) := by decide +kernel
theorem dX8_settle_15 : decode cX8_settle 15 = .ok (.aload_n 0, 1) := by decide +kernel
theorem dX8_settle_16 : decode cX8_settle 16 = .ok (.aload_n 0, 1) := by decide +kernel
theorem dX8_settle_17 : decode cX8_settle 17 = .ok (.getfield 34, 3) := by decide +kernel
theorem dX8_settle_20 : decode cX8_settle 20 = .ok (.getfield 92, 3) := by decide +kernel
theorem dX8_settle_23 : decode cX8_settle 23 = .ok (.putfield 30, 3) := by decide +kernel
theorem dX8_settle_26 : decode cX8_settle 26 = .ok (.aload_n 0, 1) := by decide +kernel
theorem dX8_settle_27 : decode cX8_settle 27 = .ok (.getfield 34, 3) := by decide +kernel
theorem dX8_settle_30 : decode cX8_settle 30 = .ok (.invokevirtual 95, 3) := by decide +kernel
theorem dX8_settle_33 : decode cX8_settle 33 = .ok (.istore_n 1, 1) := by decide +kernel
theorem dX8_settle_34 : decode cX8_settle 34 = .ok (.aload_n 0, 1) := by decide +kernel
theorem dX8_settle_35 : decode cX8_settle 35 = .ok (.aload_n 0, 1) := by decide +kernel
theorem dX8_settle_36 : decode cX8_settle 36 = .ok (.getfield 34, 3) := by decide +kernel
theorem dX8_settle_39 : decode cX8_settle 39 = .ok (.iload_n 1, 1) := by decide +kernel
theorem dX8_settle_40 : decode cX8_settle 40 = .ok (.iconst 1, 1) := by decide +kernel
theorem dX8_settle_41 : decode cX8_settle 41 = .ok (.invokevirtual 99, 3) := by decide +kernel
theorem dX8_settle_44 : decode cX8_settle 44 = .ok (.putfield 41, 3) := by decide +kernel
theorem dX8_settle_47 : decode cX8_settle 47 = .ok (.aload_n 0, 1) := by decide +kernel
theorem dX8_settle_48 : decode cX8_settle 48 = .ok (.aload_n 0, 1) := by decide +kernel
theorem dX8_settle_49 : decode cX8_settle 49 = .ok (.getfield 41, 3) := by decide +kernel
theorem dX8_settle_52 : decode cX8_settle 52 = .ok (.iload_n 1, 1) := by decide +kernel
theorem dX8_settle_53 : decode cX8_settle 53 = .ok (.iconst (-1), 1) := by decide +kernel
theorem dX8_settle_54 : decode cX8_settle 54 = .ok (.ixor, 1) := by decide +kernel
theorem dX8_settle_55 : decode cX8_settle 55 = .ok (.iand, 1) := by decide +kernel
theorem dX8_settle_56 : decode cX8_settle 56 = .ok (.putfield 103, 3) := by decide +kernel
theorem dX8_settle_59 : decode cX8_settle 59 = .ok (.aload_n 0, 1) := by decide +kernel
theorem dX8_settle_60 : decode cX8_settle 60 = .ok (.invokevirtual 106, 3) := by decide +kernel
theorem dX8_settle_63 : decode cX8_settle 63 = .ok (.aload_n 0, 1) := by decide +kernel
theorem dX8_settle_64 : decode cX8_settle 64 = .ok (.invokevirtual 109, 3) := by decide +kernel
theorem dX8_settle_67 : decode cX8_settle 67 = .ok (.aload_n 0, 1) := by decide +kernel
theorem dX8_settle_68 : decode cX8_settle 68 = .ok (.invokevirtual 112, 3) := by decide +kernel
theorem dX8_settle_71 : decode cX8_settle 71 = .ok (.return_, 1) := by decide +kernel
set_option maxRecDepth 20000 in
theorem ggX8_writeRows_J7_fill_d0a16 : GoodIn wsX8_writeRows wsJ7_fill_d0a16 := goodIn_r _ [13] (by decide +kernel) (by decide +kernel)
set_option maxRecDepth 20000 in
theorem gX8_writeRows_J7_fill_d0a16 : GoodIn wsX8_writeRows (va_wsS RX8 115 yJ7_fill_d0a16 wsJ7_fill_d0a16) := goodIn_app (goodIn_of _ (by decide +kernel)) ggX8_writeRows_J7_fill_d0a16
set_option maxRecDepth 20000 in
theorem ggX8_writeRows_X2_lets : GoodIn wsX8_writeRows wsX2_lets := goodIn_r _ [19, 20, 53, 54, 55, 56, 57, 58, 59, 60, 61, 62, 63, 64, 65, 66, 67, 68, 69, 70, 71, 72, 73, 74, 75, 76, 77] (by decide +kernel) (by decide +kernel)
set_option maxRecDepth 20000 in
theorem gX8_writeRows_X2_lets_u121X0 : GoodIn wsX8_writeRows (va_wsU RX8 121 RX0 "WideningCracks$Crack" ⟨"WideningCracks$Crack", "lets", "()I"⟩ yX2_lets wsX2_lets) := goodIn_app (goodIn_of _ (by decide +kernel)) ggX8_writeRows_X2_lets
set_option maxRecDepth 20000 in
theorem gX8_writeRows_X2_lets : GoodIn wsX8_writeRows (wsV RX8 121 RX2 yX2_lets wsX2_lets) := goodIn_app (goodIn_of _ (by decide +kernel)) ggX8_writeRows_X2_lets
set_option maxRecDepth 20000 in
theorem ggX8_writeRows_X10_lets : GoodIn wsX8_writeRows wsX10_lets := goodIn_r _ [27, 28, 29, 53, 54, 55, 56, 57, 58, 59, 60, 61, 62, 63, 64, 65, 66, 67, 68, 69, 70, 71, 72, 73, 74, 75, 76, 77] (by decide +kernel) (by decide +kernel)
set_option maxRecDepth 20000 in
theorem gX8_writeRows_X10_lets_u121X3 : GoodIn wsX8_writeRows (va_wsO RX8 121 RX3 "WideningCracks$Crack" ⟨"WideningCracks$Crack", "lets", "()I"⟩ yX10_lets wsX10_lets) := goodIn_app (goodIn_of _ (by decide +kernel)) ggX8_writeRows_X10_lets
set_option maxRecDepth 20000 in
theorem gX8_writeRows_X10_lets_u121X7 : GoodIn wsX8_writeRows (va_wsO RX8 121 RX7 "WideningCracks$Crack" ⟨"WideningCracks$Crack", "lets", "()I"⟩ yX10_lets wsX10_lets) := goodIn_app (goodIn_of _ (by decide +kernel)) ggX8_writeRows_X10_lets
set_option maxRecDepth 20000 in
theorem gX8_writeRows_X10_lets_u121X10 : GoodIn wsX8_writeRows (va_wsO RX8 121 RX10 "WideningCracks$Crack" ⟨"WideningCracks$Crack", "lets", "()I"⟩ yX10_lets wsX10_lets) := goodIn_app (goodIn_of _ (by decide +kernel)) ggX8_writeRows_X10_lets
set_option maxRecDepth 20000 in
theorem ggX8_writeRows_X8_writeCrack : GoodIn wsX8_writeRows wsX8_writeCrack := goodIn_r _ [36, 2, 1, 37, 38, 39, 40, 41, 42, 43, 44, 45] (by decide +kernel) (by decide +kernel)
set_option maxRecDepth 20000 in
theorem gX8_writeRows_X8_writeCrack : GoodIn wsX8_writeRows (wsV RX8 124 RX8 yX8_writeCrack wsX8_writeCrack) := goodIn_app (goodIn_of _ (by decide +kernel)) ggX8_writeRows_X8_writeCrack
theorem dX8_writeRows_0 : decode cX8_writeRows 0 = .ok (.iconst 0, 1) := by decide +kernel
theorem dX8_writeRows_1 : decode cX8_writeRows 1 = .ok (.istore_n 1, 1) := by decide +kernel
theorem dX8_writeRows_2 : decode cX8_writeRows 2 = .ok (.iload_n 1, 1) := by decide +kernel
theorem dX8_writeRows_3 : decode cX8_writeRows 3 = .ok (.bipush 6, 2) := by decide +kernel
theorem dX8_writeRows_5 : decode cX8_writeRows 5 = .ok (.if_icmp .ge 74, 3) := by decide +kernel
theorem dX8_writeRows_8 : decode cX8_writeRows 8 = .ok (.aload_n 0, 1) := by decide +kernel
theorem dX8_writeRows_9 : decode cX8_writeRows 9 = .ok (.getfield 11, 3) := by decide +kernel
theorem dX8_writeRows_12 : decode cX8_writeRows 12 = .ok (.iload_n 1, 1) := by decide +kernel
theorem dX8_writeRows_13 : decode cX8_writeRows 13 = .ok (.aaload, 1) := by decide +kernel
theorem dX8_writeRows_14 : decode cX8_writeRows 14 = .ok (.lconst 0, 1) := by decide +kernel
theorem dX8_writeRows_15 : decode cX8_writeRows 15 = .ok (.invokestatic 115, 3) := by decide +kernel
theorem dX8_writeRows_18 : decode cX8_writeRows 18 = .ok (.aload_n 0, 1) := by decide +kernel
theorem dX8_writeRows_19 : decode cX8_writeRows 19 = .ok (.getfield 103, 3) := by decide +kernel
theorem dX8_writeRows_22 : decode cX8_writeRows 22 = .ok (.iload_n 1, 1) := by decide +kernel
theorem dX8_writeRows_23 : decode cX8_writeRows 23 = .ok (.ishr, 1) := by decide +kernel
theorem dX8_writeRows_24 : decode cX8_writeRows 24 = .ok (.iconst 1, 1) := by decide +kernel
theorem dX8_writeRows_25 : decode cX8_writeRows 25 = .ok (.iand, 1) := by decide +kernel
theorem dX8_writeRows_26 : decode cX8_writeRows 26 = .ok (.ifCond .ne 47, 3) := by decide +kernel
theorem dX8_writeRows_29 : decode cX8_writeRows 29 = .ok (.aload_n 0, 1) := by decide +kernel
theorem dX8_writeRows_30 : decode cX8_writeRows 30 = .ok (.getfield 11, 3) := by decide +kernel
theorem dX8_writeRows_33 : decode cX8_writeRows 33 = .ok (.iload_n 1, 1) := by decide +kernel
theorem dX8_writeRows_34 : decode cX8_writeRows 34 = .ok (.aaload, 1) := by decide +kernel
theorem dX8_writeRows_35 : decode cX8_writeRows 35 = .ok (.iload_n 1, 1) := by decide +kernel
theorem dX8_writeRows_36 : decode cX8_writeRows 36 = .ok (.lconst 1, 1) := by decide +kernel
theorem dX8_writeRows_37 : decode cX8_writeRows 37 = .ok (.lastore, 1) := by decide +kernel
theorem dX8_writeRows_38 : decode cX8_writeRows 38 = .ok (.aload_n 0, 1) := by decide +kernel
theorem dX8_writeRows_39 : decode cX8_writeRows 39 = .ok (.getfield 11, 3) := by decide +kernel
theorem dX8_writeRows_42 : decode cX8_writeRows 42 = .ok (.iload_n 1, 1) := by decide +kernel
theorem dX8_writeRows_43 : decode cX8_writeRows 43 = .ok (.aaload, 1) := by decide +kernel
theorem dX8_writeRows_44 : decode cX8_writeRows 44 = .ok (.bipush 6, 2) := by decide +kernel
theorem dX8_writeRows_46 : decode cX8_writeRows 46 = .ok (.aload_n 0, 1) := by decide +kernel
theorem dX8_writeRows_47 : decode cX8_writeRows 47 = .ok (.getfield 34, 3) := by decide +kernel
theorem dX8_writeRows_50 : decode cX8_writeRows 50 = .ok (.getfield 63, 3) := by decide +kernel
theorem dX8_writeRows_53 : decode cX8_writeRows 53 = .ok (.iload_n 1, 1) := by decide +kernel
theorem dX8_writeRows_54 : decode cX8_writeRows 54 = .ok (.baload, 1) := by decide +kernel
theorem dX8_writeRows_55 : decode cX8_writeRows 55 = .ok (.ifCond .eq 16, 3) := by decide +kernel
theorem dX8_writeRows_58 : decode cX8_writeRows 58 = .ok (.aload_n 0, 1) := by decide +kernel
theorem dX8_writeRows_59 : decode cX8_writeRows 59 = .ok (.getfield 34, 3) := by decide +kernel
theorem dX8_writeRows_62 : decode cX8_writeRows 62 = .ok (.getfield 67, 3) := by decide +kernel
theorem dX8_writeRows_65 : decode cX8_writeRows 65 = .ok (.iload_n 1, 1) := by decide +kernel
theorem dX8_writeRows_66 : decode cX8_writeRows 66 = .ok (.iaload, 1) := by decide +kernel
theorem dX8_writeRows_67 : decode cX8_writeRows 67 = .ok (.i2l, 1) := by decide +kernel
theorem dX8_writeRows_68 : decode cX8_writeRows 68 = .ok (.goto 4, 3) := by decide +kernel
theorem dX8_writeRows_71 : decode cX8_writeRows 71 = .ok (.lconst 0, 1) := by decide +kernel
theorem dX8_writeRows_72 : decode cX8_writeRows 72 = .ok (.lastore, 1) := by decide +kernel
theorem dX8_writeRows_73 : decode cX8_writeRows 73 = .ok (.iinc 1 1, 3) := by decide +kernel
theorem dX8_writeRows_76 : decode cX8_writeRows 76 = .ok (.goto (-74), 3) := by decide +kernel
theorem dX8_writeRows_79 : decode cX8_writeRows 79 = .ok (.iconst 0, 1) := by decide +kernel
theorem dX8_writeRows_80 : decode cX8_writeRows 80 = .ok (.istore_n 1, 1) := by decide +kernel
theorem dX8_writeRows_81 : decode cX8_writeRows 81 = .ok (.iload_n 1, 1) := by decide +kernel
theorem dX8_writeRows_82 : decode cX8_writeRows 82 = .ok (.aload_n 0, 1) := by decide +kernel
theorem dX8_writeRows_83 : decode cX8_writeRows 83 = .ok (.getfield 34, 3) := by decide +kernel
theorem dX8_writeRows_86 : decode cX8_writeRows 86 = .ok (.getfield 77, 3) := by decide +kernel
theorem dX8_writeRows_89 : decode cX8_writeRows 89 = .ok (.if_icmp .ge 51, 3) := by decide +kernel
theorem dX8_writeRows_92 : decode cX8_writeRows 92 = .ok (.aload_n 0, 1) := by decide +kernel
theorem dX8_writeRows_93 : decode cX8_writeRows 93 = .ok (.getfield 34, 3) := by decide +kernel
theorem dX8_writeRows_96 : decode cX8_writeRows 96 = .ok (.getfield 80, 3) := by decide +kernel
theorem dX8_writeRows_99 : decode cX8_writeRows 99 = .ok (.iload_n 1, 1) := by decide +kernel
theorem dX8_writeRows_100 : decode cX8_writeRows 100 = .ok (.aaload, 1) := by decide +kernel
theorem dX8_writeRows_101 : decode cX8_writeRows 101 = .ok (.astore_n 2, 1) := by decide +kernel
theorem dX8_writeRows_102 : decode cX8_writeRows 102 = .ok (.aload_n 0, 1) := by decide +kernel
theorem dX8_writeRows_103 : decode cX8_writeRows 103 = .ok (.aload_n 2, 1) := by decide +kernel
theorem dX8_writeRows_104 : decode cX8_writeRows 104 = .ok (.getfield 84, 3) := by decide +kernel
theorem dX8_writeRows_107 : decode cX8_writeRows 107 = .ok (.aload_n 2, 1) := by decide +kernel
theorem dX8_writeRows_108 : decode cX8_writeRows 108 = .ok (.getfield 89, 3) := by decide +kernel
theorem dX8_writeRows_111 : decode cX8_writeRows 111 = .ok (.aload_n 2, 1) := by decide +kernel
theorem dX8_writeRows_112 : decode cX8_writeRows 112 = .ok (.invokevirtual 121, 3) := by decide +kernel
theorem dX8_writeRows_115 : decode cX8_writeRows 115 = .ok (.invokevirtual 124, 3) := by decide +kernel
theorem dX8_writeRows_118 : decode cX8_writeRows 118 = .ok (.aload_n 0, 1) := by decide +kernel
theorem dX8_writeRows_119 : decode cX8_writeRows 119 = .ok (.aload_n 2, 1) := by decide +kernel
theorem dX8_writeRows_120 : decode cX8_writeRows 120 = .ok (.getfield 89, 3) := by decide +kernel
theorem dX8_writeRows_123 : decode cX8_writeRows 123 = .ok (.aload_n 2, 1) := by decide +kernel
theorem dX8_writeRows_124 : decode cX8_writeRows 124 = .ok (.getfield 84, 3) := by decide +kernel
theorem dX8_writeRows_127 : decode cX8_writeRows 127 = .ok (.aload_n 2, 1) := by decide +kernel
theorem dX8_writeRows_128 : decode cX8_writeRows 128 = .ok (.invokevirtual 121, 3) := by decide +kernel
theorem dX8_writeRows_131 : decode cX8_writeRows 131 = .ok (.invokevirtual 124, 3) := by decide +kernel
theorem dX8_writeRows_134 : decode cX8_writeRows 134 = .ok (.iinc 1 1, 3) := by decide +kernel
theorem dX8_writeRows_137 : decode cX8_writeRows 137 = .ok (.goto (-56), 3) := by decide +kernel
theorem dX8_writeRows_140 : decode cX8_writeRows 140 = .ok (.return_, 1) := by decide +kernel
theorem dX8_writeCrack_0 : decode cX8_writeCrack 0 = .ok (.aload_n 0, 1) := by decide +kernel
theorem dX8_writeCrack_1 : decode cX8_writeCrack 1 = .ok (.getfield 103, 3) := by decide +kernel
theorem dX8_writeCrack_4 : decode cX8_writeCrack 4 = .ok (.iload_n 1, 1) := by decide +kernel
theorem dX8_writeCrack_5 : decode cX8_writeCrack 5 = .ok (.ishr, 1) := by decide +kernel
theorem dX8_writeCrack_6 : decode cX8_writeCrack 6 = .ok (.iconst 1, 1) := by decide +kernel
theorem dX8_writeCrack_7 : decode cX8_writeCrack 7 = .ok (.iand, 1) := by decide +kernel
theorem dX8_writeCrack_8 : decode cX8_writeCrack 8 = .ok (.iconst 1, 1) := by decide +kernel
theorem dX8_writeCrack_9 : decode cX8_writeCrack 9 = .ok (.if_icmp .ne 29, 3) := by decide +kernel
theorem dX8_writeCrack_12 : decode cX8_writeCrack 12 = .ok (.aload_n 0, 1) := by decide +kernel
theorem dX8_writeCrack_13 : decode cX8_writeCrack 13 = .ok (.getfield 11, 3) := by decide +kernel
theorem dX8_writeCrack_16 : decode cX8_writeCrack 16 = .ok (.iload_n 1, 1) := by decide +kernel
theorem dX8_writeCrack_17 : decode cX8_writeCrack 17 = .ok (.aaload, 1) := by decide +kernel
theorem dX8_writeCrack_18 : decode cX8_writeCrack 18 = .ok (.iload_n 1, 1) := by decide +kernel
theorem dX8_writeCrack_19 : decode cX8_writeCrack 19 = .ok (.dup2, 1) := by decide +kernel
theorem dX8_writeCrack_20 : decode cX8_writeCrack 20 = .ok (.laload, 1) := by decide +kernel
theorem dX8_writeCrack_21 : decode cX8_writeCrack 21 = .ok (.iload_n 3, 1) := by decide +kernel
theorem dX8_writeCrack_22 : decode cX8_writeCrack 22 = .ok (.i2l, 1) := by decide +kernel
theorem dX8_writeCrack_23 : decode cX8_writeCrack 23 = .ok (.ladd, 1) := by decide +kernel
theorem dX8_writeCrack_24 : decode cX8_writeCrack 24 = .ok (.lastore, 1) := by decide +kernel
theorem dX8_writeCrack_25 : decode cX8_writeCrack 25 = .ok (.aload_n 0, 1) := by decide +kernel
theorem dX8_writeCrack_26 : decode cX8_writeCrack 26 = .ok (.getfield 11, 3) := by decide +kernel
theorem dX8_writeCrack_29 : decode cX8_writeCrack 29 = .ok (.iload_n 1, 1) := by decide +kernel
theorem dX8_writeCrack_30 : decode cX8_writeCrack 30 = .ok (.aaload, 1) := by decide +kernel
theorem dX8_writeCrack_31 : decode cX8_writeCrack 31 = .ok (.iload_n 2, 1) := by decide +kernel
theorem dX8_writeCrack_32 : decode cX8_writeCrack 32 = .ok (.dup2, 1) := by decide +kernel
theorem dX8_writeCrack_33 : decode cX8_writeCrack 33 = .ok (.laload, 1) := by decide +kernel
theorem dX8_writeCrack_34 : decode cX8_writeCrack 34 = .ok (.iload_n 3, 1) := by decide +kernel
theorem dX8_writeCrack_35 : decode cX8_writeCrack 35 = .ok (.i2l, 1) := by decide +kernel
theorem dX8_writeCrack_36 : decode cX8_writeCrack 36 = .ok (.lsub, 1) := by decide +kernel
theorem dX8_writeCrack_37 : decode cX8_writeCrack 37 = .ok (.lastore, 1) := by decide +kernel
theorem dX8_writeCrack_38 : decode cX8_writeCrack 38 = .ok (.return_, 1) := by decide +kernel
set_option maxRecDepth 20000 in
theorem ggX8_solveRows_J6_bitCount_0f7a4 : GoodIn wsX8_solveRows wsJ6_bitCount_0f7a4 := goodIn_r _ [12, 13, 14, 15] (by decide +kernel) (by decide +kernel)
set_option maxRecDepth 20000 in
theorem gX8_solveRows_J6_bitCount_0f7a4 : GoodIn wsX8_solveRows (va_wsS RX8 49 yJ6_bitCount_0f7a4 wsJ6_bitCount_0f7a4) := goodIn_app (goodIn_of _ (by decide +kernel)) ggX8_solveRows_J6_bitCount_0f7a4
set_option maxRecDepth 20000 in
theorem ggX8_solveRows_X8_minorOf : GoodIn wsX8_solveRows wsX8_minorOf := goodIn_r _ [20, 1, 21, 22, 23, 24, 25, 26, 27, 28, 29] (by decide +kernel) (by decide +kernel)
set_option maxRecDepth 20000 in
theorem gX8_solveRows_X8_minorOf : GoodIn wsX8_solveRows (wsV RX8 128 RX8 yX8_minorOf wsX8_minorOf) := goodIn_app (goodIn_of _ (by decide +kernel)) ggX8_solveRows_X8_minorOf
theorem dX8_solveRows_0 : decode cX8_solveRows 0 = .ok (.bipush 127, 2) := by decide +kernel
theorem dX8_solveRows_2 : decode cX8_solveRows 2 = .ok (.istore_n 1, 1) := by decide +kernel
theorem dX8_solveRows_3 : decode cX8_solveRows 3 = .ok (.aload_n 0, 1) := by decide +kernel
theorem dX8_solveRows_4 : decode cX8_solveRows 4 = .ok (.getfield 16, 3) := by decide +kernel
theorem dX8_solveRows_7 : decode cX8_solveRows 7 = .ok (.iconst 0, 1) := by decide +kernel
theorem dX8_solveRows_8 : decode cX8_solveRows 8 = .ok (.lconst 1, 1) := by decide +kernel
theorem dX8_solveRows_9 : decode cX8_solveRows 9 = .ok (.lastore, 1) := by decide +kernel
theorem dX8_solveRows_10 : decode cX8_solveRows 10 = .ok (.iconst 1, 1) := by decide +kernel
theorem dX8_solveRows_11 : decode cX8_solveRows 11 = .ok (.istore_n 2, 1) := by decide +kernel
theorem dX8_solveRows_12 : decode cX8_solveRows 12 = .ok (.iload_n 2, 1) := by decide +kernel
theorem dX8_solveRows_13 : decode cX8_solveRows 13 = .ok (.iload_n 1, 1) := by decide +kernel
theorem dX8_solveRows_14 : decode cX8_solveRows 14 = .ok (.if_icmp .ge 31, 3) := by decide +kernel
theorem dX8_solveRows_17 : decode cX8_solveRows 17 = .ok (.aload_n 0, 1) := by decide +kernel
theorem dX8_solveRows_18 : decode cX8_solveRows 18 = .ok (.getfield 16, 3) := by decide +kernel
theorem dX8_solveRows_21 : decode cX8_solveRows 21 = .ok (.iload_n 2, 1) := by decide +kernel
theorem dX8_solveRows_22 : decode cX8_solveRows 22 = .ok (.aload_n 0, 1) := by decide +kernel
theorem dX8_solveRows_23 : decode cX8_solveRows 23 = .ok (.iload_n 2, 1) := by decide +kernel
theorem dX8_solveRows_24 : decode cX8_solveRows 24 = .ok (.aload_n 0, 1) := by decide +kernel
theorem dX8_solveRows_25 : decode cX8_solveRows 25 = .ok (.getfield 11, 3) := by decide +kernel
theorem dX8_solveRows_28 : decode cX8_solveRows 28 = .ok (.iload_n 2, 1) := by decide +kernel
theorem dX8_solveRows_29 : decode cX8_solveRows 29 = .ok (.invokestatic 49, 3) := by decide +kernel
theorem dX8_solveRows_32 : decode cX8_solveRows 32 = .ok (.iconst 1, 1) := by decide +kernel
theorem dX8_solveRows_33 : decode cX8_solveRows 33 = .ok (.isub, 1) := by decide +kernel
theorem dX8_solveRows_34 : decode cX8_solveRows 34 = .ok (.aaload, 1) := by decide +kernel
theorem dX8_solveRows_35 : decode cX8_solveRows 35 = .ok (.invokevirtual 128, 3) := by decide +kernel
theorem dX8_solveRows_38 : decode cX8_solveRows 38 = .ok (.lastore, 1) := by decide +kernel
theorem dX8_solveRows_39 : decode cX8_solveRows 39 = .ok (.iinc 2 1, 3) := by decide +kernel
theorem dX8_solveRows_42 : decode cX8_solveRows 42 = .ok (.goto (-30), 3) := by decide +kernel
theorem dX8_solveRows_45 : decode cX8_solveRows 45 = .ok (.aload_n 0, 1) := by decide +kernel
theorem dX8_solveRows_46 : decode cX8_solveRows 46 = .ok (.lconst 1, 1) := by decide +kernel
theorem dX8_solveRows_47 : decode cX8_solveRows 47 = .ok (.aload_n 0, 1) := by decide +kernel
theorem dX8_solveRows_48 : decode cX8_solveRows 48 = .ok (.getfield 16, 3) := by decide +kernel
theorem dX8_solveRows_51 : decode cX8_solveRows 51 = .ok (.bipush 63, 2) := by decide +kernel
theorem dX8_solveRows_53 : decode cX8_solveRows 53 = .ok (.laload, 1) := by decide +kernel
theorem dX8_solveRows_54 : decode cX8_solveRows 54 = .ok (.invokestatic 132, 3) := by decide +kernel
theorem dX8_solveRows_57 : decode cX8_solveRows 57 = .ok (.putfield 26, 3) := by decide +kernel
theorem dX8_solveRows_60 : decode cX8_solveRows 60 = .ok (.lconst 1, 1) := by decide +kernel
theorem dX8_solveRows_61 : decode cX8_solveRows 61 = .ok (.lstore_n 2, 1) := by decide +kernel
theorem dX8_solveRows_62 : decode cX8_solveRows 62 = .ok (.iconst 5, 1) := by decide +kernel
theorem dX8_solveRows_63 : decode cX8_solveRows 63 = .ok (.istore 4, 2) := by decide +kernel
theorem dX8_solveRows_65 : decode cX8_solveRows 65 = .ok (.iload 4, 2) := by decide +kernel
theorem dX8_solveRows_67 : decode cX8_solveRows 67 = .ok (.ifCond .lt 32, 3) := by decide +kernel
theorem dX8_solveRows_70 : decode cX8_solveRows 70 = .ok (.aload_n 0, 1) := by decide +kernel
theorem dX8_solveRows_71 : decode cX8_solveRows 71 = .ok (.getfield 20, 3) := by decide +kernel
theorem dX8_solveRows_74 : decode cX8_solveRows 74 = .ok (.iload 4, 2) := by decide +kernel
theorem dX8_solveRows_76 : decode cX8_solveRows 76 = .ok (.lload_n 2, 1) := by decide +kernel
theorem dX8_solveRows_77 : decode cX8_solveRows 77 = .ok (.aload_n 0, 1) := by decide +kernel
theorem dX8_solveRows_78 : decode cX8_solveRows 78 = .ok (.getfield 16, 3) := by decide +kernel
theorem dX8_solveRows_81 : decode cX8_solveRows 81 = .ok (.iload_n 1, 1) := by decide +kernel
theorem dX8_solveRows_82 : decode cX8_solveRows 82 = .ok (.iconst 1, 1) := by decide +kernel
theorem dX8_solveRows_83 : decode cX8_solveRows 83 = .ok (.iload 4, 2) := by decide +kernel
theorem dX8_solveRows_85 : decode cX8_solveRows 85 = .ok (.ishl, 1) := by decide +kernel
theorem dX8_solveRows_86 : decode cX8_solveRows 86 = .ok (.ixor, 1) := by decide +kernel
theorem dX8_solveRows_87 : decode cX8_solveRows 87 = .ok (.laload, 1) := by decide +kernel
theorem dX8_solveRows_88 : decode cX8_solveRows 88 = .ok (.lmul, 1) := by decide +kernel
theorem dX8_solveRows_89 : decode cX8_solveRows 89 = .ok (.lastore, 1) := by decide +kernel
theorem dX8_solveRows_90 : decode cX8_solveRows 90 = .ok (.lload_n 2, 1) := by decide +kernel
theorem dX8_solveRows_91 : decode cX8_solveRows 91 = .ok (.lneg, 1) := by decide +kernel
theorem dX8_solveRows_92 : decode cX8_solveRows 92 = .ok (.lstore_n 2, 1) := by decide +kernel
theorem dX8_solveRows_93 : decode cX8_solveRows 93 = .ok (.iinc 4 (-1), 3) := by decide +kernel
theorem dX8_solveRows_96 : decode cX8_solveRows 96 = .ok (.goto (-31), 3) := by decide +kernel
theorem dX8_solveRows_99 : decode cX8_solveRows 99 = .ok (.return_, 1) := by decide +kernel
theorem dX8_minorOf_0 : decode cX8_minorOf 0 = .ok (.lconst 0, 1) := by decide +kernel
theorem dX8_minorOf_1 : decode cX8_minorOf 1 = .ok (.lstore_n 3, 1) := by decide +kernel
theorem dX8_minorOf_2 : decode cX8_minorOf 2 = .ok (.lconst 1, 1) := by decide +kernel
theorem dX8_minorOf_3 : decode cX8_minorOf 3 = .ok (.lstore 5, 2) := by decide +kernel
theorem dX8_minorOf_5 : decode cX8_minorOf 5 = .ok (.bipush 6, 2) := by decide +kernel
theorem dX8_minorOf_7 : decode cX8_minorOf 7 = .ok (.istore 7, 2) := by decide +kernel
theorem dX8_minorOf_9 : decode cX8_minorOf 9 = .ok (.iload 7, 2) := by decide +kernel
theorem dX8_minorOf_11 : decode cX8_minorOf 11 = .ok (.ifCond .lt 46, 3) := by decide +kernel
theorem dX8_minorOf_14 : decode cX8_minorOf 14 = .ok (.iload_n 1, 1) := by decide +kernel
theorem dX8_minorOf_15 : decode cX8_minorOf 15 = .ok (.iload 7, 2) := by decide +kernel
theorem dX8_minorOf_17 : decode cX8_minorOf 17 = .ok (.ishr, 1) := by decide +kernel
theorem dX8_minorOf_18 : decode cX8_minorOf 18 = .ok (.iconst 1, 1) := by decide +kernel
theorem dX8_minorOf_19 : decode cX8_minorOf 19 = .ok (.iand, 1) := by decide +kernel
theorem dX8_minorOf_20 : decode cX8_minorOf 20 = .ok (.iconst 1, 1) := by decide +kernel
theorem dX8_minorOf_21 : decode cX8_minorOf 21 = .ok (.if_icmp .ne 30, 3) := by decide +kernel
theorem dX8_minorOf_24 : decode cX8_minorOf 24 = .ok (.lload_n 3, 1) := by decide +kernel
theorem dX8_minorOf_25 : decode cX8_minorOf 25 = .ok (.lload 5, 2) := by decide +kernel
theorem dX8_minorOf_27 : decode cX8_minorOf 27 = .ok (.aload_n 2, 1) := by decide +kernel
theorem dX8_minorOf_28 : decode cX8_minorOf 28 = .ok (.iload 7, 2) := by decide +kernel
theorem dX8_minorOf_30 : decode cX8_minorOf 30 = .ok (.laload, 1) := by decide +kernel
theorem dX8_minorOf_31 : decode cX8_minorOf 31 = .ok (.lmul, 1) := by decide +kernel
theorem dX8_minorOf_32 : decode cX8_minorOf 32 = .ok (.aload_n 0, 1) := by decide +kernel
theorem dX8_minorOf_33 : decode cX8_minorOf 33 = .ok (.getfield 16, 3) := by decide +kernel
theorem dX8_minorOf_36 : decode cX8_minorOf 36 = .ok (.iload_n 1, 1) := by decide +kernel
theorem dX8_minorOf_37 : decode cX8_minorOf 37 = .ok (.iconst 1, 1) := by decide +kernel
theorem dX8_minorOf_38 : decode cX8_minorOf 38 = .ok (.iload 7, 2) := by decide +kernel
theorem dX8_minorOf_40 : decode cX8_minorOf 40 = .ok (.ishl, 1) := by decide +kernel
theorem dX8_minorOf_41 : decode cX8_minorOf 41 = .ok (.ixor, 1) := by decide +kernel
theorem dX8_minorOf_42 : decode cX8_minorOf 42 = .ok (.laload, 1) := by decide +kernel
theorem dX8_minorOf_43 : decode cX8_minorOf 43 = .ok (.lmul, 1) := by decide +kernel
theorem dX8_minorOf_44 : decode cX8_minorOf 44 = .ok (.ladd, 1) := by decide +kernel
theorem dX8_minorOf_45 : decode cX8_minorOf 45 = .ok (.lstore_n 3, 1) := by decide +kernel
theorem dX8_minorOf_46 : decode cX8_minorOf 46 = .ok (.lload 5, 2) := by decide +kernel
theorem dX8_minorOf_48 : decode cX8_minorOf 48 = .ok (.lneg, 1) := by decide +kernel
theorem dX8_minorOf_49 : decode cX8_minorOf 49 = .ok (.lstore 5, 2) := by decide +kernel
theorem dX8_minorOf_51 : decode cX8_minorOf 51 = .ok (.iinc 7 (-1), 3) := by decide +kernel
theorem dX8_minorOf_54 : decode cX8_minorOf 54 = .ok (.goto (-45), 3) := by decide +kernel
theorem dX8_minorOf_57 : decode cX8_minorOf 57 = .ok (.lload_n 3, 1) := by decide +kernel
theorem dX8_minorOf_58 : decode cX8_minorOf 58 = .ok (.lreturn, 1) := by decide +kernel
set_option maxRecDepth 20000 in
theorem ggX8_reckonFlows_X2_lets : GoodIn wsX8_reckonFlows wsX2_lets := goodIn_r _ [13, 14, 42, 43, 44, 45, 46, 47, 48, 49, 50, 51, 52, 53, 54, 55, 56, 57, 58, 59, 60, 61, 62, 63, 64, 65, 66] (by decide +kernel) (by decide +kernel)
set_option maxRecDepth 20000 in
theorem gX8_reckonFlows_X2_lets_u121X0 : GoodIn wsX8_reckonFlows (va_wsU RX8 121 RX0 "WideningCracks$Crack" ⟨"WideningCracks$Crack", "lets", "()I"⟩ yX2_lets wsX2_lets) := goodIn_app (goodIn_of _ (by decide +kernel)) ggX8_reckonFlows_X2_lets
set_option maxRecDepth 20000 in
theorem gX8_reckonFlows_X2_lets : GoodIn wsX8_reckonFlows (wsV RX8 121 RX2 yX2_lets wsX2_lets) := goodIn_app (goodIn_of _ (by decide +kernel)) ggX8_reckonFlows_X2_lets
set_option maxRecDepth 20000 in
theorem ggX8_reckonFlows_X10_lets : GoodIn wsX8_reckonFlows wsX10_lets := goodIn_r _ [21, 22, 23, 42, 43, 44, 45, 46, 47, 48, 49, 50, 51, 52, 53, 54, 55, 56, 57, 58, 59, 60, 61, 62, 63, 64, 65, 66] (by decide +kernel) (by decide +kernel)
set_option maxRecDepth 20000 in
theorem gX8_reckonFlows_X10_lets_u121X3 : GoodIn wsX8_reckonFlows (va_wsO RX8 121 RX3 "WideningCracks$Crack" ⟨"WideningCracks$Crack", "lets", "()I"⟩ yX10_lets wsX10_lets) := goodIn_app (goodIn_of _ (by decide +kernel)) ggX8_reckonFlows_X10_lets
set_option maxRecDepth 20000 in
theorem gX8_reckonFlows_X10_lets_u121X7 : GoodIn wsX8_reckonFlows (va_wsO RX8 121 RX7 "WideningCracks$Crack" ⟨"WideningCracks$Crack", "lets", "()I"⟩ yX10_lets wsX10_lets) := goodIn_app (goodIn_of _ (by decide +kernel)) ggX8_reckonFlows_X10_lets
set_option maxRecDepth 20000 in
theorem gX8_reckonFlows_X10_lets_u121X10 : GoodIn wsX8_reckonFlows (va_wsO RX8 121 RX10 "WideningCracks$Crack" ⟨"WideningCracks$Crack", "lets", "()I"⟩ yX10_lets wsX10_lets) := goodIn_app (goodIn_of _ (by decide +kernel)) ggX8_reckonFlows_X10_lets
theorem dX8_reckonFlows_0 : decode cX8_reckonFlows 0 = .ok (.iconst 0, 1) := by decide +kernel
theorem dX8_reckonFlows_1 : decode cX8_reckonFlows 1 = .ok (.istore_n 1, 1) := by decide +kernel
theorem dX8_reckonFlows_2 : decode cX8_reckonFlows 2 = .ok (.iload_n 1, 1) := by decide +kernel
theorem dX8_reckonFlows_3 : decode cX8_reckonFlows 3 = .ok (.aload_n 0, 1) := by decide +kernel
theorem dX8_reckonFlows_4 : decode cX8_reckonFlows 4 = .ok (.getfield 34, 3) := by decide +kernel
theorem dX8_reckonFlows_7 : decode cX8_reckonFlows 7 = .ok (.getfield 77, 3) := by decide +kernel
theorem dX8_reckonFlows_10 : decode cX8_reckonFlows 10 = .ok (.if_icmp .ge 50, 3) := by decide +kernel
theorem dX8_reckonFlows_13 : decode cX8_reckonFlows 13 = .ok (.aload_n 0, 1) := by decide +kernel
theorem dX8_reckonFlows_14 : decode cX8_reckonFlows 14 = .ok (.getfield 34, 3) := by decide +kernel
theorem dX8_reckonFlows_17 : decode cX8_reckonFlows 17 = .ok (.getfield 80, 3) := by decide +kernel
theorem dX8_reckonFlows_20 : decode cX8_reckonFlows 20 = .ok (.iload_n 1, 1) := by decide +kernel
theorem dX8_reckonFlows_21 : decode cX8_reckonFlows 21 = .ok (.aaload, 1) := by decide +kernel
theorem dX8_reckonFlows_22 : decode cX8_reckonFlows 22 = .ok (.astore_n 2, 1) := by decide +kernel
theorem dX8_reckonFlows_23 : decode cX8_reckonFlows 23 = .ok (.aload_n 0, 1) := by decide +kernel
theorem dX8_reckonFlows_24 : decode cX8_reckonFlows 24 = .ok (.getfield 23, 3) := by decide +kernel
theorem dX8_reckonFlows_27 : decode cX8_reckonFlows 27 = .ok (.iload_n 1, 1) := by decide +kernel
theorem dX8_reckonFlows_28 : decode cX8_reckonFlows 28 = .ok (.aload_n 2, 1) := by decide +kernel
theorem dX8_reckonFlows_29 : decode cX8_reckonFlows 29 = .ok (.invokevirtual 121, 3) := by decide +kernel
theorem dX8_reckonFlows_32 : decode cX8_reckonFlows 32 = .ok (.i2l, 1) := by decide +kernel
theorem dX8_reckonFlows_33 : decode cX8_reckonFlows 33 = .ok (.aload_n 0, 1) := by decide +kernel
theorem dX8_reckonFlows_34 : decode cX8_reckonFlows 34 = .ok (.getfield 20, 3) := by decide +kernel
theorem dX8_reckonFlows_37 : decode cX8_reckonFlows 37 = .ok (.aload_n 2, 1) := by decide +kernel
theorem dX8_reckonFlows_38 : decode cX8_reckonFlows 38 = .ok (.getfield 84, 3) := by decide +kernel
theorem dX8_reckonFlows_41 : decode cX8_reckonFlows 41 = .ok (.laload, 1) := by decide +kernel
theorem dX8_reckonFlows_42 : decode cX8_reckonFlows 42 = .ok (.aload_n 0, 1) := by decide +kernel
theorem dX8_reckonFlows_43 : decode cX8_reckonFlows 43 = .ok (.getfield 20, 3) := by decide +kernel
theorem dX8_reckonFlows_46 : decode cX8_reckonFlows 46 = .ok (.aload_n 2, 1) := by decide +kernel
theorem dX8_reckonFlows_47 : decode cX8_reckonFlows 47 = .ok (.getfield 89, 3) := by decide +kernel
theorem dX8_reckonFlows_50 : decode cX8_reckonFlows 50 = .ok (.laload, 1) := by decide +kernel
theorem dX8_reckonFlows_51 : decode cX8_reckonFlows 51 = .ok (.lsub, 1) := by decide +kernel
theorem dX8_reckonFlows_52 : decode cX8_reckonFlows 52 = .ok (.lmul, 1) := by decide +kernel
theorem dX8_reckonFlows_53 : decode cX8_reckonFlows 53 = .ok (.lastore, 1) := by decide +kernel
theorem dX8_reckonFlows_54 : decode cX8_reckonFlows 54 = .ok (.iinc 1 1, 3) := by decide +kernel
theorem dX8_reckonFlows_57 : decode cX8_reckonFlows 57 = .ok (.goto (-55), 3) := by decide +kernel
theorem dX8_reckonFlows_60 : decode cX8_reckonFlows 60 = .ok (.return_, 1) := by decide +kernel
theorem dX9_init_0 : decode cX9_init 0 = .ok (.aload_n 0, 1) := by decide +kernel
theorem dX9_init_1 : decode cX9_init 1 = .ok (.invokespecial 3, 3) := by decide +kernel
theorem dX9_init_4 : decode cX9_init 4 = .ok (.aload_n 0, 1) := by decide +kernel
theorem dX9_init_5 : decode cX9_init 5 = .ok (.aload_n 1, 1) := by decide +kernel
theorem dX9_init_6 : decode cX9_init 6 = .ok (.putfield 9, 3) := by decide +kernel
theorem dX9_init_9 : decode cX9_init 9 = .ok (.return_, 1) := by decide +kernel
set_option maxRecDepth 20000 in
theorem ggX9_isOne_X9_findEnds : GoodIn wsX9_isOne wsX9_findEnds := goodIn_r _ [8, 1, 2, 3, 9, 10, 11, 12, 13, 14, 15, 16, 26, 27, 28, 29, 30, 31, 32, 33, 34, 35, 36, 37] (by decide +kernel) (by decide +kernel)
set_option maxRecDepth 20000 in
theorem gX9_isOne_X9_findEnds : GoodIn wsX9_isOne (wsV RX9 15 RX9 yX9_findEnds wsX9_findEnds) := goodIn_app (goodIn_of _ (by decide +kernel)) ggX9_isOne_X9_findEnds
set_option maxRecDepth 20000 in
theorem ggX9_isOne_X5_reachedFrom : GoodIn wsX9_isOne wsX5_reachedFrom := goodIn_r _ [20, 21, 22, 23, 24, 25, 31, 32, 33, 34, 35, 36, 37, 38, 39, 40, 41, 42, 43, 44, 45, 46, 47, 48, 49, 50, 51, 52, 53, 54, 55, 56, 57, 58, 59, 60, 61, 62] (by decide +kernel) (by decide +kernel)
set_option maxRecDepth 20000 in
theorem gX9_isOne_X5_reachedFrom : GoodIn wsX9_isOne (wsV RX9 22 RX5 yX5_reachedFrom wsX5_reachedFrom) := goodIn_app (goodIn_of _ (by decide +kernel)) ggX9_isOne_X5_reachedFrom
theorem dX9_isOne_0 : decode cX9_isOne 0 = .ok (.aload_n 0, 1) := by decide +kernel
theorem dX9_isOne_1 : decode cX9_isOne 1 = .ok (.invokevirtual 15, 3) := by decide +kernel
theorem dX9_isOne_4 : decode cX9_isOne 4 = .ok (.aload_n 0, 1) := by decide +kernel
theorem dX9_isOne_5 : decode cX9_isOne 5 = .ok (.getfield 9, 3) := by decide +kernel
theorem dX9_isOne_8 : decode cX9_isOne 8 = .ok (.aload_n 0, 1) := by decide +kernel
theorem dX9_isOne_9 : decode cX9_isOne 9 = .ok (.getfield 18, 3) := by decide +kernel
theorem dX9_isOne_12 : decode cX9_isOne 12 = .ok (.iload_n 1, 1) := by decide +kernel
theorem dX9_isOne_13 : decode cX9_isOne 13 = .ok (.invokevirtual 22, 3) := by decide +kernel
theorem dX9_isOne_16 : decode cX9_isOne 16 = .ok (.aload_n 0, 1) := by decide +kernel
theorem dX9_isOne_17 : decode cX9_isOne 17 = .ok (.getfield 28, 3) := by decide +kernel
theorem dX9_isOne_20 : decode cX9_isOne 20 = .ok (.iand, 1) := by decide +kernel
theorem dX9_isOne_21 : decode cX9_isOne 21 = .ok (.ifCond .eq 7, 3) := by decide +kernel
theorem dX9_isOne_24 : decode cX9_isOne 24 = .ok (.iconst 1, 1) := by decide +kernel
theorem dX9_isOne_25 : decode cX9_isOne 25 = .ok (.goto 4, 3) := by decide +kernel
theorem dX9_isOne_28 : decode cX9_isOne 28 = .ok (.iconst 0, 1) := by decide +kernel
theorem dX9_isOne_29 : decode cX9_isOne 29 = .ok (.ireturn, 1) := by decide +kernel
set_option maxRecDepth 20000 in
theorem ggX9_count_X9_countOver : GoodIn wsX9_count wsX9_countOver := goodIn_r _ [5, 6, 7, 8, 9, 10, 11, 12, 13, 4, 14, 15, 16, 17, 18, 19, 20, 21, 22, 23, 24, 25, 26, 27, 28, 29, 30, 31, 32, 33, 34, 35, 36, 37, 38, 39, 40, 41, 42, 43, 44, 45, 46, 47, 48, 49, 50, 51, 52, 53, 54, 55, 56, 57, 58, 59, 60, 61, 62, 63, 64, 65, 66, 67, 68, 69, 70, 71, 72, 73, 74, 75, 76, 77, 78, 79, 80, 81, 82, 83, 84, 85, 86, 87, 88, 89, 90] (by decide +kernel) (by decide +kernel)
set_option maxRecDepth 20000 in
theorem gX9_count_X9_countOver : GoodIn wsX9_count (wsV RX9 31 RX9 yX9_countOver wsX9_countOver) := goodIn_app (goodIn_of _ (by decide +kernel)) ggX9_count_X9_countOver
theorem dX9_count_0 : decode cX9_count 0 = .ok (.aload_n 0, 1) := by decide +kernel
theorem dX9_count_1 : decode cX9_count 1 = .ok (.bipush (-9), 2) := by decide +kernel
theorem dX9_count_3 : decode cX9_count 3 = .ok (.iload_n 1, 1) := by decide +kernel
theorem dX9_count_4 : decode cX9_count 4 = .ok (.invokevirtual 31, 3) := by decide +kernel
theorem dX9_count_7 : decode cX9_count 7 = .ok (.ireturn, 1) := by decide +kernel
set_option maxRecDepth 20000 in
theorem ggX9_countOver_X9_findEnds : GoodIn wsX9_countOver wsX9_findEnds := goodIn_r _ [10, 3, 5, 11, 12, 13, 14, 15, 16, 17, 18, 19, 50, 51, 52, 53, 54, 55, 56, 57, 58, 59, 60, 61] (by decide +kernel) (by decide +kernel)
set_option maxRecDepth 20000 in
theorem gX9_countOver_X9_findEnds : GoodIn wsX9_countOver (wsV RX9 15 RX9 yX9_findEnds wsX9_findEnds) := goodIn_app (goodIn_of _ (by decide +kernel)) ggX9_countOver_X9_findEnds
set_option maxRecDepth 20000 in
theorem ggX9_countOver_X9_countFrom : GoodIn wsX9_countOver wsX9_countFrom := goodIn_r _ [23, 11, 3, 24, 25, 26, 1, 2, 27, 28, 29, 30, 31, 32, 33, 34, 35, 36, 37, 38, 39, 40, 41, 42, 43, 44, 45, 46, 47, 48, 49, 20, 21, 22, 9, 50, 51, 52, 53, 54, 55, 56, 57, 58, 59, 60, 61, 62, 63, 64, 65, 66, 67, 68, 69, 70, 71, 72, 73, 74, 75, 76, 77, 78, 79, 80, 81, 82, 83, 84, 85, 86] (by decide +kernel) (by decide +kernel)
set_option maxRecDepth 20000 in
theorem gX9_countOver_X9_countFrom : GoodIn wsX9_countOver (wsV RX9 43 RX9 yX9_countFrom wsX9_countFrom) := goodIn_app (goodIn_of _ (by decide +kernel)) ggX9_countOver_X9_countFrom
theorem dX9_countOver_0 : decode cX9_countOver 0 = .ok (.aload_n 0, 1) := by decide +kernel
theorem dX9_countOver_1 : decode cX9_countOver 1 = .ok (.invokevirtual 15, 3) := by decide +kernel
theorem dX9_countOver_4 : decode cX9_countOver 4 = .ok (.aload_n 0, 1) := by decide +kernel
theorem dX9_countOver_5 : decode cX9_countOver 5 = .ok (.iload_n 2, 1) := by decide +kernel
theorem dX9_countOver_6 : decode cX9_countOver 6 = .ok (.putfield 34, 3) := by decide +kernel
theorem dX9_countOver_9 : decode cX9_countOver 9 = .ok (.aload_n 0, 1) := by decide +kernel
theorem dX9_countOver_10 : decode cX9_countOver 10 = .ok (.iload_n 1, 1) := by decide +kernel
theorem dX9_countOver_11 : decode cX9_countOver 11 = .ok (.putfield 37, 3) := by decide +kernel
theorem dX9_countOver_14 : decode cX9_countOver 14 = .ok (.iconst 0, 1) := by decide +kernel
theorem dX9_countOver_15 : decode cX9_countOver 15 = .ok (.istore_n 3, 1) := by decide +kernel
theorem dX9_countOver_16 : decode cX9_countOver 16 = .ok (.iconst 0, 1) := by decide +kernel
theorem dX9_countOver_17 : decode cX9_countOver 17 = .ok (.istore 4, 2) := by decide +kernel
theorem dX9_countOver_19 : decode cX9_countOver 19 = .ok (.iload 4, 2) := by decide +kernel
theorem dX9_countOver_21 : decode cX9_countOver 21 = .ok (.aload_n 0, 1) := by decide +kernel
theorem dX9_countOver_22 : decode cX9_countOver 22 = .ok (.getfield 9, 3) := by decide +kernel
theorem dX9_countOver_25 : decode cX9_countOver 25 = .ok (.getfield 40, 3) := by decide +kernel
theorem dX9_countOver_28 : decode cX9_countOver 28 = .ok (.if_icmp .ge 47, 3) := by decide +kernel
theorem dX9_countOver_31 : decode cX9_countOver 31 = .ok (.aload_n 0, 1) := by decide +kernel
theorem dX9_countOver_32 : decode cX9_countOver 32 = .ok (.getfield 18, 3) := by decide +kernel
theorem dX9_countOver_35 : decode cX9_countOver 35 = .ok (.iload 4, 2) := by decide +kernel
theorem dX9_countOver_37 : decode cX9_countOver 37 = .ok (.ishr, 1) := by decide +kernel
theorem dX9_countOver_38 : decode cX9_countOver 38 = .ok (.iconst 1, 1) := by decide +kernel
theorem dX9_countOver_39 : decode cX9_countOver 39 = .ok (.iand, 1) := by decide +kernel
theorem dX9_countOver_40 : decode cX9_countOver 40 = .ok (.iconst 1, 1) := by decide +kernel
theorem dX9_countOver_41 : decode cX9_countOver 41 = .ok (.if_icmp .ne 28, 3) := by decide +kernel
theorem dX9_countOver_44 : decode cX9_countOver 44 = .ok (.iload_n 3, 1) := by decide +kernel
theorem dX9_countOver_45 : decode cX9_countOver 45 = .ok (.aload_n 0, 1) := by decide +kernel
theorem dX9_countOver_46 : decode cX9_countOver 46 = .ok (.iload 4, 2) := by decide +kernel
theorem dX9_countOver_48 : decode cX9_countOver 48 = .ok (.iconst 1, 1) := by decide +kernel
theorem dX9_countOver_49 : decode cX9_countOver 49 = .ok (.iload 4, 2) := by decide +kernel
theorem dX9_countOver_51 : decode cX9_countOver 51 = .ok (.ishl, 1) := by decide +kernel
theorem dX9_countOver_52 : decode cX9_countOver 52 = .ok (.iload_n 1, 1) := by decide +kernel
theorem dX9_countOver_53 : decode cX9_countOver 53 = .ok (.bipush (-9), 2) := by decide +kernel
theorem dX9_countOver_55 : decode cX9_countOver 55 = .ok (.if_icmp .ne 7, 3) := by decide +kernel
theorem dX9_countOver_58 : decode cX9_countOver 58 = .ok (.iconst 1, 1) := by decide +kernel
theorem dX9_countOver_59 : decode cX9_countOver 59 = .ok (.goto 4, 3) := by decide +kernel
theorem dX9_countOver_62 : decode cX9_countOver 62 = .ok (.iconst 0, 1) := by decide +kernel
theorem dX9_countOver_63 : decode cX9_countOver 63 = .ok (.iconst 1, 1) := by decide +kernel
theorem dX9_countOver_64 : decode cX9_countOver 64 = .ok (.invokevirtual 43, 3) := by decide +kernel
theorem dX9_countOver_67 : decode cX9_countOver 67 = .ok (.iadd, 1) := by decide +kernel
theorem dX9_countOver_68 : decode cX9_countOver 68 = .ok (.istore_n 3, 1) := by decide +kernel
theorem dX9_countOver_69 : decode cX9_countOver 69 = .ok (.iinc 4 1, 3) := by decide +kernel
theorem dX9_countOver_72 : decode cX9_countOver 72 = .ok (.goto (-53), 3) := by decide +kernel
theorem dX9_countOver_75 : decode cX9_countOver 75 = .ok (.iload_n 3, 1) := by decide +kernel
theorem dX9_countOver_76 : decode cX9_countOver 76 = .ok (.ireturn, 1) := by decide +kernel
set_option maxRecDepth 20000 in
theorem ggX9_findEnds_X5_heldMost : GoodIn wsX9_findEnds wsX5_heldMost := goodIn_r _ [8, 9, 10, 11, 17, 18, 19, 20, 21, 22, 23] (by decide +kernel) (by decide +kernel)
set_option maxRecDepth 20000 in
theorem gX9_findEnds_X5_heldMost : GoodIn wsX9_findEnds (wsV RX9 47 RX5 yX5_heldMost wsX5_heldMost) := goodIn_app (goodIn_of _ (by decide +kernel)) ggX9_findEnds_X5_heldMost
theorem dX9_findEnds_0 : decode cX9_findEnds 0 = .ok (.aload_n 0, 1) := by decide +kernel
theorem dX9_findEnds_1 : decode cX9_findEnds 1 = .ok (.aload_n 0, 1) := by decide +kernel
theorem dX9_findEnds_2 : decode cX9_findEnds 2 = .ok (.getfield 9, 3) := by decide +kernel
theorem dX9_findEnds_5 : decode cX9_findEnds 5 = .ok (.iconst 1, 1) := by decide +kernel
theorem dX9_findEnds_6 : decode cX9_findEnds 6 = .ok (.invokevirtual 47, 3) := by decide +kernel
theorem dX9_findEnds_9 : decode cX9_findEnds 9 = .ok (.putfield 18, 3) := by decide +kernel
theorem dX9_findEnds_12 : decode cX9_findEnds 12 = .ok (.aload_n 0, 1) := by decide +kernel
theorem dX9_findEnds_13 : decode cX9_findEnds 13 = .ok (.aload_n 0, 1) := by decide +kernel
theorem dX9_findEnds_14 : decode cX9_findEnds 14 = .ok (.getfield 9, 3) := by decide +kernel
theorem dX9_findEnds_17 : decode cX9_findEnds 17 = .ok (.iconst (-1), 1) := by decide +kernel
theorem dX9_findEnds_18 : decode cX9_findEnds 18 = .ok (.invokevirtual 47, 3) := by decide +kernel
theorem dX9_findEnds_21 : decode cX9_findEnds 21 = .ok (.putfield 28, 3) := by decide +kernel
theorem dX9_findEnds_24 : decode cX9_findEnds 24 = .ok (.aload_n 0, 1) := by decide +kernel
theorem dX9_findEnds_25 : decode cX9_findEnds 25 = .ok (.getfield 18, 3) := by decide +kernel
theorem dX9_findEnds_28 : decode cX9_findEnds 28 = .ok (.aload_n 0, 1) := by decide +kernel
theorem dX9_findEnds_29 : decode cX9_findEnds 29 = .ok (.getfield 28, 3) := by decide +kernel
theorem dX9_findEnds_32 : decode cX9_findEnds 32 = .ok (.iand, 1) := by decide +kernel
theorem dX9_findEnds_33 : decode cX9_findEnds 33 = .ok (.ifCond .eq 13, 3) := by decide +kernel
theorem dX9_findEnds_36 : decode cX9_findEnds 36 = .ok (.aload_n 0, 1) := by decide +kernel
theorem dX9_findEnds_37 : decode cX9_findEnds 37 = .ok (.iconst 0, 1) := by decide +kernel
theorem dX9_findEnds_38 : decode cX9_findEnds 38 = .ok (.putfield 18, 3) := by decide +kernel
theorem dX9_findEnds_41 : decode cX9_findEnds 41 = .ok (.aload_n 0, 1) := by decide +kernel
theorem dX9_findEnds_42 : decode cX9_findEnds 42 = .ok (.iconst 0, 1) := by decide +kernel
theorem dX9_findEnds_43 : decode cX9_findEnds 43 = .ok (.putfield 28, 3) := by decide +kernel
theorem dX9_findEnds_46 : decode cX9_findEnds 46 = .ok (.return_, 1) := by decide +kernel
set_option maxRecDepth 20000 in
theorem ggX9_countFrom_X2_otherEnd : GoodIn wsX9_countFrom wsX2_otherEnd := goodIn_r _ [13, 14, 15, 47, 48, 49, 50, 51, 52, 53, 54, 55, 56, 57, 58, 59, 60, 61, 62, 63, 64, 65, 66, 67, 68, 69, 70, 71] (by decide +kernel) (by decide +kernel)
set_option maxRecDepth 20000 in
theorem gX9_countFrom_X2_otherEnd_u58X0 : GoodIn wsX9_countFrom (va_wsU RX9 58 RX0 "WideningCracks$Crack" ⟨"WideningCracks$Crack", "otherEnd", "(I)I"⟩ yX2_otherEnd wsX2_otherEnd) := goodIn_app (goodIn_of _ (by decide +kernel)) ggX9_countFrom_X2_otherEnd
set_option maxRecDepth 20000 in
theorem gX9_countFrom_X2_otherEnd : GoodIn wsX9_countFrom (wsV RX9 58 RX2 yX2_otherEnd wsX2_otherEnd) := goodIn_app (goodIn_of _ (by decide +kernel)) ggX9_countFrom_X2_otherEnd
set_option maxRecDepth 20000 in
theorem gX9_countFrom_X2_otherEnd_u58X3 : GoodIn wsX9_countFrom (va_wsU RX9 58 RX3 "WideningCracks$Crack" ⟨"WideningCracks$Crack", "otherEnd", "(I)I"⟩ yX2_otherEnd wsX2_otherEnd) := goodIn_app (goodIn_of _ (by decide +kernel)) ggX9_countFrom_X2_otherEnd
set_option maxRecDepth 20000 in
theorem gX9_countFrom_X2_otherEnd_u58X7 : GoodIn wsX9_countFrom (va_wsU RX9 58 RX7 "WideningCracks$Crack" ⟨"WideningCracks$Crack", "otherEnd", "(I)I"⟩ yX2_otherEnd wsX2_otherEnd) := goodIn_app (goodIn_of _ (by decide +kernel)) ggX9_countFrom_X2_otherEnd
set_option maxRecDepth 20000 in
theorem gX9_countFrom_X2_otherEnd_u58X10 : GoodIn wsX9_countFrom (va_wsU RX9 58 RX10 "WideningCracks$Crack" ⟨"WideningCracks$Crack", "otherEnd", "(I)I"⟩ yX2_otherEnd wsX2_otherEnd) := goodIn_app (goodIn_of _ (by decide +kernel)) ggX9_countFrom_X2_otherEnd
set_option maxRecDepth 20000 in
theorem ggX9_countFrom_X2_isAt : GoodIn wsX9_countFrom wsX2_isAt := goodIn_r _ [25, 14, 15, 47, 48, 49, 50, 51, 52, 53, 54, 55, 56, 57, 58, 59, 60, 61, 62, 63, 64, 65, 66, 67, 68, 69, 70, 71] (by decide +kernel) (by decide +kernel)
set_option maxRecDepth 20000 in
theorem gX9_countFrom_X2_isAt_u63X0 : GoodIn wsX9_countFrom (va_wsU RX9 63 RX0 "WideningCracks$Crack" ⟨"WideningCracks$Crack", "isAt", "(I)Z"⟩ yX2_isAt wsX2_isAt) := goodIn_app (goodIn_of _ (by decide +kernel)) ggX9_countFrom_X2_isAt
set_option maxRecDepth 20000 in
theorem gX9_countFrom_X2_isAt : GoodIn wsX9_countFrom (wsV RX9 63 RX2 yX2_isAt wsX2_isAt) := goodIn_app (goodIn_of _ (by decide +kernel)) ggX9_countFrom_X2_isAt
set_option maxRecDepth 20000 in
theorem gX9_countFrom_X2_isAt_u63X3 : GoodIn wsX9_countFrom (va_wsU RX9 63 RX3 "WideningCracks$Crack" ⟨"WideningCracks$Crack", "isAt", "(I)Z"⟩ yX2_isAt wsX2_isAt) := goodIn_app (goodIn_of _ (by decide +kernel)) ggX9_countFrom_X2_isAt
set_option maxRecDepth 20000 in
theorem gX9_countFrom_X2_isAt_u63X7 : GoodIn wsX9_countFrom (va_wsU RX9 63 RX7 "WideningCracks$Crack" ⟨"WideningCracks$Crack", "isAt", "(I)Z"⟩ yX2_isAt wsX2_isAt) := goodIn_app (goodIn_of _ (by decide +kernel)) ggX9_countFrom_X2_isAt
set_option maxRecDepth 20000 in
theorem gX9_countFrom_X2_isAt_u63X10 : GoodIn wsX9_countFrom (va_wsU RX9 63 RX10 "WideningCracks$Crack" ⟨"WideningCracks$Crack", "isAt", "(I)Z"⟩ yX2_isAt wsX2_isAt) := goodIn_app (goodIn_of _ (by decide +kernel)) ggX9_countFrom_X2_isAt
set_option maxRecDepth 20000 in
theorem ggX9_countFrom_X9_countFrom : GoodIn wsX9_countFrom wsX9_countFrom := goodIn_r _ [0, 1, 2, 3, 4, 5, 6, 7, 8, 9, 10, 11, 12, 13, 14, 15, 16, 17, 18, 19, 20, 21, 22, 23, 24, 25, 26, 27, 28, 29, 30, 31, 32, 33, 34, 35, 36, 37, 38, 39, 40, 41, 42, 43, 44, 45, 46, 47, 48, 49, 50, 51, 52, 53, 54, 55, 56, 57, 58, 59, 60, 61, 62, 63, 64, 65, 66, 67, 68, 69, 70, 71] (by decide +kernel) (by decide +kernel)
set_option maxRecDepth 20000 in
theorem gX9_countFrom_X9_countFrom : GoodIn wsX9_countFrom (wsV RX9 43 RX9 yX9_countFrom wsX9_countFrom) := goodIn_app (goodIn_of _ (by decide +kernel)) ggX9_countFrom_X9_countFrom
theorem dX9_countFrom_0 : decode cX9_countFrom 0 = .ok (.iload 4, 2) := by decide +kernel
theorem dX9_countFrom_2 : decode cX9_countFrom 2 = .ok (.bipush 6, 2) := by decide +kernel
theorem dX9_countFrom_4 : decode cX9_countFrom 4 = .ok (.if_icmp .le 5, 3) := by decide +kernel
theorem dX9_countFrom_7 : decode cX9_countFrom 7 = .ok (.iconst 0, 1) := by decide +kernel
theorem dX9_countFrom_8 : decode cX9_countFrom 8 = .ok (.ireturn, 1) := by decide +kernel
theorem dX9_countFrom_9 : decode cX9_countFrom 9 = .ok (.iload_n 3, 1) := by decide +kernel
theorem dX9_countFrom_10 : decode cX9_countFrom 10 = .ok (.ifCond .eq 19, 3) := by decide +kernel
theorem dX9_countFrom_13 : decode cX9_countFrom 13 = .ok (.aload_n 0, 1) := by decide +kernel
theorem dX9_countFrom_14 : decode cX9_countFrom 14 = .ok (.getfield 28, 3) := by decide +kernel
theorem dX9_countFrom_17 : decode cX9_countFrom 17 = .ok (.iload_n 1, 1) := by decide +kernel
theorem dX9_countFrom_18 : decode cX9_countFrom 18 = .ok (.ishr, 1) := by decide +kernel
theorem dX9_countFrom_19 : decode cX9_countFrom 19 = .ok (.iconst 1, 1) := by decide +kernel
theorem dX9_countFrom_20 : decode cX9_countFrom 20 = .ok (.iand, 1) := by decide +kernel
theorem dX9_countFrom_21 : decode cX9_countFrom 21 = .ok (.iconst 1, 1) := by decide +kernel
theorem dX9_countFrom_22 : decode cX9_countFrom 22 = .ok (.if_icmp .ne 7, 3) := by decide +kernel
theorem dX9_countFrom_25 : decode cX9_countFrom 25 = .ok (.iconst 1, 1) := by decide +kernel
theorem dX9_countFrom_26 : decode cX9_countFrom 26 = .ok (.goto 4, 3) := by decide +kernel
theorem dX9_countFrom_29 : decode cX9_countFrom 29 = .ok (.iconst 0, 1) := by decide +kernel
theorem dX9_countFrom_30 : decode cX9_countFrom 30 = .ok (.istore 5, 2) := by decide +kernel
theorem dX9_countFrom_32 : decode cX9_countFrom 32 = .ok (.iconst 0, 1) := by decide +kernel
theorem dX9_countFrom_33 : decode cX9_countFrom 33 = .ok (.istore 6, 2) := by decide +kernel
theorem dX9_countFrom_35 : decode cX9_countFrom 35 = .ok (.iload 6, 2) := by decide +kernel
theorem dX9_countFrom_37 : decode cX9_countFrom 37 = .ok (.aload_n 0, 1) := by decide +kernel
theorem dX9_countFrom_38 : decode cX9_countFrom 38 = .ok (.getfield 9, 3) := by decide +kernel
theorem dX9_countFrom_41 : decode cX9_countFrom 41 = .ok (.getfield 51, 3) := by decide +kernel
theorem dX9_countFrom_44 : decode cX9_countFrom 44 = .ok (.if_icmp .ge 98, 3) := by decide +kernel
theorem dX9_countFrom_47 : decode cX9_countFrom 47 = .ok (.aload_n 0, 1) := by decide +kernel
theorem dX9_countFrom_48 : decode cX9_countFrom 48 = .ok (.getfield 9, 3) := by decide +kernel
theorem dX9_countFrom_51 : decode cX9_countFrom 51 = .ok (.getfield 54, 3) := by decide +kernel
theorem dX9_countFrom_54 : decode cX9_countFrom 54 = .ok (.iload 6, 2) := by decide +kernel
theorem dX9_countFrom_56 : decode cX9_countFrom 56 = .ok (.aaload, 1) := by decide +kernel
theorem dX9_countFrom_57 : decode cX9_countFrom 57 = .ok (.astore 7, 2) := by decide +kernel
theorem dX9_countFrom_59 : decode cX9_countFrom 59 = .ok (.aload 7, 2) := by decide +kernel
theorem dX9_countFrom_61 : decode cX9_countFrom 61 = .ok (.iload_n 1, 1) := by decide +kernel
theorem dX9_countFrom_62 : decode cX9_countFrom 62 = .ok (.invokevirtual 58, 3) := by decide +kernel
theorem dX9_countFrom_65 : decode cX9_countFrom 65 = .ok (.istore 8, 2) := by decide +kernel
theorem dX9_countFrom_67 : decode cX9_countFrom 67 = .ok (.aload 7, 2) := by decide +kernel
theorem dX9_countFrom_69 : decode cX9_countFrom 69 = .ok (.iload_n 1, 1) := by decide +kernel
theorem dX9_countFrom_70 : decode cX9_countFrom 70 = .ok (.invokevirtual 63, 3) := by decide +kernel
theorem dX9_countFrom_73 : decode cX9_countFrom 73 = .ok (.ifCond .eq 63, 3) := by decide +kernel
theorem dX9_countFrom_76 : decode cX9_countFrom 76 = .ok (.aload 7, 2) := by decide +kernel
theorem dX9_countFrom_78 : decode cX9_countFrom 78 = .ok (.getfield 67, 3) := by decide +kernel
theorem dX9_countFrom_81 : decode cX9_countFrom 81 = .ok (.aload_n 0, 1) := by decide +kernel
theorem dX9_countFrom_82 : decode cX9_countFrom 82 = .ok (.getfield 34, 3) := by decide +kernel
theorem dX9_countFrom_85 : decode cX9_countFrom 85 = .ok (.if_icmp .lt 51, 3) := by decide +kernel
theorem dX9_countFrom_88 : decode cX9_countFrom 88 = .ok (.iload_n 2, 1) := by decide +kernel
theorem dX9_countFrom_89 : decode cX9_countFrom 89 = .ok (.iload 8, 2) := by decide +kernel
theorem dX9_countFrom_91 : decode cX9_countFrom 91 = .ok (.ishr, 1) := by decide +kernel
theorem dX9_countFrom_92 : decode cX9_countFrom 92 = .ok (.iconst 1, 1) := by decide +kernel
theorem dX9_countFrom_93 : decode cX9_countFrom 93 = .ok (.iand, 1) := by decide +kernel
theorem dX9_countFrom_94 : decode cX9_countFrom 94 = .ok (.ifCond .ne 42, 3) := by decide +kernel
theorem dX9_countFrom_97 : decode cX9_countFrom 97 = .ok (.iload 5, 2) := by decide +kernel
theorem dX9_countFrom_99 : decode cX9_countFrom 99 = .ok (.aload_n 0, 1) := by decide +kernel
theorem dX9_countFrom_100 : decode cX9_countFrom 100 = .ok (.iload 8, 2) := by decide +kernel
theorem dX9_countFrom_102 : decode cX9_countFrom 102 = .ok (.iload_n 2, 1) := by decide +kernel
theorem dX9_countFrom_103 : decode cX9_countFrom 103 = .ok (.iconst 1, 1) := by decide +kernel
theorem dX9_countFrom_104 : decode cX9_countFrom 104 = .ok (.iload 8, 2) := by decide +kernel
theorem dX9_countFrom_106 : decode cX9_countFrom 106 = .ok (.ishl, 1) := by decide +kernel
theorem dX9_countFrom_107 : decode cX9_countFrom 107 = .ok (.ior, 1) := by decide +kernel
theorem dX9_countFrom_108 : decode cX9_countFrom 108 = .ok (.iload_n 3, 1) := by decide +kernel
theorem dX9_countFrom_109 : decode cX9_countFrom 109 = .ok (.ifCond .ne 12, 3) := by decide +kernel
theorem dX9_countFrom_112 : decode cX9_countFrom 112 = .ok (.iload 6, 2) := by decide +kernel
theorem dX9_countFrom_114 : decode cX9_countFrom 114 = .ok (.aload_n 0, 1) := by decide +kernel
theorem dX9_countFrom_115 : decode cX9_countFrom 115 = .ok (.getfield 37, 3) := by decide +kernel
theorem dX9_countFrom_118 : decode cX9_countFrom 118 = .ok (.if_icmp .ne 7, 3) := by decide +kernel
theorem dX9_countFrom_121 : decode cX9_countFrom 121 = .ok (.iconst 1, 1) := by decide +kernel
theorem dX9_countFrom_122 : decode cX9_countFrom 122 = .ok (.goto 4, 3) := by decide +kernel
theorem dX9_countFrom_125 : decode cX9_countFrom 125 = .ok (.iconst 0, 1) := by decide +kernel
theorem dX9_countFrom_126 : decode cX9_countFrom 126 = .ok (.iload 4, 2) := by decide +kernel
theorem dX9_countFrom_128 : decode cX9_countFrom 128 = .ok (.iconst 1, 1) := by decide +kernel
theorem dX9_countFrom_129 : decode cX9_countFrom 129 = .ok (.iadd, 1) := by decide +kernel
theorem dX9_countFrom_130 : decode cX9_countFrom 130 = .ok (.invokevirtual 43, 3) := by decide +kernel
theorem dX9_countFrom_133 : decode cX9_countFrom 133 = .ok (.iadd, 1) := by decide +kernel
theorem dX9_countFrom_134 : decode cX9_countFrom 134 = .ok (.istore 5, 2) := by decide +kernel
theorem dX9_countFrom_136 : decode cX9_countFrom 136 = .ok (.iinc 6 1, 3) := by decide +kernel
theorem dX9_countFrom_139 : decode cX9_countFrom 139 = .ok (.goto (-104), 3) := by decide +kernel
theorem dX9_countFrom_142 : decode cX9_countFrom 142 = .ok (.iload 5, 2) := by decide +kernel
theorem dX9_countFrom_144 : decode cX9_countFrom 144 = .ok (.ireturn, 1) := by decide +kernel
set_option maxRecDepth 20000 in
theorem ggX10_init_X2_init : GoodIn wsX10_init wsX2_init := goodIn_r _ [4, 5, 6, 7, 8, 9, 10, 11, 12, 13, 14, 15, 16, 17, 18, 19, 20, 21, 22, 23, 24, 25, 26, 27, 28, 29, 30, 31, 32, 33, 34, 35, 36] (by decide +kernel) (by decide +kernel)
set_option maxRecDepth 20000 in
theorem gX10_init_X2_init : GoodIn wsX10_init (wsX2_init) := ggX10_init_X2_init
theorem dX10_init_0 : decode cX10_init 0 = .ok (.aload_n 0, 1) := by decide +kernel
theorem dX10_init_1 : decode cX10_init 1 = .ok (.iload_n 1, 1) := by decide +kernel
theorem dX10_init_2 : decode cX10_init 2 = .ok (.iload_n 2, 1) := by decide +kernel
theorem dX10_init_3 : decode cX10_init 3 = .ok (.iload_n 3, 1) := by decide +kernel
theorem dX10_init_4 : decode cX10_init 4 = .ok (.iload 4, 2) := by decide +kernel
theorem dX10_init_6 : decode cX10_init 6 = .ok (.invokespecial 3, 3) := by decide +kernel
theorem dX10_init_9 : decode cX10_init 9 = .ok (.return_, 1) := by decide +kernel
theorem dX10_kind_0 : decode cX10_kind 0 = .ok (.iconst 1, 1) := by decide +kernel
theorem dX10_kind_1 : decode cX10_kind 1 = .ok (.ireturn, 1) := by decide +kernel
theorem dX10_lets_0 : decode cX10_lets 0 = .ok (.aload_n 0, 1) := by decide +kernel
theorem dX10_lets_1 : decode cX10_lets 1 = .ok (.getfield 9, 3) := by decide +kernel
theorem dX10_lets_4 : decode cX10_lets 4 = .ok (.aload_n 0, 1) := by decide +kernel
theorem dX10_lets_5 : decode cX10_lets 5 = .ok (.getfield 9, 3) := by decide +kernel
theorem dX10_lets_8 : decode cX10_lets 8 = .ok (.imul, 1) := by decide +kernel
theorem dX10_lets_9 : decode cX10_lets 9 = .ok (.ireturn, 1) := by decide +kernel
set_option maxRecDepth 20000 in
theorem ggX10_telling_X6_leave : GoodIn wsX10_telling wsX6_leave := goodIn_r _ [5, 6, 17] (by decide +kernel) (by decide +kernel)
set_option maxRecDepth 20000 in
theorem gX10_telling_X6_leave : GoodIn wsX10_telling (wsV RX10 15 RX6 yX6_leave wsX6_leave) := goodIn_app (goodIn_of _ (by decide +kernel)) ggX10_telling_X6_leave
set_option maxRecDepth 20000 in
theorem ggX10_telling_X2_plainTelling : GoodIn wsX10_telling wsX2_plainTelling := goodIn_r _ [12, 13, 14, 2, 3, 4, 5, 6, 18, 19, 20, 21, 22, 23, 24, 25, 26, 27, 28, 29, 30, 31, 32, 33, 34, 35, 36, 37, 38, 39, 40, 41, 42, 17] (by decide +kernel) (by decide +kernel)
set_option maxRecDepth 20000 in
theorem gX10_telling_X2_plainTelling_u21X3 : GoodIn wsX10_telling (va_wsU RX10 21 RX3 "WideningCracks$Crack" ⟨"WideningCracks$Wide", "plainTelling", "(LWideningCracks$Trace;)I"⟩ yX2_plainTelling wsX2_plainTelling) := goodIn_app (goodIn_of _ (by decide +kernel)) ggX10_telling_X2_plainTelling
set_option maxRecDepth 20000 in
theorem gX10_telling_X2_plainTelling_u21X7 : GoodIn wsX10_telling (va_wsU RX10 21 RX7 "WideningCracks$Crack" ⟨"WideningCracks$Wide", "plainTelling", "(LWideningCracks$Trace;)I"⟩ yX2_plainTelling wsX2_plainTelling) := goodIn_app (goodIn_of _ (by decide +kernel)) ggX10_telling_X2_plainTelling
set_option maxRecDepth 20000 in
theorem gX10_telling_X2_plainTelling_u21X10 : GoodIn wsX10_telling (va_wsU RX10 21 RX10 "WideningCracks$Crack" ⟨"WideningCracks$Wide", "plainTelling", "(LWideningCracks$Trace;)I"⟩ yX2_plainTelling wsX2_plainTelling) := goodIn_app (goodIn_of _ (by decide +kernel)) ggX10_telling_X2_plainTelling
theorem dX10_telling_0 : decode cX10_telling 0 = .ok (.aload_n 1, 1) := by decide +kernel
theorem dX10_telling_1 : decode cX10_telling 1 = .ok (.iconst 2, 1) := by decide +kernel
theorem dX10_telling_2 : decode cX10_telling 2 = .ok (.invokevirtual 15, 3) := by decide +kernel
theorem dX10_telling_5 : decode cX10_telling 5 = .ok (.bipush 10, 2) := by decide +kernel
theorem dX10_telling_7 : decode cX10_telling 7 = .ok (.aload_n 0, 1) := by decide +kernel
theorem dX10_telling_8 : decode cX10_telling 8 = .ok (.aload_n 1, 1) := by decide +kernel
theorem dX10_telling_9 : decode cX10_telling 9 = .ok (.invokevirtual 21, 3) := by decide +kernel
theorem dX10_telling_12 : decode cX10_telling 12 = .ok (.imul, 1) := by decide +kernel
theorem dX10_telling_13 : decode cX10_telling 13 = .ok (.ireturn, 1) := by decide +kernel
