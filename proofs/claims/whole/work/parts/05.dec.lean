theorem dX11_init_0 : decode cX11_init 0 = .ok (.aload_n 0, 1) := by decide +kernel
theorem dX11_init_1 : decode cX11_init 1 = .ok (.invokespecial 3, 3) := by decide +kernel
theorem dX11_init_4 : decode cX11_init 4 = .ok (.aload_n 0, 1) := by decide +kernel
theorem dX11_init_5 : decode cX11_init 5 = .ok (.new 9, 3) := by decide +kernel
theorem dX11_init_8 : decode cX11_init 8 = .ok (.dup, 1) := by decide +kernel
theorem dX11_init_9 : decode cX11_init 9 = .ok (.invokespecial 11, 3) := by decide +kernel
theorem dX11_init_12 : decode cX11_init 12 = .ok (.putfield 12, 3) := by decide +kernel
theorem dX11_init_15 : decode cX11_init 15 = .ok (.aload_n 0, 1) := by decide +kernel
theorem dX11_init_16 : decode cX11_init 16 = .ok (.new 16, 3) := by decide +kernel
theorem dX11_init_19 : decode cX11_init 19 = .ok (.dup, 1) := by decide +kernel
theorem dX11_init_20 : decode cX11_init 20 = .ok (.invokespecial 18, 3) := by decide +kernel
theorem dX11_init_23 : decode cX11_init 23 = .ok (.putfield 19, 3) := by decide +kernel
theorem dX11_init_26 : decode cX11_init 26 = .ok (.aload_n 0, 1) := by decide +kernel
theorem dX11_init_27 : decode cX11_init 27 = .ok (.new 23, 3) := by decide +kernel
theorem dX11_init_30 : decode cX11_init 30 = .ok (.dup, 1) := by decide +kernel
theorem dX11_init_31 : decode cX11_init 31 = .ok (.invokespecial 25, 3) := by decide +kernel
theorem dX11_init_34 : decode cX11_init 34 = .ok (.putfield 26, 3) := by decide +kernel
theorem dX11_init_37 : decode cX11_init 37 = .ok (.aload_n 0, 1) := by decide +kernel
theorem dX11_init_38 : decode cX11_init 38 = .ok (.new 30, 3) := by decide +kernel
theorem dX11_init_41 : decode cX11_init 41 = .ok (.dup, 1) := by decide +kernel
theorem dX11_init_42 : decode cX11_init 42 = .ok (.aload_n 0, 1) := by decide +kernel
theorem dX11_init_43 : decode cX11_init 43 = .ok (.getfield 12, 3) := by decide +kernel
theorem dX11_init_46 : decode cX11_init 46 = .ok (.aload_n 0, 1) := by decide +kernel
theorem dX11_init_47 : decode cX11_init 47 = .ok (.getfield 26, 3) := by decide +kernel
theorem dX11_init_50 : decode cX11_init 50 = .ok (.invokespecial 32, 3) := by decide +kernel
theorem dX11_init_53 : decode cX11_init 53 = .ok (.putfield 35, 3) := by decide +kernel
theorem dX11_init_56 : decode cX11_init 56 = .ok (.aload_n 0, 1) := by decide +kernel
theorem dX11_init_57 : decode cX11_init 57 = .ok (.new 39, 3) := by decide +kernel
theorem dX11_init_60 : decode cX11_init 60 = .ok (.dup, 1) := by decide +kernel
theorem dX11_init_61 : decode cX11_init 61 = .ok (.invokespecial 41, 3) := by decide +kernel
theorem dX11_init_64 : decode cX11_init 64 = .ok (.putfield 42, 3) := by decide +kernel
theorem dX11_init_67 : decode cX11_init 67 = .ok (.aload_n 0, 1) := by decide +kernel
theorem dX11_init_68 : decode cX11_init 68 = .ok (.new 46, 3) := by decide +kernel
theorem dX11_init_71 : decode cX11_init 71 = .ok (.dup, 1) := by decide +kernel
theorem dX11_init_72 : decode cX11_init 72 = .ok (.invokespecial 48, 3) := by decide +kernel
theorem dX11_init_75 : decode cX11_init 75 = .ok (.putfield 49, 3) := by decide +kernel
theorem dX11_init_78 : decode cX11_init 78 = .ok (.aload_n 0, 1) := by decide +kernel
theorem dX11_init_79 : decode cX11_init 79 = .ok (.new 46, 3) := by decide +kernel
theorem dX11_init_82 : decode cX11_init 82 = .ok (.dup, 1) := by decide +kernel
theorem dX11_init_83 : decode cX11_init 83 = .ok (.invokespecial 48, 3) := by decide +kernel
theorem dX11_init_86 : decode cX11_init 86 = .ok (.putfield 53, 3) := by decide +kernel
theorem dX11_init_89 : decode cX11_init 89 = .ok (.aload_n 0, 1) := by decide +kernel
theorem dX11_init_90 : decode cX11_init 90 = .ok (.new 16, 3) := by decide +kernel
theorem dX11_init_93 : decode cX11_init 93 = .ok (.dup, 1) := by decide +kernel
theorem dX11_init_94 : decode cX11_init 94 = .ok (.invokespecial 18, 3) := by decide +kernel
theorem dX11_init_97 : decode cX11_init 97 = .ok (.putfield 56, 3) := by decide +kernel
theorem dX11_init_100 : decode cX11_init 100 = .ok (.aload_n 0, 1) := by decide +kernel
theorem dX11_init_101 : decode cX11_init 101 = .ok (.new 16, 3) := by decide +kernel
theorem dX11_init_104 : decode cX11_init 104 = .ok (.dup, 1) := by decide +kernel
theorem dX11_init_105 : decode cX11_init 105 = .ok (.invokespecial 18, 3) := by decide +kernel
theorem dX11_init_108 : decode cX11_init 108 = .ok (.putfield 59, 3) := by decide +kernel
theorem dX11_init_111 : decode cX11_init 111 = .ok (.return_, 1) := by decide +kernel
theorem dX11_addItem_0 : decode cX11_addItem 0 = .ok (.iload_n 1, 1) := by decide +kernel
theorem dX11_addItem_1 : decode cX11_addItem 1 = .ok (.invokestatic 62, 3) := by decide +kernel
theorem dX11_addItem_4 : decode cX11_addItem 4 = .ok (.ifCond .eq 11, 3) := by decide +kernel
theorem dX11_addItem_7 : decode cX11_addItem 7 = .ok (.iload_n 2, 1) := by decide +kernel
theorem dX11_addItem_8 : decode cX11_addItem 8 = .ok (.iload_n 3, 1) := by decide +kernel
theorem dX11_addItem_9 : decode cX11_addItem 9 = .ok (.invokestatic 66, 3) := by decide +kernel
theorem dX11_addItem_12 : decode cX11_addItem 12 = .ok (.ifCond .ne 13, 3) := by decide +kernel
theorem dX11_addItem_15 : decode cX11_addItem 15 = .ok (.new 70, 3) := by decide +kernel
theorem dX11_addItem_18 : decode cX11_addItem 18 = .ok (.dup, 1) := by decide +kernel
theorem dX11_addItem_19 : decode cX11_addItem 19 = .ok (.ldc 72, 2) := by decide +kernel
theorem dX11_addItem_21 : decode cX11_addItem 21 = .ok (.invokespecial 74, 3) := by decide +kernel
theorem dX11_addItem_24 : decode cX11_addItem 24 = .ok (.athrow, 1) := by decide +kernel
theorem dX11_addItem_25 : decode cX11_addItem 25 = .ok (.aload_n 0, 1) := by decide +kernel
theorem dX11_addItem_26 : decode cX11_addItem 26 = .ok (.getfield 12, 3) := by decide +kernel
theorem dX11_addItem_29 : decode cX11_addItem 29 = .ok (.invokevirtual 77, 3) := by decide +kernel
theorem dX11_addItem_32 : decode cX11_addItem 32 = .ok (.bipush 10, 2) := by decide +kernel
theorem dX11_addItem_34 : decode cX11_addItem 34 = .ok (.if_icmp .lt 13, 3) := by decide +kernel
theorem dX11_addItem_37 : decode cX11_addItem 37 = .ok (.new 81, 3) := by decide +kernel
theorem dX11_addItem_40 : decode cX11_addItem 40 = .ok (.dup, 1) := by decide +kernel
theorem dX11_addItem_41 : decode cX11_addItem 41 = .ok (.ldc 83, 2) := by decide +kernel
theorem dX11_addItem_43 : decode cX11_addItem 43 = .ok (.invokespecial 85, 3) := by decide +kernel
theorem dX11_addItem_46 : decode cX11_addItem 46 = .ok (.athrow, 1) := by decide +kernel
theorem dX11_addItem_47 : decode cX11_addItem 47 = .ok (.aload_n 0, 1) := by decide +kernel
theorem dX11_addItem_48 : decode cX11_addItem 48 = .ok (.getfield 12, 3) := by decide +kernel
theorem dX11_addItem_51 : decode cX11_addItem 51 = .ok (.iload_n 1, 1) := by decide +kernel
theorem dX11_addItem_52 : decode cX11_addItem 52 = .ok (.iload_n 2, 1) := by decide +kernel
theorem dX11_addItem_53 : decode cX11_addItem 53 = .ok (.iload_n 3, 1) := by decide +kernel
theorem dX11_addItem_54 : decode cX11_addItem 54 = .ok (.invokevirtual 86, 3) := by decide +kernel
theorem dX11_addItem_57 : decode cX11_addItem 57 = .ok (.ireturn, 1) := by decide +kernel
theorem dX11_openLoop_0 : decode cX11_openLoop 0 = .ok (.iload_n 1, 1) := by decide +kernel
theorem dX11_openLoop_1 : decode cX11_openLoop 1 = .ok (.iload_n 2, 1) := by decide +kernel
theorem dX11_openLoop_2 : decode cX11_openLoop 2 = .ok (.invokestatic 66, 3) := by decide +kernel
theorem dX11_openLoop_5 : decode cX11_openLoop 5 = .ok (.ifCond .ne 13, 3) := by decide +kernel
theorem dX11_openLoop_8 : decode cX11_openLoop 8 = .ok (.new 70, 3) := by decide +kernel
theorem dX11_openLoop_11 : decode cX11_openLoop 11 = .ok (.dup, 1) := by decide +kernel
theorem dX11_openLoop_12 : decode cX11_openLoop 12 = .ok (.ldc 90, 2) := by decide +kernel
theorem dX11_openLoop_14 : decode cX11_openLoop 14 = .ok (.invokespecial 74, 3) := by decide +kernel
theorem dX11_openLoop_17 : decode cX11_openLoop 17 = .ok (.athrow, 1) := by decide +kernel
theorem dX11_openLoop_18 : decode cX11_openLoop 18 = .ok (.aload_n 0, 1) := by decide +kernel
theorem dX11_openLoop_19 : decode cX11_openLoop 19 = .ok (.getfield 12, 3) := by decide +kernel
theorem dX11_openLoop_22 : decode cX11_openLoop 22 = .ok (.invokevirtual 92, 3) := by decide +kernel
theorem dX11_openLoop_25 : decode cX11_openLoop 25 = .ok (.ifCond .eq 13, 3) := by decide +kernel
theorem dX11_openLoop_28 : decode cX11_openLoop 28 = .ok (.new 81, 3) := by decide +kernel
theorem dX11_openLoop_31 : decode cX11_openLoop 31 = .ok (.dup, 1) := by decide +kernel
theorem dX11_openLoop_32 : decode cX11_openLoop 32 = .ok (.ldc 96, 2) := by decide +kernel
theorem dX11_openLoop_34 : decode cX11_openLoop 34 = .ok (.invokespecial 85, 3) := by decide +kernel
theorem dX11_openLoop_37 : decode cX11_openLoop 37 = .ok (.athrow, 1) := by decide +kernel
theorem dX11_openLoop_38 : decode cX11_openLoop 38 = .ok (.aload_n 0, 1) := by decide +kernel
theorem dX11_openLoop_39 : decode cX11_openLoop 39 = .ok (.getfield 12, 3) := by decide +kernel
theorem dX11_openLoop_42 : decode cX11_openLoop 42 = .ok (.iload_n 1, 1) := by decide +kernel
theorem dX11_openLoop_43 : decode cX11_openLoop 43 = .ok (.iload_n 2, 1) := by decide +kernel
theorem dX11_openLoop_44 : decode cX11_openLoop 44 = .ok (.invokevirtual 98, 3) := by decide +kernel
theorem dX11_openLoop_47 : decode cX11_openLoop 47 = .ok (.return_, 1) := by decide +kernel
theorem dX11_closeLoop_0 : decode cX11_closeLoop 0 = .ok (.aload_n 0, 1) := by decide +kernel
theorem dX11_closeLoop_1 : decode cX11_closeLoop 1 = .ok (.getfield 12, 3) := by decide +kernel
theorem dX11_closeLoop_4 : decode cX11_closeLoop 4 = .ok (.invokevirtual 92, 3) := by decide +kernel
theorem dX11_closeLoop_7 : decode cX11_closeLoop 7 = .ok (.ifCond .eq 13, 3) := by decide +kernel
theorem dX11_closeLoop_10 : decode cX11_closeLoop 10 = .ok (.aload_n 0, 1) := by decide +kernel
theorem dX11_closeLoop_11 : decode cX11_closeLoop 11 = .ok (.getfield 12, 3) := by decide +kernel
theorem dX11_closeLoop_14 : decode cX11_closeLoop 14 = .ok (.invokevirtual 102, 3) := by decide +kernel
theorem dX11_closeLoop_17 : decode cX11_closeLoop 17 = .ok (.ifCond .ne 13, 3) := by decide +kernel
theorem dX11_closeLoop_20 : decode cX11_closeLoop 20 = .ok (.new 81, 3) := by decide +kernel
theorem dX11_closeLoop_23 : decode cX11_closeLoop 23 = .ok (.dup, 1) := by decide +kernel
theorem dX11_closeLoop_24 : decode cX11_closeLoop 24 = .ok (.ldc 105, 2) := by decide +kernel
theorem dX11_closeLoop_26 : decode cX11_closeLoop 26 = .ok (.invokespecial 85, 3) := by decide +kernel
theorem dX11_closeLoop_29 : decode cX11_closeLoop 29 = .ok (.athrow, 1) := by decide +kernel
theorem dX11_closeLoop_30 : decode cX11_closeLoop 30 = .ok (.aload_n 0, 1) := by decide +kernel
theorem dX11_closeLoop_31 : decode cX11_closeLoop 31 = .ok (.getfield 12, 3) := by decide +kernel
theorem dX11_closeLoop_34 : decode cX11_closeLoop 34 = .ok (.invokevirtual 107, 3) := by decide +kernel
theorem dX11_closeLoop_37 : decode cX11_closeLoop 37 = .ok (.ireturn, 1) := by decide +kernel
theorem dX11_clear_0 : decode cX11_clear 0 = .ok (.aload_n 0, 1) := by decide +kernel
theorem dX11_clear_1 : decode cX11_clear 1 = .ok (.getfield 12, 3) := by decide +kernel
theorem dX11_clear_4 : decode cX11_clear 4 = .ok (.invokevirtual 110, 3) := by decide +kernel
theorem dX11_clear_7 : decode cX11_clear 7 = .ok (.aload_n 0, 1) := by decide +kernel
theorem dX11_clear_8 : decode cX11_clear 8 = .ok (.getfield 42, 3) := by decide +kernel
theorem dX11_clear_11 : decode cX11_clear 11 = .ok (.invokevirtual 113, 3) := by decide +kernel
theorem dX11_clear_14 : decode cX11_clear 14 = .ok (.aload_n 0, 1) := by decide +kernel
theorem dX11_clear_15 : decode cX11_clear 15 = .ok (.iconst 0, 1) := by decide +kernel
theorem dX11_clear_16 : decode cX11_clear 16 = .ok (.putfield 114, 3) := by decide +kernel
theorem dX11_clear_19 : decode cX11_clear 19 = .ok (.return_, 1) := by decide +kernel
theorem dX11_items_0 : decode cX11_items 0 = .ok (.aload_n 0, 1) := by decide +kernel
theorem dX11_items_1 : decode cX11_items 1 = .ok (.getfield 12, 3) := by decide +kernel
theorem dX11_items_4 : decode cX11_items 4 = .ok (.invokevirtual 77, 3) := by decide +kernel
theorem dX11_items_7 : decode cX11_items 7 = .ok (.ireturn, 1) := by decide +kernel
theorem dX11_feed_0 : decode cX11_feed 0 = .ok (.iload_n 1, 1) := by decide +kernel
theorem dX11_feed_1 : decode cX11_feed 1 = .ok (.invokestatic 118, 3) := by decide +kernel
theorem dX11_feed_4 : decode cX11_feed 4 = .ok (.ifCond .ne 13, 3) := by decide +kernel
theorem dX11_feed_7 : decode cX11_feed 7 = .ok (.new 70, 3) := by decide +kernel
theorem dX11_feed_10 : decode cX11_feed 10 = .ok (.dup, 1) := by decide +kernel
theorem dX11_feed_11 : decode cX11_feed 11 = .ok (.ldc 121, 2) := by decide +kernel
theorem dX11_feed_13 : decode cX11_feed 13 = .ok (.invokespecial 74, 3) := by decide +kernel
theorem dX11_feed_16 : decode cX11_feed 16 = .ok (.athrow, 1) := by decide +kernel
theorem dX11_feed_17 : decode cX11_feed 17 = .ok (.aload_n 0, 1) := by decide +kernel
theorem dX11_feed_18 : decode cX11_feed 18 = .ok (.getfield 19, 3) := by decide +kernel
theorem dX11_feed_21 : decode cX11_feed 21 = .ok (.invokevirtual 123, 3) := by decide +kernel
theorem dX11_feed_24 : decode cX11_feed 24 = .ok (.sipush 300, 3) := by decide +kernel
theorem dX11_feed_27 : decode cX11_feed 27 = .ok (.if_icmp .lt 13, 3) := by decide +kernel
theorem dX11_feed_30 : decode cX11_feed 30 = .ok (.new 81, 3) := by decide +kernel
theorem dX11_feed_33 : decode cX11_feed 33 = .ok (.dup, 1) := by decide +kernel
theorem dX11_feed_34 : decode cX11_feed 34 = .ok (.ldc 126, 2) := by decide +kernel
theorem dX11_feed_36 : decode cX11_feed 36 = .ok (.invokespecial 85, 3) := by decide +kernel
theorem dX11_feed_39 : decode cX11_feed 39 = .ok (.athrow, 1) := by decide +kernel
theorem dX11_feed_40 : decode cX11_feed 40 = .ok (.aload_n 0, 1) := by decide +kernel
theorem dX11_feed_41 : decode cX11_feed 41 = .ok (.getfield 19, 3) := by decide +kernel
theorem dX11_feed_44 : decode cX11_feed 44 = .ok (.iload_n 1, 1) := by decide +kernel
theorem dX11_feed_45 : decode cX11_feed 45 = .ok (.invokevirtual 128, 3) := by decide +kernel
theorem dX11_feed_48 : decode cX11_feed 48 = .ok (.aload_n 0, 1) := by decide +kernel
theorem dX11_feed_49 : decode cX11_feed 49 = .ok (.getfield 19, 3) := by decide +kernel
theorem dX11_feed_52 : decode cX11_feed 52 = .ok (.invokevirtual 123, 3) := by decide +kernel
theorem dX11_feed_55 : decode cX11_feed 55 = .ok (.ireturn, 1) := by decide +kernel
theorem dX11_discard_0 : decode cX11_discard 0 = .ok (.aload_n 0, 1) := by decide +kernel
theorem dX11_discard_1 : decode cX11_discard 1 = .ok (.getfield 19, 3) := by decide +kernel
theorem dX11_discard_4 : decode cX11_discard 4 = .ok (.invokevirtual 123, 3) := by decide +kernel
theorem dX11_discard_7 : decode cX11_discard 7 = .ok (.istore_n 1, 1) := by decide +kernel
theorem dX11_discard_8 : decode cX11_discard 8 = .ok (.aload_n 0, 1) := by decide +kernel
theorem dX11_discard_9 : decode cX11_discard 9 = .ok (.getfield 19, 3) := by decide +kernel
theorem dX11_discard_12 : decode cX11_discard 12 = .ok (.invokevirtual 132, 3) := by decide +kernel
theorem dX11_discard_15 : decode cX11_discard 15 = .ok (.iload_n 1, 1) := by decide +kernel
theorem dX11_discard_16 : decode cX11_discard 16 = .ok (.ireturn, 1) := by decide +kernel
theorem dX11_length_0 : decode cX11_length 0 = .ok (.aload_n 0, 1) := by decide +kernel
theorem dX11_length_1 : decode cX11_length 1 = .ok (.getfield 19, 3) := by decide +kernel
theorem dX11_length_4 : decode cX11_length 4 = .ok (.invokevirtual 123, 3) := by decide +kernel
theorem dX11_length_7 : decode cX11_length 7 = .ok (.ireturn, 1) := by decide +kernel
theorem dX11_read_0 : decode cX11_read 0 = .ok (.aload_n 0, 1) := by decide +kernel
theorem dX11_read_1 : decode cX11_read 1 = .ok (.getfield 12, 3) := by decide +kernel
theorem dX11_read_4 : decode cX11_read 4 = .ok (.invokevirtual 92, 3) := by decide +kernel
theorem dX11_read_7 : decode cX11_read 7 = .ok (.ifCond .eq 13, 3) := by decide +kernel
theorem dX11_read_10 : decode cX11_read 10 = .ok (.new 81, 3) := by decide +kernel
theorem dX11_read_13 : decode cX11_read 13 = .ok (.dup, 1) := by decide +kernel
theorem dX11_read_14 : decode cX11_read 14 = .ok (.ldc 96, 2) := by decide +kernel
theorem dX11_read_16 : decode cX11_read 16 = .ok (.invokespecial 85, 3) := by decide +kernel
theorem dX11_read_19 : decode cX11_read 19 = .ok (.athrow, 1) := by decide +kernel
theorem dX11_read_20 : decode cX11_read 20 = .ok (.aload_n 0, 1) := by decide +kernel
theorem dX11_read_21 : decode cX11_read 21 = .ok (.getfield 35, 3) := by decide +kernel
theorem dX11_read_24 : decode cX11_read 24 = .ok (.aload_n 0, 1) := by decide +kernel
theorem dX11_read_25 : decode cX11_read 25 = .ok (.getfield 19, 3) := by decide +kernel
theorem dX11_read_28 : decode cX11_read 28 = .ok (.aload_n 0, 1) := by decide +kernel
theorem dX11_read_29 : decode cX11_read 29 = .ok (.getfield 53, 3) := by decide +kernel
theorem dX11_read_32 : decode cX11_read 32 = .ok (.aload_n 0, 1) := by decide +kernel
theorem dX11_read_33 : decode cX11_read 33 = .ok (.getfield 133, 3) := by decide +kernel
theorem dX11_read_36 : decode cX11_read 36 = .ok (.aload_n 0, 1) := by decide +kernel
theorem dX11_read_37 : decode cX11_read 37 = .ok (.getfield 136, 3) := by decide +kernel
theorem dX11_read_40 : decode cX11_read 40 = .ok (.invokevirtual 140, 3) := by decide +kernel
theorem dX11_read_43 : decode cX11_read 43 = .ok (.ifCond .eq 7, 3) := by decide +kernel
theorem dX11_read_46 : decode cX11_read 46 = .ok (.aload_n 0, 1) := by decide +kernel
theorem dX11_read_47 : decode cX11_read 47 = .ok (.invokevirtual 144, 3) := by decide +kernel
theorem dX11_read_50 : decode cX11_read 50 = .ok (.aload_n 0, 1) := by decide +kernel
theorem dX11_read_51 : decode cX11_read 51 = .ok (.getfield 19, 3) := by decide +kernel
theorem dX11_read_54 : decode cX11_read 54 = .ok (.invokevirtual 132, 3) := by decide +kernel
theorem dX11_read_57 : decode cX11_read 57 = .ok (.aload_n 0, 1) := by decide +kernel
theorem dX11_read_58 : decode cX11_read 58 = .ok (.getfield 26, 3) := by decide +kernel
theorem dX11_read_61 : decode cX11_read 61 = .ok (.invokevirtual 147, 3) := by decide +kernel
theorem dX11_read_64 : decode cX11_read 64 = .ok (.ireturn, 1) := by decide +kernel
theorem dX11_faultKind_0 : decode cX11_faultKind 0 = .ok (.aload_n 0, 1) := by decide +kernel
theorem dX11_faultKind_1 : decode cX11_faultKind 1 = .ok (.iload_n 1, 1) := by decide +kernel
theorem dX11_faultKind_2 : decode cX11_faultKind 2 = .ok (.invokevirtual 148, 3) := by decide +kernel
theorem dX11_faultKind_5 : decode cX11_faultKind 5 = .ok (.aload_n 0, 1) := by decide +kernel
theorem dX11_faultKind_6 : decode cX11_faultKind 6 = .ok (.getfield 26, 3) := by decide +kernel
theorem dX11_faultKind_9 : decode cX11_faultKind 9 = .ok (.iload_n 1, 1) := by decide +kernel
theorem dX11_faultKind_10 : decode cX11_faultKind 10 = .ok (.invokevirtual 152, 3) := by decide +kernel
theorem dX11_faultKind_13 : decode cX11_faultKind 13 = .ok (.ireturn, 1) := by decide +kernel
theorem dX11_faultPlace_0 : decode cX11_faultPlace 0 = .ok (.aload_n 0, 1) := by decide +kernel
theorem dX11_faultPlace_1 : decode cX11_faultPlace 1 = .ok (.iload_n 1, 1) := by decide +kernel
theorem dX11_faultPlace_2 : decode cX11_faultPlace 2 = .ok (.invokevirtual 148, 3) := by decide +kernel
theorem dX11_faultPlace_5 : decode cX11_faultPlace 5 = .ok (.aload_n 0, 1) := by decide +kernel
theorem dX11_faultPlace_6 : decode cX11_faultPlace 6 = .ok (.getfield 26, 3) := by decide +kernel
theorem dX11_faultPlace_9 : decode cX11_faultPlace 9 = .ok (.iload_n 1, 1) := by decide +kernel
theorem dX11_faultPlace_10 : decode cX11_faultPlace 10 = .ok (.invokevirtual 156, 3) := by decide +kernel
theorem dX11_faultPlace_13 : decode cX11_faultPlace 13 = .ok (.ireturn, 1) := by decide +kernel
theorem dX11_control_0 : decode cX11_control 0 = .ok (.aload_n 0, 1) := by decide +kernel
theorem dX11_control_1 : decode cX11_control 1 = .ok (.getfield 133, 3) := by decide +kernel
theorem dX11_control_4 : decode cX11_control 4 = .ok (.ifCond .ne 13, 3) := by decide +kernel
theorem dX11_control_7 : decode cX11_control 7 = .ok (.new 159, 3) := by decide +kernel
theorem dX11_control_10 : decode cX11_control 10 = .ok (.dup, 1) := by decide +kernel
theorem dX11_control_11 : decode cX11_control 11 = .ok (.ldc 161, 2) := by decide +kernel
theorem dX11_control_13 : decode cX11_control 13 = .ok (.invokespecial 163, 3) := by decide +kernel
theorem dX11_control_16 : decode cX11_control 16 = .ok (.athrow, 1) := by decide +kernel
theorem dX11_control_17 : decode cX11_control 17 = .ok (.aload_n 0, 1) := by decide +kernel
theorem dX11_control_18 : decode cX11_control 18 = .ok (.getfield 136, 3) := by decide +kernel
theorem dX11_control_21 : decode cX11_control 21 = .ok (.ireturn, 1) := by decide +kernel
theorem dX11_segments_0 : decode cX11_segments 0 = .ok (.aload_n 0, 1) := by decide +kernel
theorem dX11_segments_1 : decode cX11_segments 1 = .ok (.invokevirtual 164, 3) := by decide +kernel
theorem dX11_segments_4 : decode cX11_segments 4 = .ok (.aload_n 0, 1) := by decide +kernel
theorem dX11_segments_5 : decode cX11_segments 5 = .ok (.getfield 49, 3) := by decide +kernel
theorem dX11_segments_8 : decode cX11_segments 8 = .ok (.invokevirtual 167, 3) := by decide +kernel
theorem dX11_segments_11 : decode cX11_segments 11 = .ok (.ireturn, 1) := by decide +kernel
theorem dX11_tag_0 : decode cX11_tag 0 = .ok (.aload_n 0, 1) := by decide +kernel
theorem dX11_tag_1 : decode cX11_tag 1 = .ok (.iload_n 1, 1) := by decide +kernel
theorem dX11_tag_2 : decode cX11_tag 2 = .ok (.invokevirtual 170, 3) := by decide +kernel
theorem dX11_tag_5 : decode cX11_tag 5 = .ok (.aload_n 0, 1) := by decide +kernel
theorem dX11_tag_6 : decode cX11_tag 6 = .ok (.getfield 49, 3) := by decide +kernel
theorem dX11_tag_9 : decode cX11_tag 9 = .ok (.iload_n 1, 1) := by decide +kernel
theorem dX11_tag_10 : decode cX11_tag 10 = .ok (.invokevirtual 173, 3) := by decide +kernel
theorem dX11_tag_13 : decode cX11_tag 13 = .ok (.invokevirtual 177, 3) := by decide +kernel
theorem dX11_tag_16 : decode cX11_tag 16 = .ok (.ireturn, 1) := by decide +kernel
theorem dX11_elements_0 : decode cX11_elements 0 = .ok (.aload_n 0, 1) := by decide +kernel
theorem dX11_elements_1 : decode cX11_elements 1 = .ok (.iload_n 1, 1) := by decide +kernel
theorem dX11_elements_2 : decode cX11_elements 2 = .ok (.invokevirtual 170, 3) := by decide +kernel
theorem dX11_elements_5 : decode cX11_elements 5 = .ok (.aload_n 0, 1) := by decide +kernel
theorem dX11_elements_6 : decode cX11_elements 6 = .ok (.getfield 49, 3) := by decide +kernel
theorem dX11_elements_9 : decode cX11_elements 9 = .ok (.iload_n 1, 1) := by decide +kernel
theorem dX11_elements_10 : decode cX11_elements 10 = .ok (.invokevirtual 173, 3) := by decide +kernel
theorem dX11_elements_13 : decode cX11_elements 13 = .ok (.invokevirtual 183, 3) := by decide +kernel
theorem dX11_elements_16 : decode cX11_elements 16 = .ok (.ireturn, 1) := by decide +kernel
theorem dX11_contentLength_0 : decode cX11_contentLength 0 = .ok (.aload_n 0, 1) := by decide +kernel
theorem dX11_contentLength_1 : decode cX11_contentLength 1 = .ok (.iload_n 1, 1) := by decide +kernel
theorem dX11_contentLength_2 : decode cX11_contentLength 2 = .ok (.iload_n 2, 1) := by decide +kernel
theorem dX11_contentLength_3 : decode cX11_contentLength 3 = .ok (.invokevirtual 186, 3) := by decide +kernel
theorem dX11_contentLength_6 : decode cX11_contentLength 6 = .ok (.aload_n 0, 1) := by decide +kernel
theorem dX11_contentLength_7 : decode cX11_contentLength 7 = .ok (.getfield 49, 3) := by decide +kernel
theorem dX11_contentLength_10 : decode cX11_contentLength 10 = .ok (.iload_n 1, 1) := by decide +kernel
theorem dX11_contentLength_11 : decode cX11_contentLength 11 = .ok (.invokevirtual 173, 3) := by decide +kernel
theorem dX11_contentLength_14 : decode cX11_contentLength 14 = .ok (.iload_n 2, 1) := by decide +kernel
theorem dX11_contentLength_15 : decode cX11_contentLength 15 = .ok (.invokevirtual 189, 3) := by decide +kernel
theorem dX11_contentLength_18 : decode cX11_contentLength 18 = .ok (.ireturn, 1) := by decide +kernel
theorem dX11_content_0 : decode cX11_content 0 = .ok (.aload_n 0, 1) := by decide +kernel
theorem dX11_content_1 : decode cX11_content 1 = .ok (.iload_n 1, 1) := by decide +kernel
theorem dX11_content_2 : decode cX11_content 2 = .ok (.iload_n 2, 1) := by decide +kernel
theorem dX11_content_3 : decode cX11_content 3 = .ok (.invokevirtual 186, 3) := by decide +kernel
theorem dX11_content_6 : decode cX11_content 6 = .ok (.iload_n 3, 1) := by decide +kernel
theorem dX11_content_7 : decode cX11_content 7 = .ok (.ifCond .lt 19, 3) := by decide +kernel
theorem dX11_content_10 : decode cX11_content 10 = .ok (.iload_n 3, 1) := by decide +kernel
theorem dX11_content_11 : decode cX11_content 11 = .ok (.aload_n 0, 1) := by decide +kernel
theorem dX11_content_12 : decode cX11_content 12 = .ok (.getfield 49, 3) := by decide +kernel
theorem dX11_content_15 : decode cX11_content 15 = .ok (.iload_n 1, 1) := by decide +kernel
theorem dX11_content_16 : decode cX11_content 16 = .ok (.invokevirtual 173, 3) := by decide +kernel
theorem dX11_content_19 : decode cX11_content 19 = .ok (.iload_n 2, 1) := by decide +kernel
theorem dX11_content_20 : decode cX11_content 20 = .ok (.invokevirtual 189, 3) := by decide +kernel
theorem dX11_content_23 : decode cX11_content 23 = .ok (.if_icmp .lt 13, 3) := by decide +kernel
theorem dX11_content_26 : decode cX11_content 26 = .ok (.new 192, 3) := by decide +kernel
theorem dX11_content_29 : decode cX11_content 29 = .ok (.dup, 1) := by decide +kernel
theorem dX11_content_30 : decode cX11_content 30 = .ok (.ldc 194, 2) := by decide +kernel
theorem dX11_content_32 : decode cX11_content 32 = .ok (.invokespecial 196, 3) := by decide +kernel
theorem dX11_content_35 : decode cX11_content 35 = .ok (.athrow, 1) := by decide +kernel
theorem dX11_content_36 : decode cX11_content 36 = .ok (.aload_n 0, 1) := by decide +kernel
theorem dX11_content_37 : decode cX11_content 37 = .ok (.getfield 49, 3) := by decide +kernel
theorem dX11_content_40 : decode cX11_content 40 = .ok (.iload_n 1, 1) := by decide +kernel
theorem dX11_content_41 : decode cX11_content 41 = .ok (.invokevirtual 173, 3) := by decide +kernel
theorem dX11_content_44 : decode cX11_content 44 = .ok (.iload_n 2, 1) := by decide +kernel
theorem dX11_content_45 : decode cX11_content 45 = .ok (.iload_n 3, 1) := by decide +kernel
theorem dX11_content_46 : decode cX11_content 46 = .ok (.invokevirtual 197, 3) := by decide +kernel
theorem dX11_content_49 : decode cX11_content 49 = .ok (.ireturn, 1) := by decide +kernel
theorem dX11_item_0 : decode cX11_item 0 = .ok (.aload_n 0, 1) := by decide +kernel
theorem dX11_item_1 : decode cX11_item 1 = .ok (.iload_n 1, 1) := by decide +kernel
theorem dX11_item_2 : decode cX11_item 2 = .ok (.invokevirtual 170, 3) := by decide +kernel
theorem dX11_item_5 : decode cX11_item 5 = .ok (.aload_n 0, 1) := by decide +kernel
theorem dX11_item_6 : decode cX11_item 6 = .ok (.getfield 49, 3) := by decide +kernel
theorem dX11_item_9 : decode cX11_item 9 = .ok (.iload_n 1, 1) := by decide +kernel
theorem dX11_item_10 : decode cX11_item 10 = .ok (.invokevirtual 173, 3) := by decide +kernel
theorem dX11_item_13 : decode cX11_item 13 = .ok (.invokevirtual 201, 3) := by decide +kernel
theorem dX11_item_16 : decode cX11_item 16 = .ok (.ireturn, 1) := by decide +kernel
theorem dX11_pass_0 : decode cX11_pass 0 = .ok (.aload_n 0, 1) := by decide +kernel
theorem dX11_pass_1 : decode cX11_pass 1 = .ok (.iload_n 1, 1) := by decide +kernel
theorem dX11_pass_2 : decode cX11_pass 2 = .ok (.invokevirtual 170, 3) := by decide +kernel
theorem dX11_pass_5 : decode cX11_pass 5 = .ok (.aload_n 0, 1) := by decide +kernel
theorem dX11_pass_6 : decode cX11_pass 6 = .ok (.getfield 49, 3) := by decide +kernel
theorem dX11_pass_9 : decode cX11_pass 9 = .ok (.iload_n 1, 1) := by decide +kernel
theorem dX11_pass_10 : decode cX11_pass 10 = .ok (.invokevirtual 173, 3) := by decide +kernel
theorem dX11_pass_13 : decode cX11_pass 13 = .ok (.invokevirtual 204, 3) := by decide +kernel
theorem dX11_pass_16 : decode cX11_pass 16 = .ok (.ireturn, 1) := by decide +kernel
theorem dX11_addRule_0 : decode cX11_addRule 0 = .ok (.iload_n 1, 1) := by decide +kernel
theorem dX11_addRule_1 : decode cX11_addRule 1 = .ok (.ifCond .lt 14, 3) := by decide +kernel
theorem dX11_addRule_4 : decode cX11_addRule 4 = .ok (.iload_n 1, 1) := by decide +kernel
theorem dX11_addRule_5 : decode cX11_addRule 5 = .ok (.aload_n 0, 1) := by decide +kernel
theorem dX11_addRule_6 : decode cX11_addRule 6 = .ok (.getfield 12, 3) := by decide +kernel
theorem dX11_addRule_9 : decode cX11_addRule 9 = .ok (.invokevirtual 77, 3) := by decide +kernel
theorem dX11_addRule_12 : decode cX11_addRule 12 = .ok (.if_icmp .lt 13, 3) := by decide +kernel
theorem dX11_addRule_15 : decode cX11_addRule 15 = .ok (.new 192, 3) := by decide +kernel
theorem dX11_addRule_18 : decode cX11_addRule 18 = .ok (.dup, 1) := by decide +kernel
theorem dX11_addRule_19 : decode cX11_addRule 19 = .ok (.ldc 207, 2) := by decide +kernel
theorem dX11_addRule_21 : decode cX11_addRule 21 = .ok (.invokespecial 196, 3) := by decide +kernel
theorem dX11_addRule_24 : decode cX11_addRule 24 = .ok (.athrow, 1) := by decide +kernel
theorem dX11_addRule_25 : decode cX11_addRule 25 = .ok (.iload_n 2, 1) := by decide +kernel
theorem dX11_addRule_26 : decode cX11_addRule 26 = .ok (.invokestatic 62, 3) := by decide +kernel
theorem dX11_addRule_29 : decode cX11_addRule 29 = .ok (.ifCond .ne 13, 3) := by decide +kernel
theorem dX11_addRule_32 : decode cX11_addRule 32 = .ok (.new 70, 3) := by decide +kernel
theorem dX11_addRule_35 : decode cX11_addRule 35 = .ok (.dup, 1) := by decide +kernel
theorem dX11_addRule_36 : decode cX11_addRule 36 = .ok (.ldc 209, 2) := by decide +kernel
theorem dX11_addRule_38 : decode cX11_addRule 38 = .ok (.invokespecial 74, 3) := by decide +kernel
theorem dX11_addRule_41 : decode cX11_addRule 41 = .ok (.athrow, 1) := by decide +kernel
theorem dX11_addRule_42 : decode cX11_addRule 42 = .ok (.aload_n 0, 1) := by decide +kernel
theorem dX11_addRule_43 : decode cX11_addRule 43 = .ok (.getfield 42, 3) := by decide +kernel
theorem dX11_addRule_46 : decode cX11_addRule 46 = .ok (.invokevirtual 211, 3) := by decide +kernel
theorem dX11_addRule_49 : decode cX11_addRule 49 = .ok (.bipush 10, 2) := by decide +kernel
theorem dX11_addRule_51 : decode cX11_addRule 51 = .ok (.if_icmp .lt 13, 3) := by decide +kernel
theorem dX11_addRule_54 : decode cX11_addRule 54 = .ok (.new 81, 3) := by decide +kernel
theorem dX11_addRule_57 : decode cX11_addRule 57 = .ok (.dup, 1) := by decide +kernel
theorem dX11_addRule_58 : decode cX11_addRule 58 = .ok (.ldc 212, 2) := by decide +kernel
theorem dX11_addRule_60 : decode cX11_addRule 60 = .ok (.invokespecial 85, 3) := by decide +kernel
theorem dX11_addRule_63 : decode cX11_addRule 63 = .ok (.athrow, 1) := by decide +kernel
theorem dX11_addRule_64 : decode cX11_addRule 64 = .ok (.aload_n 0, 1) := by decide +kernel
theorem dX11_addRule_65 : decode cX11_addRule 65 = .ok (.getfield 42, 3) := by decide +kernel
theorem dX11_addRule_68 : decode cX11_addRule 68 = .ok (.iload_n 1, 1) := by decide +kernel
theorem dX11_addRule_69 : decode cX11_addRule 69 = .ok (.iload_n 2, 1) := by decide +kernel
theorem dX11_addRule_70 : decode cX11_addRule 70 = .ok (.invokevirtual 214, 3) := by decide +kernel
theorem dX11_addRule_73 : decode cX11_addRule 73 = .ok (.ireturn, 1) := by decide +kernel
theorem dX11_addField_0 : decode cX11_addField 0 = .ok (.aload_n 0, 1) := by decide +kernel
theorem dX11_addField_1 : decode cX11_addField 1 = .ok (.iload_n 1, 1) := by decide +kernel
theorem dX11_addField_2 : decode cX11_addField 2 = .ok (.invokevirtual 218, 3) := by decide +kernel
theorem dX11_addField_5 : decode cX11_addField 5 = .ok (.iload_n 2, 1) := by decide +kernel
theorem dX11_addField_6 : decode cX11_addField 6 = .ok (.ifCond .lt 8, 3) := by decide +kernel
theorem dX11_addField_9 : decode cX11_addField 9 = .ok (.iload_n 2, 1) := by decide +kernel
theorem dX11_addField_10 : decode cX11_addField 10 = .ok (.iconst 5, 1) := by decide +kernel
theorem dX11_addField_11 : decode cX11_addField 11 = .ok (.if_icmp .lt 13, 3) := by decide +kernel
theorem dX11_addField_14 : decode cX11_addField 14 = .ok (.new 70, 3) := by decide +kernel
theorem dX11_addField_17 : decode cX11_addField 17 = .ok (.dup, 1) := by decide +kernel
theorem dX11_addField_18 : decode cX11_addField 18 = .ok (.ldc 221, 2) := by decide +kernel
theorem dX11_addField_20 : decode cX11_addField 20 = .ok (.invokespecial 74, 3) := by decide +kernel
theorem dX11_addField_23 : decode cX11_addField 23 = .ok (.athrow, 1) := by decide +kernel
theorem dX11_addField_24 : decode cX11_addField 24 = .ok (.aload_n 0, 1) := by decide +kernel
theorem dX11_addField_25 : decode cX11_addField 25 = .ok (.getfield 42, 3) := by decide +kernel
theorem dX11_addField_28 : decode cX11_addField 28 = .ok (.iload_n 1, 1) := by decide +kernel
theorem dX11_addField_29 : decode cX11_addField 29 = .ok (.invokevirtual 223, 3) := by decide +kernel
theorem dX11_addField_32 : decode cX11_addField 32 = .ok (.invokevirtual 227, 3) := by decide +kernel
theorem dX11_addField_35 : decode cX11_addField 35 = .ok (.iconst 5, 1) := by decide +kernel
theorem dX11_addField_36 : decode cX11_addField 36 = .ok (.if_icmp .lt 13, 3) := by decide +kernel
theorem dX11_addField_39 : decode cX11_addField 39 = .ok (.new 81, 3) := by decide +kernel
theorem dX11_addField_42 : decode cX11_addField 42 = .ok (.dup, 1) := by decide +kernel
theorem dX11_addField_43 : decode cX11_addField 43 = .ok (.ldc 232, 2) := by decide +kernel
theorem dX11_addField_45 : decode cX11_addField 45 = .ok (.invokespecial 85, 3) := by decide +kernel
theorem dX11_addField_48 : decode cX11_addField 48 = .ok (.athrow, 1) := by decide +kernel
theorem dX11_addField_49 : decode cX11_addField 49 = .ok (.aload_n 0, 1) := by decide +kernel
theorem dX11_addField_50 : decode cX11_addField 50 = .ok (.getfield 42, 3) := by decide +kernel
theorem dX11_addField_53 : decode cX11_addField 53 = .ok (.iload_n 1, 1) := by decide +kernel
theorem dX11_addField_54 : decode cX11_addField 54 = .ok (.invokevirtual 223, 3) := by decide +kernel
theorem dX11_addField_57 : decode cX11_addField 57 = .ok (.iload_n 2, 1) := by decide +kernel
theorem dX11_addField_58 : decode cX11_addField 58 = .ok (.invokevirtual 234, 3) := by decide +kernel
theorem dX11_addField_61 : decode cX11_addField 61 = .ok (.ireturn, 1) := by decide +kernel
theorem dX11_setCondition_0 : decode cX11_setCondition 0 = .ok (.aload_n 0, 1) := by decide +kernel
theorem dX11_setCondition_1 : decode cX11_setCondition 1 = .ok (.iload_n 1, 1) := by decide +kernel
theorem dX11_setCondition_2 : decode cX11_setCondition 2 = .ok (.invokevirtual 218, 3) := by decide +kernel
theorem dX11_setCondition_5 : decode cX11_setCondition 5 = .ok (.iload_n 2, 1) := by decide +kernel
theorem dX11_setCondition_6 : decode cX11_setCondition 6 = .ok (.ifCond .lt 15, 3) := by decide +kernel
theorem dX11_setCondition_9 : decode cX11_setCondition 9 = .ok (.iload_n 2, 1) := by decide +kernel
theorem dX11_setCondition_10 : decode cX11_setCondition 10 = .ok (.iconst 5, 1) := by decide +kernel
theorem dX11_setCondition_11 : decode cX11_setCondition 11 = .ok (.if_icmp .ge 10, 3) := by decide +kernel
theorem dX11_setCondition_14 : decode cX11_setCondition 14 = .ok (.iload_n 3, 1) := by decide +kernel
theorem dX11_setCondition_15 : decode cX11_setCondition 15 = .ok (.invokestatic 118, 3) := by decide +kernel
theorem dX11_setCondition_18 : decode cX11_setCondition 18 = .ok (.ifCond .ne 13, 3) := by decide +kernel
theorem dX11_setCondition_21 : decode cX11_setCondition 21 = .ok (.new 70, 3) := by decide +kernel
theorem dX11_setCondition_24 : decode cX11_setCondition 24 = .ok (.dup, 1) := by decide +kernel
theorem dX11_setCondition_25 : decode cX11_setCondition 25 = .ok (.ldc 237, 2) := by decide +kernel
theorem dX11_setCondition_27 : decode cX11_setCondition 27 = .ok (.invokespecial 74, 3) := by decide +kernel
theorem dX11_setCondition_30 : decode cX11_setCondition 30 = .ok (.athrow, 1) := by decide +kernel
theorem dX11_setCondition_31 : decode cX11_setCondition 31 = .ok (.aload_n 0, 1) := by decide +kernel
theorem dX11_setCondition_32 : decode cX11_setCondition 32 = .ok (.getfield 42, 3) := by decide +kernel
theorem dX11_setCondition_35 : decode cX11_setCondition 35 = .ok (.iload_n 1, 1) := by decide +kernel
theorem dX11_setCondition_36 : decode cX11_setCondition 36 = .ok (.invokevirtual 223, 3) := by decide +kernel
theorem dX11_setCondition_39 : decode cX11_setCondition 39 = .ok (.iload_n 2, 1) := by decide +kernel
theorem dX11_setCondition_40 : decode cX11_setCondition 40 = .ok (.iload_n 3, 1) := by decide +kernel
theorem dX11_setCondition_41 : decode cX11_setCondition 41 = .ok (.invokevirtual 239, 3) := by decide +kernel
theorem dX11_setCondition_44 : decode cX11_setCondition 44 = .ok (.return_, 1) := by decide +kernel
theorem dX11_write_0 : decode cX11_write 0 = .ok (.aload_n 0, 1) := by decide +kernel
theorem dX11_write_1 : decode cX11_write 1 = .ok (.invokevirtual 164, 3) := by decide +kernel
theorem dX11_write_4 : decode cX11_write 4 = .ok (.aload_n 0, 1) := by decide +kernel
theorem dX11_write_5 : decode cX11_write 5 = .ok (.getfield 243, 3) := by decide +kernel
theorem dX11_write_8 : decode cX11_write 8 = .ok (.sipush 9999, 3) := by decide +kernel
theorem dX11_write_11 : decode cX11_write 11 = .ok (.if_icmp .lt 13, 3) := by decide +kernel
theorem dX11_write_14 : decode cX11_write 14 = .ok (.new 81, 3) := by decide +kernel
theorem dX11_write_17 : decode cX11_write 17 = .ok (.dup, 1) := by decide +kernel
theorem dX11_write_18 : decode cX11_write 18 = .ok (.ldc 246, 2) := by decide +kernel
theorem dX11_write_20 : decode cX11_write 20 = .ok (.invokespecial 85, 3) := by decide +kernel
theorem dX11_write_23 : decode cX11_write 23 = .ok (.athrow, 1) := by decide +kernel
theorem dX11_write_24 : decode cX11_write 24 = .ok (.aload_n 0, 1) := by decide +kernel
theorem dX11_write_25 : decode cX11_write 25 = .ok (.getfield 42, 3) := by decide +kernel
theorem dX11_write_28 : decode cX11_write 28 = .ok (.aload_n 0, 1) := by decide +kernel
theorem dX11_write_29 : decode cX11_write 29 = .ok (.getfield 49, 3) := by decide +kernel
theorem dX11_write_32 : decode cX11_write 32 = .ok (.aload_n 0, 1) := by decide +kernel
theorem dX11_write_33 : decode cX11_write 33 = .ok (.getfield 243, 3) := by decide +kernel
theorem dX11_write_36 : decode cX11_write 36 = .ok (.iconst 1, 1) := by decide +kernel
theorem dX11_write_37 : decode cX11_write 37 = .ok (.iadd, 1) := by decide +kernel
theorem dX11_write_38 : decode cX11_write 38 = .ok (.aload_n 0, 1) := by decide +kernel
theorem dX11_write_39 : decode cX11_write 39 = .ok (.getfield 59, 3) := by decide +kernel
theorem dX11_write_42 : decode cX11_write 42 = .ok (.invokevirtual 248, 3) := by decide +kernel
theorem dX11_write_45 : decode cX11_write 45 = .ok (.ifCond .ne 13, 3) := by decide +kernel
theorem dX11_write_48 : decode cX11_write 48 = .ok (.new 81, 3) := by decide +kernel
theorem dX11_write_51 : decode cX11_write 51 = .ok (.dup, 1) := by decide +kernel
theorem dX11_write_52 : decode cX11_write 52 = .ok (.ldc 252, 2) := by decide +kernel
theorem dX11_write_54 : decode cX11_write 54 = .ok (.invokespecial 85, 3) := by decide +kernel
theorem dX11_write_57 : decode cX11_write 57 = .ok (.athrow, 1) := by decide +kernel
theorem dX11_write_58 : decode cX11_write 58 = .ok (.aload_n 0, 1) := by decide +kernel
theorem dX11_write_59 : decode cX11_write 59 = .ok (.dup, 1) := by decide +kernel
theorem dX11_write_60 : decode cX11_write 60 = .ok (.getfield 243, 3) := by decide +kernel
theorem dX11_write_63 : decode cX11_write 63 = .ok (.iconst 1, 1) := by decide +kernel
theorem dX11_write_64 : decode cX11_write 64 = .ok (.iadd, 1) := by decide +kernel
theorem dX11_write_65 : decode cX11_write 65 = .ok (.putfield 243, 3) := by decide +kernel
theorem dX11_write_68 : decode cX11_write 68 = .ok (.aload_n 0, 1) := by decide +kernel
theorem dX11_write_69 : decode cX11_write 69 = .ok (.getfield 56, 3) := by decide +kernel
theorem dX11_write_72 : decode cX11_write 72 = .ok (.astore_n 1, 1) := by decide +kernel
theorem dX11_write_73 : decode cX11_write 73 = .ok (.aload_n 0, 1) := by decide +kernel
theorem dX11_write_74 : decode cX11_write 74 = .ok (.aload_n 0, 1) := by decide +kernel
theorem dX11_write_75 : decode cX11_write 75 = .ok (.getfield 59, 3) := by decide +kernel
theorem dX11_write_78 : decode cX11_write 78 = .ok (.putfield 56, 3) := by decide +kernel
theorem dX11_write_81 : decode cX11_write 81 = .ok (.aload_n 0, 1) := by decide +kernel
theorem dX11_write_82 : decode cX11_write 82 = .ok (.aload_n 1, 1) := by decide +kernel
theorem dX11_write_83 : decode cX11_write 83 = .ok (.putfield 59, 3) := by decide +kernel
theorem dX11_write_86 : decode cX11_write 86 = .ok (.aload_n 0, 1) := by decide +kernel
theorem dX11_write_87 : decode cX11_write 87 = .ok (.getfield 56, 3) := by decide +kernel
theorem dX11_write_90 : decode cX11_write 90 = .ok (.invokevirtual 123, 3) := by decide +kernel
theorem dX11_write_93 : decode cX11_write 93 = .ok (.ireturn, 1) := by decide +kernel
theorem dX11_written_0 : decode cX11_written 0 = .ok (.aload_n 0, 1) := by decide +kernel
theorem dX11_written_1 : decode cX11_written 1 = .ok (.getfield 56, 3) := by decide +kernel
theorem dX11_written_4 : decode cX11_written 4 = .ok (.invokevirtual 123, 3) := by decide +kernel
theorem dX11_written_7 : decode cX11_written 7 = .ok (.ireturn, 1) := by decide +kernel
theorem dX11_letter_0 : decode cX11_letter 0 = .ok (.iload_n 1, 1) := by decide +kernel
theorem dX11_letter_1 : decode cX11_letter 1 = .ok (.ifCond .lt 14, 3) := by decide +kernel
theorem dX11_letter_4 : decode cX11_letter 4 = .ok (.iload_n 1, 1) := by decide +kernel
theorem dX11_letter_5 : decode cX11_letter 5 = .ok (.aload_n 0, 1) := by decide +kernel
theorem dX11_letter_6 : decode cX11_letter 6 = .ok (.getfield 56, 3) := by decide +kernel
theorem dX11_letter_9 : decode cX11_letter 9 = .ok (.invokevirtual 123, 3) := by decide +kernel
theorem dX11_letter_12 : decode cX11_letter 12 = .ok (.if_icmp .lt 13, 3) := by decide +kernel
theorem dX11_letter_15 : decode cX11_letter 15 = .ok (.new 192, 3) := by decide +kernel
theorem dX11_letter_18 : decode cX11_letter 18 = .ok (.dup, 1) := by decide +kernel
theorem dX11_letter_19 : decode cX11_letter 19 = .ok (.ldc 194, 2) := by decide +kernel
theorem dX11_letter_21 : decode cX11_letter 21 = .ok (.invokespecial 196, 3) := by decide +kernel
theorem dX11_letter_24 : decode cX11_letter 24 = .ok (.athrow, 1) := by decide +kernel
theorem dX11_letter_25 : decode cX11_letter 25 = .ok (.aload_n 0, 1) := by decide +kernel
theorem dX11_letter_26 : decode cX11_letter 26 = .ok (.getfield 56, 3) := by decide +kernel
theorem dX11_letter_29 : decode cX11_letter 29 = .ok (.iload_n 1, 1) := by decide +kernel
theorem dX11_letter_30 : decode cX11_letter 30 = .ok (.invokevirtual 254, 3) := by decide +kernel
theorem dX11_letter_33 : decode cX11_letter 33 = .ok (.ireturn, 1) := by decide +kernel
theorem dX11_feedWritten_0 : decode cX11_feedWritten 0 = .ok (.aload_n 0, 1) := by decide +kernel
theorem dX11_feedWritten_1 : decode cX11_feedWritten 1 = .ok (.getfield 19, 3) := by decide +kernel
theorem dX11_feedWritten_4 : decode cX11_feedWritten 4 = .ok (.invokevirtual 123, 3) := by decide +kernel
theorem dX11_feedWritten_7 : decode cX11_feedWritten 7 = .ok (.aload_n 0, 1) := by decide +kernel
theorem dX11_feedWritten_8 : decode cX11_feedWritten 8 = .ok (.getfield 56, 3) := by decide +kernel
theorem dX11_feedWritten_11 : decode cX11_feedWritten 11 = .ok (.invokevirtual 123, 3) := by decide +kernel
theorem dX11_feedWritten_14 : decode cX11_feedWritten 14 = .ok (.iadd, 1) := by decide +kernel
theorem dX11_feedWritten_15 : decode cX11_feedWritten 15 = .ok (.sipush 300, 3) := by decide +kernel
theorem dX11_feedWritten_18 : decode cX11_feedWritten 18 = .ok (.if_icmp .le 14, 3) := by decide +kernel
theorem dX11_feedWritten_21 : decode cX11_feedWritten 21 = .ok (.new 81, 3) := by decide +kernel
theorem dX11_feedWritten_24 : decode cX11_feedWritten 24 = .ok (.dup, 1) := by decide +kernel
theorem dX11_feedWritten_25 : decode cX11_feedWritten 25 = .ok (.ldc_w 257, 3) := by decide +kernel
theorem dX11_feedWritten_28 : decode cX11_feedWritten 28 = .ok (.invokespecial 85, 3) := by decide +kernel
theorem dX11_feedWritten_31 : decode cX11_feedWritten 31 = .ok (.athrow, 1) := by decide +kernel
theorem dX11_feedWritten_32 : decode cX11_feedWritten 32 = .ok (.aload_n 0, 1) := by decide +kernel
theorem dX11_feedWritten_33 : decode cX11_feedWritten 33 = .ok (.getfield 19, 3) := by decide +kernel
theorem dX11_feedWritten_36 : decode cX11_feedWritten 36 = .ok (.aload_n 0, 1) := by decide +kernel
theorem dX11_feedWritten_37 : decode cX11_feedWritten 37 = .ok (.getfield 56, 3) := by decide +kernel
theorem dX11_feedWritten_40 : decode cX11_feedWritten 40 = .ok (.invokevirtual 259, 3) := by decide +kernel
theorem dX11_feedWritten_43 : decode cX11_feedWritten 43 = .ok (.aload_n 0, 1) := by decide +kernel
theorem dX11_feedWritten_44 : decode cX11_feedWritten 44 = .ok (.getfield 19, 3) := by decide +kernel
theorem dX11_feedWritten_47 : decode cX11_feedWritten 47 = .ok (.invokevirtual 123, 3) := by decide +kernel
theorem dX11_feedWritten_50 : decode cX11_feedWritten 50 = .ok (.ireturn, 1) := by decide +kernel
theorem dX11_acceptDraft_0 : decode cX11_acceptDraft 0 = .ok (.aload_n 0, 1) := by decide +kernel
theorem dX11_acceptDraft_1 : decode cX11_acceptDraft 1 = .ok (.getfield 49, 3) := by decide +kernel
theorem dX11_acceptDraft_4 : decode cX11_acceptDraft 4 = .ok (.astore_n 1, 1) := by decide +kernel
theorem dX11_acceptDraft_5 : decode cX11_acceptDraft 5 = .ok (.aload_n 0, 1) := by decide +kernel
theorem dX11_acceptDraft_6 : decode cX11_acceptDraft 6 = .ok (.aload_n 0, 1) := by decide +kernel
theorem dX11_acceptDraft_7 : decode cX11_acceptDraft 7 = .ok (.getfield 53, 3) := by decide +kernel
theorem dX11_acceptDraft_10 : decode cX11_acceptDraft 10 = .ok (.putfield 49, 3) := by decide +kernel
theorem dX11_acceptDraft_13 : decode cX11_acceptDraft 13 = .ok (.aload_n 0, 1) := by decide +kernel
theorem dX11_acceptDraft_14 : decode cX11_acceptDraft 14 = .ok (.aload_n 1, 1) := by decide +kernel
theorem dX11_acceptDraft_15 : decode cX11_acceptDraft 15 = .ok (.putfield 53, 3) := by decide +kernel
theorem dX11_acceptDraft_18 : decode cX11_acceptDraft 18 = .ok (.aload_n 0, 1) := by decide +kernel
theorem dX11_acceptDraft_19 : decode cX11_acceptDraft 19 = .ok (.iconst 1, 1) := by decide +kernel
theorem dX11_acceptDraft_20 : decode cX11_acceptDraft 20 = .ok (.putfield 114, 3) := by decide +kernel
theorem dX11_acceptDraft_23 : decode cX11_acceptDraft 23 = .ok (.aload_n 0, 1) := by decide +kernel
theorem dX11_acceptDraft_24 : decode cX11_acceptDraft 24 = .ok (.iconst 1, 1) := by decide +kernel
theorem dX11_acceptDraft_25 : decode cX11_acceptDraft 25 = .ok (.putfield 133, 3) := by decide +kernel
theorem dX11_acceptDraft_28 : decode cX11_acceptDraft 28 = .ok (.aload_n 0, 1) := by decide +kernel
theorem dX11_acceptDraft_29 : decode cX11_acceptDraft 29 = .ok (.aload_n 0, 1) := by decide +kernel
theorem dX11_acceptDraft_30 : decode cX11_acceptDraft 30 = .ok (.getfield 49, 3) := by decide +kernel
theorem dX11_acceptDraft_33 : decode cX11_acceptDraft 33 = .ok (.invokevirtual 263, 3) := by decide +kernel
theorem dX11_acceptDraft_36 : decode cX11_acceptDraft 36 = .ok (.putfield 136, 3) := by decide +kernel
theorem dX11_acceptDraft_39 : decode cX11_acceptDraft 39 = .ok (.return_, 1) := by decide +kernel
theorem dX11_needFault_0 : decode cX11_needFault 0 = .ok (.iload_n 1, 1) := by decide +kernel
theorem dX11_needFault_1 : decode cX11_needFault 1 = .ok (.ifCond .lt 14, 3) := by decide +kernel
theorem dX11_needFault_4 : decode cX11_needFault 4 = .ok (.iload_n 1, 1) := by decide +kernel
theorem dX11_needFault_5 : decode cX11_needFault 5 = .ok (.aload_n 0, 1) := by decide +kernel
theorem dX11_needFault_6 : decode cX11_needFault 6 = .ok (.getfield 26, 3) := by decide +kernel
theorem dX11_needFault_9 : decode cX11_needFault 9 = .ok (.invokevirtual 147, 3) := by decide +kernel
theorem dX11_needFault_12 : decode cX11_needFault 12 = .ok (.if_icmp .lt 14, 3) := by decide +kernel
theorem dX11_needFault_15 : decode cX11_needFault 15 = .ok (.new 192, 3) := by decide +kernel
theorem dX11_needFault_18 : decode cX11_needFault 18 = .ok (.dup, 1) := by decide +kernel
theorem dX11_needFault_19 : decode cX11_needFault 19 = .ok (.ldc_w 266, 3) := by decide +kernel
theorem dX11_needFault_22 : decode cX11_needFault 22 = .ok (.invokespecial 196, 3) := by decide +kernel
theorem dX11_needFault_25 : decode cX11_needFault 25 = .ok (.athrow, 1) := by decide +kernel
theorem dX11_needFault_26 : decode cX11_needFault 26 = .ok (.return_, 1) := by decide +kernel
theorem dX11_needMessage_0 : decode cX11_needMessage 0 = .ok (.aload_n 0, 1) := by decide +kernel
theorem dX11_needMessage_1 : decode cX11_needMessage 1 = .ok (.getfield 114, 3) := by decide +kernel
theorem dX11_needMessage_4 : decode cX11_needMessage 4 = .ok (.ifCond .ne 14, 3) := by decide +kernel
theorem dX11_needMessage_7 : decode cX11_needMessage 7 = .ok (.new 81, 3) := by decide +kernel
theorem dX11_needMessage_10 : decode cX11_needMessage 10 = .ok (.dup, 1) := by decide +kernel
theorem dX11_needMessage_11 : decode cX11_needMessage 11 = .ok (.ldc_w 268, 3) := by decide +kernel
theorem dX11_needMessage_14 : decode cX11_needMessage 14 = .ok (.invokespecial 85, 3) := by decide +kernel
theorem dX11_needMessage_17 : decode cX11_needMessage 17 = .ok (.athrow, 1) := by decide +kernel
theorem dX11_needMessage_18 : decode cX11_needMessage 18 = .ok (.return_, 1) := by decide +kernel
theorem dX11_needSegment_0 : decode cX11_needSegment 0 = .ok (.aload_n 0, 1) := by decide +kernel
theorem dX11_needSegment_1 : decode cX11_needSegment 1 = .ok (.invokevirtual 164, 3) := by decide +kernel
theorem dX11_needSegment_4 : decode cX11_needSegment 4 = .ok (.iload_n 1, 1) := by decide +kernel
theorem dX11_needSegment_5 : decode cX11_needSegment 5 = .ok (.ifCond .lt 14, 3) := by decide +kernel
theorem dX11_needSegment_8 : decode cX11_needSegment 8 = .ok (.iload_n 1, 1) := by decide +kernel
theorem dX11_needSegment_9 : decode cX11_needSegment 9 = .ok (.aload_n 0, 1) := by decide +kernel
theorem dX11_needSegment_10 : decode cX11_needSegment 10 = .ok (.getfield 49, 3) := by decide +kernel
theorem dX11_needSegment_13 : decode cX11_needSegment 13 = .ok (.invokevirtual 167, 3) := by decide +kernel
theorem dX11_needSegment_16 : decode cX11_needSegment 16 = .ok (.if_icmp .lt 14, 3) := by decide +kernel
theorem dX11_needSegment_19 : decode cX11_needSegment 19 = .ok (.new 192, 3) := by decide +kernel
theorem dX11_needSegment_22 : decode cX11_needSegment 22 = .ok (.dup, 1) := by decide +kernel
theorem dX11_needSegment_23 : decode cX11_needSegment 23 = .ok (.ldc_w 270, 3) := by decide +kernel
theorem dX11_needSegment_26 : decode cX11_needSegment 26 = .ok (.invokespecial 196, 3) := by decide +kernel
theorem dX11_needSegment_29 : decode cX11_needSegment 29 = .ok (.athrow, 1) := by decide +kernel
theorem dX11_needSegment_30 : decode cX11_needSegment 30 = .ok (.return_, 1) := by decide +kernel
theorem dX11_needElement_0 : decode cX11_needElement 0 = .ok (.aload_n 0, 1) := by decide +kernel
theorem dX11_needElement_1 : decode cX11_needElement 1 = .ok (.iload_n 1, 1) := by decide +kernel
theorem dX11_needElement_2 : decode cX11_needElement 2 = .ok (.invokevirtual 170, 3) := by decide +kernel
theorem dX11_needElement_5 : decode cX11_needElement 5 = .ok (.iload_n 2, 1) := by decide +kernel
theorem dX11_needElement_6 : decode cX11_needElement 6 = .ok (.ifCond .lt 18, 3) := by decide +kernel
theorem dX11_needElement_9 : decode cX11_needElement 9 = .ok (.iload_n 2, 1) := by decide +kernel
theorem dX11_needElement_10 : decode cX11_needElement 10 = .ok (.aload_n 0, 1) := by decide +kernel
theorem dX11_needElement_11 : decode cX11_needElement 11 = .ok (.getfield 49, 3) := by decide +kernel
theorem dX11_needElement_14 : decode cX11_needElement 14 = .ok (.iload_n 1, 1) := by decide +kernel
theorem dX11_needElement_15 : decode cX11_needElement 15 = .ok (.invokevirtual 173, 3) := by decide +kernel
theorem dX11_needElement_18 : decode cX11_needElement 18 = .ok (.invokevirtual 183, 3) := by decide +kernel
theorem dX11_needElement_21 : decode cX11_needElement 21 = .ok (.if_icmp .lt 14, 3) := by decide +kernel
theorem dX11_needElement_24 : decode cX11_needElement 24 = .ok (.new 192, 3) := by decide +kernel
theorem dX11_needElement_27 : decode cX11_needElement 27 = .ok (.dup, 1) := by decide +kernel
theorem dX11_needElement_28 : decode cX11_needElement 28 = .ok (.ldc_w 272, 3) := by decide +kernel
theorem dX11_needElement_31 : decode cX11_needElement 31 = .ok (.invokespecial 196, 3) := by decide +kernel
theorem dX11_needElement_34 : decode cX11_needElement 34 = .ok (.athrow, 1) := by decide +kernel
theorem dX11_needElement_35 : decode cX11_needElement 35 = .ok (.return_, 1) := by decide +kernel
theorem dX11_needRule_0 : decode cX11_needRule 0 = .ok (.iload_n 1, 1) := by decide +kernel
theorem dX11_needRule_1 : decode cX11_needRule 1 = .ok (.ifCond .lt 14, 3) := by decide +kernel
theorem dX11_needRule_4 : decode cX11_needRule 4 = .ok (.iload_n 1, 1) := by decide +kernel
theorem dX11_needRule_5 : decode cX11_needRule 5 = .ok (.aload_n 0, 1) := by decide +kernel
theorem dX11_needRule_6 : decode cX11_needRule 6 = .ok (.getfield 42, 3) := by decide +kernel
theorem dX11_needRule_9 : decode cX11_needRule 9 = .ok (.invokevirtual 211, 3) := by decide +kernel
theorem dX11_needRule_12 : decode cX11_needRule 12 = .ok (.if_icmp .lt 14, 3) := by decide +kernel
theorem dX11_needRule_15 : decode cX11_needRule 15 = .ok (.new 192, 3) := by decide +kernel
theorem dX11_needRule_18 : decode cX11_needRule 18 = .ok (.dup, 1) := by decide +kernel
theorem dX11_needRule_19 : decode cX11_needRule 19 = .ok (.ldc_w 274, 3) := by decide +kernel
theorem dX11_needRule_22 : decode cX11_needRule 22 = .ok (.invokespecial 196, 3) := by decide +kernel
theorem dX11_needRule_25 : decode cX11_needRule 25 = .ok (.athrow, 1) := by decide +kernel
theorem dX11_needRule_26 : decode cX11_needRule 26 = .ok (.return_, 1) := by decide +kernel
theorem dX11_isLetter_0 : decode cX11_isLetter 0 = .ok (.iload_n 0, 1) := by decide +kernel
theorem dX11_isLetter_1 : decode cX11_isLetter 1 = .ok (.bipush 32, 2) := by decide +kernel
theorem dX11_isLetter_3 : decode cX11_isLetter 3 = .ok (.if_icmp .lt 13, 3) := by decide +kernel
theorem dX11_isLetter_6 : decode cX11_isLetter 6 = .ok (.iload_n 0, 1) := by decide +kernel
theorem dX11_isLetter_7 : decode cX11_isLetter 7 = .ok (.bipush 126, 2) := by decide +kernel
theorem dX11_isLetter_9 : decode cX11_isLetter 9 = .ok (.if_icmp .gt 7, 3) := by decide +kernel
theorem dX11_isLetter_12 : decode cX11_isLetter 12 = .ok (.iconst 1, 1) := by decide +kernel
theorem dX11_isLetter_13 : decode cX11_isLetter 13 = .ok (.goto 4, 3) := by decide +kernel
theorem dX11_isLetter_16 : decode cX11_isLetter 16 = .ok (.iconst 0, 1) := by decide +kernel
theorem dX11_isLetter_17 : decode cX11_isLetter 17 = .ok (.ireturn, 1) := by decide +kernel
theorem dX11_isTag_0 : decode cX11_isTag 0 = .ok (.iload_n 0, 1) := by decide +kernel
theorem dX11_isTag_1 : decode cX11_isTag 1 = .ok (.bipush 65, 2) := by decide +kernel
theorem dX11_isTag_3 : decode cX11_isTag 3 = .ok (.if_icmp .lt 13, 3) := by decide +kernel
theorem dX11_isTag_6 : decode cX11_isTag 6 = .ok (.iload_n 0, 1) := by decide +kernel
theorem dX11_isTag_7 : decode cX11_isTag 7 = .ok (.bipush 90, 2) := by decide +kernel
theorem dX11_isTag_9 : decode cX11_isTag 9 = .ok (.if_icmp .gt 7, 3) := by decide +kernel
theorem dX11_isTag_12 : decode cX11_isTag 12 = .ok (.iconst 1, 1) := by decide +kernel
theorem dX11_isTag_13 : decode cX11_isTag 13 = .ok (.goto 4, 3) := by decide +kernel
theorem dX11_isTag_16 : decode cX11_isTag 16 = .ok (.iconst 0, 1) := by decide +kernel
theorem dX11_isTag_17 : decode cX11_isTag 17 = .ok (.ireturn, 1) := by decide +kernel
theorem dX11_isBodyTag_0 : decode cX11_isBodyTag 0 = .ok (.iload_n 0, 1) := by decide +kernel
theorem dX11_isBodyTag_1 : decode cX11_isBodyTag 1 = .ok (.invokestatic 276, 3) := by decide +kernel
theorem dX11_isBodyTag_4 : decode cX11_isBodyTag 4 = .ok (.ifCond .eq 19, 3) := by decide +kernel
theorem dX11_isBodyTag_7 : decode cX11_isBodyTag 7 = .ok (.iload_n 0, 1) := by decide +kernel
theorem dX11_isBodyTag_8 : decode cX11_isBodyTag 8 = .ok (.bipush 72, 2) := by decide +kernel
theorem dX11_isBodyTag_10 : decode cX11_isBodyTag 10 = .ok (.if_icmp .eq 13, 3) := by decide +kernel
theorem dX11_isBodyTag_13 : decode cX11_isBodyTag 13 = .ok (.iload_n 0, 1) := by decide +kernel
theorem dX11_isBodyTag_14 : decode cX11_isBodyTag 14 = .ok (.bipush 84, 2) := by decide +kernel
theorem dX11_isBodyTag_16 : decode cX11_isBodyTag 16 = .ok (.if_icmp .eq 7, 3) := by decide +kernel
theorem dX11_isBodyTag_19 : decode cX11_isBodyTag 19 = .ok (.iconst 1, 1) := by decide +kernel
theorem dX11_isBodyTag_20 : decode cX11_isBodyTag 20 = .ok (.goto 4, 3) := by decide +kernel
theorem dX11_isBodyTag_23 : decode cX11_isBodyTag 23 = .ok (.iconst 0, 1) := by decide +kernel
theorem dX11_isBodyTag_24 : decode cX11_isBodyTag 24 = .ok (.ireturn, 1) := by decide +kernel
theorem dX11_areTimes_0 : decode cX11_areTimes 0 = .ok (.iload_n 0, 1) := by decide +kernel
theorem dX11_areTimes_1 : decode cX11_areTimes 1 = .ok (.ifCond .lt 29, 3) := by decide +kernel
theorem dX11_areTimes_4 : decode cX11_areTimes 4 = .ok (.iload_n 0, 1) := by decide +kernel
theorem dX11_areTimes_5 : decode cX11_areTimes 5 = .ok (.bipush 9, 2) := by decide +kernel
theorem dX11_areTimes_7 : decode cX11_areTimes 7 = .ok (.if_icmp .gt 23, 3) := by decide +kernel
theorem dX11_areTimes_10 : decode cX11_areTimes 10 = .ok (.iload_n 1, 1) := by decide +kernel
theorem dX11_areTimes_11 : decode cX11_areTimes 11 = .ok (.iconst 1, 1) := by decide +kernel
theorem dX11_areTimes_12 : decode cX11_areTimes 12 = .ok (.if_icmp .lt 18, 3) := by decide +kernel
theorem dX11_areTimes_15 : decode cX11_areTimes 15 = .ok (.iload_n 1, 1) := by decide +kernel
theorem dX11_areTimes_16 : decode cX11_areTimes 16 = .ok (.bipush 9, 2) := by decide +kernel
theorem dX11_areTimes_18 : decode cX11_areTimes 18 = .ok (.if_icmp .gt 12, 3) := by decide +kernel
theorem dX11_areTimes_21 : decode cX11_areTimes 21 = .ok (.iload_n 0, 1) := by decide +kernel
theorem dX11_areTimes_22 : decode cX11_areTimes 22 = .ok (.iload_n 1, 1) := by decide +kernel
theorem dX11_areTimes_23 : decode cX11_areTimes 23 = .ok (.if_icmp .gt 7, 3) := by decide +kernel
theorem dX11_areTimes_26 : decode cX11_areTimes 26 = .ok (.iconst 1, 1) := by decide +kernel
theorem dX11_areTimes_27 : decode cX11_areTimes 27 = .ok (.goto 4, 3) := by decide +kernel
theorem dX11_areTimes_30 : decode cX11_areTimes 30 = .ok (.iconst 0, 1) := by decide +kernel
theorem dX11_areTimes_31 : decode cX11_areTimes 31 = .ok (.ireturn, 1) := by decide +kernel
theorem dL_addItem_0 : decode cL_addItem 0 = .ok (.aload 4, 2) := by decide +kernel
theorem dL_addItem_2 : decode cL_addItem 2 = .ok (.iconst 0, 1) := by decide +kernel
theorem dL_addItem_3 : decode cL_addItem 3 = .ok (.aload_n 0, 1) := by decide +kernel
theorem dL_addItem_4 : decode cL_addItem 4 = .ok (.iload_n 1, 1) := by decide +kernel
theorem dL_addItem_5 : decode cL_addItem 5 = .ok (.iload_n 2, 1) := by decide +kernel
theorem dL_addItem_6 : decode cL_addItem 6 = .ok (.iload_n 3, 1) := by decide +kernel
theorem dL_addItem_7 : decode cL_addItem 7 = .ok (.invokevirtual 7, 3) := by decide +kernel
theorem dL_addItem_10 : decode cL_addItem 10 = .ok (.i2l, 1) := by decide +kernel
theorem dL_addItem_11 : decode cL_addItem 11 = .ok (.lastore, 1) := by decide +kernel
theorem dL_addItem_12 : decode cL_addItem 12 = .ok (.goto 11, 3) := by decide +kernel
theorem dL_addItem_15 : decode cL_addItem 15 = .ok (.astore 5, 2) := by decide +kernel
theorem dL_addItem_17 : decode cL_addItem 17 = .ok (.iconst 1, 1) := by decide +kernel
theorem dL_addItem_18 : decode cL_addItem 18 = .ok (.ireturn, 1) := by decide +kernel
theorem dL_addItem_19 : decode cL_addItem 19 = .ok (.astore 5, 2) := by decide +kernel
theorem dL_addItem_21 : decode cL_addItem 21 = .ok (.iconst 2, 1) := by decide +kernel
theorem dL_addItem_22 : decode cL_addItem 22 = .ok (.ireturn, 1) := by decide +kernel
theorem dL_addItem_23 : decode cL_addItem 23 = .ok (.iconst 0, 1) := by decide +kernel
theorem dL_addItem_24 : decode cL_addItem 24 = .ok (.ireturn, 1) := by decide +kernel
theorem dL_openLoop_0 : decode cL_openLoop 0 = .ok (.aload_n 0, 1) := by decide +kernel
theorem dL_openLoop_1 : decode cL_openLoop 1 = .ok (.iload_n 1, 1) := by decide +kernel
theorem dL_openLoop_2 : decode cL_openLoop 2 = .ok (.iload_n 2, 1) := by decide +kernel
theorem dL_openLoop_3 : decode cL_openLoop 3 = .ok (.invokevirtual 17, 3) := by decide +kernel
theorem dL_openLoop_6 : decode cL_openLoop 6 = .ok (.goto 9, 3) := by decide +kernel
theorem dL_openLoop_9 : decode cL_openLoop 9 = .ok (.astore_n 3, 1) := by decide +kernel
theorem dL_openLoop_10 : decode cL_openLoop 10 = .ok (.iconst 1, 1) := by decide +kernel
theorem dL_openLoop_11 : decode cL_openLoop 11 = .ok (.ireturn, 1) := by decide +kernel
theorem dL_openLoop_12 : decode cL_openLoop 12 = .ok (.astore_n 3, 1) := by decide +kernel
theorem dL_openLoop_13 : decode cL_openLoop 13 = .ok (.iconst 2, 1) := by decide +kernel
theorem dL_openLoop_14 : decode cL_openLoop 14 = .ok (.ireturn, 1) := by decide +kernel
theorem dL_openLoop_15 : decode cL_openLoop 15 = .ok (.iconst 0, 1) := by decide +kernel
theorem dL_openLoop_16 : decode cL_openLoop 16 = .ok (.ireturn, 1) := by decide +kernel
theorem dL_closeLoop_0 : decode cL_closeLoop 0 = .ok (.aload_n 1, 1) := by decide +kernel
theorem dL_closeLoop_1 : decode cL_closeLoop 1 = .ok (.iconst 0, 1) := by decide +kernel
theorem dL_closeLoop_2 : decode cL_closeLoop 2 = .ok (.aload_n 0, 1) := by decide +kernel
theorem dL_closeLoop_3 : decode cL_closeLoop 3 = .ok (.invokevirtual 21, 3) := by decide +kernel
theorem dL_closeLoop_6 : decode cL_closeLoop 6 = .ok (.i2l, 1) := by decide +kernel
theorem dL_closeLoop_7 : decode cL_closeLoop 7 = .ok (.lastore, 1) := by decide +kernel
theorem dL_closeLoop_8 : decode cL_closeLoop 8 = .ok (.goto 6, 3) := by decide +kernel
theorem dL_closeLoop_11 : decode cL_closeLoop 11 = .ok (.astore_n 2, 1) := by decide +kernel
theorem dL_closeLoop_12 : decode cL_closeLoop 12 = .ok (.iconst 1, 1) := by decide +kernel
theorem dL_closeLoop_13 : decode cL_closeLoop 13 = .ok (.ireturn, 1) := by decide +kernel
theorem dL_closeLoop_14 : decode cL_closeLoop 14 = .ok (.iconst 0, 1) := by decide +kernel
theorem dL_closeLoop_15 : decode cL_closeLoop 15 = .ok (.ireturn, 1) := by decide +kernel
theorem dL_feed_0 : decode cL_feed 0 = .ok (.aload_n 2, 1) := by decide +kernel
theorem dL_feed_1 : decode cL_feed 1 = .ok (.iconst 0, 1) := by decide +kernel
theorem dL_feed_2 : decode cL_feed 2 = .ok (.aload_n 0, 1) := by decide +kernel
theorem dL_feed_3 : decode cL_feed 3 = .ok (.iload_n 1, 1) := by decide +kernel
theorem dL_feed_4 : decode cL_feed 4 = .ok (.invokevirtual 25, 3) := by decide +kernel
theorem dL_feed_7 : decode cL_feed 7 = .ok (.i2l, 1) := by decide +kernel
theorem dL_feed_8 : decode cL_feed 8 = .ok (.lastore, 1) := by decide +kernel
theorem dL_feed_9 : decode cL_feed 9 = .ok (.goto 9, 3) := by decide +kernel
theorem dL_feed_12 : decode cL_feed 12 = .ok (.astore_n 3, 1) := by decide +kernel
theorem dL_feed_13 : decode cL_feed 13 = .ok (.iconst 1, 1) := by decide +kernel
theorem dL_feed_14 : decode cL_feed 14 = .ok (.ireturn, 1) := by decide +kernel
theorem dL_feed_15 : decode cL_feed 15 = .ok (.astore_n 3, 1) := by decide +kernel
theorem dL_feed_16 : decode cL_feed 16 = .ok (.iconst 2, 1) := by decide +kernel
theorem dL_feed_17 : decode cL_feed 17 = .ok (.ireturn, 1) := by decide +kernel
theorem dL_feed_18 : decode cL_feed 18 = .ok (.iconst 0, 1) := by decide +kernel
theorem dL_feed_19 : decode cL_feed 19 = .ok (.ireturn, 1) := by decide +kernel
theorem dL_read_0 : decode cL_read 0 = .ok (.aload_n 1, 1) := by decide +kernel
theorem dL_read_1 : decode cL_read 1 = .ok (.iconst 0, 1) := by decide +kernel
theorem dL_read_2 : decode cL_read 2 = .ok (.aload_n 0, 1) := by decide +kernel
theorem dL_read_3 : decode cL_read 3 = .ok (.invokevirtual 29, 3) := by decide +kernel
theorem dL_read_6 : decode cL_read 6 = .ok (.i2l, 1) := by decide +kernel
theorem dL_read_7 : decode cL_read 7 = .ok (.lastore, 1) := by decide +kernel
theorem dL_read_8 : decode cL_read 8 = .ok (.goto 6, 3) := by decide +kernel
theorem dL_read_11 : decode cL_read 11 = .ok (.astore_n 2, 1) := by decide +kernel
theorem dL_read_12 : decode cL_read 12 = .ok (.iconst 1, 1) := by decide +kernel
theorem dL_read_13 : decode cL_read 13 = .ok (.ireturn, 1) := by decide +kernel
theorem dL_read_14 : decode cL_read 14 = .ok (.iconst 0, 1) := by decide +kernel
theorem dL_read_15 : decode cL_read 15 = .ok (.ireturn, 1) := by decide +kernel
theorem dL_faultKind_0 : decode cL_faultKind 0 = .ok (.aload_n 2, 1) := by decide +kernel
theorem dL_faultKind_1 : decode cL_faultKind 1 = .ok (.iconst 0, 1) := by decide +kernel
theorem dL_faultKind_2 : decode cL_faultKind 2 = .ok (.aload_n 0, 1) := by decide +kernel
theorem dL_faultKind_3 : decode cL_faultKind 3 = .ok (.iload_n 1, 1) := by decide +kernel
theorem dL_faultKind_4 : decode cL_faultKind 4 = .ok (.invokevirtual 32, 3) := by decide +kernel
theorem dL_faultKind_7 : decode cL_faultKind 7 = .ok (.i2l, 1) := by decide +kernel
theorem dL_faultKind_8 : decode cL_faultKind 8 = .ok (.lastore, 1) := by decide +kernel
theorem dL_faultKind_9 : decode cL_faultKind 9 = .ok (.goto 6, 3) := by decide +kernel
theorem dL_faultKind_12 : decode cL_faultKind 12 = .ok (.astore_n 3, 1) := by decide +kernel
theorem dL_faultKind_13 : decode cL_faultKind 13 = .ok (.iconst 1, 1) := by decide +kernel
theorem dL_faultKind_14 : decode cL_faultKind 14 = .ok (.ireturn, 1) := by decide +kernel
theorem dL_faultKind_15 : decode cL_faultKind 15 = .ok (.iconst 0, 1) := by decide +kernel
theorem dL_faultKind_16 : decode cL_faultKind 16 = .ok (.ireturn, 1) := by decide +kernel
theorem dL_faultPlace_0 : decode cL_faultPlace 0 = .ok (.aload_n 2, 1) := by decide +kernel
theorem dL_faultPlace_1 : decode cL_faultPlace 1 = .ok (.iconst 0, 1) := by decide +kernel
theorem dL_faultPlace_2 : decode cL_faultPlace 2 = .ok (.aload_n 0, 1) := by decide +kernel
theorem dL_faultPlace_3 : decode cL_faultPlace 3 = .ok (.iload_n 1, 1) := by decide +kernel
theorem dL_faultPlace_4 : decode cL_faultPlace 4 = .ok (.invokevirtual 38, 3) := by decide +kernel
theorem dL_faultPlace_7 : decode cL_faultPlace 7 = .ok (.i2l, 1) := by decide +kernel
theorem dL_faultPlace_8 : decode cL_faultPlace 8 = .ok (.lastore, 1) := by decide +kernel
theorem dL_faultPlace_9 : decode cL_faultPlace 9 = .ok (.goto 6, 3) := by decide +kernel
theorem dL_faultPlace_12 : decode cL_faultPlace 12 = .ok (.astore_n 3, 1) := by decide +kernel
theorem dL_faultPlace_13 : decode cL_faultPlace 13 = .ok (.iconst 1, 1) := by decide +kernel
theorem dL_faultPlace_14 : decode cL_faultPlace 14 = .ok (.ireturn, 1) := by decide +kernel
theorem dL_faultPlace_15 : decode cL_faultPlace 15 = .ok (.iconst 0, 1) := by decide +kernel
theorem dL_faultPlace_16 : decode cL_faultPlace 16 = .ok (.ireturn, 1) := by decide +kernel
theorem dL_control_0 : decode cL_control 0 = .ok (.aload_n 1, 1) := by decide +kernel
theorem dL_control_1 : decode cL_control 1 = .ok (.iconst 0, 1) := by decide +kernel
theorem dL_control_2 : decode cL_control 2 = .ok (.aload_n 0, 1) := by decide +kernel
theorem dL_control_3 : decode cL_control 3 = .ok (.invokevirtual 41, 3) := by decide +kernel
theorem dL_control_6 : decode cL_control 6 = .ok (.i2l, 1) := by decide +kernel
theorem dL_control_7 : decode cL_control 7 = .ok (.lastore, 1) := by decide +kernel
theorem dL_control_8 : decode cL_control 8 = .ok (.goto 6, 3) := by decide +kernel
theorem dL_control_11 : decode cL_control 11 = .ok (.astore_n 2, 1) := by decide +kernel
theorem dL_control_12 : decode cL_control 12 = .ok (.iconst 1, 1) := by decide +kernel
theorem dL_control_13 : decode cL_control 13 = .ok (.ireturn, 1) := by decide +kernel
theorem dL_control_14 : decode cL_control 14 = .ok (.iconst 0, 1) := by decide +kernel
theorem dL_control_15 : decode cL_control 15 = .ok (.ireturn, 1) := by decide +kernel
theorem dL_segments_0 : decode cL_segments 0 = .ok (.aload_n 1, 1) := by decide +kernel
theorem dL_segments_1 : decode cL_segments 1 = .ok (.iconst 0, 1) := by decide +kernel
theorem dL_segments_2 : decode cL_segments 2 = .ok (.aload_n 0, 1) := by decide +kernel
theorem dL_segments_3 : decode cL_segments 3 = .ok (.invokevirtual 46, 3) := by decide +kernel
theorem dL_segments_6 : decode cL_segments 6 = .ok (.i2l, 1) := by decide +kernel
theorem dL_segments_7 : decode cL_segments 7 = .ok (.lastore, 1) := by decide +kernel
theorem dL_segments_8 : decode cL_segments 8 = .ok (.goto 6, 3) := by decide +kernel
theorem dL_segments_11 : decode cL_segments 11 = .ok (.astore_n 2, 1) := by decide +kernel
theorem dL_segments_12 : decode cL_segments 12 = .ok (.iconst 1, 1) := by decide +kernel
theorem dL_segments_13 : decode cL_segments 13 = .ok (.ireturn, 1) := by decide +kernel
theorem dL_segments_14 : decode cL_segments 14 = .ok (.iconst 0, 1) := by decide +kernel
theorem dL_segments_15 : decode cL_segments 15 = .ok (.ireturn, 1) := by decide +kernel
theorem dL_tag_0 : decode cL_tag 0 = .ok (.aload_n 2, 1) := by decide +kernel
theorem dL_tag_1 : decode cL_tag 1 = .ok (.iconst 0, 1) := by decide +kernel
theorem dL_tag_2 : decode cL_tag 2 = .ok (.aload_n 0, 1) := by decide +kernel
theorem dL_tag_3 : decode cL_tag 3 = .ok (.iload_n 1, 1) := by decide +kernel
theorem dL_tag_4 : decode cL_tag 4 = .ok (.invokevirtual 49, 3) := by decide +kernel
theorem dL_tag_7 : decode cL_tag 7 = .ok (.i2l, 1) := by decide +kernel
theorem dL_tag_8 : decode cL_tag 8 = .ok (.lastore, 1) := by decide +kernel
theorem dL_tag_9 : decode cL_tag 9 = .ok (.goto 9, 3) := by decide +kernel
theorem dL_tag_12 : decode cL_tag 12 = .ok (.astore_n 3, 1) := by decide +kernel
theorem dL_tag_13 : decode cL_tag 13 = .ok (.iconst 1, 1) := by decide +kernel
theorem dL_tag_14 : decode cL_tag 14 = .ok (.ireturn, 1) := by decide +kernel
theorem dL_tag_15 : decode cL_tag 15 = .ok (.astore_n 3, 1) := by decide +kernel
theorem dL_tag_16 : decode cL_tag 16 = .ok (.iconst 2, 1) := by decide +kernel
theorem dL_tag_17 : decode cL_tag 17 = .ok (.ireturn, 1) := by decide +kernel
theorem dL_tag_18 : decode cL_tag 18 = .ok (.iconst 0, 1) := by decide +kernel
theorem dL_tag_19 : decode cL_tag 19 = .ok (.ireturn, 1) := by decide +kernel
theorem dL_elements_0 : decode cL_elements 0 = .ok (.aload_n 2, 1) := by decide +kernel
theorem dL_elements_1 : decode cL_elements 1 = .ok (.iconst 0, 1) := by decide +kernel
theorem dL_elements_2 : decode cL_elements 2 = .ok (.aload_n 0, 1) := by decide +kernel
theorem dL_elements_3 : decode cL_elements 3 = .ok (.iload_n 1, 1) := by decide +kernel
theorem dL_elements_4 : decode cL_elements 4 = .ok (.invokevirtual 53, 3) := by decide +kernel
theorem dL_elements_7 : decode cL_elements 7 = .ok (.i2l, 1) := by decide +kernel
theorem dL_elements_8 : decode cL_elements 8 = .ok (.lastore, 1) := by decide +kernel
theorem dL_elements_9 : decode cL_elements 9 = .ok (.goto 9, 3) := by decide +kernel
theorem dL_elements_12 : decode cL_elements 12 = .ok (.astore_n 3, 1) := by decide +kernel
theorem dL_elements_13 : decode cL_elements 13 = .ok (.iconst 1, 1) := by decide +kernel
theorem dL_elements_14 : decode cL_elements 14 = .ok (.ireturn, 1) := by decide +kernel
theorem dL_elements_15 : decode cL_elements 15 = .ok (.astore_n 3, 1) := by decide +kernel
theorem dL_elements_16 : decode cL_elements 16 = .ok (.iconst 2, 1) := by decide +kernel
theorem dL_elements_17 : decode cL_elements 17 = .ok (.ireturn, 1) := by decide +kernel
theorem dL_elements_18 : decode cL_elements 18 = .ok (.iconst 0, 1) := by decide +kernel
theorem dL_elements_19 : decode cL_elements 19 = .ok (.ireturn, 1) := by decide +kernel
theorem dL_contentLength_0 : decode cL_contentLength 0 = .ok (.aload_n 3, 1) := by decide +kernel
theorem dL_contentLength_1 : decode cL_contentLength 1 = .ok (.iconst 0, 1) := by decide +kernel
theorem dL_contentLength_2 : decode cL_contentLength 2 = .ok (.aload_n 0, 1) := by decide +kernel
theorem dL_contentLength_3 : decode cL_contentLength 3 = .ok (.iload_n 1, 1) := by decide +kernel
theorem dL_contentLength_4 : decode cL_contentLength 4 = .ok (.iload_n 2, 1) := by decide +kernel
theorem dL_contentLength_5 : decode cL_contentLength 5 = .ok (.invokevirtual 56, 3) := by decide +kernel
theorem dL_contentLength_8 : decode cL_contentLength 8 = .ok (.i2l, 1) := by decide +kernel
theorem dL_contentLength_9 : decode cL_contentLength 9 = .ok (.lastore, 1) := by decide +kernel
theorem dL_contentLength_10 : decode cL_contentLength 10 = .ok (.goto 11, 3) := by decide +kernel
theorem dL_contentLength_13 : decode cL_contentLength 13 = .ok (.astore 4, 2) := by decide +kernel
theorem dL_contentLength_15 : decode cL_contentLength 15 = .ok (.iconst 1, 1) := by decide +kernel
theorem dL_contentLength_16 : decode cL_contentLength 16 = .ok (.ireturn, 1) := by decide +kernel
theorem dL_contentLength_17 : decode cL_contentLength 17 = .ok (.astore 4, 2) := by decide +kernel
theorem dL_contentLength_19 : decode cL_contentLength 19 = .ok (.iconst 2, 1) := by decide +kernel
theorem dL_contentLength_20 : decode cL_contentLength 20 = .ok (.ireturn, 1) := by decide +kernel
theorem dL_contentLength_21 : decode cL_contentLength 21 = .ok (.iconst 0, 1) := by decide +kernel
theorem dL_contentLength_22 : decode cL_contentLength 22 = .ok (.ireturn, 1) := by decide +kernel
theorem dL_content_0 : decode cL_content 0 = .ok (.aload 4, 2) := by decide +kernel
theorem dL_content_2 : decode cL_content 2 = .ok (.iconst 0, 1) := by decide +kernel
theorem dL_content_3 : decode cL_content 3 = .ok (.aload_n 0, 1) := by decide +kernel
theorem dL_content_4 : decode cL_content 4 = .ok (.iload_n 1, 1) := by decide +kernel
theorem dL_content_5 : decode cL_content 5 = .ok (.iload_n 2, 1) := by decide +kernel
theorem dL_content_6 : decode cL_content 6 = .ok (.iload_n 3, 1) := by decide +kernel
theorem dL_content_7 : decode cL_content 7 = .ok (.invokevirtual 60, 3) := by decide +kernel
theorem dL_content_10 : decode cL_content 10 = .ok (.i2l, 1) := by decide +kernel
theorem dL_content_11 : decode cL_content 11 = .ok (.lastore, 1) := by decide +kernel
theorem dL_content_12 : decode cL_content 12 = .ok (.goto 11, 3) := by decide +kernel
theorem dL_content_15 : decode cL_content 15 = .ok (.astore 5, 2) := by decide +kernel
theorem dL_content_17 : decode cL_content 17 = .ok (.iconst 1, 1) := by decide +kernel
theorem dL_content_18 : decode cL_content 18 = .ok (.ireturn, 1) := by decide +kernel
theorem dL_content_19 : decode cL_content 19 = .ok (.astore 5, 2) := by decide +kernel
theorem dL_content_21 : decode cL_content 21 = .ok (.iconst 2, 1) := by decide +kernel
theorem dL_content_22 : decode cL_content 22 = .ok (.ireturn, 1) := by decide +kernel
theorem dL_content_23 : decode cL_content 23 = .ok (.iconst 0, 1) := by decide +kernel
theorem dL_content_24 : decode cL_content 24 = .ok (.ireturn, 1) := by decide +kernel
theorem dL_item_0 : decode cL_item 0 = .ok (.aload_n 2, 1) := by decide +kernel
theorem dL_item_1 : decode cL_item 1 = .ok (.iconst 0, 1) := by decide +kernel
theorem dL_item_2 : decode cL_item 2 = .ok (.aload_n 0, 1) := by decide +kernel
theorem dL_item_3 : decode cL_item 3 = .ok (.iload_n 1, 1) := by decide +kernel
theorem dL_item_4 : decode cL_item 4 = .ok (.invokevirtual 64, 3) := by decide +kernel
theorem dL_item_7 : decode cL_item 7 = .ok (.i2l, 1) := by decide +kernel
theorem dL_item_8 : decode cL_item 8 = .ok (.lastore, 1) := by decide +kernel
theorem dL_item_9 : decode cL_item 9 = .ok (.goto 9, 3) := by decide +kernel
theorem dL_item_12 : decode cL_item 12 = .ok (.astore_n 3, 1) := by decide +kernel
theorem dL_item_13 : decode cL_item 13 = .ok (.iconst 1, 1) := by decide +kernel
theorem dL_item_14 : decode cL_item 14 = .ok (.ireturn, 1) := by decide +kernel
theorem dL_item_15 : decode cL_item 15 = .ok (.astore_n 3, 1) := by decide +kernel
theorem dL_item_16 : decode cL_item 16 = .ok (.iconst 2, 1) := by decide +kernel
theorem dL_item_17 : decode cL_item 17 = .ok (.ireturn, 1) := by decide +kernel
theorem dL_item_18 : decode cL_item 18 = .ok (.iconst 0, 1) := by decide +kernel
theorem dL_item_19 : decode cL_item 19 = .ok (.ireturn, 1) := by decide +kernel
theorem dL_pass_0 : decode cL_pass 0 = .ok (.aload_n 2, 1) := by decide +kernel
theorem dL_pass_1 : decode cL_pass 1 = .ok (.iconst 0, 1) := by decide +kernel
theorem dL_pass_2 : decode cL_pass 2 = .ok (.aload_n 0, 1) := by decide +kernel
theorem dL_pass_3 : decode cL_pass 3 = .ok (.iload_n 1, 1) := by decide +kernel
theorem dL_pass_4 : decode cL_pass 4 = .ok (.invokevirtual 67, 3) := by decide +kernel
theorem dL_pass_7 : decode cL_pass 7 = .ok (.i2l, 1) := by decide +kernel
theorem dL_pass_8 : decode cL_pass 8 = .ok (.lastore, 1) := by decide +kernel
theorem dL_pass_9 : decode cL_pass 9 = .ok (.goto 9, 3) := by decide +kernel
theorem dL_pass_12 : decode cL_pass 12 = .ok (.astore_n 3, 1) := by decide +kernel
theorem dL_pass_13 : decode cL_pass 13 = .ok (.iconst 1, 1) := by decide +kernel
theorem dL_pass_14 : decode cL_pass 14 = .ok (.ireturn, 1) := by decide +kernel
theorem dL_pass_15 : decode cL_pass 15 = .ok (.astore_n 3, 1) := by decide +kernel
theorem dL_pass_16 : decode cL_pass 16 = .ok (.iconst 2, 1) := by decide +kernel
theorem dL_pass_17 : decode cL_pass 17 = .ok (.ireturn, 1) := by decide +kernel
theorem dL_pass_18 : decode cL_pass 18 = .ok (.iconst 0, 1) := by decide +kernel
theorem dL_pass_19 : decode cL_pass 19 = .ok (.ireturn, 1) := by decide +kernel
theorem dL_addRule_0 : decode cL_addRule 0 = .ok (.aload_n 3, 1) := by decide +kernel
theorem dL_addRule_1 : decode cL_addRule 1 = .ok (.iconst 0, 1) := by decide +kernel
theorem dL_addRule_2 : decode cL_addRule 2 = .ok (.aload_n 0, 1) := by decide +kernel
theorem dL_addRule_3 : decode cL_addRule 3 = .ok (.iload_n 1, 1) := by decide +kernel
theorem dL_addRule_4 : decode cL_addRule 4 = .ok (.iload_n 2, 1) := by decide +kernel
theorem dL_addRule_5 : decode cL_addRule 5 = .ok (.invokevirtual 70, 3) := by decide +kernel
theorem dL_addRule_8 : decode cL_addRule 8 = .ok (.i2l, 1) := by decide +kernel
theorem dL_addRule_9 : decode cL_addRule 9 = .ok (.lastore, 1) := by decide +kernel
theorem dL_addRule_10 : decode cL_addRule 10 = .ok (.goto 15, 3) := by decide +kernel
theorem dL_addRule_13 : decode cL_addRule 13 = .ok (.astore 4, 2) := by decide +kernel
theorem dL_addRule_15 : decode cL_addRule 15 = .ok (.iconst 1, 1) := by decide +kernel
theorem dL_addRule_16 : decode cL_addRule 16 = .ok (.ireturn, 1) := by decide +kernel
theorem dL_addRule_17 : decode cL_addRule 17 = .ok (.astore 4, 2) := by decide +kernel
theorem dL_addRule_19 : decode cL_addRule 19 = .ok (.iconst 2, 1) := by decide +kernel
theorem dL_addRule_20 : decode cL_addRule 20 = .ok (.ireturn, 1) := by decide +kernel
theorem dL_addRule_21 : decode cL_addRule 21 = .ok (.astore 4, 2) := by decide +kernel
theorem dL_addRule_23 : decode cL_addRule 23 = .ok (.iconst 3, 1) := by decide +kernel
theorem dL_addRule_24 : decode cL_addRule 24 = .ok (.ireturn, 1) := by decide +kernel
theorem dL_addRule_25 : decode cL_addRule 25 = .ok (.iconst 0, 1) := by decide +kernel
theorem dL_addRule_26 : decode cL_addRule 26 = .ok (.ireturn, 1) := by decide +kernel
theorem dL_addField_0 : decode cL_addField 0 = .ok (.aload_n 3, 1) := by decide +kernel
theorem dL_addField_1 : decode cL_addField 1 = .ok (.iconst 0, 1) := by decide +kernel
theorem dL_addField_2 : decode cL_addField 2 = .ok (.aload_n 0, 1) := by decide +kernel
theorem dL_addField_3 : decode cL_addField 3 = .ok (.iload_n 1, 1) := by decide +kernel
theorem dL_addField_4 : decode cL_addField 4 = .ok (.iload_n 2, 1) := by decide +kernel
theorem dL_addField_5 : decode cL_addField 5 = .ok (.invokevirtual 74, 3) := by decide +kernel
theorem dL_addField_8 : decode cL_addField 8 = .ok (.i2l, 1) := by decide +kernel
theorem dL_addField_9 : decode cL_addField 9 = .ok (.lastore, 1) := by decide +kernel
theorem dL_addField_10 : decode cL_addField 10 = .ok (.goto 15, 3) := by decide +kernel
theorem dL_addField_13 : decode cL_addField 13 = .ok (.astore 4, 2) := by decide +kernel
theorem dL_addField_15 : decode cL_addField 15 = .ok (.iconst 1, 1) := by decide +kernel
theorem dL_addField_16 : decode cL_addField 16 = .ok (.ireturn, 1) := by decide +kernel
theorem dL_addField_17 : decode cL_addField 17 = .ok (.astore 4, 2) := by decide +kernel
theorem dL_addField_19 : decode cL_addField 19 = .ok (.iconst 2, 1) := by decide +kernel
theorem dL_addField_20 : decode cL_addField 20 = .ok (.ireturn, 1) := by decide +kernel
theorem dL_addField_21 : decode cL_addField 21 = .ok (.astore 4, 2) := by decide +kernel
theorem dL_addField_23 : decode cL_addField 23 = .ok (.iconst 3, 1) := by decide +kernel
theorem dL_addField_24 : decode cL_addField 24 = .ok (.ireturn, 1) := by decide +kernel
theorem dL_addField_25 : decode cL_addField 25 = .ok (.iconst 0, 1) := by decide +kernel
theorem dL_addField_26 : decode cL_addField 26 = .ok (.ireturn, 1) := by decide +kernel
theorem dL_setCondition_0 : decode cL_setCondition 0 = .ok (.aload_n 0, 1) := by decide +kernel
theorem dL_setCondition_1 : decode cL_setCondition 1 = .ok (.iload_n 1, 1) := by decide +kernel
theorem dL_setCondition_2 : decode cL_setCondition 2 = .ok (.iload_n 2, 1) := by decide +kernel
theorem dL_setCondition_3 : decode cL_setCondition 3 = .ok (.iload_n 3, 1) := by decide +kernel
theorem dL_setCondition_4 : decode cL_setCondition 4 = .ok (.invokevirtual 77, 3) := by decide +kernel
theorem dL_setCondition_7 : decode cL_setCondition 7 = .ok (.goto 11, 3) := by decide +kernel
theorem dL_setCondition_10 : decode cL_setCondition 10 = .ok (.astore 4, 2) := by decide +kernel
theorem dL_setCondition_12 : decode cL_setCondition 12 = .ok (.iconst 1, 1) := by decide +kernel
theorem dL_setCondition_13 : decode cL_setCondition 13 = .ok (.ireturn, 1) := by decide +kernel
theorem dL_setCondition_14 : decode cL_setCondition 14 = .ok (.astore 4, 2) := by decide +kernel
theorem dL_setCondition_16 : decode cL_setCondition 16 = .ok (.iconst 2, 1) := by decide +kernel
theorem dL_setCondition_17 : decode cL_setCondition 17 = .ok (.ireturn, 1) := by decide +kernel
theorem dL_setCondition_18 : decode cL_setCondition 18 = .ok (.iconst 0, 1) := by decide +kernel
theorem dL_setCondition_19 : decode cL_setCondition 19 = .ok (.ireturn, 1) := by decide +kernel
theorem dL_write_0 : decode cL_write 0 = .ok (.aload_n 1, 1) := by decide +kernel
theorem dL_write_1 : decode cL_write 1 = .ok (.iconst 0, 1) := by decide +kernel
theorem dL_write_2 : decode cL_write 2 = .ok (.aload_n 0, 1) := by decide +kernel
theorem dL_write_3 : decode cL_write 3 = .ok (.invokevirtual 81, 3) := by decide +kernel
theorem dL_write_6 : decode cL_write 6 = .ok (.i2l, 1) := by decide +kernel
theorem dL_write_7 : decode cL_write 7 = .ok (.lastore, 1) := by decide +kernel
theorem dL_write_8 : decode cL_write 8 = .ok (.goto 6, 3) := by decide +kernel
theorem dL_write_11 : decode cL_write 11 = .ok (.astore_n 2, 1) := by decide +kernel
theorem dL_write_12 : decode cL_write 12 = .ok (.iconst 1, 1) := by decide +kernel
theorem dL_write_13 : decode cL_write 13 = .ok (.ireturn, 1) := by decide +kernel
theorem dL_write_14 : decode cL_write 14 = .ok (.iconst 0, 1) := by decide +kernel
theorem dL_write_15 : decode cL_write 15 = .ok (.ireturn, 1) := by decide +kernel
theorem dL_letter_0 : decode cL_letter 0 = .ok (.aload_n 2, 1) := by decide +kernel
theorem dL_letter_1 : decode cL_letter 1 = .ok (.iconst 0, 1) := by decide +kernel
theorem dL_letter_2 : decode cL_letter 2 = .ok (.aload_n 0, 1) := by decide +kernel
theorem dL_letter_3 : decode cL_letter 3 = .ok (.iload_n 1, 1) := by decide +kernel
theorem dL_letter_4 : decode cL_letter 4 = .ok (.invokevirtual 84, 3) := by decide +kernel
theorem dL_letter_7 : decode cL_letter 7 = .ok (.i2l, 1) := by decide +kernel
theorem dL_letter_8 : decode cL_letter 8 = .ok (.lastore, 1) := by decide +kernel
theorem dL_letter_9 : decode cL_letter 9 = .ok (.goto 6, 3) := by decide +kernel
theorem dL_letter_12 : decode cL_letter 12 = .ok (.astore_n 3, 1) := by decide +kernel
theorem dL_letter_13 : decode cL_letter 13 = .ok (.iconst 1, 1) := by decide +kernel
theorem dL_letter_14 : decode cL_letter 14 = .ok (.ireturn, 1) := by decide +kernel
theorem dL_letter_15 : decode cL_letter 15 = .ok (.iconst 0, 1) := by decide +kernel
theorem dL_letter_16 : decode cL_letter 16 = .ok (.ireturn, 1) := by decide +kernel
theorem dL_feedWritten_0 : decode cL_feedWritten 0 = .ok (.aload_n 1, 1) := by decide +kernel
theorem dL_feedWritten_1 : decode cL_feedWritten 1 = .ok (.iconst 0, 1) := by decide +kernel
theorem dL_feedWritten_2 : decode cL_feedWritten 2 = .ok (.aload_n 0, 1) := by decide +kernel
theorem dL_feedWritten_3 : decode cL_feedWritten 3 = .ok (.invokevirtual 87, 3) := by decide +kernel
theorem dL_feedWritten_6 : decode cL_feedWritten 6 = .ok (.i2l, 1) := by decide +kernel
theorem dL_feedWritten_7 : decode cL_feedWritten 7 = .ok (.lastore, 1) := by decide +kernel
theorem dL_feedWritten_8 : decode cL_feedWritten 8 = .ok (.goto 6, 3) := by decide +kernel
theorem dL_feedWritten_11 : decode cL_feedWritten 11 = .ok (.astore_n 2, 1) := by decide +kernel
theorem dL_feedWritten_12 : decode cL_feedWritten 12 = .ok (.iconst 1, 1) := by decide +kernel
theorem dL_feedWritten_13 : decode cL_feedWritten 13 = .ok (.ireturn, 1) := by decide +kernel
theorem dL_feedWritten_14 : decode cL_feedWritten 14 = .ok (.iconst 0, 1) := by decide +kernel
theorem dL_feedWritten_15 : decode cL_feedWritten 15 = .ok (.ireturn, 1) := by decide +kernel
theorem dL_law_0 : decode cL_law 0 = .ok (.new 8, 3) := by decide +kernel
theorem dL_law_3 : decode cL_law 3 = .ok (.dup, 1) := by decide +kernel
theorem dL_law_4 : decode cL_law 4 = .ok (.invokespecial 90, 3) := by decide +kernel
theorem dL_law_7 : decode cL_law 7 = .ok (.astore_n 1, 1) := by decide +kernel
theorem dL_law_8 : decode cL_law 8 = .ok (.new 91, 3) := by decide +kernel
theorem dL_law_11 : decode cL_law 11 = .ok (.dup, 1) := by decide +kernel
theorem dL_law_12 : decode cL_law 12 = .ok (.invokespecial 93, 3) := by decide +kernel
theorem dL_law_15 : decode cL_law 15 = .ok (.astore_n 2, 1) := by decide +kernel
theorem dL_law_16 : decode cL_law 16 = .ok (.iconst 1, 1) := by decide +kernel
theorem dL_law_17 : decode cL_law 17 = .ok (.newarray .long, 2) := by decide +kernel
theorem dL_law_19 : decode cL_law 19 = .ok (.astore_n 3, 1) := by decide +kernel
theorem dL_law_20 : decode cL_law 20 = .ok (.iconst 0, 1) := by decide +kernel
theorem dL_law_21 : decode cL_law 21 = .ok (.istore 4, 2) := by decide +kernel
theorem dL_law_23 : decode cL_law 23 = .ok (.iload 4, 2) := by decide +kernel
theorem dL_law_25 : decode cL_law 25 = .ok (.aload_n 0, 1) := by decide +kernel
theorem dL_law_26 : decode cL_law 26 = .ok (.arraylength, 1) := by decide +kernel
theorem dL_law_27 : decode cL_law 27 = .ok (.iconst 4, 1) := by decide +kernel
theorem dL_law_28 : decode cL_law 28 = .ok (.isub, 1) := by decide +kernel
theorem dL_law_29 : decode cL_law 29 = .ok (.if_icmp .gt 1388, 3) := by decide +kernel
theorem dL_law_32 : decode cL_law 32 = .ok (.aload_n 0, 1) := by decide +kernel
theorem dL_law_33 : decode cL_law 33 = .ok (.iload 4, 2) := by decide +kernel
theorem dL_law_35 : decode cL_law 35 = .ok (.iaload, 1) := by decide +kernel
theorem dL_law_36 : decode cL_law 36 = .ok (.bipush 31, 2) := by decide +kernel
theorem dL_law_38 : decode cL_law 38 = .ok (.iand, 1) := by decide +kernel
theorem dL_law_39 : decode cL_law 39 = .ok (.tableswitch 1372 0 25 #[117, 199, 247, 291, 302, 315, 373, 386, 399, 443, 499, 555, 599, 643, 699, 755, 823, 903, 959, 1015, 1085, 1153, 1215, 1259, 1272, 1328], 117) := by decide +kernel
theorem dL_law_156 : decode cL_law 156 = .ok (.aload_n 1, 1) := by decide +kernel
theorem dL_law_157 : decode cL_law 157 = .ok (.aload_n 0, 1) := by decide +kernel
theorem dL_law_158 : decode cL_law 158 = .ok (.iload 4, 2) := by decide +kernel
theorem dL_law_160 : decode cL_law 160 = .ok (.iconst 1, 1) := by decide +kernel
theorem dL_law_161 : decode cL_law 161 = .ok (.iadd, 1) := by decide +kernel
theorem dL_law_162 : decode cL_law 162 = .ok (.iaload, 1) := by decide +kernel
theorem dL_law_163 : decode cL_law 163 = .ok (.i2c, 1) := by decide +kernel
theorem dL_law_164 : decode cL_law 164 = .ok (.aload_n 0, 1) := by decide +kernel
theorem dL_law_165 : decode cL_law 165 = .ok (.iload 4, 2) := by decide +kernel
theorem dL_law_167 : decode cL_law 167 = .ok (.iconst 2, 1) := by decide +kernel
theorem dL_law_168 : decode cL_law 168 = .ok (.iadd, 1) := by decide +kernel
theorem dL_law_169 : decode cL_law 169 = .ok (.iaload, 1) := by decide +kernel
theorem dL_law_170 : decode cL_law 170 = .ok (.aload_n 0, 1) := by decide +kernel
theorem dL_law_171 : decode cL_law 171 = .ok (.iload 4, 2) := by decide +kernel
theorem dL_law_173 : decode cL_law 173 = .ok (.iconst 3, 1) := by decide +kernel
theorem dL_law_174 : decode cL_law 174 = .ok (.iadd, 1) := by decide +kernel
theorem dL_law_175 : decode cL_law 175 = .ok (.iaload, 1) := by decide +kernel
theorem dL_law_176 : decode cL_law 176 = .ok (.aload_n 3, 1) := by decide +kernel
theorem dL_law_177 : decode cL_law 177 = .ok (.invokestatic 94, 3) := by decide +kernel
theorem dL_law_180 : decode cL_law 180 = .ok (.istore 5, 2) := by decide +kernel
theorem dL_law_182 : decode cL_law 182 = .ok (.aload_n 2, 1) := by decide +kernel
theorem dL_law_183 : decode cL_law 183 = .ok (.aload_n 0, 1) := by decide +kernel
theorem dL_law_184 : decode cL_law 184 = .ok (.iload 4, 2) := by decide +kernel
theorem dL_law_186 : decode cL_law 186 = .ok (.iconst 1, 1) := by decide +kernel
theorem dL_law_187 : decode cL_law 187 = .ok (.iadd, 1) := by decide +kernel
theorem dL_law_188 : decode cL_law 188 = .ok (.iaload, 1) := by decide +kernel
theorem dL_law_189 : decode cL_law 189 = .ok (.i2c, 1) := by decide +kernel
theorem dL_law_190 : decode cL_law 190 = .ok (.aload_n 0, 1) := by decide +kernel
theorem dL_law_191 : decode cL_law 191 = .ok (.iload 4, 2) := by decide +kernel
theorem dL_law_193 : decode cL_law 193 = .ok (.iconst 2, 1) := by decide +kernel
theorem dL_law_194 : decode cL_law 194 = .ok (.iadd, 1) := by decide +kernel
theorem dL_law_195 : decode cL_law 195 = .ok (.iaload, 1) := by decide +kernel
theorem dL_law_196 : decode cL_law 196 = .ok (.aload_n 0, 1) := by decide +kernel
theorem dL_law_197 : decode cL_law 197 = .ok (.iload 4, 2) := by decide +kernel
theorem dL_law_199 : decode cL_law 199 = .ok (.iconst 3, 1) := by decide +kernel
theorem dL_law_200 : decode cL_law 200 = .ok (.iadd, 1) := by decide +kernel
theorem dL_law_201 : decode cL_law 201 = .ok (.iaload, 1) := by decide +kernel
theorem dL_law_202 : decode cL_law 202 = .ok (.invokevirtual 99, 3) := by decide +kernel
theorem dL_law_205 : decode cL_law 205 = .ok (.istore 6, 2) := by decide +kernel
theorem dL_law_207 : decode cL_law 207 = .ok (.aload_n 2, 1) := by decide +kernel
theorem dL_law_208 : decode cL_law 208 = .ok (.invokevirtual 100, 3) := by decide +kernel
theorem dL_law_211 : decode cL_law 211 = .ok (.iload 5, 2) := by decide +kernel
theorem dL_law_213 : decode cL_law 213 = .ok (.if_icmp .eq 5, 3) := by decide +kernel
theorem dL_law_216 : decode cL_law 216 = .ok (.iconst 0, 1) := by decide +kernel
theorem dL_law_217 : decode cL_law 217 = .ok (.ireturn, 1) := by decide +kernel
theorem dL_law_218 : decode cL_law 218 = .ok (.iload 5, 2) := by decide +kernel
theorem dL_law_220 : decode cL_law 220 = .ok (.ifCond .ne 15, 3) := by decide +kernel
theorem dL_law_223 : decode cL_law 223 = .ok (.aload_n 3, 1) := by decide +kernel
theorem dL_law_224 : decode cL_law 224 = .ok (.iconst 0, 1) := by decide +kernel
theorem dL_law_225 : decode cL_law 225 = .ok (.laload, 1) := by decide +kernel
theorem dL_law_226 : decode cL_law 226 = .ok (.iload 6, 2) := by decide +kernel
theorem dL_law_228 : decode cL_law 228 = .ok (.i2l, 1) := by decide +kernel
theorem dL_law_229 : decode cL_law 229 = .ok (.lcmp, 1) := by decide +kernel
theorem dL_law_230 : decode cL_law 230 = .ok (.ifCond .eq 5, 3) := by decide +kernel
theorem dL_law_233 : decode cL_law 233 = .ok (.iconst 0, 1) := by decide +kernel
theorem dL_law_234 : decode cL_law 234 = .ok (.ireturn, 1) := by decide +kernel
theorem dL_law_235 : decode cL_law 235 = .ok (.goto 1176, 3) := by decide +kernel
theorem dL_law_238 : decode cL_law 238 = .ok (.aload_n 1, 1) := by decide +kernel
theorem dL_law_239 : decode cL_law 239 = .ok (.aload_n 0, 1) := by decide +kernel
theorem dL_law_240 : decode cL_law 240 = .ok (.iload 4, 2) := by decide +kernel
theorem dL_law_242 : decode cL_law 242 = .ok (.iconst 1, 1) := by decide +kernel
theorem dL_law_243 : decode cL_law 243 = .ok (.iadd, 1) := by decide +kernel
theorem dL_law_244 : decode cL_law 244 = .ok (.iaload, 1) := by decide +kernel
theorem dL_law_245 : decode cL_law 245 = .ok (.aload_n 0, 1) := by decide +kernel
theorem dL_law_246 : decode cL_law 246 = .ok (.iload 4, 2) := by decide +kernel
theorem dL_law_248 : decode cL_law 248 = .ok (.iconst 2, 1) := by decide +kernel
theorem dL_law_249 : decode cL_law 249 = .ok (.iadd, 1) := by decide +kernel
theorem dL_law_250 : decode cL_law 250 = .ok (.iaload, 1) := by decide +kernel
theorem dL_law_251 : decode cL_law 251 = .ok (.invokestatic 103, 3) := by decide +kernel
theorem dL_law_254 : decode cL_law 254 = .ok (.istore 5, 2) := by decide +kernel
theorem dL_law_256 : decode cL_law 256 = .ok (.aload_n 2, 1) := by decide +kernel
theorem dL_law_257 : decode cL_law 257 = .ok (.aload_n 0, 1) := by decide +kernel
theorem dL_law_258 : decode cL_law 258 = .ok (.iload 4, 2) := by decide +kernel
theorem dL_law_260 : decode cL_law 260 = .ok (.iconst 1, 1) := by decide +kernel
theorem dL_law_261 : decode cL_law 261 = .ok (.iadd, 1) := by decide +kernel
theorem dL_law_262 : decode cL_law 262 = .ok (.iaload, 1) := by decide +kernel
theorem dL_law_263 : decode cL_law 263 = .ok (.aload_n 0, 1) := by decide +kernel
theorem dL_law_264 : decode cL_law 264 = .ok (.iload 4, 2) := by decide +kernel
theorem dL_law_266 : decode cL_law 266 = .ok (.iconst 2, 1) := by decide +kernel
theorem dL_law_267 : decode cL_law 267 = .ok (.iadd, 1) := by decide +kernel
theorem dL_law_268 : decode cL_law 268 = .ok (.iaload, 1) := by decide +kernel
theorem dL_law_269 : decode cL_law 269 = .ok (.invokevirtual 106, 3) := by decide +kernel
theorem dL_law_272 : decode cL_law 272 = .ok (.aload_n 2, 1) := by decide +kernel
theorem dL_law_273 : decode cL_law 273 = .ok (.invokevirtual 100, 3) := by decide +kernel
theorem dL_law_276 : decode cL_law 276 = .ok (.iload 5, 2) := by decide +kernel
theorem dL_law_278 : decode cL_law 278 = .ok (.if_icmp .eq 5, 3) := by decide +kernel
theorem dL_law_281 : decode cL_law 281 = .ok (.iconst 0, 1) := by decide +kernel
theorem dL_law_282 : decode cL_law 282 = .ok (.ireturn, 1) := by decide +kernel
theorem dL_law_283 : decode cL_law 283 = .ok (.goto 1128, 3) := by decide +kernel
theorem dL_law_286 : decode cL_law 286 = .ok (.aload_n 1, 1) := by decide +kernel
theorem dL_law_287 : decode cL_law 287 = .ok (.aload_n 3, 1) := by decide +kernel
theorem dL_law_288 : decode cL_law 288 = .ok (.invokestatic 107, 3) := by decide +kernel
theorem dL_law_291 : decode cL_law 291 = .ok (.istore 5, 2) := by decide +kernel
theorem dL_law_293 : decode cL_law 293 = .ok (.aload_n 2, 1) := by decide +kernel
theorem dL_law_294 : decode cL_law 294 = .ok (.invokevirtual 110, 3) := by decide +kernel
theorem dL_law_297 : decode cL_law 297 = .ok (.istore 6, 2) := by decide +kernel
theorem dL_law_299 : decode cL_law 299 = .ok (.aload_n 2, 1) := by decide +kernel
theorem dL_law_300 : decode cL_law 300 = .ok (.invokevirtual 100, 3) := by decide +kernel
theorem dL_law_303 : decode cL_law 303 = .ok (.iload 5, 2) := by decide +kernel
theorem dL_law_305 : decode cL_law 305 = .ok (.if_icmp .eq 5, 3) := by decide +kernel
theorem dL_law_308 : decode cL_law 308 = .ok (.iconst 0, 1) := by decide +kernel
theorem dL_law_309 : decode cL_law 309 = .ok (.ireturn, 1) := by decide +kernel
theorem dL_law_310 : decode cL_law 310 = .ok (.iload 5, 2) := by decide +kernel
theorem dL_law_312 : decode cL_law 312 = .ok (.ifCond .ne 15, 3) := by decide +kernel
theorem dL_law_315 : decode cL_law 315 = .ok (.aload_n 3, 1) := by decide +kernel
theorem dL_law_316 : decode cL_law 316 = .ok (.iconst 0, 1) := by decide +kernel
theorem dL_law_317 : decode cL_law 317 = .ok (.laload, 1) := by decide +kernel
theorem dL_law_318 : decode cL_law 318 = .ok (.iload 6, 2) := by decide +kernel
theorem dL_law_320 : decode cL_law 320 = .ok (.i2l, 1) := by decide +kernel
theorem dL_law_321 : decode cL_law 321 = .ok (.lcmp, 1) := by decide +kernel
theorem dL_law_322 : decode cL_law 322 = .ok (.ifCond .eq 5, 3) := by decide +kernel
theorem dL_law_325 : decode cL_law 325 = .ok (.iconst 0, 1) := by decide +kernel
theorem dL_law_326 : decode cL_law 326 = .ok (.ireturn, 1) := by decide +kernel
theorem dL_law_327 : decode cL_law 327 = .ok (.goto 1084, 3) := by decide +kernel
theorem dL_law_330 : decode cL_law 330 = .ok (.aload_n 1, 1) := by decide +kernel
theorem dL_law_331 : decode cL_law 331 = .ok (.invokevirtual 111, 3) := by decide +kernel
theorem dL_law_334 : decode cL_law 334 = .ok (.aload_n 2, 1) := by decide +kernel
theorem dL_law_335 : decode cL_law 335 = .ok (.invokevirtual 114, 3) := by decide +kernel
theorem dL_law_338 : decode cL_law 338 = .ok (.goto 1073, 3) := by decide +kernel
theorem dL_law_341 : decode cL_law 341 = .ok (.aload_n 1, 1) := by decide +kernel
theorem dL_law_342 : decode cL_law 342 = .ok (.invokevirtual 115, 3) := by decide +kernel
theorem dL_law_345 : decode cL_law 345 = .ok (.aload_n 2, 1) := by decide +kernel
theorem dL_law_346 : decode cL_law 346 = .ok (.invokevirtual 118, 3) := by decide +kernel
theorem dL_law_349 : decode cL_law 349 = .ok (.if_icmp .eq 1062, 3) := by decide +kernel
theorem dL_law_352 : decode cL_law 352 = .ok (.iconst 0, 1) := by decide +kernel
theorem dL_law_353 : decode cL_law 353 = .ok (.ireturn, 1) := by decide +kernel
theorem dL_law_354 : decode cL_law 354 = .ok (.aload_n 1, 1) := by decide +kernel
theorem dL_law_355 : decode cL_law 355 = .ok (.aload_n 0, 1) := by decide +kernel
theorem dL_law_356 : decode cL_law 356 = .ok (.iload 4, 2) := by decide +kernel
theorem dL_law_358 : decode cL_law 358 = .ok (.iconst 1, 1) := by decide +kernel
theorem dL_law_359 : decode cL_law 359 = .ok (.iadd, 1) := by decide +kernel
theorem dL_law_360 : decode cL_law 360 = .ok (.iaload, 1) := by decide +kernel
theorem dL_law_361 : decode cL_law 361 = .ok (.i2c, 1) := by decide +kernel
theorem dL_law_362 : decode cL_law 362 = .ok (.aload_n 3, 1) := by decide +kernel
theorem dL_law_363 : decode cL_law 363 = .ok (.invokestatic 119, 3) := by decide +kernel
theorem dL_law_366 : decode cL_law 366 = .ok (.istore 5, 2) := by decide +kernel
theorem dL_law_368 : decode cL_law 368 = .ok (.aload_n 2, 1) := by decide +kernel
theorem dL_law_369 : decode cL_law 369 = .ok (.aload_n 0, 1) := by decide +kernel
theorem dL_law_370 : decode cL_law 370 = .ok (.iload 4, 2) := by decide +kernel
theorem dL_law_372 : decode cL_law 372 = .ok (.iconst 1, 1) := by decide +kernel
theorem dL_law_373 : decode cL_law 373 = .ok (.iadd, 1) := by decide +kernel
theorem dL_law_374 : decode cL_law 374 = .ok (.iaload, 1) := by decide +kernel
theorem dL_law_375 : decode cL_law 375 = .ok (.i2c, 1) := by decide +kernel
theorem dL_law_376 : decode cL_law 376 = .ok (.invokevirtual 122, 3) := by decide +kernel
theorem dL_law_379 : decode cL_law 379 = .ok (.istore 6, 2) := by decide +kernel
theorem dL_law_381 : decode cL_law 381 = .ok (.aload_n 2, 1) := by decide +kernel
theorem dL_law_382 : decode cL_law 382 = .ok (.invokevirtual 100, 3) := by decide +kernel
theorem dL_law_385 : decode cL_law 385 = .ok (.iload 5, 2) := by decide +kernel
theorem dL_law_387 : decode cL_law 387 = .ok (.if_icmp .eq 5, 3) := by decide +kernel
theorem dL_law_390 : decode cL_law 390 = .ok (.iconst 0, 1) := by decide +kernel
theorem dL_law_391 : decode cL_law 391 = .ok (.ireturn, 1) := by decide +kernel
theorem dL_law_392 : decode cL_law 392 = .ok (.iload 5, 2) := by decide +kernel
theorem dL_law_394 : decode cL_law 394 = .ok (.ifCond .ne 15, 3) := by decide +kernel
theorem dL_law_397 : decode cL_law 397 = .ok (.aload_n 3, 1) := by decide +kernel
theorem dL_law_398 : decode cL_law 398 = .ok (.iconst 0, 1) := by decide +kernel
theorem dL_law_399 : decode cL_law 399 = .ok (.laload, 1) := by decide +kernel
theorem dL_law_400 : decode cL_law 400 = .ok (.iload 6, 2) := by decide +kernel
theorem dL_law_402 : decode cL_law 402 = .ok (.i2l, 1) := by decide +kernel
theorem dL_law_403 : decode cL_law 403 = .ok (.lcmp, 1) := by decide +kernel
theorem dL_law_404 : decode cL_law 404 = .ok (.ifCond .eq 5, 3) := by decide +kernel
theorem dL_law_407 : decode cL_law 407 = .ok (.iconst 0, 1) := by decide +kernel
theorem dL_law_408 : decode cL_law 408 = .ok (.ireturn, 1) := by decide +kernel
theorem dL_law_409 : decode cL_law 409 = .ok (.goto 1002, 3) := by decide +kernel
theorem dL_law_412 : decode cL_law 412 = .ok (.aload_n 1, 1) := by decide +kernel
theorem dL_law_413 : decode cL_law 413 = .ok (.invokevirtual 123, 3) := by decide +kernel
theorem dL_law_416 : decode cL_law 416 = .ok (.aload_n 2, 1) := by decide +kernel
theorem dL_law_417 : decode cL_law 417 = .ok (.invokevirtual 126, 3) := by decide +kernel
theorem dL_law_420 : decode cL_law 420 = .ok (.if_icmp .eq 991, 3) := by decide +kernel
theorem dL_law_423 : decode cL_law 423 = .ok (.iconst 0, 1) := by decide +kernel
theorem dL_law_424 : decode cL_law 424 = .ok (.ireturn, 1) := by decide +kernel
theorem dL_law_425 : decode cL_law 425 = .ok (.aload_n 1, 1) := by decide +kernel
theorem dL_law_426 : decode cL_law 426 = .ok (.invokevirtual 127, 3) := by decide +kernel
theorem dL_law_429 : decode cL_law 429 = .ok (.aload_n 2, 1) := by decide +kernel
theorem dL_law_430 : decode cL_law 430 = .ok (.invokevirtual 130, 3) := by decide +kernel
theorem dL_law_433 : decode cL_law 433 = .ok (.if_icmp .eq 978, 3) := by decide +kernel
theorem dL_law_436 : decode cL_law 436 = .ok (.iconst 0, 1) := by decide +kernel
theorem dL_law_437 : decode cL_law 437 = .ok (.ireturn, 1) := by decide +kernel
theorem dL_law_438 : decode cL_law 438 = .ok (.aload_n 1, 1) := by decide +kernel
theorem dL_law_439 : decode cL_law 439 = .ok (.aload_n 3, 1) := by decide +kernel
theorem dL_law_440 : decode cL_law 440 = .ok (.invokestatic 131, 3) := by decide +kernel
theorem dL_law_443 : decode cL_law 443 = .ok (.istore 5, 2) := by decide +kernel
theorem dL_law_445 : decode cL_law 445 = .ok (.aload_n 2, 1) := by decide +kernel
theorem dL_law_446 : decode cL_law 446 = .ok (.invokevirtual 133, 3) := by decide +kernel
theorem dL_law_449 : decode cL_law 449 = .ok (.istore 6, 2) := by decide +kernel
theorem dL_law_451 : decode cL_law 451 = .ok (.aload_n 2, 1) := by decide +kernel
theorem dL_law_452 : decode cL_law 452 = .ok (.invokevirtual 100, 3) := by decide +kernel
theorem dL_law_455 : decode cL_law 455 = .ok (.iload 5, 2) := by decide +kernel
theorem dL_law_457 : decode cL_law 457 = .ok (.if_icmp .eq 5, 3) := by decide +kernel
theorem dL_law_460 : decode cL_law 460 = .ok (.iconst 0, 1) := by decide +kernel
theorem dL_law_461 : decode cL_law 461 = .ok (.ireturn, 1) := by decide +kernel
theorem dL_law_462 : decode cL_law 462 = .ok (.iload 5, 2) := by decide +kernel
theorem dL_law_464 : decode cL_law 464 = .ok (.ifCond .ne 15, 3) := by decide +kernel
theorem dL_law_467 : decode cL_law 467 = .ok (.aload_n 3, 1) := by decide +kernel
theorem dL_law_468 : decode cL_law 468 = .ok (.iconst 0, 1) := by decide +kernel
theorem dL_law_469 : decode cL_law 469 = .ok (.laload, 1) := by decide +kernel
theorem dL_law_470 : decode cL_law 470 = .ok (.iload 6, 2) := by decide +kernel
theorem dL_law_472 : decode cL_law 472 = .ok (.i2l, 1) := by decide +kernel
theorem dL_law_473 : decode cL_law 473 = .ok (.lcmp, 1) := by decide +kernel
theorem dL_law_474 : decode cL_law 474 = .ok (.ifCond .eq 5, 3) := by decide +kernel
theorem dL_law_477 : decode cL_law 477 = .ok (.iconst 0, 1) := by decide +kernel
theorem dL_law_478 : decode cL_law 478 = .ok (.ireturn, 1) := by decide +kernel
theorem dL_law_479 : decode cL_law 479 = .ok (.goto 932, 3) := by decide +kernel
theorem dL_law_482 : decode cL_law 482 = .ok (.aload_n 1, 1) := by decide +kernel
theorem dL_law_483 : decode cL_law 483 = .ok (.aload_n 0, 1) := by decide +kernel
theorem dL_law_484 : decode cL_law 484 = .ok (.iload 4, 2) := by decide +kernel
theorem dL_law_486 : decode cL_law 486 = .ok (.iconst 1, 1) := by decide +kernel
theorem dL_law_487 : decode cL_law 487 = .ok (.iadd, 1) := by decide +kernel
theorem dL_law_488 : decode cL_law 488 = .ok (.iaload, 1) := by decide +kernel
theorem dL_law_489 : decode cL_law 489 = .ok (.aload_n 3, 1) := by decide +kernel
theorem dL_law_490 : decode cL_law 490 = .ok (.invokestatic 134, 3) := by decide +kernel
theorem dL_law_493 : decode cL_law 493 = .ok (.istore 5, 2) := by decide +kernel
theorem dL_law_495 : decode cL_law 495 = .ok (.aload_n 2, 1) := by decide +kernel
theorem dL_law_496 : decode cL_law 496 = .ok (.aload_n 0, 1) := by decide +kernel
theorem dL_law_497 : decode cL_law 497 = .ok (.iload 4, 2) := by decide +kernel
theorem dL_law_499 : decode cL_law 499 = .ok (.iconst 1, 1) := by decide +kernel
theorem dL_law_500 : decode cL_law 500 = .ok (.iadd, 1) := by decide +kernel
theorem dL_law_501 : decode cL_law 501 = .ok (.iaload, 1) := by decide +kernel
theorem dL_law_502 : decode cL_law 502 = .ok (.invokevirtual 137, 3) := by decide +kernel
theorem dL_law_505 : decode cL_law 505 = .ok (.istore 6, 2) := by decide +kernel
theorem dL_law_507 : decode cL_law 507 = .ok (.aload_n 2, 1) := by decide +kernel
theorem dL_law_508 : decode cL_law 508 = .ok (.invokevirtual 100, 3) := by decide +kernel
theorem dL_law_511 : decode cL_law 511 = .ok (.iload 5, 2) := by decide +kernel
theorem dL_law_513 : decode cL_law 513 = .ok (.if_icmp .eq 5, 3) := by decide +kernel
theorem dL_law_516 : decode cL_law 516 = .ok (.iconst 0, 1) := by decide +kernel
theorem dL_law_517 : decode cL_law 517 = .ok (.ireturn, 1) := by decide +kernel
theorem dL_law_518 : decode cL_law 518 = .ok (.iload 5, 2) := by decide +kernel
theorem dL_law_520 : decode cL_law 520 = .ok (.ifCond .ne 15, 3) := by decide +kernel
theorem dL_law_523 : decode cL_law 523 = .ok (.aload_n 3, 1) := by decide +kernel
theorem dL_law_524 : decode cL_law 524 = .ok (.iconst 0, 1) := by decide +kernel
theorem dL_law_525 : decode cL_law 525 = .ok (.laload, 1) := by decide +kernel
theorem dL_law_526 : decode cL_law 526 = .ok (.iload 6, 2) := by decide +kernel
theorem dL_law_528 : decode cL_law 528 = .ok (.i2l, 1) := by decide +kernel
theorem dL_law_529 : decode cL_law 529 = .ok (.lcmp, 1) := by decide +kernel
theorem dL_law_530 : decode cL_law 530 = .ok (.ifCond .eq 5, 3) := by decide +kernel
theorem dL_law_533 : decode cL_law 533 = .ok (.iconst 0, 1) := by decide +kernel
theorem dL_law_534 : decode cL_law 534 = .ok (.ireturn, 1) := by decide +kernel
theorem dL_law_535 : decode cL_law 535 = .ok (.goto 876, 3) := by decide +kernel
theorem dL_law_538 : decode cL_law 538 = .ok (.aload_n 1, 1) := by decide +kernel
theorem dL_law_539 : decode cL_law 539 = .ok (.aload_n 0, 1) := by decide +kernel
theorem dL_law_540 : decode cL_law 540 = .ok (.iload 4, 2) := by decide +kernel
theorem dL_law_542 : decode cL_law 542 = .ok (.iconst 1, 1) := by decide +kernel
theorem dL_law_543 : decode cL_law 543 = .ok (.iadd, 1) := by decide +kernel
theorem dL_law_544 : decode cL_law 544 = .ok (.iaload, 1) := by decide +kernel
theorem dL_law_545 : decode cL_law 545 = .ok (.aload_n 3, 1) := by decide +kernel
theorem dL_law_546 : decode cL_law 546 = .ok (.invokestatic 138, 3) := by decide +kernel
theorem dL_law_549 : decode cL_law 549 = .ok (.istore 5, 2) := by decide +kernel
theorem dL_law_551 : decode cL_law 551 = .ok (.aload_n 2, 1) := by decide +kernel
theorem dL_law_552 : decode cL_law 552 = .ok (.aload_n 0, 1) := by decide +kernel
theorem dL_law_553 : decode cL_law 553 = .ok (.iload 4, 2) := by decide +kernel
theorem dL_law_555 : decode cL_law 555 = .ok (.iconst 1, 1) := by decide +kernel
theorem dL_law_556 : decode cL_law 556 = .ok (.iadd, 1) := by decide +kernel
theorem dL_law_557 : decode cL_law 557 = .ok (.iaload, 1) := by decide +kernel
theorem dL_law_558 : decode cL_law 558 = .ok (.invokevirtual 140, 3) := by decide +kernel
theorem dL_law_561 : decode cL_law 561 = .ok (.istore 6, 2) := by decide +kernel
theorem dL_law_563 : decode cL_law 563 = .ok (.aload_n 2, 1) := by decide +kernel
theorem dL_law_564 : decode cL_law 564 = .ok (.invokevirtual 100, 3) := by decide +kernel
theorem dL_law_567 : decode cL_law 567 = .ok (.iload 5, 2) := by decide +kernel
theorem dL_law_569 : decode cL_law 569 = .ok (.if_icmp .eq 5, 3) := by decide +kernel
theorem dL_law_572 : decode cL_law 572 = .ok (.iconst 0, 1) := by decide +kernel
theorem dL_law_573 : decode cL_law 573 = .ok (.ireturn, 1) := by decide +kernel
theorem dL_law_574 : decode cL_law 574 = .ok (.iload 5, 2) := by decide +kernel
theorem dL_law_576 : decode cL_law 576 = .ok (.ifCond .ne 15, 3) := by decide +kernel
theorem dL_law_579 : decode cL_law 579 = .ok (.aload_n 3, 1) := by decide +kernel
theorem dL_law_580 : decode cL_law 580 = .ok (.iconst 0, 1) := by decide +kernel
theorem dL_law_581 : decode cL_law 581 = .ok (.laload, 1) := by decide +kernel
theorem dL_law_582 : decode cL_law 582 = .ok (.iload 6, 2) := by decide +kernel
theorem dL_law_584 : decode cL_law 584 = .ok (.i2l, 1) := by decide +kernel
theorem dL_law_585 : decode cL_law 585 = .ok (.lcmp, 1) := by decide +kernel
theorem dL_law_586 : decode cL_law 586 = .ok (.ifCond .eq 5, 3) := by decide +kernel
theorem dL_law_589 : decode cL_law 589 = .ok (.iconst 0, 1) := by decide +kernel
theorem dL_law_590 : decode cL_law 590 = .ok (.ireturn, 1) := by decide +kernel
theorem dL_law_591 : decode cL_law 591 = .ok (.goto 820, 3) := by decide +kernel
theorem dL_law_594 : decode cL_law 594 = .ok (.aload_n 1, 1) := by decide +kernel
theorem dL_law_595 : decode cL_law 595 = .ok (.aload_n 3, 1) := by decide +kernel
theorem dL_law_596 : decode cL_law 596 = .ok (.invokestatic 141, 3) := by decide +kernel
theorem dL_law_599 : decode cL_law 599 = .ok (.istore 5, 2) := by decide +kernel
theorem dL_law_601 : decode cL_law 601 = .ok (.aload_n 2, 1) := by decide +kernel
theorem dL_law_602 : decode cL_law 602 = .ok (.invokevirtual 143, 3) := by decide +kernel
theorem dL_law_605 : decode cL_law 605 = .ok (.istore 6, 2) := by decide +kernel
theorem dL_law_607 : decode cL_law 607 = .ok (.aload_n 2, 1) := by decide +kernel
theorem dL_law_608 : decode cL_law 608 = .ok (.invokevirtual 100, 3) := by decide +kernel
theorem dL_law_611 : decode cL_law 611 = .ok (.iload 5, 2) := by decide +kernel
theorem dL_law_613 : decode cL_law 613 = .ok (.if_icmp .eq 5, 3) := by decide +kernel
theorem dL_law_616 : decode cL_law 616 = .ok (.iconst 0, 1) := by decide +kernel
theorem dL_law_617 : decode cL_law 617 = .ok (.ireturn, 1) := by decide +kernel
theorem dL_law_618 : decode cL_law 618 = .ok (.iload 5, 2) := by decide +kernel
theorem dL_law_620 : decode cL_law 620 = .ok (.ifCond .ne 15, 3) := by decide +kernel
theorem dL_law_623 : decode cL_law 623 = .ok (.aload_n 3, 1) := by decide +kernel
theorem dL_law_624 : decode cL_law 624 = .ok (.iconst 0, 1) := by decide +kernel
theorem dL_law_625 : decode cL_law 625 = .ok (.laload, 1) := by decide +kernel
theorem dL_law_626 : decode cL_law 626 = .ok (.iload 6, 2) := by decide +kernel
theorem dL_law_628 : decode cL_law 628 = .ok (.i2l, 1) := by decide +kernel
theorem dL_law_629 : decode cL_law 629 = .ok (.lcmp, 1) := by decide +kernel
theorem dL_law_630 : decode cL_law 630 = .ok (.ifCond .eq 5, 3) := by decide +kernel
theorem dL_law_633 : decode cL_law 633 = .ok (.iconst 0, 1) := by decide +kernel
theorem dL_law_634 : decode cL_law 634 = .ok (.ireturn, 1) := by decide +kernel
theorem dL_law_635 : decode cL_law 635 = .ok (.goto 776, 3) := by decide +kernel
theorem dL_law_638 : decode cL_law 638 = .ok (.aload_n 1, 1) := by decide +kernel
theorem dL_law_639 : decode cL_law 639 = .ok (.aload_n 3, 1) := by decide +kernel
theorem dL_law_640 : decode cL_law 640 = .ok (.invokestatic 144, 3) := by decide +kernel
theorem dL_law_643 : decode cL_law 643 = .ok (.istore 5, 2) := by decide +kernel
theorem dL_law_645 : decode cL_law 645 = .ok (.aload_n 2, 1) := by decide +kernel
theorem dL_law_646 : decode cL_law 646 = .ok (.invokevirtual 146, 3) := by decide +kernel
theorem dL_law_649 : decode cL_law 649 = .ok (.istore 6, 2) := by decide +kernel
theorem dL_law_651 : decode cL_law 651 = .ok (.aload_n 2, 1) := by decide +kernel
theorem dL_law_652 : decode cL_law 652 = .ok (.invokevirtual 100, 3) := by decide +kernel
theorem dL_law_655 : decode cL_law 655 = .ok (.iload 5, 2) := by decide +kernel
theorem dL_law_657 : decode cL_law 657 = .ok (.if_icmp .eq 5, 3) := by decide +kernel
theorem dL_law_660 : decode cL_law 660 = .ok (.iconst 0, 1) := by decide +kernel
theorem dL_law_661 : decode cL_law 661 = .ok (.ireturn, 1) := by decide +kernel
theorem dL_law_662 : decode cL_law 662 = .ok (.iload 5, 2) := by decide +kernel
theorem dL_law_664 : decode cL_law 664 = .ok (.ifCond .ne 15, 3) := by decide +kernel
theorem dL_law_667 : decode cL_law 667 = .ok (.aload_n 3, 1) := by decide +kernel
theorem dL_law_668 : decode cL_law 668 = .ok (.iconst 0, 1) := by decide +kernel
theorem dL_law_669 : decode cL_law 669 = .ok (.laload, 1) := by decide +kernel
theorem dL_law_670 : decode cL_law 670 = .ok (.iload 6, 2) := by decide +kernel
theorem dL_law_672 : decode cL_law 672 = .ok (.i2l, 1) := by decide +kernel
theorem dL_law_673 : decode cL_law 673 = .ok (.lcmp, 1) := by decide +kernel
theorem dL_law_674 : decode cL_law 674 = .ok (.ifCond .eq 5, 3) := by decide +kernel
theorem dL_law_677 : decode cL_law 677 = .ok (.iconst 0, 1) := by decide +kernel
theorem dL_law_678 : decode cL_law 678 = .ok (.ireturn, 1) := by decide +kernel
theorem dL_law_679 : decode cL_law 679 = .ok (.goto 732, 3) := by decide +kernel
theorem dL_law_682 : decode cL_law 682 = .ok (.aload_n 1, 1) := by decide +kernel
theorem dL_law_683 : decode cL_law 683 = .ok (.aload_n 0, 1) := by decide +kernel
theorem dL_law_684 : decode cL_law 684 = .ok (.iload 4, 2) := by decide +kernel
theorem dL_law_686 : decode cL_law 686 = .ok (.iconst 1, 1) := by decide +kernel
theorem dL_law_687 : decode cL_law 687 = .ok (.iadd, 1) := by decide +kernel
theorem dL_law_688 : decode cL_law 688 = .ok (.iaload, 1) := by decide +kernel
theorem dL_law_689 : decode cL_law 689 = .ok (.aload_n 3, 1) := by decide +kernel
theorem dL_law_690 : decode cL_law 690 = .ok (.invokestatic 147, 3) := by decide +kernel
theorem dL_law_693 : decode cL_law 693 = .ok (.istore 5, 2) := by decide +kernel
theorem dL_law_695 : decode cL_law 695 = .ok (.aload_n 2, 1) := by decide +kernel
theorem dL_law_696 : decode cL_law 696 = .ok (.aload_n 0, 1) := by decide +kernel
theorem dL_law_697 : decode cL_law 697 = .ok (.iload 4, 2) := by decide +kernel
theorem dL_law_699 : decode cL_law 699 = .ok (.iconst 1, 1) := by decide +kernel
theorem dL_law_700 : decode cL_law 700 = .ok (.iadd, 1) := by decide +kernel
theorem dL_law_701 : decode cL_law 701 = .ok (.iaload, 1) := by decide +kernel
theorem dL_law_702 : decode cL_law 702 = .ok (.invokevirtual 149, 3) := by decide +kernel
theorem dL_law_705 : decode cL_law 705 = .ok (.istore 6, 2) := by decide +kernel
theorem dL_law_707 : decode cL_law 707 = .ok (.aload_n 2, 1) := by decide +kernel
theorem dL_law_708 : decode cL_law 708 = .ok (.invokevirtual 100, 3) := by decide +kernel
theorem dL_law_711 : decode cL_law 711 = .ok (.iload 5, 2) := by decide +kernel
theorem dL_law_713 : decode cL_law 713 = .ok (.if_icmp .eq 5, 3) := by decide +kernel
theorem dL_law_716 : decode cL_law 716 = .ok (.iconst 0, 1) := by decide +kernel
theorem dL_law_717 : decode cL_law 717 = .ok (.ireturn, 1) := by decide +kernel
theorem dL_law_718 : decode cL_law 718 = .ok (.iload 5, 2) := by decide +kernel
theorem dL_law_720 : decode cL_law 720 = .ok (.ifCond .ne 15, 3) := by decide +kernel
theorem dL_law_723 : decode cL_law 723 = .ok (.aload_n 3, 1) := by decide +kernel
theorem dL_law_724 : decode cL_law 724 = .ok (.iconst 0, 1) := by decide +kernel
theorem dL_law_725 : decode cL_law 725 = .ok (.laload, 1) := by decide +kernel
theorem dL_law_726 : decode cL_law 726 = .ok (.iload 6, 2) := by decide +kernel
theorem dL_law_728 : decode cL_law 728 = .ok (.i2l, 1) := by decide +kernel
theorem dL_law_729 : decode cL_law 729 = .ok (.lcmp, 1) := by decide +kernel
theorem dL_law_730 : decode cL_law 730 = .ok (.ifCond .eq 5, 3) := by decide +kernel
theorem dL_law_733 : decode cL_law 733 = .ok (.iconst 0, 1) := by decide +kernel
theorem dL_law_734 : decode cL_law 734 = .ok (.ireturn, 1) := by decide +kernel
theorem dL_law_735 : decode cL_law 735 = .ok (.goto 676, 3) := by decide +kernel
theorem dL_law_738 : decode cL_law 738 = .ok (.aload_n 1, 1) := by decide +kernel
theorem dL_law_739 : decode cL_law 739 = .ok (.aload_n 0, 1) := by decide +kernel
theorem dL_law_740 : decode cL_law 740 = .ok (.iload 4, 2) := by decide +kernel
theorem dL_law_742 : decode cL_law 742 = .ok (.iconst 1, 1) := by decide +kernel
theorem dL_law_743 : decode cL_law 743 = .ok (.iadd, 1) := by decide +kernel
theorem dL_law_744 : decode cL_law 744 = .ok (.iaload, 1) := by decide +kernel
theorem dL_law_745 : decode cL_law 745 = .ok (.aload_n 3, 1) := by decide +kernel
theorem dL_law_746 : decode cL_law 746 = .ok (.invokestatic 150, 3) := by decide +kernel
theorem dL_law_749 : decode cL_law 749 = .ok (.istore 5, 2) := by decide +kernel
theorem dL_law_751 : decode cL_law 751 = .ok (.aload_n 2, 1) := by decide +kernel
theorem dL_law_752 : decode cL_law 752 = .ok (.aload_n 0, 1) := by decide +kernel
theorem dL_law_753 : decode cL_law 753 = .ok (.iload 4, 2) := by decide +kernel
theorem dL_law_755 : decode cL_law 755 = .ok (.iconst 1, 1) := by decide +kernel
theorem dL_law_756 : decode cL_law 756 = .ok (.iadd, 1) := by decide +kernel
theorem dL_law_757 : decode cL_law 757 = .ok (.iaload, 1) := by decide +kernel
theorem dL_law_758 : decode cL_law 758 = .ok (.invokevirtual 152, 3) := by decide +kernel
theorem dL_law_761 : decode cL_law 761 = .ok (.istore 6, 2) := by decide +kernel
theorem dL_law_763 : decode cL_law 763 = .ok (.aload_n 2, 1) := by decide +kernel
theorem dL_law_764 : decode cL_law 764 = .ok (.invokevirtual 100, 3) := by decide +kernel
theorem dL_law_767 : decode cL_law 767 = .ok (.iload 5, 2) := by decide +kernel
theorem dL_law_769 : decode cL_law 769 = .ok (.if_icmp .eq 5, 3) := by decide +kernel
theorem dL_law_772 : decode cL_law 772 = .ok (.iconst 0, 1) := by decide +kernel
theorem dL_law_773 : decode cL_law 773 = .ok (.ireturn, 1) := by decide +kernel
theorem dL_law_774 : decode cL_law 774 = .ok (.iload 5, 2) := by decide +kernel
theorem dL_law_776 : decode cL_law 776 = .ok (.ifCond .ne 15, 3) := by decide +kernel
theorem dL_law_779 : decode cL_law 779 = .ok (.aload_n 3, 1) := by decide +kernel
theorem dL_law_780 : decode cL_law 780 = .ok (.iconst 0, 1) := by decide +kernel
theorem dL_law_781 : decode cL_law 781 = .ok (.laload, 1) := by decide +kernel
theorem dL_law_782 : decode cL_law 782 = .ok (.iload 6, 2) := by decide +kernel
theorem dL_law_784 : decode cL_law 784 = .ok (.i2l, 1) := by decide +kernel
theorem dL_law_785 : decode cL_law 785 = .ok (.lcmp, 1) := by decide +kernel
theorem dL_law_786 : decode cL_law 786 = .ok (.ifCond .eq 5, 3) := by decide +kernel
theorem dL_law_789 : decode cL_law 789 = .ok (.iconst 0, 1) := by decide +kernel
theorem dL_law_790 : decode cL_law 790 = .ok (.ireturn, 1) := by decide +kernel
theorem dL_law_791 : decode cL_law 791 = .ok (.goto 620, 3) := by decide +kernel
theorem dL_law_794 : decode cL_law 794 = .ok (.aload_n 1, 1) := by decide +kernel
theorem dL_law_795 : decode cL_law 795 = .ok (.aload_n 0, 1) := by decide +kernel
theorem dL_law_796 : decode cL_law 796 = .ok (.iload 4, 2) := by decide +kernel
theorem dL_law_798 : decode cL_law 798 = .ok (.iconst 1, 1) := by decide +kernel
theorem dL_law_799 : decode cL_law 799 = .ok (.iadd, 1) := by decide +kernel
theorem dL_law_800 : decode cL_law 800 = .ok (.iaload, 1) := by decide +kernel
theorem dL_law_801 : decode cL_law 801 = .ok (.aload_n 0, 1) := by decide +kernel
theorem dL_law_802 : decode cL_law 802 = .ok (.iload 4, 2) := by decide +kernel
theorem dL_law_804 : decode cL_law 804 = .ok (.iconst 2, 1) := by decide +kernel
theorem dL_law_805 : decode cL_law 805 = .ok (.iadd, 1) := by decide +kernel
theorem dL_law_806 : decode cL_law 806 = .ok (.iaload, 1) := by decide +kernel
theorem dL_law_807 : decode cL_law 807 = .ok (.aload_n 3, 1) := by decide +kernel
theorem dL_law_808 : decode cL_law 808 = .ok (.invokestatic 153, 3) := by decide +kernel
theorem dL_law_811 : decode cL_law 811 = .ok (.istore 5, 2) := by decide +kernel
theorem dL_law_813 : decode cL_law 813 = .ok (.aload_n 2, 1) := by decide +kernel
theorem dL_law_814 : decode cL_law 814 = .ok (.aload_n 0, 1) := by decide +kernel
theorem dL_law_815 : decode cL_law 815 = .ok (.iload 4, 2) := by decide +kernel
theorem dL_law_817 : decode cL_law 817 = .ok (.iconst 1, 1) := by decide +kernel
theorem dL_law_818 : decode cL_law 818 = .ok (.iadd, 1) := by decide +kernel
theorem dL_law_819 : decode cL_law 819 = .ok (.iaload, 1) := by decide +kernel
theorem dL_law_820 : decode cL_law 820 = .ok (.aload_n 0, 1) := by decide +kernel
theorem dL_law_821 : decode cL_law 821 = .ok (.iload 4, 2) := by decide +kernel
theorem dL_law_823 : decode cL_law 823 = .ok (.iconst 2, 1) := by decide +kernel
theorem dL_law_824 : decode cL_law 824 = .ok (.iadd, 1) := by decide +kernel
theorem dL_law_825 : decode cL_law 825 = .ok (.iaload, 1) := by decide +kernel
theorem dL_law_826 : decode cL_law 826 = .ok (.invokevirtual 156, 3) := by decide +kernel
theorem dL_law_829 : decode cL_law 829 = .ok (.istore 6, 2) := by decide +kernel
theorem dL_law_831 : decode cL_law 831 = .ok (.aload_n 2, 1) := by decide +kernel
theorem dL_law_832 : decode cL_law 832 = .ok (.invokevirtual 100, 3) := by decide +kernel
theorem dL_law_835 : decode cL_law 835 = .ok (.iload 5, 2) := by decide +kernel
theorem dL_law_837 : decode cL_law 837 = .ok (.if_icmp .eq 5, 3) := by decide +kernel
theorem dL_law_840 : decode cL_law 840 = .ok (.iconst 0, 1) := by decide +kernel
theorem dL_law_841 : decode cL_law 841 = .ok (.ireturn, 1) := by decide +kernel
theorem dL_law_842 : decode cL_law 842 = .ok (.iload 5, 2) := by decide +kernel
theorem dL_law_844 : decode cL_law 844 = .ok (.ifCond .ne 15, 3) := by decide +kernel
theorem dL_law_847 : decode cL_law 847 = .ok (.aload_n 3, 1) := by decide +kernel
theorem dL_law_848 : decode cL_law 848 = .ok (.iconst 0, 1) := by decide +kernel
theorem dL_law_849 : decode cL_law 849 = .ok (.laload, 1) := by decide +kernel
theorem dL_law_850 : decode cL_law 850 = .ok (.iload 6, 2) := by decide +kernel
theorem dL_law_852 : decode cL_law 852 = .ok (.i2l, 1) := by decide +kernel
theorem dL_law_853 : decode cL_law 853 = .ok (.lcmp, 1) := by decide +kernel
theorem dL_law_854 : decode cL_law 854 = .ok (.ifCond .eq 5, 3) := by decide +kernel
theorem dL_law_857 : decode cL_law 857 = .ok (.iconst 0, 1) := by decide +kernel
theorem dL_law_858 : decode cL_law 858 = .ok (.ireturn, 1) := by decide +kernel
theorem dL_law_859 : decode cL_law 859 = .ok (.goto 552, 3) := by decide +kernel
theorem dL_law_862 : decode cL_law 862 = .ok (.aload_n 1, 1) := by decide +kernel
theorem dL_law_863 : decode cL_law 863 = .ok (.aload_n 0, 1) := by decide +kernel
theorem dL_law_864 : decode cL_law 864 = .ok (.iload 4, 2) := by decide +kernel
theorem dL_law_866 : decode cL_law 866 = .ok (.iconst 1, 1) := by decide +kernel
theorem dL_law_867 : decode cL_law 867 = .ok (.iadd, 1) := by decide +kernel
theorem dL_law_868 : decode cL_law 868 = .ok (.iaload, 1) := by decide +kernel
theorem dL_law_869 : decode cL_law 869 = .ok (.aload_n 0, 1) := by decide +kernel
theorem dL_law_870 : decode cL_law 870 = .ok (.iload 4, 2) := by decide +kernel
theorem dL_law_872 : decode cL_law 872 = .ok (.iconst 2, 1) := by decide +kernel
theorem dL_law_873 : decode cL_law 873 = .ok (.iadd, 1) := by decide +kernel
theorem dL_law_874 : decode cL_law 874 = .ok (.iaload, 1) := by decide +kernel
theorem dL_law_875 : decode cL_law 875 = .ok (.aload_n 0, 1) := by decide +kernel
theorem dL_law_876 : decode cL_law 876 = .ok (.iload 4, 2) := by decide +kernel
theorem dL_law_878 : decode cL_law 878 = .ok (.iconst 3, 1) := by decide +kernel
theorem dL_law_879 : decode cL_law 879 = .ok (.iadd, 1) := by decide +kernel
theorem dL_law_880 : decode cL_law 880 = .ok (.iaload, 1) := by decide +kernel
theorem dL_law_881 : decode cL_law 881 = .ok (.aload_n 3, 1) := by decide +kernel
theorem dL_law_882 : decode cL_law 882 = .ok (.invokestatic 157, 3) := by decide +kernel
theorem dL_law_885 : decode cL_law 885 = .ok (.istore 5, 2) := by decide +kernel
theorem dL_law_887 : decode cL_law 887 = .ok (.aload_n 2, 1) := by decide +kernel
theorem dL_law_888 : decode cL_law 888 = .ok (.aload_n 0, 1) := by decide +kernel
theorem dL_law_889 : decode cL_law 889 = .ok (.iload 4, 2) := by decide +kernel
theorem dL_law_891 : decode cL_law 891 = .ok (.iconst 1, 1) := by decide +kernel
theorem dL_law_892 : decode cL_law 892 = .ok (.iadd, 1) := by decide +kernel
theorem dL_law_893 : decode cL_law 893 = .ok (.iaload, 1) := by decide +kernel
theorem dL_law_894 : decode cL_law 894 = .ok (.aload_n 0, 1) := by decide +kernel
theorem dL_law_895 : decode cL_law 895 = .ok (.iload 4, 2) := by decide +kernel
theorem dL_law_897 : decode cL_law 897 = .ok (.iconst 2, 1) := by decide +kernel
theorem dL_law_898 : decode cL_law 898 = .ok (.iadd, 1) := by decide +kernel
theorem dL_law_899 : decode cL_law 899 = .ok (.iaload, 1) := by decide +kernel
theorem dL_law_900 : decode cL_law 900 = .ok (.aload_n 0, 1) := by decide +kernel
theorem dL_law_901 : decode cL_law 901 = .ok (.iload 4, 2) := by decide +kernel
theorem dL_law_903 : decode cL_law 903 = .ok (.iconst 3, 1) := by decide +kernel
theorem dL_law_904 : decode cL_law 904 = .ok (.iadd, 1) := by decide +kernel
theorem dL_law_905 : decode cL_law 905 = .ok (.iaload, 1) := by decide +kernel
theorem dL_law_906 : decode cL_law 906 = .ok (.invokevirtual 160, 3) := by decide +kernel
theorem dL_law_909 : decode cL_law 909 = .ok (.istore 6, 2) := by decide +kernel
theorem dL_law_911 : decode cL_law 911 = .ok (.aload_n 2, 1) := by decide +kernel
theorem dL_law_912 : decode cL_law 912 = .ok (.invokevirtual 100, 3) := by decide +kernel
theorem dL_law_915 : decode cL_law 915 = .ok (.iload 5, 2) := by decide +kernel
theorem dL_law_917 : decode cL_law 917 = .ok (.if_icmp .eq 5, 3) := by decide +kernel
theorem dL_law_920 : decode cL_law 920 = .ok (.iconst 0, 1) := by decide +kernel
theorem dL_law_921 : decode cL_law 921 = .ok (.ireturn, 1) := by decide +kernel
theorem dL_law_922 : decode cL_law 922 = .ok (.iload 5, 2) := by decide +kernel
theorem dL_law_924 : decode cL_law 924 = .ok (.ifCond .ne 15, 3) := by decide +kernel
theorem dL_law_927 : decode cL_law 927 = .ok (.aload_n 3, 1) := by decide +kernel
theorem dL_law_928 : decode cL_law 928 = .ok (.iconst 0, 1) := by decide +kernel
theorem dL_law_929 : decode cL_law 929 = .ok (.laload, 1) := by decide +kernel
theorem dL_law_930 : decode cL_law 930 = .ok (.iload 6, 2) := by decide +kernel
theorem dL_law_932 : decode cL_law 932 = .ok (.i2l, 1) := by decide +kernel
theorem dL_law_933 : decode cL_law 933 = .ok (.lcmp, 1) := by decide +kernel
theorem dL_law_934 : decode cL_law 934 = .ok (.ifCond .eq 5, 3) := by decide +kernel
theorem dL_law_937 : decode cL_law 937 = .ok (.iconst 0, 1) := by decide +kernel
theorem dL_law_938 : decode cL_law 938 = .ok (.ireturn, 1) := by decide +kernel
theorem dL_law_939 : decode cL_law 939 = .ok (.goto 472, 3) := by decide +kernel
theorem dL_law_942 : decode cL_law 942 = .ok (.aload_n 1, 1) := by decide +kernel
theorem dL_law_943 : decode cL_law 943 = .ok (.aload_n 0, 1) := by decide +kernel
theorem dL_law_944 : decode cL_law 944 = .ok (.iload 4, 2) := by decide +kernel
theorem dL_law_946 : decode cL_law 946 = .ok (.iconst 1, 1) := by decide +kernel
theorem dL_law_947 : decode cL_law 947 = .ok (.iadd, 1) := by decide +kernel
theorem dL_law_948 : decode cL_law 948 = .ok (.iaload, 1) := by decide +kernel
theorem dL_law_949 : decode cL_law 949 = .ok (.aload_n 3, 1) := by decide +kernel
theorem dL_law_950 : decode cL_law 950 = .ok (.invokestatic 161, 3) := by decide +kernel
theorem dL_law_953 : decode cL_law 953 = .ok (.istore 5, 2) := by decide +kernel
theorem dL_law_955 : decode cL_law 955 = .ok (.aload_n 2, 1) := by decide +kernel
theorem dL_law_956 : decode cL_law 956 = .ok (.aload_n 0, 1) := by decide +kernel
theorem dL_law_957 : decode cL_law 957 = .ok (.iload 4, 2) := by decide +kernel
theorem dL_law_959 : decode cL_law 959 = .ok (.iconst 1, 1) := by decide +kernel
theorem dL_law_960 : decode cL_law 960 = .ok (.iadd, 1) := by decide +kernel
theorem dL_law_961 : decode cL_law 961 = .ok (.iaload, 1) := by decide +kernel
theorem dL_law_962 : decode cL_law 962 = .ok (.invokevirtual 163, 3) := by decide +kernel
theorem dL_law_965 : decode cL_law 965 = .ok (.istore 6, 2) := by decide +kernel
theorem dL_law_967 : decode cL_law 967 = .ok (.aload_n 2, 1) := by decide +kernel
theorem dL_law_968 : decode cL_law 968 = .ok (.invokevirtual 100, 3) := by decide +kernel
theorem dL_law_971 : decode cL_law 971 = .ok (.iload 5, 2) := by decide +kernel
theorem dL_law_973 : decode cL_law 973 = .ok (.if_icmp .eq 5, 3) := by decide +kernel
theorem dL_law_976 : decode cL_law 976 = .ok (.iconst 0, 1) := by decide +kernel
theorem dL_law_977 : decode cL_law 977 = .ok (.ireturn, 1) := by decide +kernel
theorem dL_law_978 : decode cL_law 978 = .ok (.iload 5, 2) := by decide +kernel
theorem dL_law_980 : decode cL_law 980 = .ok (.ifCond .ne 15, 3) := by decide +kernel
theorem dL_law_983 : decode cL_law 983 = .ok (.aload_n 3, 1) := by decide +kernel
theorem dL_law_984 : decode cL_law 984 = .ok (.iconst 0, 1) := by decide +kernel
theorem dL_law_985 : decode cL_law 985 = .ok (.laload, 1) := by decide +kernel
theorem dL_law_986 : decode cL_law 986 = .ok (.iload 6, 2) := by decide +kernel
theorem dL_law_988 : decode cL_law 988 = .ok (.i2l, 1) := by decide +kernel
theorem dL_law_989 : decode cL_law 989 = .ok (.lcmp, 1) := by decide +kernel
theorem dL_law_990 : decode cL_law 990 = .ok (.ifCond .eq 5, 3) := by decide +kernel
theorem dL_law_993 : decode cL_law 993 = .ok (.iconst 0, 1) := by decide +kernel
theorem dL_law_994 : decode cL_law 994 = .ok (.ireturn, 1) := by decide +kernel
theorem dL_law_995 : decode cL_law 995 = .ok (.goto 416, 3) := by decide +kernel
theorem dL_law_998 : decode cL_law 998 = .ok (.aload_n 1, 1) := by decide +kernel
theorem dL_law_999 : decode cL_law 999 = .ok (.aload_n 0, 1) := by decide +kernel
theorem dL_law_1000 : decode cL_law 1000 = .ok (.iload 4, 2) := by decide +kernel
theorem dL_law_1002 : decode cL_law 1002 = .ok (.iconst 1, 1) := by decide +kernel
theorem dL_law_1003 : decode cL_law 1003 = .ok (.iadd, 1) := by decide +kernel
theorem dL_law_1004 : decode cL_law 1004 = .ok (.iaload, 1) := by decide +kernel
theorem dL_law_1005 : decode cL_law 1005 = .ok (.aload_n 3, 1) := by decide +kernel
theorem dL_law_1006 : decode cL_law 1006 = .ok (.invokestatic 164, 3) := by decide +kernel
theorem dL_law_1009 : decode cL_law 1009 = .ok (.istore 5, 2) := by decide +kernel
theorem dL_law_1011 : decode cL_law 1011 = .ok (.aload_n 2, 1) := by decide +kernel
theorem dL_law_1012 : decode cL_law 1012 = .ok (.aload_n 0, 1) := by decide +kernel
theorem dL_law_1013 : decode cL_law 1013 = .ok (.iload 4, 2) := by decide +kernel
theorem dL_law_1015 : decode cL_law 1015 = .ok (.iconst 1, 1) := by decide +kernel
theorem dL_law_1016 : decode cL_law 1016 = .ok (.iadd, 1) := by decide +kernel
theorem dL_law_1017 : decode cL_law 1017 = .ok (.iaload, 1) := by decide +kernel
theorem dL_law_1018 : decode cL_law 1018 = .ok (.invokevirtual 166, 3) := by decide +kernel
theorem dL_law_1021 : decode cL_law 1021 = .ok (.istore 6, 2) := by decide +kernel
theorem dL_law_1023 : decode cL_law 1023 = .ok (.aload_n 2, 1) := by decide +kernel
theorem dL_law_1024 : decode cL_law 1024 = .ok (.invokevirtual 100, 3) := by decide +kernel
theorem dL_law_1027 : decode cL_law 1027 = .ok (.iload 5, 2) := by decide +kernel
theorem dL_law_1029 : decode cL_law 1029 = .ok (.if_icmp .eq 5, 3) := by decide +kernel
theorem dL_law_1032 : decode cL_law 1032 = .ok (.iconst 0, 1) := by decide +kernel
theorem dL_law_1033 : decode cL_law 1033 = .ok (.ireturn, 1) := by decide +kernel
theorem dL_law_1034 : decode cL_law 1034 = .ok (.iload 5, 2) := by decide +kernel
theorem dL_law_1036 : decode cL_law 1036 = .ok (.ifCond .ne 15, 3) := by decide +kernel
theorem dL_law_1039 : decode cL_law 1039 = .ok (.aload_n 3, 1) := by decide +kernel
theorem dL_law_1040 : decode cL_law 1040 = .ok (.iconst 0, 1) := by decide +kernel
theorem dL_law_1041 : decode cL_law 1041 = .ok (.laload, 1) := by decide +kernel
theorem dL_law_1042 : decode cL_law 1042 = .ok (.iload 6, 2) := by decide +kernel
theorem dL_law_1044 : decode cL_law 1044 = .ok (.i2l, 1) := by decide +kernel
theorem dL_law_1045 : decode cL_law 1045 = .ok (.lcmp, 1) := by decide +kernel
theorem dL_law_1046 : decode cL_law 1046 = .ok (.ifCond .eq 5, 3) := by decide +kernel
theorem dL_law_1049 : decode cL_law 1049 = .ok (.iconst 0, 1) := by decide +kernel
theorem dL_law_1050 : decode cL_law 1050 = .ok (.ireturn, 1) := by decide +kernel
theorem dL_law_1051 : decode cL_law 1051 = .ok (.goto 360, 3) := by decide +kernel
theorem dL_law_1054 : decode cL_law 1054 = .ok (.aload_n 1, 1) := by decide +kernel
theorem dL_law_1055 : decode cL_law 1055 = .ok (.aload_n 0, 1) := by decide +kernel
theorem dL_law_1056 : decode cL_law 1056 = .ok (.iload 4, 2) := by decide +kernel
theorem dL_law_1058 : decode cL_law 1058 = .ok (.iconst 1, 1) := by decide +kernel
theorem dL_law_1059 : decode cL_law 1059 = .ok (.iadd, 1) := by decide +kernel
theorem dL_law_1060 : decode cL_law 1060 = .ok (.iaload, 1) := by decide +kernel
theorem dL_law_1061 : decode cL_law 1061 = .ok (.aload_n 0, 1) := by decide +kernel
theorem dL_law_1062 : decode cL_law 1062 = .ok (.iload 4, 2) := by decide +kernel
theorem dL_law_1064 : decode cL_law 1064 = .ok (.iconst 2, 1) := by decide +kernel
theorem dL_law_1065 : decode cL_law 1065 = .ok (.iadd, 1) := by decide +kernel
theorem dL_law_1066 : decode cL_law 1066 = .ok (.iaload, 1) := by decide +kernel
theorem dL_law_1067 : decode cL_law 1067 = .ok (.i2c, 1) := by decide +kernel
theorem dL_law_1068 : decode cL_law 1068 = .ok (.aload_n 3, 1) := by decide +kernel
theorem dL_law_1069 : decode cL_law 1069 = .ok (.invokestatic 167, 3) := by decide +kernel
theorem dL_law_1072 : decode cL_law 1072 = .ok (.istore 5, 2) := by decide +kernel
theorem dL_law_1074 : decode cL_law 1074 = .ok (.aload_n 2, 1) := by decide +kernel
theorem dL_law_1075 : decode cL_law 1075 = .ok (.aload_n 0, 1) := by decide +kernel
theorem dL_law_1076 : decode cL_law 1076 = .ok (.iload 4, 2) := by decide +kernel
theorem dL_law_1078 : decode cL_law 1078 = .ok (.iconst 1, 1) := by decide +kernel
theorem dL_law_1079 : decode cL_law 1079 = .ok (.iadd, 1) := by decide +kernel
theorem dL_law_1080 : decode cL_law 1080 = .ok (.iaload, 1) := by decide +kernel
theorem dL_law_1081 : decode cL_law 1081 = .ok (.aload_n 0, 1) := by decide +kernel
theorem dL_law_1082 : decode cL_law 1082 = .ok (.iload 4, 2) := by decide +kernel
theorem dL_law_1084 : decode cL_law 1084 = .ok (.iconst 2, 1) := by decide +kernel
theorem dL_law_1085 : decode cL_law 1085 = .ok (.iadd, 1) := by decide +kernel
theorem dL_law_1086 : decode cL_law 1086 = .ok (.iaload, 1) := by decide +kernel
theorem dL_law_1087 : decode cL_law 1087 = .ok (.i2c, 1) := by decide +kernel
theorem dL_law_1088 : decode cL_law 1088 = .ok (.invokevirtual 170, 3) := by decide +kernel
theorem dL_law_1091 : decode cL_law 1091 = .ok (.istore 6, 2) := by decide +kernel
theorem dL_law_1093 : decode cL_law 1093 = .ok (.aload_n 2, 1) := by decide +kernel
theorem dL_law_1094 : decode cL_law 1094 = .ok (.invokevirtual 100, 3) := by decide +kernel
theorem dL_law_1097 : decode cL_law 1097 = .ok (.iload 5, 2) := by decide +kernel
theorem dL_law_1099 : decode cL_law 1099 = .ok (.if_icmp .eq 5, 3) := by decide +kernel
theorem dL_law_1102 : decode cL_law 1102 = .ok (.iconst 0, 1) := by decide +kernel
theorem dL_law_1103 : decode cL_law 1103 = .ok (.ireturn, 1) := by decide +kernel
theorem dL_law_1104 : decode cL_law 1104 = .ok (.iload 5, 2) := by decide +kernel
theorem dL_law_1106 : decode cL_law 1106 = .ok (.ifCond .ne 15, 3) := by decide +kernel
theorem dL_law_1109 : decode cL_law 1109 = .ok (.aload_n 3, 1) := by decide +kernel
theorem dL_law_1110 : decode cL_law 1110 = .ok (.iconst 0, 1) := by decide +kernel
theorem dL_law_1111 : decode cL_law 1111 = .ok (.laload, 1) := by decide +kernel
theorem dL_law_1112 : decode cL_law 1112 = .ok (.iload 6, 2) := by decide +kernel
theorem dL_law_1114 : decode cL_law 1114 = .ok (.i2l, 1) := by decide +kernel
theorem dL_law_1115 : decode cL_law 1115 = .ok (.lcmp, 1) := by decide +kernel
theorem dL_law_1116 : decode cL_law 1116 = .ok (.ifCond .eq 5, 3) := by decide +kernel
theorem dL_law_1119 : decode cL_law 1119 = .ok (.iconst 0, 1) := by decide +kernel
theorem dL_law_1120 : decode cL_law 1120 = .ok (.ireturn, 1) := by decide +kernel
theorem dL_law_1121 : decode cL_law 1121 = .ok (.goto 290, 3) := by decide +kernel
theorem dL_law_1124 : decode cL_law 1124 = .ok (.aload_n 1, 1) := by decide +kernel
theorem dL_law_1125 : decode cL_law 1125 = .ok (.aload_n 0, 1) := by decide +kernel
theorem dL_law_1126 : decode cL_law 1126 = .ok (.iload 4, 2) := by decide +kernel
theorem dL_law_1128 : decode cL_law 1128 = .ok (.iconst 1, 1) := by decide +kernel
theorem dL_law_1129 : decode cL_law 1129 = .ok (.iadd, 1) := by decide +kernel
theorem dL_law_1130 : decode cL_law 1130 = .ok (.iaload, 1) := by decide +kernel
theorem dL_law_1131 : decode cL_law 1131 = .ok (.aload_n 0, 1) := by decide +kernel
theorem dL_law_1132 : decode cL_law 1132 = .ok (.iload 4, 2) := by decide +kernel
theorem dL_law_1134 : decode cL_law 1134 = .ok (.iconst 2, 1) := by decide +kernel
theorem dL_law_1135 : decode cL_law 1135 = .ok (.iadd, 1) := by decide +kernel
theorem dL_law_1136 : decode cL_law 1136 = .ok (.iaload, 1) := by decide +kernel
theorem dL_law_1137 : decode cL_law 1137 = .ok (.aload_n 3, 1) := by decide +kernel
theorem dL_law_1138 : decode cL_law 1138 = .ok (.invokestatic 171, 3) := by decide +kernel
theorem dL_law_1141 : decode cL_law 1141 = .ok (.istore 5, 2) := by decide +kernel
theorem dL_law_1143 : decode cL_law 1143 = .ok (.aload_n 2, 1) := by decide +kernel
theorem dL_law_1144 : decode cL_law 1144 = .ok (.aload_n 0, 1) := by decide +kernel
theorem dL_law_1145 : decode cL_law 1145 = .ok (.iload 4, 2) := by decide +kernel
theorem dL_law_1147 : decode cL_law 1147 = .ok (.iconst 1, 1) := by decide +kernel
theorem dL_law_1148 : decode cL_law 1148 = .ok (.iadd, 1) := by decide +kernel
theorem dL_law_1149 : decode cL_law 1149 = .ok (.iaload, 1) := by decide +kernel
theorem dL_law_1150 : decode cL_law 1150 = .ok (.aload_n 0, 1) := by decide +kernel
theorem dL_law_1151 : decode cL_law 1151 = .ok (.iload 4, 2) := by decide +kernel
theorem dL_law_1153 : decode cL_law 1153 = .ok (.iconst 2, 1) := by decide +kernel
theorem dL_law_1154 : decode cL_law 1154 = .ok (.iadd, 1) := by decide +kernel
theorem dL_law_1155 : decode cL_law 1155 = .ok (.iaload, 1) := by decide +kernel
theorem dL_law_1156 : decode cL_law 1156 = .ok (.invokevirtual 173, 3) := by decide +kernel
theorem dL_law_1159 : decode cL_law 1159 = .ok (.istore 6, 2) := by decide +kernel
theorem dL_law_1161 : decode cL_law 1161 = .ok (.aload_n 2, 1) := by decide +kernel
theorem dL_law_1162 : decode cL_law 1162 = .ok (.invokevirtual 100, 3) := by decide +kernel
theorem dL_law_1165 : decode cL_law 1165 = .ok (.iload 5, 2) := by decide +kernel
theorem dL_law_1167 : decode cL_law 1167 = .ok (.if_icmp .eq 5, 3) := by decide +kernel
theorem dL_law_1170 : decode cL_law 1170 = .ok (.iconst 0, 1) := by decide +kernel
theorem dL_law_1171 : decode cL_law 1171 = .ok (.ireturn, 1) := by decide +kernel
theorem dL_law_1172 : decode cL_law 1172 = .ok (.iload 5, 2) := by decide +kernel
theorem dL_law_1174 : decode cL_law 1174 = .ok (.ifCond .ne 15, 3) := by decide +kernel
theorem dL_law_1177 : decode cL_law 1177 = .ok (.aload_n 3, 1) := by decide +kernel
theorem dL_law_1178 : decode cL_law 1178 = .ok (.iconst 0, 1) := by decide +kernel
theorem dL_law_1179 : decode cL_law 1179 = .ok (.laload, 1) := by decide +kernel
theorem dL_law_1180 : decode cL_law 1180 = .ok (.iload 6, 2) := by decide +kernel
theorem dL_law_1182 : decode cL_law 1182 = .ok (.i2l, 1) := by decide +kernel
theorem dL_law_1183 : decode cL_law 1183 = .ok (.lcmp, 1) := by decide +kernel
theorem dL_law_1184 : decode cL_law 1184 = .ok (.ifCond .eq 5, 3) := by decide +kernel
theorem dL_law_1187 : decode cL_law 1187 = .ok (.iconst 0, 1) := by decide +kernel
theorem dL_law_1188 : decode cL_law 1188 = .ok (.ireturn, 1) := by decide +kernel
theorem dL_law_1189 : decode cL_law 1189 = .ok (.goto 222, 3) := by decide +kernel
theorem dL_law_1192 : decode cL_law 1192 = .ok (.aload_n 1, 1) := by decide +kernel
theorem dL_law_1193 : decode cL_law 1193 = .ok (.aload_n 0, 1) := by decide +kernel
theorem dL_law_1194 : decode cL_law 1194 = .ok (.iload 4, 2) := by decide +kernel
theorem dL_law_1196 : decode cL_law 1196 = .ok (.iconst 1, 1) := by decide +kernel
theorem dL_law_1197 : decode cL_law 1197 = .ok (.iadd, 1) := by decide +kernel
theorem dL_law_1198 : decode cL_law 1198 = .ok (.iaload, 1) := by decide +kernel
theorem dL_law_1199 : decode cL_law 1199 = .ok (.aload_n 0, 1) := by decide +kernel
theorem dL_law_1200 : decode cL_law 1200 = .ok (.iload 4, 2) := by decide +kernel
theorem dL_law_1202 : decode cL_law 1202 = .ok (.iconst 2, 1) := by decide +kernel
theorem dL_law_1203 : decode cL_law 1203 = .ok (.iadd, 1) := by decide +kernel
theorem dL_law_1204 : decode cL_law 1204 = .ok (.iaload, 1) := by decide +kernel
theorem dL_law_1205 : decode cL_law 1205 = .ok (.aload_n 0, 1) := by decide +kernel
theorem dL_law_1206 : decode cL_law 1206 = .ok (.iload 4, 2) := by decide +kernel
theorem dL_law_1208 : decode cL_law 1208 = .ok (.iconst 3, 1) := by decide +kernel
theorem dL_law_1209 : decode cL_law 1209 = .ok (.iadd, 1) := by decide +kernel
theorem dL_law_1210 : decode cL_law 1210 = .ok (.iaload, 1) := by decide +kernel
theorem dL_law_1211 : decode cL_law 1211 = .ok (.i2c, 1) := by decide +kernel
theorem dL_law_1212 : decode cL_law 1212 = .ok (.invokestatic 174, 3) := by decide +kernel
theorem dL_law_1215 : decode cL_law 1215 = .ok (.istore 5, 2) := by decide +kernel
theorem dL_law_1217 : decode cL_law 1217 = .ok (.aload_n 2, 1) := by decide +kernel
theorem dL_law_1218 : decode cL_law 1218 = .ok (.aload_n 0, 1) := by decide +kernel
theorem dL_law_1219 : decode cL_law 1219 = .ok (.iload 4, 2) := by decide +kernel
theorem dL_law_1221 : decode cL_law 1221 = .ok (.iconst 1, 1) := by decide +kernel
theorem dL_law_1222 : decode cL_law 1222 = .ok (.iadd, 1) := by decide +kernel
theorem dL_law_1223 : decode cL_law 1223 = .ok (.iaload, 1) := by decide +kernel
theorem dL_law_1224 : decode cL_law 1224 = .ok (.aload_n 0, 1) := by decide +kernel
theorem dL_law_1225 : decode cL_law 1225 = .ok (.iload 4, 2) := by decide +kernel
theorem dL_law_1227 : decode cL_law 1227 = .ok (.iconst 2, 1) := by decide +kernel
theorem dL_law_1228 : decode cL_law 1228 = .ok (.iadd, 1) := by decide +kernel
theorem dL_law_1229 : decode cL_law 1229 = .ok (.iaload, 1) := by decide +kernel
theorem dL_law_1230 : decode cL_law 1230 = .ok (.aload_n 0, 1) := by decide +kernel
theorem dL_law_1231 : decode cL_law 1231 = .ok (.iload 4, 2) := by decide +kernel
theorem dL_law_1233 : decode cL_law 1233 = .ok (.iconst 3, 1) := by decide +kernel
theorem dL_law_1234 : decode cL_law 1234 = .ok (.iadd, 1) := by decide +kernel
theorem dL_law_1235 : decode cL_law 1235 = .ok (.iaload, 1) := by decide +kernel
theorem dL_law_1236 : decode cL_law 1236 = .ok (.i2c, 1) := by decide +kernel
theorem dL_law_1237 : decode cL_law 1237 = .ok (.invokevirtual 177, 3) := by decide +kernel
theorem dL_law_1240 : decode cL_law 1240 = .ok (.aload_n 2, 1) := by decide +kernel
theorem dL_law_1241 : decode cL_law 1241 = .ok (.invokevirtual 100, 3) := by decide +kernel
theorem dL_law_1244 : decode cL_law 1244 = .ok (.iload 5, 2) := by decide +kernel
theorem dL_law_1246 : decode cL_law 1246 = .ok (.if_icmp .eq 5, 3) := by decide +kernel
theorem dL_law_1249 : decode cL_law 1249 = .ok (.iconst 0, 1) := by decide +kernel
theorem dL_law_1250 : decode cL_law 1250 = .ok (.ireturn, 1) := by decide +kernel
theorem dL_law_1251 : decode cL_law 1251 = .ok (.goto 160, 3) := by decide +kernel
theorem dL_law_1254 : decode cL_law 1254 = .ok (.aload_n 1, 1) := by decide +kernel
theorem dL_law_1255 : decode cL_law 1255 = .ok (.aload_n 3, 1) := by decide +kernel
theorem dL_law_1256 : decode cL_law 1256 = .ok (.invokestatic 178, 3) := by decide +kernel
theorem dL_law_1259 : decode cL_law 1259 = .ok (.istore 5, 2) := by decide +kernel
theorem dL_law_1261 : decode cL_law 1261 = .ok (.aload_n 2, 1) := by decide +kernel
theorem dL_law_1262 : decode cL_law 1262 = .ok (.invokevirtual 180, 3) := by decide +kernel
theorem dL_law_1265 : decode cL_law 1265 = .ok (.istore 6, 2) := by decide +kernel
theorem dL_law_1267 : decode cL_law 1267 = .ok (.aload_n 2, 1) := by decide +kernel
theorem dL_law_1268 : decode cL_law 1268 = .ok (.invokevirtual 100, 3) := by decide +kernel
theorem dL_law_1271 : decode cL_law 1271 = .ok (.iload 5, 2) := by decide +kernel
theorem dL_law_1273 : decode cL_law 1273 = .ok (.if_icmp .eq 5, 3) := by decide +kernel
theorem dL_law_1276 : decode cL_law 1276 = .ok (.iconst 0, 1) := by decide +kernel
theorem dL_law_1277 : decode cL_law 1277 = .ok (.ireturn, 1) := by decide +kernel
theorem dL_law_1278 : decode cL_law 1278 = .ok (.iload 5, 2) := by decide +kernel
theorem dL_law_1280 : decode cL_law 1280 = .ok (.ifCond .ne 15, 3) := by decide +kernel
theorem dL_law_1283 : decode cL_law 1283 = .ok (.aload_n 3, 1) := by decide +kernel
theorem dL_law_1284 : decode cL_law 1284 = .ok (.iconst 0, 1) := by decide +kernel
theorem dL_law_1285 : decode cL_law 1285 = .ok (.laload, 1) := by decide +kernel
theorem dL_law_1286 : decode cL_law 1286 = .ok (.iload 6, 2) := by decide +kernel
theorem dL_law_1288 : decode cL_law 1288 = .ok (.i2l, 1) := by decide +kernel
theorem dL_law_1289 : decode cL_law 1289 = .ok (.lcmp, 1) := by decide +kernel
theorem dL_law_1290 : decode cL_law 1290 = .ok (.ifCond .eq 5, 3) := by decide +kernel
theorem dL_law_1293 : decode cL_law 1293 = .ok (.iconst 0, 1) := by decide +kernel
theorem dL_law_1294 : decode cL_law 1294 = .ok (.ireturn, 1) := by decide +kernel
theorem dL_law_1295 : decode cL_law 1295 = .ok (.goto 116, 3) := by decide +kernel
theorem dL_law_1298 : decode cL_law 1298 = .ok (.aload_n 1, 1) := by decide +kernel
theorem dL_law_1299 : decode cL_law 1299 = .ok (.invokevirtual 181, 3) := by decide +kernel
theorem dL_law_1302 : decode cL_law 1302 = .ok (.aload_n 2, 1) := by decide +kernel
theorem dL_law_1303 : decode cL_law 1303 = .ok (.invokevirtual 184, 3) := by decide +kernel
theorem dL_law_1306 : decode cL_law 1306 = .ok (.if_icmp .eq 105, 3) := by decide +kernel
theorem dL_law_1309 : decode cL_law 1309 = .ok (.iconst 0, 1) := by decide +kernel
theorem dL_law_1310 : decode cL_law 1310 = .ok (.ireturn, 1) := by decide +kernel
theorem dL_law_1311 : decode cL_law 1311 = .ok (.aload_n 1, 1) := by decide +kernel
theorem dL_law_1312 : decode cL_law 1312 = .ok (.aload_n 0, 1) := by decide +kernel
theorem dL_law_1313 : decode cL_law 1313 = .ok (.iload 4, 2) := by decide +kernel
theorem dL_law_1315 : decode cL_law 1315 = .ok (.iconst 1, 1) := by decide +kernel
theorem dL_law_1316 : decode cL_law 1316 = .ok (.iadd, 1) := by decide +kernel
theorem dL_law_1317 : decode cL_law 1317 = .ok (.iaload, 1) := by decide +kernel
theorem dL_law_1318 : decode cL_law 1318 = .ok (.aload_n 3, 1) := by decide +kernel
theorem dL_law_1319 : decode cL_law 1319 = .ok (.invokestatic 185, 3) := by decide +kernel
theorem dL_law_1322 : decode cL_law 1322 = .ok (.istore 5, 2) := by decide +kernel
theorem dL_law_1324 : decode cL_law 1324 = .ok (.aload_n 2, 1) := by decide +kernel
theorem dL_law_1325 : decode cL_law 1325 = .ok (.aload_n 0, 1) := by decide +kernel
theorem dL_law_1326 : decode cL_law 1326 = .ok (.iload 4, 2) := by decide +kernel
theorem dL_law_1328 : decode cL_law 1328 = .ok (.iconst 1, 1) := by decide +kernel
theorem dL_law_1329 : decode cL_law 1329 = .ok (.iadd, 1) := by decide +kernel
theorem dL_law_1330 : decode cL_law 1330 = .ok (.iaload, 1) := by decide +kernel
theorem dL_law_1331 : decode cL_law 1331 = .ok (.invokevirtual 187, 3) := by decide +kernel
theorem dL_law_1334 : decode cL_law 1334 = .ok (.istore 6, 2) := by decide +kernel
theorem dL_law_1336 : decode cL_law 1336 = .ok (.aload_n 2, 1) := by decide +kernel
theorem dL_law_1337 : decode cL_law 1337 = .ok (.invokevirtual 100, 3) := by decide +kernel
theorem dL_law_1340 : decode cL_law 1340 = .ok (.iload 5, 2) := by decide +kernel
theorem dL_law_1342 : decode cL_law 1342 = .ok (.if_icmp .eq 5, 3) := by decide +kernel
theorem dL_law_1345 : decode cL_law 1345 = .ok (.iconst 0, 1) := by decide +kernel
theorem dL_law_1346 : decode cL_law 1346 = .ok (.ireturn, 1) := by decide +kernel
theorem dL_law_1347 : decode cL_law 1347 = .ok (.iload 5, 2) := by decide +kernel
theorem dL_law_1349 : decode cL_law 1349 = .ok (.ifCond .ne 15, 3) := by decide +kernel
theorem dL_law_1352 : decode cL_law 1352 = .ok (.aload_n 3, 1) := by decide +kernel
theorem dL_law_1353 : decode cL_law 1353 = .ok (.iconst 0, 1) := by decide +kernel
theorem dL_law_1354 : decode cL_law 1354 = .ok (.laload, 1) := by decide +kernel
theorem dL_law_1355 : decode cL_law 1355 = .ok (.iload 6, 2) := by decide +kernel
theorem dL_law_1357 : decode cL_law 1357 = .ok (.i2l, 1) := by decide +kernel
theorem dL_law_1358 : decode cL_law 1358 = .ok (.lcmp, 1) := by decide +kernel
theorem dL_law_1359 : decode cL_law 1359 = .ok (.ifCond .eq 5, 3) := by decide +kernel
theorem dL_law_1362 : decode cL_law 1362 = .ok (.iconst 0, 1) := by decide +kernel
theorem dL_law_1363 : decode cL_law 1363 = .ok (.ireturn, 1) := by decide +kernel
theorem dL_law_1364 : decode cL_law 1364 = .ok (.goto 47, 3) := by decide +kernel
theorem dL_law_1367 : decode cL_law 1367 = .ok (.aload_n 1, 1) := by decide +kernel
theorem dL_law_1368 : decode cL_law 1368 = .ok (.aload_n 3, 1) := by decide +kernel
theorem dL_law_1369 : decode cL_law 1369 = .ok (.invokestatic 188, 3) := by decide +kernel
theorem dL_law_1372 : decode cL_law 1372 = .ok (.istore 5, 2) := by decide +kernel
theorem dL_law_1374 : decode cL_law 1374 = .ok (.aload_n 2, 1) := by decide +kernel
theorem dL_law_1375 : decode cL_law 1375 = .ok (.invokevirtual 190, 3) := by decide +kernel
theorem dL_law_1378 : decode cL_law 1378 = .ok (.istore 6, 2) := by decide +kernel
theorem dL_law_1380 : decode cL_law 1380 = .ok (.aload_n 2, 1) := by decide +kernel
theorem dL_law_1381 : decode cL_law 1381 = .ok (.invokevirtual 100, 3) := by decide +kernel
theorem dL_law_1384 : decode cL_law 1384 = .ok (.iload 5, 2) := by decide +kernel
theorem dL_law_1386 : decode cL_law 1386 = .ok (.if_icmp .eq 5, 3) := by decide +kernel
theorem dL_law_1389 : decode cL_law 1389 = .ok (.iconst 0, 1) := by decide +kernel
theorem dL_law_1390 : decode cL_law 1390 = .ok (.ireturn, 1) := by decide +kernel
theorem dL_law_1391 : decode cL_law 1391 = .ok (.iload 5, 2) := by decide +kernel
theorem dL_law_1393 : decode cL_law 1393 = .ok (.ifCond .ne 15, 3) := by decide +kernel
theorem dL_law_1396 : decode cL_law 1396 = .ok (.aload_n 3, 1) := by decide +kernel
theorem dL_law_1397 : decode cL_law 1397 = .ok (.iconst 0, 1) := by decide +kernel
theorem dL_law_1398 : decode cL_law 1398 = .ok (.laload, 1) := by decide +kernel
theorem dL_law_1399 : decode cL_law 1399 = .ok (.iload 6, 2) := by decide +kernel
theorem dL_law_1401 : decode cL_law 1401 = .ok (.i2l, 1) := by decide +kernel
theorem dL_law_1402 : decode cL_law 1402 = .ok (.lcmp, 1) := by decide +kernel
theorem dL_law_1403 : decode cL_law 1403 = .ok (.ifCond .eq 5, 3) := by decide +kernel
theorem dL_law_1406 : decode cL_law 1406 = .ok (.iconst 0, 1) := by decide +kernel
theorem dL_law_1407 : decode cL_law 1407 = .ok (.ireturn, 1) := by decide +kernel
theorem dL_law_1408 : decode cL_law 1408 = .ok (.goto 3, 3) := by decide +kernel
theorem dL_law_1411 : decode cL_law 1411 = .ok (.iinc 4 4, 3) := by decide +kernel
theorem dL_law_1414 : decode cL_law 1414 = .ok (.goto (-1391), 3) := by decide +kernel
theorem dL_law_1417 : decode cL_law 1417 = .ok (.iconst 1, 1) := by decide +kernel
theorem dL_law_1418 : decode cL_law 1418 = .ok (.ireturn, 1) := by decide +kernel
