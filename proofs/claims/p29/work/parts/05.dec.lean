theorem dX11_init_0 : decode cX11_init 0 = .ok (.aload_n 0, 1) := by decide +kernel
theorem dX11_init_1 : decode cX11_init 1 = .ok (.invokespecial 3, 3) := by decide +kernel
theorem dX11_init_4 : decode cX11_init 4 = .ok (.aload_n 0, 1) := by decide +kernel
theorem dX11_init_5 : decode cX11_init 5 = .ok (.new 9, 3) := by decide +kernel
theorem dX11_init_8 : decode cX11_init 8 = .ok (.dup, 1) := by decide +kernel
theorem dX11_init_9 : decode cX11_init 9 = .ok (.invokespecial 11, 3) := by decide +kernel
theorem dX11_init_12 : decode cX11_init 12 = .ok (.putfield 12, 3) := by decide +kernel
theorem dX11_init_15 : decode cX11_init 15 = .ok (.aload_n 0, 1) := by decide +kernel
theorem dX11_init_16 : decode cX11_init 16 = .ok (.new 16, 3) := by decide +kernel
theorem dX11_init_19 : decode cX11_init 19 = .ok (.dup, 1) := by decide +kernel
theorem dX11_init_20 : decode cX11_init 20 = .ok (.invokespecial 18, 3) := by decide +kernel
theorem dX11_init_23 : decode cX11_init 23 = .ok (.putfield 19, 3) := by decide +kernel
theorem dX11_init_26 : decode cX11_init 26 = .ok (.aload_n 0, 1) := by decide +kernel
theorem dX11_init_27 : decode cX11_init 27 = .ok (.new 23, 3) := by decide +kernel
theorem dX11_init_30 : decode cX11_init 30 = .ok (.dup, 1) := by decide +kernel
theorem dX11_init_31 : decode cX11_init 31 = .ok (.invokespecial 25, 3) := by decide +kernel
theorem dX11_init_34 : decode cX11_init 34 = .ok (.putfield 26, 3) := by decide +kernel
theorem dX11_init_37 : decode cX11_init 37 = .ok (.aload_n 0, 1) := by decide +kernel
theorem dX11_init_38 : decode cX11_init 38 = .ok (.new 30, 3) := by decide +kernel
theorem dX11_init_41 : decode cX11_init 41 = .ok (.dup, 1) := by decide +kernel
theorem dX11_init_42 : decode cX11_init 42 = .ok (.aload_n 0, 1) := by decide +kernel
theorem dX11_init_43 : decode cX11_init 43 = .ok (.getfield 12, 3) := by decide +kernel
theorem dX11_init_46 : decode cX11_init 46 = .ok (.aload_n 0, 1) := by decide +kernel
theorem dX11_init_47 : decode cX11_init 47 = .ok (.getfield 26, 3) := by decide +kernel
theorem dX11_init_50 : decode cX11_init 50 = .ok (.invokespecial 32, 3) := by decide +kernel
theorem dX11_init_53 : decode cX11_init 53 = .ok (.putfield 35, 3) := by decide +kernel
theorem dX11_init_56 : decode cX11_init 56 = .ok (.aload_n 0, 1) := by decide +kernel
theorem dX11_init_57 : decode cX11_init 57 = .ok (.new 39, 3) := by decide +kernel
theorem dX11_init_60 : decode cX11_init 60 = .ok (.dup, 1) := by decide +kernel
theorem dX11_init_61 : decode cX11_init 61 = .ok (.invokespecial 41, 3) := by decide +kernel
theorem dX11_init_64 : decode cX11_init 64 = .ok (.putfield 42, 3) := by decide +kernel
theorem dX11_init_67 : decode cX11_init 67 = .ok (.aload_n 0, 1) := by decide +kernel
theorem dX11_init_68 : decode cX11_init 68 = .ok (.new 46, 3) := by decide +kernel
theorem dX11_init_71 : decode cX11_init 71 = .ok (.dup, 1) := by decide +kernel
theorem dX11_init_72 : decode cX11_init 72 = .ok (.invokespecial 48, 3) := by decide +kernel
theorem dX11_init_75 : decode cX11_init 75 = .ok (.putfield 49, 3) := by decide +kernel
theorem dX11_init_78 : decode cX11_init 78 = .ok (.aload_n 0, 1) := by decide +kernel
theorem dX11_init_79 : decode cX11_init 79 = .ok (.new 46, 3) := by decide +kernel
theorem dX11_init_82 : decode cX11_init 82 = .ok (.dup, 1) := by decide +kernel
theorem dX11_init_83 : decode cX11_init 83 = .ok (.invokespecial 48, 3) := by decide +kernel
theorem dX11_init_86 : decode cX11_init 86 = .ok (.putfield 53, 3) := by decide +kernel
theorem dX11_init_89 : decode cX11_init 89 = .ok (.aload_n 0, 1) := by decide +kernel
theorem dX11_init_90 : decode cX11_init 90 = .ok (.new 16, 3) := by decide +kernel
theorem dX11_init_93 : decode cX11_init 93 = .ok (.dup, 1) := by decide +kernel
theorem dX11_init_94 : decode cX11_init 94 = .ok (.invokespecial 18, 3) := by decide +kernel
theorem dX11_init_97 : decode cX11_init 97 = .ok (.putfield 56, 3) := by decide +kernel
theorem dX11_init_100 : decode cX11_init 100 = .ok (.aload_n 0, 1) := by decide +kernel
theorem dX11_init_101 : decode cX11_init 101 = .ok (.new 16, 3) := by decide +kernel
theorem dX11_init_104 : decode cX11_init 104 = .ok (.dup, 1) := by decide +kernel
theorem dX11_init_105 : decode cX11_init 105 = .ok (.invokespecial 18, 3) := by decide +kernel
theorem dX11_init_108 : decode cX11_init 108 = .ok (.putfield 59, 3) := by decide +kernel
theorem dX11_init_111 : decode cX11_init 111 = .ok (.return_, 1) := by decide +kernel
theorem dX11_addItem_0 : decode cX11_addItem 0 = .ok (.iload_n 1, 1) := by decide +kernel
theorem dX11_addItem_1 : decode cX11_addItem 1 = .ok (.invokestatic 62, 3) := by decide +kernel
theorem dX11_addItem_4 : decode cX11_addItem 4 = .ok (.ifCond .eq 11, 3) := by decide +kernel
theorem dX11_addItem_7 : decode cX11_addItem 7 = .ok (.iload_n 2, 1) := by decide +kernel
theorem dX11_addItem_8 : decode cX11_addItem 8 = .ok (.iload_n 3, 1) := by decide +kernel
theorem dX11_addItem_9 : decode cX11_addItem 9 = .ok (.invokestatic 66, 3) := by decide +kernel
theorem dX11_addItem_12 : decode cX11_addItem 12 = .ok (.ifCond .ne 13, 3) := by decide +kernel
theorem dX11_addItem_15 : decode cX11_addItem 15 = .ok (.new 70, 3) := by decide +kernel
theorem dX11_addItem_18 : decode cX11_addItem 18 = .ok (.dup, 1) := by decide +kernel
theorem dX11_addItem_19 : decode cX11_addItem 19 = .ok (.ldc 72, 2) := by decide +kernel
theorem dX11_addItem_21 : decode cX11_addItem 21 = .ok (.invokespecial 74, 3) := by decide +kernel
theorem dX11_addItem_24 : decode cX11_addItem 24 = .ok (.athrow, 1) := by decide +kernel
theorem dX11_addItem_25 : decode cX11_addItem 25 = .ok (.aload_n 0, 1) := by decide +kernel
theorem dX11_addItem_26 : decode cX11_addItem 26 = .ok (.getfield 12, 3) := by decide +kernel
theorem dX11_addItem_29 : decode cX11_addItem 29 = .ok (.invokevirtual 77, 3) := by decide +kernel
theorem dX11_addItem_32 : decode cX11_addItem 32 = .ok (.bipush 10, 2) := by decide +kernel
theorem dX11_addItem_34 : decode cX11_addItem 34 = .ok (.if_icmp .lt 13, 3) := by decide +kernel
theorem dX11_addItem_37 : decode cX11_addItem 37 = .ok (.new 81, 3) := by decide +kernel
theorem dX11_addItem_40 : decode cX11_addItem 40 = .ok (.dup, 1) := by decide +kernel
theorem dX11_addItem_41 : decode cX11_addItem 41 = .ok (.ldc 83, 2) := by decide +kernel
theorem dX11_addItem_43 : decode cX11_addItem 43 = .ok (.invokespecial 85, 3) := by decide +kernel
theorem dX11_addItem_46 : decode cX11_addItem 46 = .ok (.athrow, 1) := by decide +kernel
theorem dX11_addItem_47 : decode cX11_addItem 47 = .ok (.aload_n 0, 1) := by decide +kernel
theorem dX11_addItem_48 : decode cX11_addItem 48 = .ok (.getfield 12, 3) := by decide +kernel
theorem dX11_addItem_51 : decode cX11_addItem 51 = .ok (.iload_n 1, 1) := by decide +kernel
theorem dX11_addItem_52 : decode cX11_addItem 52 = .ok (.iload_n 2, 1) := by decide +kernel
theorem dX11_addItem_53 : decode cX11_addItem 53 = .ok (.iload_n 3, 1) := by decide +kernel
theorem dX11_addItem_54 : decode cX11_addItem 54 = .ok (.invokevirtual 86, 3) := by decide +kernel
theorem dX11_addItem_57 : decode cX11_addItem 57 = .ok (.ireturn, 1) := by decide +kernel
theorem dX11_openLoop_0 : decode cX11_openLoop 0 = .ok (.iload_n 1, 1) := by decide +kernel
theorem dX11_openLoop_1 : decode cX11_openLoop 1 = .ok (.iload_n 2, 1) := by decide +kernel
theorem dX11_openLoop_2 : decode cX11_openLoop 2 = .ok (.invokestatic 66, 3) := by decide +kernel
theorem dX11_openLoop_5 : decode cX11_openLoop 5 = .ok (.ifCond .ne 13, 3) := by decide +kernel
theorem dX11_openLoop_8 : decode cX11_openLoop 8 = .ok (.new 70, 3) := by decide +kernel
theorem dX11_openLoop_11 : decode cX11_openLoop 11 = .ok (.dup, 1) := by decide +kernel
theorem dX11_openLoop_12 : decode cX11_openLoop 12 = .ok (.ldc 90, 2) := by decide +kernel
theorem dX11_openLoop_14 : decode cX11_openLoop 14 = .ok (.invokespecial 74, 3) := by decide +kernel
theorem dX11_openLoop_17 : decode cX11_openLoop 17 = .ok (.athrow, 1) := by decide +kernel
theorem dX11_openLoop_18 : decode cX11_openLoop 18 = .ok (.aload_n 0, 1) := by decide +kernel
theorem dX11_openLoop_19 : decode cX11_openLoop 19 = .ok (.getfield 12, 3) := by decide +kernel
theorem dX11_openLoop_22 : decode cX11_openLoop 22 = .ok (.invokevirtual 92, 3) := by decide +kernel
theorem dX11_openLoop_25 : decode cX11_openLoop 25 = .ok (.ifCond .eq 13, 3) := by decide +kernel
theorem dX11_openLoop_28 : decode cX11_openLoop 28 = .ok (.new 81, 3) := by decide +kernel
theorem dX11_openLoop_31 : decode cX11_openLoop 31 = .ok (.dup, 1) := by decide +kernel
theorem dX11_openLoop_32 : decode cX11_openLoop 32 = .ok (.ldc 96, 2) := by decide +kernel
theorem dX11_openLoop_34 : decode cX11_openLoop 34 = .ok (.invokespecial 85, 3) := by decide +kernel
theorem dX11_openLoop_37 : decode cX11_openLoop 37 = .ok (.athrow, 1) := by decide +kernel
theorem dX11_openLoop_38 : decode cX11_openLoop 38 = .ok (.aload_n 0, 1) := by decide +kernel
theorem dX11_openLoop_39 : decode cX11_openLoop 39 = .ok (.getfield 12, 3) := by decide +kernel
theorem dX11_openLoop_42 : decode cX11_openLoop 42 = .ok (.iload_n 1, 1) := by decide +kernel
theorem dX11_openLoop_43 : decode cX11_openLoop 43 = .ok (.iload_n 2, 1) := by decide +kernel
theorem dX11_openLoop_44 : decode cX11_openLoop 44 = .ok (.invokevirtual 98, 3) := by decide +kernel
theorem dX11_openLoop_47 : decode cX11_openLoop 47 = .ok (.return_, 1) := by decide +kernel
theorem dX11_closeLoop_0 : decode cX11_closeLoop 0 = .ok (.aload_n 0, 1) := by decide +kernel
theorem dX11_closeLoop_1 : decode cX11_closeLoop 1 = .ok (.getfield 12, 3) := by decide +kernel
theorem dX11_closeLoop_4 : decode cX11_closeLoop 4 = .ok (.invokevirtual 92, 3) := by decide +kernel
theorem dX11_closeLoop_7 : decode cX11_closeLoop 7 = .ok (.ifCond .eq 13, 3) := by decide +kernel
theorem dX11_closeLoop_10 : decode cX11_closeLoop 10 = .ok (.aload_n 0, 1) := by decide +kernel
theorem dX11_closeLoop_11 : decode cX11_closeLoop 11 = .ok (.getfield 12, 3) := by decide +kernel
theorem dX11_closeLoop_14 : decode cX11_closeLoop 14 = .ok (.invokevirtual 102, 3) := by decide +kernel
theorem dX11_closeLoop_17 : decode cX11_closeLoop 17 = .ok (.ifCond .ne 13, 3) := by decide +kernel
theorem dX11_closeLoop_20 : decode cX11_closeLoop 20 = .ok (.new 81, 3) := by decide +kernel
theorem dX11_closeLoop_23 : decode cX11_closeLoop 23 = .ok (.dup, 1) := by decide +kernel
theorem dX11_closeLoop_24 : decode cX11_closeLoop 24 = .ok (.ldc 105, 2) := by decide +kernel
theorem dX11_closeLoop_26 : decode cX11_closeLoop 26 = .ok (.invokespecial 85, 3) := by decide +kernel
theorem dX11_closeLoop_29 : decode cX11_closeLoop 29 = .ok (.athrow, 1) := by decide +kernel
theorem dX11_closeLoop_30 : decode cX11_closeLoop 30 = .ok (.aload_n 0, 1) := by decide +kernel
theorem dX11_closeLoop_31 : decode cX11_closeLoop 31 = .ok (.getfield 12, 3) := by decide +kernel
theorem dX11_closeLoop_34 : decode cX11_closeLoop 34 = .ok (.invokevirtual 107, 3) := by decide +kernel
theorem dX11_closeLoop_37 : decode cX11_closeLoop 37 = .ok (.ireturn, 1) := by decide +kernel
theorem dX11_feed_0 : decode cX11_feed 0 = .ok (.iload_n 1, 1) := by decide +kernel
theorem dX11_feed_1 : decode cX11_feed 1 = .ok (.invokestatic 118, 3) := by decide +kernel
theorem dX11_feed_4 : decode cX11_feed 4 = .ok (.ifCond .ne 13, 3) := by decide +kernel
theorem dX11_feed_7 : decode cX11_feed 7 = .ok (.new 70, 3) := by decide +kernel
theorem dX11_feed_10 : decode cX11_feed 10 = .ok (.dup, 1) := by decide +kernel
theorem dX11_feed_11 : decode cX11_feed 11 = .ok (.ldc 121, 2) := by decide +kernel
theorem dX11_feed_13 : decode cX11_feed 13 = .ok (.invokespecial 74, 3) := by decide +kernel
theorem dX11_feed_16 : decode cX11_feed 16 = .ok (.athrow, 1) := by decide +kernel
theorem dX11_feed_17 : decode cX11_feed 17 = .ok (.aload_n 0, 1) := by decide +kernel
theorem dX11_feed_18 : decode cX11_feed 18 = .ok (.getfield 19, 3) := by decide +kernel
theorem dX11_feed_21 : decode cX11_feed 21 = .ok (.invokevirtual 123, 3) := by decide +kernel
theorem dX11_feed_24 : decode cX11_feed 24 = .ok (.sipush 300, 3) := by decide +kernel
theorem dX11_feed_27 : decode cX11_feed 27 = .ok (.if_icmp .lt 13, 3) := by decide +kernel
theorem dX11_feed_30 : decode cX11_feed 30 = .ok (.new 81, 3) := by decide +kernel
theorem dX11_feed_33 : decode cX11_feed 33 = .ok (.dup, 1) := by decide +kernel
theorem dX11_feed_34 : decode cX11_feed 34 = .ok (.ldc 126, 2) := by decide +kernel
theorem dX11_feed_36 : decode cX11_feed 36 = .ok (.invokespecial 85, 3) := by decide +kernel
theorem dX11_feed_39 : decode cX11_feed 39 = .ok (.athrow, 1) := by decide +kernel
theorem dX11_feed_40 : decode cX11_feed 40 = .ok (.aload_n 0, 1) := by decide +kernel
theorem dX11_feed_41 : decode cX11_feed 41 = .ok (.getfield 19, 3) := by decide +kernel
theorem dX11_feed_44 : decode cX11_feed 44 = .ok (.iload_n 1, 1) := by decide +kernel
theorem dX11_feed_45 : decode cX11_feed 45 = .ok (.invokevirtual 128, 3) := by decide +kernel
theorem dX11_feed_48 : decode cX11_feed 48 = .ok (.aload_n 0, 1) := by decide +kernel
theorem dX11_feed_49 : decode cX11_feed 49 = .ok (.getfield 19, 3) := by decide +kernel
theorem dX11_feed_52 : decode cX11_feed 52 = .ok (.invokevirtual 123, 3) := by decide +kernel
theorem dX11_feed_55 : decode cX11_feed 55 = .ok (.ireturn, 1) := by decide +kernel
theorem dX11_length_0 : decode cX11_length 0 = .ok (.aload_n 0, 1) := by decide +kernel
theorem dX11_length_1 : decode cX11_length 1 = .ok (.getfield 19, 3) := by decide +kernel
theorem dX11_length_4 : decode cX11_length 4 = .ok (.invokevirtual 123, 3) := by decide +kernel
theorem dX11_length_7 : decode cX11_length 7 = .ok (.ireturn, 1) := by decide +kernel
theorem dX11_read_0 : decode cX11_read 0 = .ok (.aload_n 0, 1) := by decide +kernel
theorem dX11_read_1 : decode cX11_read 1 = .ok (.getfield 12, 3) := by decide +kernel
theorem dX11_read_4 : decode cX11_read 4 = .ok (.invokevirtual 92, 3) := by decide +kernel
theorem dX11_read_7 : decode cX11_read 7 = .ok (.ifCond .eq 13, 3) := by decide +kernel
theorem dX11_read_10 : decode cX11_read 10 = .ok (.new 81, 3) := by decide +kernel
theorem dX11_read_13 : decode cX11_read 13 = .ok (.dup, 1) := by decide +kernel
theorem dX11_read_14 : decode cX11_read 14 = .ok (.ldc 96, 2) := by decide +kernel
theorem dX11_read_16 : decode cX11_read 16 = .ok (.invokespecial 85, 3) := by decide +kernel
theorem dX11_read_19 : decode cX11_read 19 = .ok (.athrow, 1) := by decide +kernel
theorem dX11_read_20 : decode cX11_read 20 = .ok (.aload_n 0, 1) := by decide +kernel
theorem dX11_read_21 : decode cX11_read 21 = .ok (.getfield 35, 3) := by decide +kernel
theorem dX11_read_24 : decode cX11_read 24 = .ok (.aload_n 0, 1) := by decide +kernel
theorem dX11_read_25 : decode cX11_read 25 = .ok (.getfield 19, 3) := by decide +kernel
theorem dX11_read_28 : decode cX11_read 28 = .ok (.aload_n 0, 1) := by decide +kernel
theorem dX11_read_29 : decode cX11_read 29 = .ok (.getfield 53, 3) := by decide +kernel
theorem dX11_read_32 : decode cX11_read 32 = .ok (.aload_n 0, 1) := by decide +kernel
theorem dX11_read_33 : decode cX11_read 33 = .ok (.getfield 133, 3) := by decide +kernel
theorem dX11_read_36 : decode cX11_read 36 = .ok (.aload_n 0, 1) := by decide +kernel
theorem dX11_read_37 : decode cX11_read 37 = .ok (.getfield 136, 3) := by decide +kernel
theorem dX11_read_40 : decode cX11_read 40 = .ok (.invokevirtual 140, 3) := by decide +kernel
theorem dX11_read_43 : decode cX11_read 43 = .ok (.ifCond .eq 7, 3) := by decide +kernel
theorem dX11_read_46 : decode cX11_read 46 = .ok (.aload_n 0, 1) := by decide +kernel
theorem dX11_read_47 : decode cX11_read 47 = .ok (.invokevirtual 144, 3) := by decide +kernel
theorem dX11_read_50 : decode cX11_read 50 = .ok (.aload_n 0, 1) := by decide +kernel
theorem dX11_read_51 : decode cX11_read 51 = .ok (.getfield 19, 3) := by decide +kernel
theorem dX11_read_54 : decode cX11_read 54 = .ok (.invokevirtual 132, 3) := by decide +kernel
theorem dX11_read_57 : decode cX11_read 57 = .ok (.aload_n 0, 1) := by decide +kernel
theorem dX11_read_58 : decode cX11_read 58 = .ok (.getfield 26, 3) := by decide +kernel
theorem dX11_read_61 : decode cX11_read 61 = .ok (.invokevirtual 147, 3) := by decide +kernel
theorem dX11_read_64 : decode cX11_read 64 = .ok (.ireturn, 1) := by decide +kernel
theorem dX11_control_0 : decode cX11_control 0 = .ok (.aload_n 0, 1) := by decide +kernel
theorem dX11_control_1 : decode cX11_control 1 = .ok (.getfield 133, 3) := by decide +kernel
theorem dX11_control_4 : decode cX11_control 4 = .ok (.ifCond .ne 13, 3) := by decide +kernel
theorem dX11_control_7 : decode cX11_control 7 = .ok (.new 159, 3) := by decide +kernel
theorem dX11_control_10 : decode cX11_control 10 = .ok (.dup, 1) := by decide +kernel
theorem dX11_control_11 : decode cX11_control 11 = .ok (.ldc 161, 2) := by decide +kernel
theorem dX11_control_13 : decode cX11_control 13 = .ok (.invokespecial 163, 3) := by decide +kernel
theorem dX11_control_16 : decode cX11_control 16 = .ok (.athrow, 1) := by decide +kernel
theorem dX11_control_17 : decode cX11_control 17 = .ok (.aload_n 0, 1) := by decide +kernel
theorem dX11_control_18 : decode cX11_control 18 = .ok (.getfield 136, 3) := by decide +kernel
theorem dX11_control_21 : decode cX11_control 21 = .ok (.ireturn, 1) := by decide +kernel
theorem dX11_segments_0 : decode cX11_segments 0 = .ok (.aload_n 0, 1) := by decide +kernel
theorem dX11_segments_1 : decode cX11_segments 1 = .ok (.invokevirtual 164, 3) := by decide +kernel
theorem dX11_segments_4 : decode cX11_segments 4 = .ok (.aload_n 0, 1) := by decide +kernel
theorem dX11_segments_5 : decode cX11_segments 5 = .ok (.getfield 49, 3) := by decide +kernel
theorem dX11_segments_8 : decode cX11_segments 8 = .ok (.invokevirtual 167, 3) := by decide +kernel
theorem dX11_segments_11 : decode cX11_segments 11 = .ok (.ireturn, 1) := by decide +kernel
theorem dX11_tag_0 : decode cX11_tag 0 = .ok (.aload_n 0, 1) := by decide +kernel
theorem dX11_tag_1 : decode cX11_tag 1 = .ok (.iload_n 1, 1) := by decide +kernel
theorem dX11_tag_2 : decode cX11_tag 2 = .ok (.invokevirtual 170, 3) := by decide +kernel
theorem dX11_tag_5 : decode cX11_tag 5 = .ok (.aload_n 0, 1) := by decide +kernel
theorem dX11_tag_6 : decode cX11_tag 6 = .ok (.getfield 49, 3) := by decide +kernel
theorem dX11_tag_9 : decode cX11_tag 9 = .ok (.iload_n 1, 1) := by decide +kernel
theorem dX11_tag_10 : decode cX11_tag 10 = .ok (.invokevirtual 173, 3) := by decide +kernel
theorem dX11_tag_13 : decode cX11_tag 13 = .ok (.invokevirtual 177, 3) := by decide +kernel
theorem dX11_tag_16 : decode cX11_tag 16 = .ok (.ireturn, 1) := by decide +kernel
theorem dX11_elements_0 : decode cX11_elements 0 = .ok (.aload_n 0, 1) := by decide +kernel
theorem dX11_elements_1 : decode cX11_elements 1 = .ok (.iload_n 1, 1) := by decide +kernel
theorem dX11_elements_2 : decode cX11_elements 2 = .ok (.invokevirtual 170, 3) := by decide +kernel
theorem dX11_elements_5 : decode cX11_elements 5 = .ok (.aload_n 0, 1) := by decide +kernel
theorem dX11_elements_6 : decode cX11_elements 6 = .ok (.getfield 49, 3) := by decide +kernel
theorem dX11_elements_9 : decode cX11_elements 9 = .ok (.iload_n 1, 1) := by decide +kernel
theorem dX11_elements_10 : decode cX11_elements 10 = .ok (.invokevirtual 173, 3) := by decide +kernel
theorem dX11_elements_13 : decode cX11_elements 13 = .ok (.invokevirtual 183, 3) := by decide +kernel
theorem dX11_elements_16 : decode cX11_elements 16 = .ok (.ireturn, 1) := by decide +kernel
theorem dX11_contentLength_0 : decode cX11_contentLength 0 = .ok (.aload_n 0, 1) := by decide +kernel
theorem dX11_contentLength_1 : decode cX11_contentLength 1 = .ok (.iload_n 1, 1) := by decide +kernel
theorem dX11_contentLength_2 : decode cX11_contentLength 2 = .ok (.iload_n 2, 1) := by decide +kernel
theorem dX11_contentLength_3 : decode cX11_contentLength 3 = .ok (.invokevirtual 186, 3) := by decide +kernel
theorem dX11_contentLength_6 : decode cX11_contentLength 6 = .ok (.aload_n 0, 1) := by decide +kernel
theorem dX11_contentLength_7 : decode cX11_contentLength 7 = .ok (.getfield 49, 3) := by decide +kernel
theorem dX11_contentLength_10 : decode cX11_contentLength 10 = .ok (.iload_n 1, 1) := by decide +kernel
theorem dX11_contentLength_11 : decode cX11_contentLength 11 = .ok (.invokevirtual 173, 3) := by decide +kernel
theorem dX11_contentLength_14 : decode cX11_contentLength 14 = .ok (.iload_n 2, 1) := by decide +kernel
theorem dX11_contentLength_15 : decode cX11_contentLength 15 = .ok (.invokevirtual 189, 3) := by decide +kernel
theorem dX11_contentLength_18 : decode cX11_contentLength 18 = .ok (.ireturn, 1) := by decide +kernel
theorem dX11_content_0 : decode cX11_content 0 = .ok (.aload_n 0, 1) := by decide +kernel
theorem dX11_content_1 : decode cX11_content 1 = .ok (.iload_n 1, 1) := by decide +kernel
theorem dX11_content_2 : decode cX11_content 2 = .ok (.iload_n 2, 1) := by decide +kernel
theorem dX11_content_3 : decode cX11_content 3 = .ok (.invokevirtual 186, 3) := by decide +kernel
theorem dX11_content_6 : decode cX11_content 6 = .ok (.iload_n 3, 1) := by decide +kernel
theorem dX11_content_7 : decode cX11_content 7 = .ok (.ifCond .lt 19, 3) := by decide +kernel
theorem dX11_content_10 : decode cX11_content 10 = .ok (.iload_n 3, 1) := by decide +kernel
theorem dX11_content_11 : decode cX11_content 11 = .ok (.aload_n 0, 1) := by decide +kernel
theorem dX11_content_12 : decode cX11_content 12 = .ok (.getfield 49, 3) := by decide +kernel
theorem dX11_content_15 : decode cX11_content 15 = .ok (.iload_n 1, 1) := by decide +kernel
theorem dX11_content_16 : decode cX11_content 16 = .ok (.invokevirtual 173, 3) := by decide +kernel
theorem dX11_content_19 : decode cX11_content 19 = .ok (.iload_n 2, 1) := by decide +kernel
theorem dX11_content_20 : decode cX11_content 20 = .ok (.invokevirtual 189, 3) := by decide +kernel
theorem dX11_content_23 : decode cX11_content 23 = .ok (.if_icmp .lt 13, 3) := by decide +kernel
theorem dX11_content_26 : decode cX11_content 26 = .ok (.new 192, 3) := by decide +kernel
theorem dX11_content_29 : decode cX11_content 29 = .ok (.dup, 1) := by decide +kernel
theorem dX11_content_30 : decode cX11_content 30 = .ok (.ldc 194, 2) := by decide +kernel
theorem dX11_content_32 : decode cX11_content 32 = .ok (.invokespecial 196, 3) := by decide +kernel
theorem dX11_content_35 : decode cX11_content 35 = .ok (.athrow, 1) := by decide +kernel
theorem dX11_content_36 : decode cX11_content 36 = .ok (.aload_n 0, 1) := by decide +kernel
theorem dX11_content_37 : decode cX11_content 37 = .ok (.getfield 49, 3) := by decide +kernel
theorem dX11_content_40 : decode cX11_content 40 = .ok (.iload_n 1, 1) := by decide +kernel
theorem dX11_content_41 : decode cX11_content 41 = .ok (.invokevirtual 173, 3) := by decide +kernel
theorem dX11_content_44 : decode cX11_content 44 = .ok (.iload_n 2, 1) := by decide +kernel
theorem dX11_content_45 : decode cX11_content 45 = .ok (.iload_n 3, 1) := by decide +kernel
theorem dX11_content_46 : decode cX11_content 46 = .ok (.invokevirtual 197, 3) := by decide +kernel
theorem dX11_content_49 : decode cX11_content 49 = .ok (.ireturn, 1) := by decide +kernel
theorem dX11_item_0 : decode cX11_item 0 = .ok (.aload_n 0, 1) := by decide +kernel
theorem dX11_item_1 : decode cX11_item 1 = .ok (.iload_n 1, 1) := by decide +kernel
theorem dX11_item_2 : decode cX11_item 2 = .ok (.invokevirtual 170, 3) := by decide +kernel
theorem dX11_item_5 : decode cX11_item 5 = .ok (.aload_n 0, 1) := by decide +kernel
theorem dX11_item_6 : decode cX11_item 6 = .ok (.getfield 49, 3) := by decide +kernel
theorem dX11_item_9 : decode cX11_item 9 = .ok (.iload_n 1, 1) := by decide +kernel
theorem dX11_item_10 : decode cX11_item 10 = .ok (.invokevirtual 173, 3) := by decide +kernel
theorem dX11_item_13 : decode cX11_item 13 = .ok (.invokevirtual 201, 3) := by decide +kernel
theorem dX11_item_16 : decode cX11_item 16 = .ok (.ireturn, 1) := by decide +kernel
theorem dX11_pass_0 : decode cX11_pass 0 = .ok (.aload_n 0, 1) := by decide +kernel
theorem dX11_pass_1 : decode cX11_pass 1 = .ok (.iload_n 1, 1) := by decide +kernel
theorem dX11_pass_2 : decode cX11_pass 2 = .ok (.invokevirtual 170, 3) := by decide +kernel
theorem dX11_pass_5 : decode cX11_pass 5 = .ok (.aload_n 0, 1) := by decide +kernel
theorem dX11_pass_6 : decode cX11_pass 6 = .ok (.getfield 49, 3) := by decide +kernel
theorem dX11_pass_9 : decode cX11_pass 9 = .ok (.iload_n 1, 1) := by decide +kernel
theorem dX11_pass_10 : decode cX11_pass 10 = .ok (.invokevirtual 173, 3) := by decide +kernel
theorem dX11_pass_13 : decode cX11_pass 13 = .ok (.invokevirtual 204, 3) := by decide +kernel
theorem dX11_pass_16 : decode cX11_pass 16 = .ok (.ireturn, 1) := by decide +kernel
theorem dX11_addRule_0 : decode cX11_addRule 0 = .ok (.iload_n 1, 1) := by decide +kernel
theorem dX11_addRule_1 : decode cX11_addRule 1 = .ok (.ifCond .lt 14, 3) := by decide +kernel
theorem dX11_addRule_4 : decode cX11_addRule 4 = .ok (.iload_n 1, 1) := by decide +kernel
theorem dX11_addRule_5 : decode cX11_addRule 5 = .ok (.aload_n 0, 1) := by decide +kernel
theorem dX11_addRule_6 : decode cX11_addRule 6 = .ok (.getfield 12, 3) := by decide +kernel
theorem dX11_addRule_9 : decode cX11_addRule 9 = .ok (.invokevirtual 77, 3) := by decide +kernel
theorem dX11_addRule_12 : decode cX11_addRule 12 = .ok (.if_icmp .lt 13, 3) := by decide +kernel
theorem dX11_addRule_15 : decode cX11_addRule 15 = .ok (.new 192, 3) := by decide +kernel
theorem dX11_addRule_18 : decode cX11_addRule 18 = .ok (.dup, 1) := by decide +kernel
theorem dX11_addRule_19 : decode cX11_addRule 19 = .ok (.ldc 207, 2) := by decide +kernel
theorem dX11_addRule_21 : decode cX11_addRule 21 = .ok (.invokespecial 196, 3) := by decide +kernel
theorem dX11_addRule_24 : decode cX11_addRule 24 = .ok (.athrow, 1) := by decide +kernel
theorem dX11_addRule_25 : decode cX11_addRule 25 = .ok (.iload_n 2, 1) := by decide +kernel
theorem dX11_addRule_26 : decode cX11_addRule 26 = .ok (.invokestatic 62, 3) := by decide +kernel
theorem dX11_addRule_29 : decode cX11_addRule 29 = .ok (.ifCond .ne 13, 3) := by decide +kernel
theorem dX11_addRule_32 : decode cX11_addRule 32 = .ok (.new 70, 3) := by decide +kernel
theorem dX11_addRule_35 : decode cX11_addRule 35 = .ok (.dup, 1) := by decide +kernel
theorem dX11_addRule_36 : decode cX11_addRule 36 = .ok (.ldc 209, 2) := by decide +kernel
theorem dX11_addRule_38 : decode cX11_addRule 38 = .ok (.invokespecial 74, 3) := by decide +kernel
theorem dX11_addRule_41 : decode cX11_addRule 41 = .ok (.athrow, 1) := by decide +kernel
theorem dX11_addRule_42 : decode cX11_addRule 42 = .ok (.aload_n 0, 1) := by decide +kernel
theorem dX11_addRule_43 : decode cX11_addRule 43 = .ok (.getfield 42, 3) := by decide +kernel
theorem dX11_addRule_46 : decode cX11_addRule 46 = .ok (.invokevirtual 211, 3) := by decide +kernel
theorem dX11_addRule_49 : decode cX11_addRule 49 = .ok (.bipush 10, 2) := by decide +kernel
theorem dX11_addRule_51 : decode cX11_addRule 51 = .ok (.if_icmp .lt 13, 3) := by decide +kernel
theorem dX11_addRule_54 : decode cX11_addRule 54 = .ok (.new 81, 3) := by decide +kernel
theorem dX11_addRule_57 : decode cX11_addRule 57 = .ok (.dup, 1) := by decide +kernel
theorem dX11_addRule_58 : decode cX11_addRule 58 = .ok (.ldc 212, 2) := by decide +kernel
theorem dX11_addRule_60 : decode cX11_addRule 60 = .ok (.invokespecial 85, 3) := by decide +kernel
theorem dX11_addRule_63 : decode cX11_addRule 63 = .ok (.athrow, 1) := by decide +kernel
theorem dX11_addRule_64 : decode cX11_addRule 64 = .ok (.aload_n 0, 1) := by decide +kernel
theorem dX11_addRule_65 : decode cX11_addRule 65 = .ok (.getfield 42, 3) := by decide +kernel
theorem dX11_addRule_68 : decode cX11_addRule 68 = .ok (.iload_n 1, 1) := by decide +kernel
theorem dX11_addRule_69 : decode cX11_addRule 69 = .ok (.iload_n 2, 1) := by decide +kernel
theorem dX11_addRule_70 : decode cX11_addRule 70 = .ok (.invokevirtual 214, 3) := by decide +kernel
theorem dX11_addRule_73 : decode cX11_addRule 73 = .ok (.ireturn, 1) := by decide +kernel
theorem dX11_addField_0 : decode cX11_addField 0 = .ok (.aload_n 0, 1) := by decide +kernel
theorem dX11_addField_1 : decode cX11_addField 1 = .ok (.iload_n 1, 1) := by decide +kernel
theorem dX11_addField_2 : decode cX11_addField 2 = .ok (.invokevirtual 218, 3) := by decide +kernel
theorem dX11_addField_5 : decode cX11_addField 5 = .ok (.iload_n 2, 1) := by decide +kernel
theorem dX11_addField_6 : decode cX11_addField 6 = .ok (.ifCond .lt 8, 3) := by decide +kernel
theorem dX11_addField_9 : decode cX11_addField 9 = .ok (.iload_n 2, 1) := by decide +kernel
theorem dX11_addField_10 : decode cX11_addField 10 = .ok (.iconst 5, 1) := by decide +kernel
theorem dX11_addField_11 : decode cX11_addField 11 = .ok (.if_icmp .lt 13, 3) := by decide +kernel
theorem dX11_addField_14 : decode cX11_addField 14 = .ok (.new 70, 3) := by decide +kernel
theorem dX11_addField_17 : decode cX11_addField 17 = .ok (.dup, 1) := by decide +kernel
theorem dX11_addField_18 : decode cX11_addField 18 = .ok (.ldc 221, 2) := by decide +kernel
theorem dX11_addField_20 : decode cX11_addField 20 = .ok (.invokespecial 74, 3) := by decide +kernel
theorem dX11_addField_23 : decode cX11_addField 23 = .ok (.athrow, 1) := by decide +kernel
theorem dX11_addField_24 : decode cX11_addField 24 = .ok (.aload_n 0, 1) := by decide +kernel
theorem dX11_addField_25 : decode cX11_addField 25 = .ok (.getfield 42, 3) := by decide +kernel
theorem dX11_addField_28 : decode cX11_addField 28 = .ok (.iload_n 1, 1) := by decide +kernel
theorem dX11_addField_29 : decode cX11_addField 29 = .ok (.invokevirtual 223, 3) := by decide +kernel
theorem dX11_addField_32 : decode cX11_addField 32 = .ok (.invokevirtual 227, 3) := by decide +kernel
theorem dX11_addField_35 : decode cX11_addField 35 = .ok (.iconst 5, 1) := by decide +kernel
theorem dX11_addField_36 : decode cX11_addField 36 = .ok (.if_icmp .lt 13, 3) := by decide +kernel
theorem dX11_addField_39 : decode cX11_addField 39 = .ok (.new 81, 3) := by decide +kernel
theorem dX11_addField_42 : decode cX11_addField 42 = .ok (.dup, 1) := by decide +kernel
theorem dX11_addField_43 : decode cX11_addField 43 = .ok (.ldc 232, 2) := by decide +kernel
theorem dX11_addField_45 : decode cX11_addField 45 = .ok (.invokespecial 85, 3) := by decide +kernel
theorem dX11_addField_48 : decode cX11_addField 48 = .ok (.athrow, 1) := by decide +kernel
theorem dX11_addField_49 : decode cX11_addField 49 = .ok (.aload_n 0, 1) := by decide +kernel
theorem dX11_addField_50 : decode cX11_addField 50 = .ok (.getfield 42, 3) := by decide +kernel
theorem dX11_addField_53 : decode cX11_addField 53 = .ok (.iload_n 1, 1) := by decide +kernel
theorem dX11_addField_54 : decode cX11_addField 54 = .ok (.invokevirtual 223, 3) := by decide +kernel
theorem dX11_addField_57 : decode cX11_addField 57 = .ok (.iload_n 2, 1) := by decide +kernel
theorem dX11_addField_58 : decode cX11_addField 58 = .ok (.invokevirtual 234, 3) := by decide +kernel
theorem dX11_addField_61 : decode cX11_addField 61 = .ok (.ireturn, 1) := by decide +kernel
theorem dX11_write_0 : decode cX11_write 0 = .ok (.aload_n 0, 1) := by decide +kernel
theorem dX11_write_1 : decode cX11_write 1 = .ok (.invokevirtual 164, 3) := by decide +kernel
theorem dX11_write_4 : decode cX11_write 4 = .ok (.aload_n 0, 1) := by decide +kernel
theorem dX11_write_5 : decode cX11_write 5 = .ok (.getfield 243, 3) := by decide +kernel
theorem dX11_write_8 : decode cX11_write 8 = .ok (.sipush 9999, 3) := by decide +kernel
theorem dX11_write_11 : decode cX11_write 11 = .ok (.if_icmp .lt 13, 3) := by decide +kernel
theorem dX11_write_14 : decode cX11_write 14 = .ok (.new 81, 3) := by decide +kernel
theorem dX11_write_17 : decode cX11_write 17 = .ok (.dup, 1) := by decide +kernel
theorem dX11_write_18 : decode cX11_write 18 = .ok (.ldc 246, 2) := by decide +kernel
theorem dX11_write_20 : decode cX11_write 20 = .ok (.invokespecial 85, 3) := by decide +kernel
theorem dX11_write_23 : decode cX11_write 23 = .ok (.athrow, 1) := by decide +kernel
theorem dX11_write_24 : decode cX11_write 24 = .ok (.aload_n 0, 1) := by decide +kernel
theorem dX11_write_25 : decode cX11_write 25 = .ok (.getfield 42, 3) := by decide +kernel
theorem dX11_write_28 : decode cX11_write 28 = .ok (.aload_n 0, 1) := by decide +kernel
theorem dX11_write_29 : decode cX11_write 29 = .ok (.getfield 49, 3) := by decide +kernel
theorem dX11_write_32 : decode cX11_write 32 = .ok (.aload_n 0, 1) := by decide +kernel
theorem dX11_write_33 : decode cX11_write 33 = .ok (.getfield 243, 3) := by decide +kernel
theorem dX11_write_36 : decode cX11_write 36 = .ok (.iconst 1, 1) := by decide +kernel
theorem dX11_write_37 : decode cX11_write 37 = .ok (.iadd, 1) := by decide +kernel
theorem dX11_write_38 : decode cX11_write 38 = .ok (.aload_n 0, 1) := by decide +kernel
theorem dX11_write_39 : decode cX11_write 39 = .ok (.getfield 59, 3) := by decide +kernel
theorem dX11_write_42 : decode cX11_write 42 = .ok (.invokevirtual 248, 3) := by decide +kernel
theorem dX11_write_45 : decode cX11_write 45 = .ok (.ifCond .ne 13, 3) := by decide +kernel
theorem dX11_write_48 : decode cX11_write 48 = .ok (.new 81, 3) := by decide +kernel
theorem dX11_write_51 : decode cX11_write 51 = .ok (.dup, 1) := by decide +kernel
theorem dX11_write_52 : decode cX11_write 52 = .ok (.ldc 252, 2) := by decide +kernel
theorem dX11_write_54 : decode cX11_write 54 = .ok (.invokespecial 85, 3) := by decide +kernel
theorem dX11_write_57 : decode cX11_write 57 = .ok (.athrow, 1) := by decide +kernel
theorem dX11_write_58 : decode cX11_write 58 = .ok (.aload_n 0, 1) := by decide +kernel
theorem dX11_write_59 : decode cX11_write 59 = .ok (.dup, 1) := by decide +kernel
theorem dX11_write_60 : decode cX11_write 60 = .ok (.getfield 243, 3) := by decide +kernel
theorem dX11_write_63 : decode cX11_write 63 = .ok (.iconst 1, 1) := by decide +kernel
theorem dX11_write_64 : decode cX11_write 64 = .ok (.iadd, 1) := by decide +kernel
theorem dX11_write_65 : decode cX11_write 65 = .ok (.putfield 243, 3) := by decide +kernel
theorem dX11_write_68 : decode cX11_write 68 = .ok (.aload_n 0, 1) := by decide +kernel
theorem dX11_write_69 : decode cX11_write 69 = .ok (.getfield 56, 3) := by decide +kernel
theorem dX11_write_72 : decode cX11_write 72 = .ok (.astore_n 1, 1) := by decide +kernel
theorem dX11_write_73 : decode cX11_write 73 = .ok (.aload_n 0, 1) := by decide +kernel
theorem dX11_write_74 : decode cX11_write 74 = .ok (.aload_n 0, 1) := by decide +kernel
theorem dX11_write_75 : decode cX11_write 75 = .ok (.getfield 59, 3) := by decide +kernel
theorem dX11_write_78 : decode cX11_write 78 = .ok (.putfield 56, 3) := by decide +kernel
theorem dX11_write_81 : decode cX11_write 81 = .ok (.aload_n 0, 1) := by decide +kernel
theorem dX11_write_82 : decode cX11_write 82 = .ok (.aload_n 1, 1) := by decide +kernel
theorem dX11_write_83 : decode cX11_write 83 = .ok (.putfield 59, 3) := by decide +kernel
theorem dX11_write_86 : decode cX11_write 86 = .ok (.aload_n 0, 1) := by decide +kernel
theorem dX11_write_87 : decode cX11_write 87 = .ok (.getfield 56, 3) := by decide +kernel
theorem dX11_write_90 : decode cX11_write 90 = .ok (.invokevirtual 123, 3) := by decide +kernel
theorem dX11_write_93 : decode cX11_write 93 = .ok (.ireturn, 1) := by decide +kernel
theorem dX11_written_0 : decode cX11_written 0 = .ok (.aload_n 0, 1) := by decide +kernel
theorem dX11_written_1 : decode cX11_written 1 = .ok (.getfield 56, 3) := by decide +kernel
theorem dX11_written_4 : decode cX11_written 4 = .ok (.invokevirtual 123, 3) := by decide +kernel
theorem dX11_written_7 : decode cX11_written 7 = .ok (.ireturn, 1) := by decide +kernel
theorem dX11_letter_0 : decode cX11_letter 0 = .ok (.iload_n 1, 1) := by decide +kernel
theorem dX11_letter_1 : decode cX11_letter 1 = .ok (.ifCond .lt 14, 3) := by decide +kernel
theorem dX11_letter_4 : decode cX11_letter 4 = .ok (.iload_n 1, 1) := by decide +kernel
theorem dX11_letter_5 : decode cX11_letter 5 = .ok (.aload_n 0, 1) := by decide +kernel
theorem dX11_letter_6 : decode cX11_letter 6 = .ok (.getfield 56, 3) := by decide +kernel
theorem dX11_letter_9 : decode cX11_letter 9 = .ok (.invokevirtual 123, 3) := by decide +kernel
theorem dX11_letter_12 : decode cX11_letter 12 = .ok (.if_icmp .lt 13, 3) := by decide +kernel
theorem dX11_letter_15 : decode cX11_letter 15 = .ok (.new 192, 3) := by decide +kernel
theorem dX11_letter_18 : decode cX11_letter 18 = .ok (.dup, 1) := by decide +kernel
theorem dX11_letter_19 : decode cX11_letter 19 = .ok (.ldc 194, 2) := by decide +kernel
theorem dX11_letter_21 : decode cX11_letter 21 = .ok (.invokespecial 196, 3) := by decide +kernel
theorem dX11_letter_24 : decode cX11_letter 24 = .ok (.athrow, 1) := by decide +kernel
theorem dX11_letter_25 : decode cX11_letter 25 = .ok (.aload_n 0, 1) := by decide +kernel
theorem dX11_letter_26 : decode cX11_letter 26 = .ok (.getfield 56, 3) := by decide +kernel
theorem dX11_letter_29 : decode cX11_letter 29 = .ok (.iload_n 1, 1) := by decide +kernel
theorem dX11_letter_30 : decode cX11_letter 30 = .ok (.invokevirtual 254, 3) := by decide +kernel
theorem dX11_letter_33 : decode cX11_letter 33 = .ok (.ireturn, 1) := by decide +kernel
theorem dX11_acceptDraft_0 : decode cX11_acceptDraft 0 = .ok (.aload_n 0, 1) := by decide +kernel
theorem dX11_acceptDraft_1 : decode cX11_acceptDraft 1 = .ok (.getfield 49, 3) := by decide +kernel
theorem dX11_acceptDraft_4 : decode cX11_acceptDraft 4 = .ok (.astore_n 1, 1) := by decide +kernel
theorem dX11_acceptDraft_5 : decode cX11_acceptDraft 5 = .ok (.aload_n 0, 1) := by decide +kernel
theorem dX11_acceptDraft_6 : decode cX11_acceptDraft 6 = .ok (.aload_n 0, 1) := by decide +kernel
theorem dX11_acceptDraft_7 : decode cX11_acceptDraft 7 = .ok (.getfield 53, 3) := by decide +kernel
theorem dX11_acceptDraft_10 : decode cX11_acceptDraft 10 = .ok (.putfield 49, 3) := by decide +kernel
theorem dX11_acceptDraft_13 : decode cX11_acceptDraft 13 = .ok (.aload_n 0, 1) := by decide +kernel
theorem dX11_acceptDraft_14 : decode cX11_acceptDraft 14 = .ok (.aload_n 1, 1) := by decide +kernel
theorem dX11_acceptDraft_15 : decode cX11_acceptDraft 15 = .ok (.putfield 53, 3) := by decide +kernel
theorem dX11_acceptDraft_18 : decode cX11_acceptDraft 18 = .ok (.aload_n 0, 1) := by decide +kernel
theorem dX11_acceptDraft_19 : decode cX11_acceptDraft 19 = .ok (.iconst 1, 1) := by decide +kernel
theorem dX11_acceptDraft_20 : decode cX11_acceptDraft 20 = .ok (.putfield 114, 3) := by decide +kernel
theorem dX11_acceptDraft_23 : decode cX11_acceptDraft 23 = .ok (.aload_n 0, 1) := by decide +kernel
theorem dX11_acceptDraft_24 : decode cX11_acceptDraft 24 = .ok (.iconst 1, 1) := by decide +kernel
theorem dX11_acceptDraft_25 : decode cX11_acceptDraft 25 = .ok (.putfield 133, 3) := by decide +kernel
theorem dX11_acceptDraft_28 : decode cX11_acceptDraft 28 = .ok (.aload_n 0, 1) := by decide +kernel
theorem dX11_acceptDraft_29 : decode cX11_acceptDraft 29 = .ok (.aload_n 0, 1) := by decide +kernel
theorem dX11_acceptDraft_30 : decode cX11_acceptDraft 30 = .ok (.getfield 49, 3) := by decide +kernel
theorem dX11_acceptDraft_33 : decode cX11_acceptDraft 33 = .ok (.invokevirtual 263, 3) := by decide +kernel
theorem dX11_acceptDraft_36 : decode cX11_acceptDraft 36 = .ok (.putfield 136, 3) := by decide +kernel
theorem dX11_acceptDraft_39 : decode cX11_acceptDraft 39 = .ok (.return_, 1) := by decide +kernel
theorem dX11_needMessage_0 : decode cX11_needMessage 0 = .ok (.aload_n 0, 1) := by decide +kernel
theorem dX11_needMessage_1 : decode cX11_needMessage 1 = .ok (.getfield 114, 3) := by decide +kernel
theorem dX11_needMessage_4 : decode cX11_needMessage 4 = .ok (.ifCond .ne 14, 3) := by decide +kernel
theorem dX11_needMessage_7 : decode cX11_needMessage 7 = .ok (.new 81, 3) := by decide +kernel
theorem dX11_needMessage_10 : decode cX11_needMessage 10 = .ok (.dup, 1) := by decide +kernel
theorem dX11_needMessage_11 : decode cX11_needMessage 11 = .ok (.ldc_w 268, 3) := by decide +kernel
theorem dX11_needMessage_14 : decode cX11_needMessage 14 = .ok (.invokespecial 85, 3) := by decide +kernel
theorem dX11_needMessage_17 : decode cX11_needMessage 17 = .ok (.athrow, 1) := by decide +kernel
theorem dX11_needMessage_18 : decode cX11_needMessage 18 = .ok (.return_, 1) := by decide +kernel
theorem dX11_needSegment_0 : decode cX11_needSegment 0 = .ok (.aload_n 0, 1) := by decide +kernel
theorem dX11_needSegment_1 : decode cX11_needSegment 1 = .ok (.invokevirtual 164, 3) := by decide +kernel
theorem dX11_needSegment_4 : decode cX11_needSegment 4 = .ok (.iload_n 1, 1) := by decide +kernel
theorem dX11_needSegment_5 : decode cX11_needSegment 5 = .ok (.ifCond .lt 14, 3) := by decide +kernel
theorem dX11_needSegment_8 : decode cX11_needSegment 8 = .ok (.iload_n 1, 1) := by decide +kernel
theorem dX11_needSegment_9 : decode cX11_needSegment 9 = .ok (.aload_n 0, 1) := by decide +kernel
theorem dX11_needSegment_10 : decode cX11_needSegment 10 = .ok (.getfield 49, 3) := by decide +kernel
theorem dX11_needSegment_13 : decode cX11_needSegment 13 = .ok (.invokevirtual 167, 3) := by decide +kernel
theorem dX11_needSegment_16 : decode cX11_needSegment 16 = .ok (.if_icmp .lt 14, 3) := by decide +kernel
theorem dX11_needSegment_19 : decode cX11_needSegment 19 = .ok (.new 192, 3) := by decide +kernel
theorem dX11_needSegment_22 : decode cX11_needSegment 22 = .ok (.dup, 1) := by decide +kernel
theorem dX11_needSegment_23 : decode cX11_needSegment 23 = .ok (.ldc_w 270, 3) := by decide +kernel
theorem dX11_needSegment_26 : decode cX11_needSegment 26 = .ok (.invokespecial 196, 3) := by decide +kernel
theorem dX11_needSegment_29 : decode cX11_needSegment 29 = .ok (.athrow, 1) := by decide +kernel
theorem dX11_needSegment_30 : decode cX11_needSegment 30 = .ok (.return_, 1) := by decide +kernel
theorem dX11_needElement_0 : decode cX11_needElement 0 = .ok (.aload_n 0, 1) := by decide +kernel
theorem dX11_needElement_1 : decode cX11_needElement 1 = .ok (.iload_n 1, 1) := by decide +kernel
theorem dX11_needElement_2 : decode cX11_needElement 2 = .ok (.invokevirtual 170, 3) := by decide +kernel
theorem dX11_needElement_5 : decode cX11_needElement 5 = .ok (.iload_n 2, 1) := by decide +kernel
theorem dX11_needElement_6 : decode cX11_needElement 6 = .ok (.ifCond .lt 18, 3) := by decide +kernel
theorem dX11_needElement_9 : decode cX11_needElement 9 = .ok (.iload_n 2, 1) := by decide +kernel
theorem dX11_needElement_10 : decode cX11_needElement 10 = .ok (.aload_n 0, 1) := by decide +kernel
theorem dX11_needElement_11 : decode cX11_needElement 11 = .ok (.getfield 49, 3) := by decide +kernel
theorem dX11_needElement_14 : decode cX11_needElement 14 = .ok (.iload_n 1, 1) := by decide +kernel
theorem dX11_needElement_15 : decode cX11_needElement 15 = .ok (.invokevirtual 173, 3) := by decide +kernel
theorem dX11_needElement_18 : decode cX11_needElement 18 = .ok (.invokevirtual 183, 3) := by decide +kernel
theorem dX11_needElement_21 : decode cX11_needElement 21 = .ok (.if_icmp .lt 14, 3) := by decide +kernel
theorem dX11_needElement_24 : decode cX11_needElement 24 = .ok (.new 192, 3) := by decide +kernel
theorem dX11_needElement_27 : decode cX11_needElement 27 = .ok (.dup, 1) := by decide +kernel
theorem dX11_needElement_28 : decode cX11_needElement 28 = .ok (.ldc_w 272, 3) := by decide +kernel
theorem dX11_needElement_31 : decode cX11_needElement 31 = .ok (.invokespecial 196, 3) := by decide +kernel
theorem dX11_needElement_34 : decode cX11_needElement 34 = .ok (.athrow, 1) := by decide +kernel
theorem dX11_needElement_35 : decode cX11_needElement 35 = .ok (.return_, 1) := by decide +kernel
theorem dX11_needRule_0 : decode cX11_needRule 0 = .ok (.iload_n 1, 1) := by decide +kernel
theorem dX11_needRule_1 : decode cX11_needRule 1 = .ok (.ifCond .lt 14, 3) := by decide +kernel
theorem dX11_needRule_4 : decode cX11_needRule 4 = .ok (.iload_n 1, 1) := by decide +kernel
theorem dX11_needRule_5 : decode cX11_needRule 5 = .ok (.aload_n 0, 1) := by decide +kernel
theorem dX11_needRule_6 : decode cX11_needRule 6 = .ok (.getfield 42, 3) := by decide +kernel
theorem dX11_needRule_9 : decode cX11_needRule 9 = .ok (.invokevirtual 211, 3) := by decide +kernel
theorem dX11_needRule_12 : decode cX11_needRule 12 = .ok (.if_icmp .lt 14, 3) := by decide +kernel
theorem dX11_needRule_15 : decode cX11_needRule 15 = .ok (.new 192, 3) := by decide +kernel
theorem dX11_needRule_18 : decode cX11_needRule 18 = .ok (.dup, 1) := by decide +kernel
theorem dX11_needRule_19 : decode cX11_needRule 19 = .ok (.ldc_w 274, 3) := by decide +kernel
theorem dX11_needRule_22 : decode cX11_needRule 22 = .ok (.invokespecial 196, 3) := by decide +kernel
theorem dX11_needRule_25 : decode cX11_needRule 25 = .ok (.athrow, 1) := by decide +kernel
theorem dX11_needRule_26 : decode cX11_needRule 26 = .ok (.return_, 1) := by decide +kernel
theorem dX11_isLetter_0 : decode cX11_isLetter 0 = .ok (.iload_n 0, 1) := by decide +kernel
theorem dX11_isLetter_1 : decode cX11_isLetter 1 = .ok (.bipush 32, 2) := by decide +kernel
theorem dX11_isLetter_3 : decode cX11_isLetter 3 = .ok (.if_icmp .lt 13, 3) := by decide +kernel
theorem dX11_isLetter_6 : decode cX11_isLetter 6 = .ok (.iload_n 0, 1) := by decide +kernel
theorem dX11_isLetter_7 : decode cX11_isLetter 7 = .ok (.bipush 126, 2) := by decide +kernel
theorem dX11_isLetter_9 : decode cX11_isLetter 9 = .ok (.if_icmp .gt 7, 3) := by decide +kernel
theorem dX11_isLetter_12 : decode cX11_isLetter 12 = .ok (.iconst 1, 1) := by decide +kernel
theorem dX11_isLetter_13 : decode cX11_isLetter 13 = .ok (.goto 4, 3) := by decide +kernel
theorem dX11_isLetter_16 : decode cX11_isLetter 16 = .ok (.iconst 0, 1) := by decide +kernel
theorem dX11_isLetter_17 : decode cX11_isLetter 17 = .ok (.ireturn, 1) := by decide +kernel
theorem dX11_isTag_0 : decode cX11_isTag 0 = .ok (.iload_n 0, 1) := by decide +kernel
theorem dX11_isTag_1 : decode cX11_isTag 1 = .ok (.bipush 65, 2) := by decide +kernel
theorem dX11_isTag_3 : decode cX11_isTag 3 = .ok (.if_icmp .lt 13, 3) := by decide +kernel
theorem dX11_isTag_6 : decode cX11_isTag 6 = .ok (.iload_n 0, 1) := by decide +kernel
theorem dX11_isTag_7 : decode cX11_isTag 7 = .ok (.bipush 90, 2) := by decide +kernel
theorem dX11_isTag_9 : decode cX11_isTag 9 = .ok (.if_icmp .gt 7, 3) := by decide +kernel
theorem dX11_isTag_12 : decode cX11_isTag 12 = .ok (.iconst 1, 1) := by decide +kernel
theorem dX11_isTag_13 : decode cX11_isTag 13 = .ok (.goto 4, 3) := by decide +kernel
theorem dX11_isTag_16 : decode cX11_isTag 16 = .ok (.iconst 0, 1) := by decide +kernel
theorem dX11_isTag_17 : decode cX11_isTag 17 = .ok (.ireturn, 1) := by decide +kernel
theorem dX11_isBodyTag_0 : decode cX11_isBodyTag 0 = .ok (.iload_n 0, 1) := by decide +kernel
theorem dX11_isBodyTag_1 : decode cX11_isBodyTag 1 = .ok (.invokestatic 276, 3) := by decide +kernel
theorem dX11_isBodyTag_4 : decode cX11_isBodyTag 4 = .ok (.ifCond .eq 19, 3) := by decide +kernel
theorem dX11_isBodyTag_7 : decode cX11_isBodyTag 7 = .ok (.iload_n 0, 1) := by decide +kernel
theorem dX11_isBodyTag_8 : decode cX11_isBodyTag 8 = .ok (.bipush 72, 2) := by decide +kernel
theorem dX11_isBodyTag_10 : decode cX11_isBodyTag 10 = .ok (.if_icmp .eq 13, 3) := by decide +kernel
theorem dX11_isBodyTag_13 : decode cX11_isBodyTag 13 = .ok (.iload_n 0, 1) := by decide +kernel
theorem dX11_isBodyTag_14 : decode cX11_isBodyTag 14 = .ok (.bipush 84, 2) := by decide +kernel
theorem dX11_isBodyTag_16 : decode cX11_isBodyTag 16 = .ok (.if_icmp .eq 7, 3) := by decide +kernel
theorem dX11_isBodyTag_19 : decode cX11_isBodyTag 19 = .ok (.iconst 1, 1) := by decide +kernel
theorem dX11_isBodyTag_20 : decode cX11_isBodyTag 20 = .ok (.goto 4, 3) := by decide +kernel
theorem dX11_isBodyTag_23 : decode cX11_isBodyTag 23 = .ok (.iconst 0, 1) := by decide +kernel
theorem dX11_isBodyTag_24 : decode cX11_isBodyTag 24 = .ok (.ireturn, 1) := by decide +kernel
theorem dX11_areTimes_0 : decode cX11_areTimes 0 = .ok (.iload_n 0, 1) := by decide +kernel
theorem dX11_areTimes_1 : decode cX11_areTimes 1 = .ok (.ifCond .lt 29, 3) := by decide +kernel
theorem dX11_areTimes_4 : decode cX11_areTimes 4 = .ok (.iload_n 0, 1) := by decide +kernel
theorem dX11_areTimes_5 : decode cX11_areTimes 5 = .ok (.bipush 9, 2) := by decide +kernel
theorem dX11_areTimes_7 : decode cX11_areTimes 7 = .ok (.if_icmp .gt 23, 3) := by decide +kernel
theorem dX11_areTimes_10 : decode cX11_areTimes 10 = .ok (.iload_n 1, 1) := by decide +kernel
theorem dX11_areTimes_11 : decode cX11_areTimes 11 = .ok (.iconst 1, 1) := by decide +kernel
theorem dX11_areTimes_12 : decode cX11_areTimes 12 = .ok (.if_icmp .lt 18, 3) := by decide +kernel
theorem dX11_areTimes_15 : decode cX11_areTimes 15 = .ok (.iload_n 1, 1) := by decide +kernel
theorem dX11_areTimes_16 : decode cX11_areTimes 16 = .ok (.bipush 9, 2) := by decide +kernel
theorem dX11_areTimes_18 : decode cX11_areTimes 18 = .ok (.if_icmp .gt 12, 3) := by decide +kernel
theorem dX11_areTimes_21 : decode cX11_areTimes 21 = .ok (.iload_n 0, 1) := by decide +kernel
theorem dX11_areTimes_22 : decode cX11_areTimes 22 = .ok (.iload_n 1, 1) := by decide +kernel
theorem dX11_areTimes_23 : decode cX11_areTimes 23 = .ok (.if_icmp .gt 7, 3) := by decide +kernel
theorem dX11_areTimes_26 : decode cX11_areTimes 26 = .ok (.iconst 1, 1) := by decide +kernel
theorem dX11_areTimes_27 : decode cX11_areTimes 27 = .ok (.goto 4, 3) := by decide +kernel
theorem dX11_areTimes_30 : decode cX11_areTimes 30 = .ok (.iconst 0, 1) := by decide +kernel
theorem dX11_areTimes_31 : decode cX11_areTimes 31 = .ok (.ireturn, 1) := by decide +kernel
theorem dL_part_0 : decode cL_part 0 = .ok (.iload_n 1, 1) := by decide +kernel
theorem dL_part_1 : decode cL_part 1 = .ok (.aload_n 0, 1) := by decide +kernel
theorem dL_part_2 : decode cL_part 2 = .ok (.arraylength, 1) := by decide +kernel
theorem dL_part_3 : decode cL_part 3 = .ok (.if_icmp .ge 9, 3) := by decide +kernel
theorem dL_part_6 : decode cL_part 6 = .ok (.aload_n 0, 1) := by decide +kernel
theorem dL_part_7 : decode cL_part 7 = .ok (.iload_n 1, 1) := by decide +kernel
theorem dL_part_8 : decode cL_part 8 = .ok (.iaload, 1) := by decide +kernel
theorem dL_part_9 : decode cL_part 9 = .ok (.goto 14, 3) := by decide +kernel
theorem dL_part_12 : decode cL_part 12 = .ok (.ldc 7, 2) := by decide +kernel
theorem dL_part_14 : decode cL_part 14 = .ok (.iload_n 1, 1) := by decide +kernel
theorem dL_part_15 : decode cL_part 15 = .ok (.iconst 3, 1) := by decide +kernel
theorem dL_part_16 : decode cL_part 16 = .ok (.iadd, 1) := by decide +kernel
theorem dL_part_17 : decode cL_part 17 = .ok (.imul, 1) := by decide +kernel
theorem dL_part_18 : decode cL_part 18 = .ok (.iload_n 1, 1) := by decide +kernel
theorem dL_part_19 : decode cL_part 19 = .ok (.bipush 10, 2) := by decide +kernel
theorem dL_part_21 : decode cL_part 21 = .ok (.iadd, 1) := by decide +kernel
theorem dL_part_22 : decode cL_part 22 = .ok (.imul, 1) := by decide +kernel
theorem dL_part_23 : decode cL_part 23 = .ok (.ldc 8, 2) := by decide +kernel
theorem dL_part_25 : decode cL_part 25 = .ok (.iand, 1) := by decide +kernel
theorem dL_part_26 : decode cL_part 26 = .ok (.ireturn, 1) := by decide +kernel
theorem dL_isLaid_0 : decode cL_isLaid 0 = .ok (.aload_n 0, 1) := by decide +kernel
theorem dL_isLaid_1 : decode cL_isLaid 1 = .ok (.iconst 0, 1) := by decide +kernel
theorem dL_isLaid_2 : decode cL_isLaid 2 = .ok (.bipush 9, 2) := by decide +kernel
theorem dL_isLaid_4 : decode cL_isLaid 4 = .ok (.invokevirtual 9, 3) := by decide +kernel
theorem dL_isLaid_7 : decode cL_isLaid 7 = .ok (.aload_n 0, 1) := by decide +kernel
theorem dL_isLaid_8 : decode cL_isLaid 8 = .ok (.bipush 65, 2) := by decide +kernel
theorem dL_isLaid_10 : decode cL_isLaid 10 = .ok (.iconst 0, 1) := by decide +kernel
theorem dL_isLaid_11 : decode cL_isLaid 11 = .ok (.bipush 9, 2) := by decide +kernel
theorem dL_isLaid_13 : decode cL_isLaid 13 = .ok (.invokevirtual 15, 3) := by decide +kernel
theorem dL_isLaid_16 : decode cL_isLaid 16 = .ok (.ifCond .ne 41, 3) := by decide +kernel
theorem dL_isLaid_19 : decode cL_isLaid 19 = .ok (.aload_n 0, 1) := by decide +kernel
theorem dL_isLaid_20 : decode cL_isLaid 20 = .ok (.bipush 66, 2) := by decide +kernel
theorem dL_isLaid_22 : decode cL_isLaid 22 = .ok (.iconst 0, 1) := by decide +kernel
theorem dL_isLaid_23 : decode cL_isLaid 23 = .ok (.bipush 9, 2) := by decide +kernel
theorem dL_isLaid_25 : decode cL_isLaid 25 = .ok (.invokevirtual 15, 3) := by decide +kernel
theorem dL_isLaid_28 : decode cL_isLaid 28 = .ok (.iconst 1, 1) := by decide +kernel
theorem dL_isLaid_29 : decode cL_isLaid 29 = .ok (.if_icmp .ne 28, 3) := by decide +kernel
theorem dL_isLaid_32 : decode cL_isLaid 32 = .ok (.aload_n 0, 1) := by decide +kernel
theorem dL_isLaid_33 : decode cL_isLaid 33 = .ok (.bipush 67, 2) := by decide +kernel
theorem dL_isLaid_35 : decode cL_isLaid 35 = .ok (.iconst 0, 1) := by decide +kernel
theorem dL_isLaid_36 : decode cL_isLaid 36 = .ok (.bipush 9, 2) := by decide +kernel
theorem dL_isLaid_38 : decode cL_isLaid 38 = .ok (.invokevirtual 15, 3) := by decide +kernel
theorem dL_isLaid_41 : decode cL_isLaid 41 = .ok (.iconst 2, 1) := by decide +kernel
theorem dL_isLaid_42 : decode cL_isLaid 42 = .ok (.if_icmp .ne 15, 3) := by decide +kernel
theorem dL_isLaid_45 : decode cL_isLaid 45 = .ok (.aload_n 0, 1) := by decide +kernel
theorem dL_isLaid_46 : decode cL_isLaid 46 = .ok (.invokevirtual 19, 3) := by decide +kernel
theorem dL_isLaid_49 : decode cL_isLaid 49 = .ok (.iconst 3, 1) := by decide +kernel
theorem dL_isLaid_50 : decode cL_isLaid 50 = .ok (.if_icmp .ne 7, 3) := by decide +kernel
theorem dL_isLaid_53 : decode cL_isLaid 53 = .ok (.iconst 1, 1) := by decide +kernel
theorem dL_isLaid_54 : decode cL_isLaid 54 = .ok (.goto 4, 3) := by decide +kernel
theorem dL_isLaid_57 : decode cL_isLaid 57 = .ok (.iconst 0, 1) := by decide +kernel
theorem dL_isLaid_58 : decode cL_isLaid 58 = .ok (.istore_n 2, 1) := by decide +kernel
theorem dL_isLaid_59 : decode cL_isLaid 59 = .ok (.iconst 0, 1) := by decide +kernel
theorem dL_isLaid_60 : decode cL_isLaid 60 = .ok (.istore_n 3, 1) := by decide +kernel
theorem dL_isLaid_61 : decode cL_isLaid 61 = .ok (.iload_n 3, 1) := by decide +kernel
theorem dL_isLaid_62 : decode cL_isLaid 62 = .ok (.iconst 3, 1) := by decide +kernel
theorem dL_isLaid_63 : decode cL_isLaid 63 = .ok (.if_icmp .ge 72, 3) := by decide +kernel
theorem dL_isLaid_66 : decode cL_isLaid 66 = .ok (.iload_n 2, 1) := by decide +kernel
theorem dL_isLaid_67 : decode cL_isLaid 67 = .ok (.ifCond .eq 21, 3) := by decide +kernel
theorem dL_isLaid_70 : decode cL_isLaid 70 = .ok (.aload_n 0, 1) := by decide +kernel
theorem dL_isLaid_71 : decode cL_isLaid 71 = .ok (.iload_n 3, 1) := by decide +kernel
theorem dL_isLaid_72 : decode cL_isLaid 72 = .ok (.bipush 65, 2) := by decide +kernel
theorem dL_isLaid_74 : decode cL_isLaid 74 = .ok (.iload_n 3, 1) := by decide +kernel
theorem dL_isLaid_75 : decode cL_isLaid 75 = .ok (.iadd, 1) := by decide +kernel
theorem dL_isLaid_76 : decode cL_isLaid 76 = .ok (.i2c, 1) := by decide +kernel
theorem dL_isLaid_77 : decode cL_isLaid 77 = .ok (.invokevirtual 23, 3) := by decide +kernel
theorem dL_isLaid_80 : decode cL_isLaid 80 = .ok (.iload_n 3, 1) := by decide +kernel
theorem dL_isLaid_81 : decode cL_isLaid 81 = .ok (.if_icmp .ne 7, 3) := by decide +kernel
theorem dL_isLaid_84 : decode cL_isLaid 84 = .ok (.iconst 1, 1) := by decide +kernel
theorem dL_isLaid_85 : decode cL_isLaid 85 = .ok (.goto 4, 3) := by decide +kernel
theorem dL_isLaid_88 : decode cL_isLaid 88 = .ok (.iconst 0, 1) := by decide +kernel
theorem dL_isLaid_89 : decode cL_isLaid 89 = .ok (.istore_n 2, 1) := by decide +kernel
theorem dL_isLaid_90 : decode cL_isLaid 90 = .ok (.iconst 0, 1) := by decide +kernel
theorem dL_isLaid_91 : decode cL_isLaid 91 = .ok (.istore 4, 2) := by decide +kernel
theorem dL_isLaid_93 : decode cL_isLaid 93 = .ok (.iload 4, 2) := by decide +kernel
theorem dL_isLaid_95 : decode cL_isLaid 95 = .ok (.iload_n 1, 1) := by decide +kernel
theorem dL_isLaid_96 : decode cL_isLaid 96 = .ok (.if_icmp .ge 33, 3) := by decide +kernel
theorem dL_isLaid_99 : decode cL_isLaid 99 = .ok (.iload_n 2, 1) := by decide +kernel
theorem dL_isLaid_100 : decode cL_isLaid 100 = .ok (.ifCond .eq 21, 3) := by decide +kernel
theorem dL_isLaid_103 : decode cL_isLaid 103 = .ok (.aload_n 0, 1) := by decide +kernel
theorem dL_isLaid_104 : decode cL_isLaid 104 = .ok (.iload_n 3, 1) := by decide +kernel
theorem dL_isLaid_105 : decode cL_isLaid 105 = .ok (.iload 4, 2) := by decide +kernel
theorem dL_isLaid_107 : decode cL_isLaid 107 = .ok (.invokevirtual 27, 3) := by decide +kernel
theorem dL_isLaid_110 : decode cL_isLaid 110 = .ok (.iload 4, 2) := by decide +kernel
theorem dL_isLaid_112 : decode cL_isLaid 112 = .ok (.iconst 1, 1) := by decide +kernel
theorem dL_isLaid_113 : decode cL_isLaid 113 = .ok (.iadd, 1) := by decide +kernel
theorem dL_isLaid_114 : decode cL_isLaid 114 = .ok (.if_icmp .ne 7, 3) := by decide +kernel
theorem dL_isLaid_117 : decode cL_isLaid 117 = .ok (.iconst 1, 1) := by decide +kernel
theorem dL_isLaid_118 : decode cL_isLaid 118 = .ok (.goto 4, 3) := by decide +kernel
theorem dL_isLaid_121 : decode cL_isLaid 121 = .ok (.iconst 0, 1) := by decide +kernel
theorem dL_isLaid_122 : decode cL_isLaid 122 = .ok (.istore_n 2, 1) := by decide +kernel
theorem dL_isLaid_123 : decode cL_isLaid 123 = .ok (.iinc 4 1, 3) := by decide +kernel
theorem dL_isLaid_126 : decode cL_isLaid 126 = .ok (.goto (-33), 3) := by decide +kernel
theorem dL_isLaid_129 : decode cL_isLaid 129 = .ok (.iinc 3 1, 3) := by decide +kernel
theorem dL_isLaid_132 : decode cL_isLaid 132 = .ok (.goto (-71), 3) := by decide +kernel
theorem dL_isLaid_135 : decode cL_isLaid 135 = .ok (.iload_n 2, 1) := by decide +kernel
theorem dL_isLaid_136 : decode cL_isLaid 136 = .ok (.ireturn, 1) := by decide +kernel
theorem dL_feedNumber_0 : decode cL_feedNumber 0 = .ok (.iload_n 1, 1) := by decide +kernel
theorem dL_feedNumber_1 : decode cL_feedNumber 1 = .ok (.bipush 9, 2) := by decide +kernel
theorem dL_feedNumber_3 : decode cL_feedNumber 3 = .ok (.if_icmp .le 16, 3) := by decide +kernel
theorem dL_feedNumber_6 : decode cL_feedNumber 6 = .ok (.aload_n 0, 1) := by decide +kernel
theorem dL_feedNumber_7 : decode cL_feedNumber 7 = .ok (.bipush 48, 2) := by decide +kernel
theorem dL_feedNumber_9 : decode cL_feedNumber 9 = .ok (.iload_n 1, 1) := by decide +kernel
theorem dL_feedNumber_10 : decode cL_feedNumber 10 = .ok (.bipush 10, 2) := by decide +kernel
theorem dL_feedNumber_12 : decode cL_feedNumber 12 = .ok (.idiv, 1) := by decide +kernel
theorem dL_feedNumber_13 : decode cL_feedNumber 13 = .ok (.iadd, 1) := by decide +kernel
theorem dL_feedNumber_14 : decode cL_feedNumber 14 = .ok (.i2c, 1) := by decide +kernel
theorem dL_feedNumber_15 : decode cL_feedNumber 15 = .ok (.invokevirtual 31, 3) := by decide +kernel
theorem dL_feedNumber_18 : decode cL_feedNumber 18 = .ok (.pop, 1) := by decide +kernel
theorem dL_feedNumber_19 : decode cL_feedNumber 19 = .ok (.aload_n 0, 1) := by decide +kernel
theorem dL_feedNumber_20 : decode cL_feedNumber 20 = .ok (.bipush 48, 2) := by decide +kernel
theorem dL_feedNumber_22 : decode cL_feedNumber 22 = .ok (.iload_n 1, 1) := by decide +kernel
theorem dL_feedNumber_23 : decode cL_feedNumber 23 = .ok (.bipush 10, 2) := by decide +kernel
theorem dL_feedNumber_25 : decode cL_feedNumber 25 = .ok (.irem, 1) := by decide +kernel
theorem dL_feedNumber_26 : decode cL_feedNumber 26 = .ok (.iadd, 1) := by decide +kernel
theorem dL_feedNumber_27 : decode cL_feedNumber 27 = .ok (.i2c, 1) := by decide +kernel
theorem dL_feedNumber_28 : decode cL_feedNumber 28 = .ok (.invokevirtual 31, 3) := by decide +kernel
theorem dL_feedNumber_31 : decode cL_feedNumber 31 = .ok (.pop, 1) := by decide +kernel
theorem dL_feedNumber_32 : decode cL_feedNumber 32 = .ok (.return_, 1) := by decide +kernel
theorem dL_letter_0 : decode cL_letter 0 = .ok (.iload_n 0, 1) := by decide +kernel
theorem dL_letter_1 : decode cL_letter 1 = .ok (.iconst 5, 1) := by decide +kernel
theorem dL_letter_2 : decode cL_letter 2 = .ok (.irem, 1) := by decide +kernel
theorem dL_letter_3 : decode cL_letter 3 = .ok (.ifCond .ne 8, 3) := by decide +kernel
theorem dL_letter_6 : decode cL_letter 6 = .ok (.bipush 43, 2) := by decide +kernel
theorem dL_letter_8 : decode cL_letter 8 = .ok (.goto 57, 3) := by decide +kernel
theorem dL_letter_11 : decode cL_letter 11 = .ok (.iload_n 0, 1) := by decide +kernel
theorem dL_letter_12 : decode cL_letter 12 = .ok (.iconst 5, 1) := by decide +kernel
theorem dL_letter_13 : decode cL_letter 13 = .ok (.irem, 1) := by decide +kernel
theorem dL_letter_14 : decode cL_letter 14 = .ok (.iconst 1, 1) := by decide +kernel
theorem dL_letter_15 : decode cL_letter 15 = .ok (.if_icmp .ne 8, 3) := by decide +kernel
theorem dL_letter_18 : decode cL_letter 18 = .ok (.bipush 39, 2) := by decide +kernel
theorem dL_letter_20 : decode cL_letter 20 = .ok (.goto 45, 3) := by decide +kernel
theorem dL_letter_23 : decode cL_letter 23 = .ok (.iload_n 0, 1) := by decide +kernel
theorem dL_letter_24 : decode cL_letter 24 = .ok (.iconst 5, 1) := by decide +kernel
theorem dL_letter_25 : decode cL_letter 25 = .ok (.irem, 1) := by decide +kernel
theorem dL_letter_26 : decode cL_letter 26 = .ok (.iconst 2, 1) := by decide +kernel
theorem dL_letter_27 : decode cL_letter 27 = .ok (.if_icmp .ne 8, 3) := by decide +kernel
theorem dL_letter_30 : decode cL_letter 30 = .ok (.bipush 63, 2) := by decide +kernel
theorem dL_letter_32 : decode cL_letter 32 = .ok (.goto 33, 3) := by decide +kernel
theorem dL_letter_35 : decode cL_letter 35 = .ok (.iload_n 0, 1) := by decide +kernel
theorem dL_letter_36 : decode cL_letter 36 = .ok (.iconst 5, 1) := by decide +kernel
theorem dL_letter_37 : decode cL_letter 37 = .ok (.irem, 1) := by decide +kernel
theorem dL_letter_38 : decode cL_letter 38 = .ok (.iconst 3, 1) := by decide +kernel
theorem dL_letter_39 : decode cL_letter 39 = .ok (.if_icmp .ne 16, 3) := by decide +kernel
theorem dL_letter_42 : decode cL_letter 42 = .ok (.bipush 97, 2) := by decide +kernel
theorem dL_letter_44 : decode cL_letter 44 = .ok (.iload_n 0, 1) := by decide +kernel
theorem dL_letter_45 : decode cL_letter 45 = .ok (.iconst 5, 1) := by decide +kernel
theorem dL_letter_46 : decode cL_letter 46 = .ok (.idiv, 1) := by decide +kernel
theorem dL_letter_47 : decode cL_letter 47 = .ok (.bipush 26, 2) := by decide +kernel
theorem dL_letter_49 : decode cL_letter 49 = .ok (.irem, 1) := by decide +kernel
theorem dL_letter_50 : decode cL_letter 50 = .ok (.iadd, 1) := by decide +kernel
theorem dL_letter_51 : decode cL_letter 51 = .ok (.i2c, 1) := by decide +kernel
theorem dL_letter_52 : decode cL_letter 52 = .ok (.goto 13, 3) := by decide +kernel
theorem dL_letter_55 : decode cL_letter 55 = .ok (.bipush 32, 2) := by decide +kernel
theorem dL_letter_57 : decode cL_letter 57 = .ok (.iload_n 0, 1) := by decide +kernel
theorem dL_letter_58 : decode cL_letter 58 = .ok (.iconst 5, 1) := by decide +kernel
theorem dL_letter_59 : decode cL_letter 59 = .ok (.idiv, 1) := by decide +kernel
theorem dL_letter_60 : decode cL_letter 60 = .ok (.bipush 95, 2) := by decide +kernel
theorem dL_letter_62 : decode cL_letter 62 = .ok (.irem, 1) := by decide +kernel
theorem dL_letter_63 : decode cL_letter 63 = .ok (.iadd, 1) := by decide +kernel
theorem dL_letter_64 : decode cL_letter 64 = .ok (.i2c, 1) := by decide +kernel
theorem dL_letter_65 : decode cL_letter 65 = .ok (.ireturn, 1) := by decide +kernel
theorem dL_lengthOf_0 : decode cL_lengthOf 0 = .ok (.iload_n 0, 1) := by decide +kernel
theorem dL_lengthOf_1 : decode cL_lengthOf 1 = .ok (.iconst 3, 1) := by decide +kernel
theorem dL_lengthOf_2 : decode cL_lengthOf 2 = .ok (.iload_n 2, 1) := by decide +kernel
theorem dL_lengthOf_3 : decode cL_lengthOf 3 = .ok (.imul, 1) := by decide +kernel
theorem dL_lengthOf_4 : decode cL_lengthOf 4 = .ok (.iushr, 1) := by decide +kernel
theorem dL_lengthOf_5 : decode cL_lengthOf 5 = .ok (.bipush 7, 2) := by decide +kernel
theorem dL_lengthOf_7 : decode cL_lengthOf 7 = .ok (.iand, 1) := by decide +kernel
theorem dL_lengthOf_8 : decode cL_lengthOf 8 = .ok (.iconst 4, 1) := by decide +kernel
theorem dL_lengthOf_9 : decode cL_lengthOf 9 = .ok (.irem, 1) := by decide +kernel
theorem dL_lengthOf_10 : decode cL_lengthOf 10 = .ok (.iload_n 1, 1) := by decide +kernel
theorem dL_lengthOf_11 : decode cL_lengthOf 11 = .ok (.iload_n 2, 1) := by decide +kernel
theorem dL_lengthOf_12 : decode cL_lengthOf 12 = .ok (.iadd, 1) := by decide +kernel
theorem dL_lengthOf_13 : decode cL_lengthOf 13 = .ok (.iconst 2, 1) := by decide +kernel
theorem dL_lengthOf_14 : decode cL_lengthOf 14 = .ok (.irem, 1) := by decide +kernel
theorem dL_lengthOf_15 : decode cL_lengthOf 15 = .ok (.iadd, 1) := by decide +kernel
theorem dL_lengthOf_16 : decode cL_lengthOf 16 = .ok (.ireturn, 1) := by decide +kernel
theorem dL_feedAll_0 : decode cL_feedAll 0 = .ok (.aload_n 0, 1) := by decide +kernel
theorem dL_feedAll_1 : decode cL_feedAll 1 = .ok (.bipush 72, 2) := by decide +kernel
theorem dL_feedAll_3 : decode cL_feedAll 3 = .ok (.invokevirtual 31, 3) := by decide +kernel
theorem dL_feedAll_6 : decode cL_feedAll 6 = .ok (.pop, 1) := by decide +kernel
theorem dL_feedAll_7 : decode cL_feedAll 7 = .ok (.aload_n 0, 1) := by decide +kernel
theorem dL_feedAll_8 : decode cL_feedAll 8 = .ok (.bipush 43, 2) := by decide +kernel
theorem dL_feedAll_10 : decode cL_feedAll 10 = .ok (.invokevirtual 31, 3) := by decide +kernel
theorem dL_feedAll_13 : decode cL_feedAll 13 = .ok (.pop, 1) := by decide +kernel
theorem dL_feedAll_14 : decode cL_feedAll 14 = .ok (.aload_n 0, 1) := by decide +kernel
theorem dL_feedAll_15 : decode cL_feedAll 15 = .ok (.iload 4, 2) := by decide +kernel
theorem dL_feedAll_17 : decode cL_feedAll 17 = .ok (.invokestatic 35, 3) := by decide +kernel
theorem dL_feedAll_20 : decode cL_feedAll 20 = .ok (.aload_n 0, 1) := by decide +kernel
theorem dL_feedAll_21 : decode cL_feedAll 21 = .ok (.bipush 39, 2) := by decide +kernel
theorem dL_feedAll_23 : decode cL_feedAll 23 = .ok (.invokevirtual 31, 3) := by decide +kernel
theorem dL_feedAll_26 : decode cL_feedAll 26 = .ok (.pop, 1) := by decide +kernel
theorem dL_feedAll_27 : decode cL_feedAll 27 = .ok (.iconst 0, 1) := by decide +kernel
theorem dL_feedAll_28 : decode cL_feedAll 28 = .ok (.istore 5, 2) := by decide +kernel
theorem dL_feedAll_30 : decode cL_feedAll 30 = .ok (.iload 5, 2) := by decide +kernel
theorem dL_feedAll_32 : decode cL_feedAll 32 = .ok (.iload_n 3, 1) := by decide +kernel
theorem dL_feedAll_33 : decode cL_feedAll 33 = .ok (.if_icmp .ge 125, 3) := by decide +kernel
theorem dL_feedAll_36 : decode cL_feedAll 36 = .ok (.aload_n 1, 1) := by decide +kernel
theorem dL_feedAll_37 : decode cL_feedAll 37 = .ok (.iload_n 2, 1) := by decide +kernel
theorem dL_feedAll_38 : decode cL_feedAll 38 = .ok (.iload 5, 2) := by decide +kernel
theorem dL_feedAll_40 : decode cL_feedAll 40 = .ok (.iadd, 1) := by decide +kernel
theorem dL_feedAll_41 : decode cL_feedAll 41 = .ok (.invokestatic 41, 3) := by decide +kernel
theorem dL_feedAll_44 : decode cL_feedAll 44 = .ok (.istore 6, 2) := by decide +kernel
theorem dL_feedAll_46 : decode cL_feedAll 46 = .ok (.aload_n 0, 1) := by decide +kernel
theorem dL_feedAll_47 : decode cL_feedAll 47 = .ok (.bipush 65, 2) := by decide +kernel
theorem dL_feedAll_49 : decode cL_feedAll 49 = .ok (.iload 6, 2) := by decide +kernel
theorem dL_feedAll_51 : decode cL_feedAll 51 = .ok (.iconst 3, 1) := by decide +kernel
theorem dL_feedAll_52 : decode cL_feedAll 52 = .ok (.irem, 1) := by decide +kernel
theorem dL_feedAll_53 : decode cL_feedAll 53 = .ok (.iadd, 1) := by decide +kernel
theorem dL_feedAll_54 : decode cL_feedAll 54 = .ok (.i2c, 1) := by decide +kernel
theorem dL_feedAll_55 : decode cL_feedAll 55 = .ok (.invokevirtual 31, 3) := by decide +kernel
theorem dL_feedAll_58 : decode cL_feedAll 58 = .ok (.pop, 1) := by decide +kernel
theorem dL_feedAll_59 : decode cL_feedAll 59 = .ok (.iconst 0, 1) := by decide +kernel
theorem dL_feedAll_60 : decode cL_feedAll 60 = .ok (.istore 7, 2) := by decide +kernel
theorem dL_feedAll_62 : decode cL_feedAll 62 = .ok (.iload 7, 2) := by decide +kernel
theorem dL_feedAll_64 : decode cL_feedAll 64 = .ok (.iload 6, 2) := by decide +kernel
theorem dL_feedAll_66 : decode cL_feedAll 66 = .ok (.iconst 4, 1) := by decide +kernel
theorem dL_feedAll_67 : decode cL_feedAll 67 = .ok (.idiv, 1) := by decide +kernel
theorem dL_feedAll_68 : decode cL_feedAll 68 = .ok (.bipush 6, 2) := by decide +kernel
theorem dL_feedAll_70 : decode cL_feedAll 70 = .ok (.irem, 1) := by decide +kernel
theorem dL_feedAll_71 : decode cL_feedAll 71 = .ok (.if_icmp .ge 74, 3) := by decide +kernel
theorem dL_feedAll_74 : decode cL_feedAll 74 = .ok (.iload 7, 2) := by decide +kernel
theorem dL_feedAll_76 : decode cL_feedAll 76 = .ok (.iconst 5, 1) := by decide +kernel
theorem dL_feedAll_77 : decode cL_feedAll 77 = .ok (.if_icmp .ge 68, 3) := by decide +kernel
theorem dL_feedAll_80 : decode cL_feedAll 80 = .ok (.aload_n 0, 1) := by decide +kernel
theorem dL_feedAll_81 : decode cL_feedAll 81 = .ok (.bipush 43, 2) := by decide +kernel
theorem dL_feedAll_83 : decode cL_feedAll 83 = .ok (.invokevirtual 31, 3) := by decide +kernel
theorem dL_feedAll_86 : decode cL_feedAll 86 = .ok (.pop, 1) := by decide +kernel
theorem dL_feedAll_87 : decode cL_feedAll 87 = .ok (.iconst 0, 1) := by decide +kernel
theorem dL_feedAll_88 : decode cL_feedAll 88 = .ok (.istore 8, 2) := by decide +kernel
theorem dL_feedAll_90 : decode cL_feedAll 90 = .ok (.iload 8, 2) := by decide +kernel
theorem dL_feedAll_92 : decode cL_feedAll 92 = .ok (.iload 6, 2) := by decide +kernel
theorem dL_feedAll_94 : decode cL_feedAll 94 = .ok (.iload 5, 2) := by decide +kernel
theorem dL_feedAll_96 : decode cL_feedAll 96 = .ok (.iload 7, 2) := by decide +kernel
theorem dL_feedAll_98 : decode cL_feedAll 98 = .ok (.invokestatic 45, 3) := by decide +kernel
theorem dL_feedAll_101 : decode cL_feedAll 101 = .ok (.if_icmp .ge 38, 3) := by decide +kernel
theorem dL_feedAll_104 : decode cL_feedAll 104 = .ok (.aload_n 0, 1) := by decide +kernel
theorem dL_feedAll_105 : decode cL_feedAll 105 = .ok (.bipush 63, 2) := by decide +kernel
theorem dL_feedAll_107 : decode cL_feedAll 107 = .ok (.invokevirtual 31, 3) := by decide +kernel
theorem dL_feedAll_110 : decode cL_feedAll 110 = .ok (.pop, 1) := by decide +kernel
theorem dL_feedAll_111 : decode cL_feedAll 111 = .ok (.aload_n 0, 1) := by decide +kernel
theorem dL_feedAll_112 : decode cL_feedAll 112 = .ok (.iload 6, 2) := by decide +kernel
theorem dL_feedAll_114 : decode cL_feedAll 114 = .ok (.bipush 7, 2) := by decide +kernel
theorem dL_feedAll_116 : decode cL_feedAll 116 = .ok (.idiv, 1) := by decide +kernel
theorem dL_feedAll_117 : decode cL_feedAll 117 = .ok (.bipush 11, 2) := by decide +kernel
theorem dL_feedAll_119 : decode cL_feedAll 119 = .ok (.iload 7, 2) := by decide +kernel
theorem dL_feedAll_121 : decode cL_feedAll 121 = .ok (.imul, 1) := by decide +kernel
theorem dL_feedAll_122 : decode cL_feedAll 122 = .ok (.iadd, 1) := by decide +kernel
theorem dL_feedAll_123 : decode cL_feedAll 123 = .ok (.iload 8, 2) := by decide +kernel
theorem dL_feedAll_125 : decode cL_feedAll 125 = .ok (.iadd, 1) := by decide +kernel
theorem dL_feedAll_126 : decode cL_feedAll 126 = .ok (.invokestatic 49, 3) := by decide +kernel
theorem dL_feedAll_129 : decode cL_feedAll 129 = .ok (.invokevirtual 31, 3) := by decide +kernel
theorem dL_feedAll_132 : decode cL_feedAll 132 = .ok (.pop, 1) := by decide +kernel
theorem dL_feedAll_133 : decode cL_feedAll 133 = .ok (.iinc 8 1, 3) := by decide +kernel
theorem dL_feedAll_136 : decode cL_feedAll 136 = .ok (.goto (-46), 3) := by decide +kernel
theorem dL_feedAll_139 : decode cL_feedAll 139 = .ok (.iinc 7 1, 3) := by decide +kernel
theorem dL_feedAll_142 : decode cL_feedAll 142 = .ok (.goto (-80), 3) := by decide +kernel
theorem dL_feedAll_145 : decode cL_feedAll 145 = .ok (.aload_n 0, 1) := by decide +kernel
theorem dL_feedAll_146 : decode cL_feedAll 146 = .ok (.bipush 39, 2) := by decide +kernel
theorem dL_feedAll_148 : decode cL_feedAll 148 = .ok (.invokevirtual 31, 3) := by decide +kernel
theorem dL_feedAll_151 : decode cL_feedAll 151 = .ok (.pop, 1) := by decide +kernel
theorem dL_feedAll_152 : decode cL_feedAll 152 = .ok (.iinc 5 1, 3) := by decide +kernel
theorem dL_feedAll_155 : decode cL_feedAll 155 = .ok (.goto (-125), 3) := by decide +kernel
theorem dL_feedAll_158 : decode cL_feedAll 158 = .ok (.aload_n 0, 1) := by decide +kernel
theorem dL_feedAll_159 : decode cL_feedAll 159 = .ok (.bipush 84, 2) := by decide +kernel
theorem dL_feedAll_161 : decode cL_feedAll 161 = .ok (.invokevirtual 31, 3) := by decide +kernel
theorem dL_feedAll_164 : decode cL_feedAll 164 = .ok (.pop, 1) := by decide +kernel
theorem dL_feedAll_165 : decode cL_feedAll 165 = .ok (.aload_n 0, 1) := by decide +kernel
theorem dL_feedAll_166 : decode cL_feedAll 166 = .ok (.bipush 43, 2) := by decide +kernel
theorem dL_feedAll_168 : decode cL_feedAll 168 = .ok (.invokevirtual 31, 3) := by decide +kernel
theorem dL_feedAll_171 : decode cL_feedAll 171 = .ok (.pop, 1) := by decide +kernel
theorem dL_feedAll_172 : decode cL_feedAll 172 = .ok (.aload_n 0, 1) := by decide +kernel
theorem dL_feedAll_173 : decode cL_feedAll 173 = .ok (.iload_n 3, 1) := by decide +kernel
theorem dL_feedAll_174 : decode cL_feedAll 174 = .ok (.iconst 2, 1) := by decide +kernel
theorem dL_feedAll_175 : decode cL_feedAll 175 = .ok (.iadd, 1) := by decide +kernel
theorem dL_feedAll_176 : decode cL_feedAll 176 = .ok (.invokestatic 35, 3) := by decide +kernel
theorem dL_feedAll_179 : decode cL_feedAll 179 = .ok (.aload_n 0, 1) := by decide +kernel
theorem dL_feedAll_180 : decode cL_feedAll 180 = .ok (.bipush 43, 2) := by decide +kernel
theorem dL_feedAll_182 : decode cL_feedAll 182 = .ok (.invokevirtual 31, 3) := by decide +kernel
theorem dL_feedAll_185 : decode cL_feedAll 185 = .ok (.pop, 1) := by decide +kernel
theorem dL_feedAll_186 : decode cL_feedAll 186 = .ok (.aload_n 0, 1) := by decide +kernel
theorem dL_feedAll_187 : decode cL_feedAll 187 = .ok (.iload 4, 2) := by decide +kernel
theorem dL_feedAll_189 : decode cL_feedAll 189 = .ok (.invokestatic 35, 3) := by decide +kernel
theorem dL_feedAll_192 : decode cL_feedAll 192 = .ok (.aload_n 0, 1) := by decide +kernel
theorem dL_feedAll_193 : decode cL_feedAll 193 = .ok (.bipush 39, 2) := by decide +kernel
theorem dL_feedAll_195 : decode cL_feedAll 195 = .ok (.invokevirtual 31, 3) := by decide +kernel
theorem dL_feedAll_198 : decode cL_feedAll 198 = .ok (.pop, 1) := by decide +kernel
theorem dL_feedAll_199 : decode cL_feedAll 199 = .ok (.return_, 1) := by decide +kernel
theorem dL_isAsFed_0 : decode cL_isAsFed 0 = .ok (.aload_n 0, 1) := by decide +kernel
theorem dL_isAsFed_1 : decode cL_isAsFed 1 = .ok (.invokevirtual 53, 3) := by decide +kernel
theorem dL_isAsFed_4 : decode cL_isAsFed 4 = .ok (.iload_n 3, 1) := by decide +kernel
theorem dL_isAsFed_5 : decode cL_isAsFed 5 = .ok (.if_icmp .ne 7, 3) := by decide +kernel
theorem dL_isAsFed_8 : decode cL_isAsFed 8 = .ok (.iconst 1, 1) := by decide +kernel
theorem dL_isAsFed_9 : decode cL_isAsFed 9 = .ok (.goto 4, 3) := by decide +kernel
theorem dL_isAsFed_12 : decode cL_isAsFed 12 = .ok (.iconst 0, 1) := by decide +kernel
theorem dL_isAsFed_13 : decode cL_isAsFed 13 = .ok (.istore 4, 2) := by decide +kernel
theorem dL_isAsFed_15 : decode cL_isAsFed 15 = .ok (.iconst 0, 1) := by decide +kernel
theorem dL_isAsFed_16 : decode cL_isAsFed 16 = .ok (.istore 5, 2) := by decide +kernel
theorem dL_isAsFed_18 : decode cL_isAsFed 18 = .ok (.iload 5, 2) := by decide +kernel
theorem dL_isAsFed_20 : decode cL_isAsFed 20 = .ok (.iload_n 3, 1) := by decide +kernel
theorem dL_isAsFed_21 : decode cL_isAsFed 21 = .ok (.if_icmp .ge 218, 3) := by decide +kernel
theorem dL_isAsFed_24 : decode cL_isAsFed 24 = .ok (.iload 4, 2) := by decide +kernel
theorem dL_isAsFed_26 : decode cL_isAsFed 26 = .ok (.ifCond .eq 213, 3) := by decide +kernel
theorem dL_isAsFed_29 : decode cL_isAsFed 29 = .ok (.aload_n 1, 1) := by decide +kernel
theorem dL_isAsFed_30 : decode cL_isAsFed 30 = .ok (.iload_n 2, 1) := by decide +kernel
theorem dL_isAsFed_31 : decode cL_isAsFed 31 = .ok (.iload 5, 2) := by decide +kernel
theorem dL_isAsFed_33 : decode cL_isAsFed 33 = .ok (.iadd, 1) := by decide +kernel
theorem dL_isAsFed_34 : decode cL_isAsFed 34 = .ok (.invokestatic 41, 3) := by decide +kernel
theorem dL_isAsFed_37 : decode cL_isAsFed 37 = .ok (.istore 6, 2) := by decide +kernel
theorem dL_isAsFed_39 : decode cL_isAsFed 39 = .ok (.iload 6, 2) := by decide +kernel
theorem dL_isAsFed_41 : decode cL_isAsFed 41 = .ok (.iconst 4, 1) := by decide +kernel
theorem dL_isAsFed_42 : decode cL_isAsFed 42 = .ok (.idiv, 1) := by decide +kernel
theorem dL_isAsFed_43 : decode cL_isAsFed 43 = .ok (.bipush 6, 2) := by decide +kernel
theorem dL_isAsFed_45 : decode cL_isAsFed 45 = .ok (.irem, 1) := by decide +kernel
theorem dL_isAsFed_46 : decode cL_isAsFed 46 = .ok (.iconst 5, 1) := by decide +kernel
theorem dL_isAsFed_47 : decode cL_isAsFed 47 = .ok (.if_icmp .ge 13, 3) := by decide +kernel
theorem dL_isAsFed_50 : decode cL_isAsFed 50 = .ok (.iload 6, 2) := by decide +kernel
theorem dL_isAsFed_52 : decode cL_isAsFed 52 = .ok (.iconst 4, 1) := by decide +kernel
theorem dL_isAsFed_53 : decode cL_isAsFed 53 = .ok (.idiv, 1) := by decide +kernel
theorem dL_isAsFed_54 : decode cL_isAsFed 54 = .ok (.bipush 6, 2) := by decide +kernel
theorem dL_isAsFed_56 : decode cL_isAsFed 56 = .ok (.irem, 1) := by decide +kernel
theorem dL_isAsFed_57 : decode cL_isAsFed 57 = .ok (.goto 4, 3) := by decide +kernel
theorem dL_isAsFed_60 : decode cL_isAsFed 60 = .ok (.iconst 5, 1) := by decide +kernel
theorem dL_isAsFed_61 : decode cL_isAsFed 61 = .ok (.istore 7, 2) := by decide +kernel
theorem dL_isAsFed_63 : decode cL_isAsFed 63 = .ok (.aload_n 0, 1) := by decide +kernel
theorem dL_isAsFed_64 : decode cL_isAsFed 64 = .ok (.iload 5, 2) := by decide +kernel
theorem dL_isAsFed_66 : decode cL_isAsFed 66 = .ok (.invokevirtual 56, 3) := by decide +kernel
theorem dL_isAsFed_69 : decode cL_isAsFed 69 = .ok (.bipush 65, 2) := by decide +kernel
theorem dL_isAsFed_71 : decode cL_isAsFed 71 = .ok (.iload 6, 2) := by decide +kernel
theorem dL_isAsFed_73 : decode cL_isAsFed 73 = .ok (.iconst 3, 1) := by decide +kernel
theorem dL_isAsFed_74 : decode cL_isAsFed 74 = .ok (.irem, 1) := by decide +kernel
theorem dL_isAsFed_75 : decode cL_isAsFed 75 = .ok (.iadd, 1) := by decide +kernel
theorem dL_isAsFed_76 : decode cL_isAsFed 76 = .ok (.if_icmp .ne 41, 3) := by decide +kernel
theorem dL_isAsFed_79 : decode cL_isAsFed 79 = .ok (.aload_n 0, 1) := by decide +kernel
theorem dL_isAsFed_80 : decode cL_isAsFed 80 = .ok (.iload 5, 2) := by decide +kernel
theorem dL_isAsFed_82 : decode cL_isAsFed 82 = .ok (.invokevirtual 59, 3) := by decide +kernel
theorem dL_isAsFed_85 : decode cL_isAsFed 85 = .ok (.iload 7, 2) := by decide +kernel
theorem dL_isAsFed_87 : decode cL_isAsFed 87 = .ok (.if_icmp .ne 30, 3) := by decide +kernel
theorem dL_isAsFed_90 : decode cL_isAsFed 90 = .ok (.aload_n 0, 1) := by decide +kernel
theorem dL_isAsFed_91 : decode cL_isAsFed 91 = .ok (.iload 5, 2) := by decide +kernel
theorem dL_isAsFed_93 : decode cL_isAsFed 93 = .ok (.invokevirtual 63, 3) := by decide +kernel
theorem dL_isAsFed_96 : decode cL_isAsFed 96 = .ok (.iload 6, 2) := by decide +kernel
theorem dL_isAsFed_98 : decode cL_isAsFed 98 = .ok (.iconst 3, 1) := by decide +kernel
theorem dL_isAsFed_99 : decode cL_isAsFed 99 = .ok (.irem, 1) := by decide +kernel
theorem dL_isAsFed_100 : decode cL_isAsFed 100 = .ok (.if_icmp .ne 17, 3) := by decide +kernel
theorem dL_isAsFed_103 : decode cL_isAsFed 103 = .ok (.aload_n 0, 1) := by decide +kernel
theorem dL_isAsFed_104 : decode cL_isAsFed 104 = .ok (.iload 5, 2) := by decide +kernel
theorem dL_isAsFed_106 : decode cL_isAsFed 106 = .ok (.invokevirtual 66, 3) := by decide +kernel
theorem dL_isAsFed_109 : decode cL_isAsFed 109 = .ok (.iconst 1, 1) := by decide +kernel
theorem dL_isAsFed_110 : decode cL_isAsFed 110 = .ok (.if_icmp .lt 7, 3) := by decide +kernel
theorem dL_isAsFed_113 : decode cL_isAsFed 113 = .ok (.iconst 1, 1) := by decide +kernel
theorem dL_isAsFed_114 : decode cL_isAsFed 114 = .ok (.goto 4, 3) := by decide +kernel
theorem dL_isAsFed_117 : decode cL_isAsFed 117 = .ok (.iconst 0, 1) := by decide +kernel
theorem dL_isAsFed_118 : decode cL_isAsFed 118 = .ok (.istore 4, 2) := by decide +kernel
theorem dL_isAsFed_120 : decode cL_isAsFed 120 = .ok (.iconst 0, 1) := by decide +kernel
theorem dL_isAsFed_121 : decode cL_isAsFed 121 = .ok (.istore 8, 2) := by decide +kernel
theorem dL_isAsFed_123 : decode cL_isAsFed 123 = .ok (.iload 8, 2) := by decide +kernel
theorem dL_isAsFed_125 : decode cL_isAsFed 125 = .ok (.iload 7, 2) := by decide +kernel
theorem dL_isAsFed_127 : decode cL_isAsFed 127 = .ok (.if_icmp .ge 106, 3) := by decide +kernel
theorem dL_isAsFed_130 : decode cL_isAsFed 130 = .ok (.iload 4, 2) := by decide +kernel
theorem dL_isAsFed_132 : decode cL_isAsFed 132 = .ok (.ifCond .eq 101, 3) := by decide +kernel
theorem dL_isAsFed_135 : decode cL_isAsFed 135 = .ok (.aload_n 0, 1) := by decide +kernel
theorem dL_isAsFed_136 : decode cL_isAsFed 136 = .ok (.iload 5, 2) := by decide +kernel
theorem dL_isAsFed_138 : decode cL_isAsFed 138 = .ok (.iload 8, 2) := by decide +kernel
theorem dL_isAsFed_140 : decode cL_isAsFed 140 = .ok (.invokevirtual 69, 3) := by decide +kernel
theorem dL_isAsFed_143 : decode cL_isAsFed 143 = .ok (.iload 6, 2) := by decide +kernel
theorem dL_isAsFed_145 : decode cL_isAsFed 145 = .ok (.iload 5, 2) := by decide +kernel
theorem dL_isAsFed_147 : decode cL_isAsFed 147 = .ok (.iload 8, 2) := by decide +kernel
theorem dL_isAsFed_149 : decode cL_isAsFed 149 = .ok (.invokestatic 45, 3) := by decide +kernel
theorem dL_isAsFed_152 : decode cL_isAsFed 152 = .ok (.if_icmp .ne 7, 3) := by decide +kernel
theorem dL_isAsFed_155 : decode cL_isAsFed 155 = .ok (.iconst 1, 1) := by decide +kernel
theorem dL_isAsFed_156 : decode cL_isAsFed 156 = .ok (.goto 4, 3) := by decide +kernel
theorem dL_isAsFed_159 : decode cL_isAsFed 159 = .ok (.iconst 0, 1) := by decide +kernel
theorem dL_isAsFed_160 : decode cL_isAsFed 160 = .ok (.istore 4, 2) := by decide +kernel
theorem dL_isAsFed_162 : decode cL_isAsFed 162 = .ok (.iconst 0, 1) := by decide +kernel
theorem dL_isAsFed_163 : decode cL_isAsFed 163 = .ok (.istore 9, 2) := by decide +kernel
theorem dL_isAsFed_165 : decode cL_isAsFed 165 = .ok (.iload 9, 2) := by decide +kernel
theorem dL_isAsFed_167 : decode cL_isAsFed 167 = .ok (.iload 6, 2) := by decide +kernel
theorem dL_isAsFed_169 : decode cL_isAsFed 169 = .ok (.iload 5, 2) := by decide +kernel
theorem dL_isAsFed_171 : decode cL_isAsFed 171 = .ok (.iload 8, 2) := by decide +kernel
theorem dL_isAsFed_173 : decode cL_isAsFed 173 = .ok (.invokestatic 45, 3) := by decide +kernel
theorem dL_isAsFed_176 : decode cL_isAsFed 176 = .ok (.if_icmp .ge 51, 3) := by decide +kernel
theorem dL_isAsFed_179 : decode cL_isAsFed 179 = .ok (.iload 4, 2) := by decide +kernel
theorem dL_isAsFed_181 : decode cL_isAsFed 181 = .ok (.ifCond .eq 46, 3) := by decide +kernel
theorem dL_isAsFed_184 : decode cL_isAsFed 184 = .ok (.aload_n 0, 1) := by decide +kernel
theorem dL_isAsFed_185 : decode cL_isAsFed 185 = .ok (.iload 5, 2) := by decide +kernel
theorem dL_isAsFed_187 : decode cL_isAsFed 187 = .ok (.iload 8, 2) := by decide +kernel
theorem dL_isAsFed_189 : decode cL_isAsFed 189 = .ok (.iload 9, 2) := by decide +kernel
theorem dL_isAsFed_191 : decode cL_isAsFed 191 = .ok (.invokevirtual 72, 3) := by decide +kernel
theorem dL_isAsFed_194 : decode cL_isAsFed 194 = .ok (.iload 6, 2) := by decide +kernel
theorem dL_isAsFed_196 : decode cL_isAsFed 196 = .ok (.bipush 7, 2) := by decide +kernel
theorem dL_isAsFed_198 : decode cL_isAsFed 198 = .ok (.idiv, 1) := by decide +kernel
theorem dL_isAsFed_199 : decode cL_isAsFed 199 = .ok (.bipush 11, 2) := by decide +kernel
theorem dL_isAsFed_201 : decode cL_isAsFed 201 = .ok (.iload 8, 2) := by decide +kernel
theorem dL_isAsFed_203 : decode cL_isAsFed 203 = .ok (.imul, 1) := by decide +kernel
theorem dL_isAsFed_204 : decode cL_isAsFed 204 = .ok (.iadd, 1) := by decide +kernel
theorem dL_isAsFed_205 : decode cL_isAsFed 205 = .ok (.iload 9, 2) := by decide +kernel
theorem dL_isAsFed_207 : decode cL_isAsFed 207 = .ok (.iadd, 1) := by decide +kernel
theorem dL_isAsFed_208 : decode cL_isAsFed 208 = .ok (.invokestatic 49, 3) := by decide +kernel
theorem dL_isAsFed_211 : decode cL_isAsFed 211 = .ok (.if_icmp .ne 7, 3) := by decide +kernel
theorem dL_isAsFed_214 : decode cL_isAsFed 214 = .ok (.iconst 1, 1) := by decide +kernel
theorem dL_isAsFed_215 : decode cL_isAsFed 215 = .ok (.goto 4, 3) := by decide +kernel
theorem dL_isAsFed_218 : decode cL_isAsFed 218 = .ok (.iconst 0, 1) := by decide +kernel
theorem dL_isAsFed_219 : decode cL_isAsFed 219 = .ok (.istore 4, 2) := by decide +kernel
theorem dL_isAsFed_221 : decode cL_isAsFed 221 = .ok (.iinc 9 1, 3) := by decide +kernel
theorem dL_isAsFed_224 : decode cL_isAsFed 224 = .ok (.goto (-59), 3) := by decide +kernel
theorem dL_isAsFed_227 : decode cL_isAsFed 227 = .ok (.iinc 8 1, 3) := by decide +kernel
theorem dL_isAsFed_230 : decode cL_isAsFed 230 = .ok (.goto (-107), 3) := by decide +kernel
theorem dL_isAsFed_233 : decode cL_isAsFed 233 = .ok (.iinc 5 1, 3) := by decide +kernel
theorem dL_isAsFed_236 : decode cL_isAsFed 236 = .ok (.goto (-218), 3) := by decide +kernel
theorem dL_isAsFed_239 : decode cL_isAsFed 239 = .ok (.iload 4, 2) := by decide +kernel
theorem dL_isAsFed_241 : decode cL_isAsFed 241 = .ok (.ireturn, 1) := by decide +kernel
theorem dL_isReadAgain_0 : decode cL_isReadAgain 0 = .ok (.iconst 0, 1) := by decide +kernel
theorem dL_isReadAgain_1 : decode cL_isReadAgain 1 = .ok (.istore_n 3, 1) := by decide +kernel
theorem dL_isReadAgain_2 : decode cL_isReadAgain 2 = .ok (.iload_n 3, 1) := by decide +kernel
theorem dL_isReadAgain_3 : decode cL_isReadAgain 3 = .ok (.aload_n 0, 1) := by decide +kernel
theorem dL_isReadAgain_4 : decode cL_isReadAgain 4 = .ok (.invokevirtual 76, 3) := by decide +kernel
theorem dL_isReadAgain_7 : decode cL_isReadAgain 7 = .ok (.if_icmp .ge 19, 3) := by decide +kernel
theorem dL_isReadAgain_10 : decode cL_isReadAgain 10 = .ok (.aload_n 1, 1) := by decide +kernel
theorem dL_isReadAgain_11 : decode cL_isReadAgain 11 = .ok (.aload_n 0, 1) := by decide +kernel
theorem dL_isReadAgain_12 : decode cL_isReadAgain 12 = .ok (.iload_n 3, 1) := by decide +kernel
theorem dL_isReadAgain_13 : decode cL_isReadAgain 13 = .ok (.invokevirtual 79, 3) := by decide +kernel
theorem dL_isReadAgain_16 : decode cL_isReadAgain 16 = .ok (.invokevirtual 31, 3) := by decide +kernel
theorem dL_isReadAgain_19 : decode cL_isReadAgain 19 = .ok (.pop, 1) := by decide +kernel
theorem dL_isReadAgain_20 : decode cL_isReadAgain 20 = .ok (.iinc 3 1, 3) := by decide +kernel
theorem dL_isReadAgain_23 : decode cL_isReadAgain 23 = .ok (.goto (-21), 3) := by decide +kernel
theorem dL_isReadAgain_26 : decode cL_isReadAgain 26 = .ok (.aload_n 1, 1) := by decide +kernel
theorem dL_isReadAgain_27 : decode cL_isReadAgain 27 = .ok (.invokevirtual 80, 3) := by decide +kernel
theorem dL_isReadAgain_30 : decode cL_isReadAgain 30 = .ok (.aload_n 0, 1) := by decide +kernel
theorem dL_isReadAgain_31 : decode cL_isReadAgain 31 = .ok (.invokevirtual 76, 3) := by decide +kernel
theorem dL_isReadAgain_34 : decode cL_isReadAgain 34 = .ok (.if_icmp .ne 25, 3) := by decide +kernel
theorem dL_isReadAgain_37 : decode cL_isReadAgain 37 = .ok (.aload_n 1, 1) := by decide +kernel
theorem dL_isReadAgain_38 : decode cL_isReadAgain 38 = .ok (.invokevirtual 83, 3) := by decide +kernel
theorem dL_isReadAgain_41 : decode cL_isReadAgain 41 = .ok (.ifCond .ne 18, 3) := by decide +kernel
theorem dL_isReadAgain_44 : decode cL_isReadAgain 44 = .ok (.aload_n 1, 1) := by decide +kernel
theorem dL_isReadAgain_45 : decode cL_isReadAgain 45 = .ok (.invokevirtual 53, 3) := by decide +kernel
theorem dL_isReadAgain_48 : decode cL_isReadAgain 48 = .ok (.aload_n 0, 1) := by decide +kernel
theorem dL_isReadAgain_49 : decode cL_isReadAgain 49 = .ok (.invokevirtual 53, 3) := by decide +kernel
theorem dL_isReadAgain_52 : decode cL_isReadAgain 52 = .ok (.if_icmp .ne 7, 3) := by decide +kernel
theorem dL_isReadAgain_55 : decode cL_isReadAgain 55 = .ok (.iconst 1, 1) := by decide +kernel
theorem dL_isReadAgain_56 : decode cL_isReadAgain 56 = .ok (.goto 4, 3) := by decide +kernel
theorem dL_isReadAgain_59 : decode cL_isReadAgain 59 = .ok (.iconst 0, 1) := by decide +kernel
theorem dL_isReadAgain_60 : decode cL_isReadAgain 60 = .ok (.istore_n 3, 1) := by decide +kernel
theorem dL_isReadAgain_61 : decode cL_isReadAgain 61 = .ok (.iconst 0, 1) := by decide +kernel
theorem dL_isReadAgain_62 : decode cL_isReadAgain 62 = .ok (.istore 4, 2) := by decide +kernel
theorem dL_isReadAgain_64 : decode cL_isReadAgain 64 = .ok (.iload_n 3, 1) := by decide +kernel
theorem dL_isReadAgain_65 : decode cL_isReadAgain 65 = .ok (.ifCond .eq 176, 3) := by decide +kernel
theorem dL_isReadAgain_68 : decode cL_isReadAgain 68 = .ok (.iload 4, 2) := by decide +kernel
theorem dL_isReadAgain_70 : decode cL_isReadAgain 70 = .ok (.aload_n 0, 1) := by decide +kernel
theorem dL_isReadAgain_71 : decode cL_isReadAgain 71 = .ok (.invokevirtual 53, 3) := by decide +kernel
theorem dL_isReadAgain_74 : decode cL_isReadAgain 74 = .ok (.if_icmp .ge 167, 3) := by decide +kernel
theorem dL_isReadAgain_77 : decode cL_isReadAgain 77 = .ok (.aload_n 1, 1) := by decide +kernel
theorem dL_isReadAgain_78 : decode cL_isReadAgain 78 = .ok (.iload 4, 2) := by decide +kernel
theorem dL_isReadAgain_80 : decode cL_isReadAgain 80 = .ok (.invokevirtual 56, 3) := by decide +kernel
theorem dL_isReadAgain_83 : decode cL_isReadAgain 83 = .ok (.aload_n 0, 1) := by decide +kernel
theorem dL_isReadAgain_84 : decode cL_isReadAgain 84 = .ok (.iload 4, 2) := by decide +kernel
theorem dL_isReadAgain_86 : decode cL_isReadAgain 86 = .ok (.invokevirtual 56, 3) := by decide +kernel
theorem dL_isReadAgain_89 : decode cL_isReadAgain 89 = .ok (.if_icmp .ne 32, 3) := by decide +kernel
theorem dL_isReadAgain_92 : decode cL_isReadAgain 92 = .ok (.aload_n 1, 1) := by decide +kernel
theorem dL_isReadAgain_93 : decode cL_isReadAgain 93 = .ok (.iload 4, 2) := by decide +kernel
theorem dL_isReadAgain_95 : decode cL_isReadAgain 95 = .ok (.invokevirtual 59, 3) := by decide +kernel
theorem dL_isReadAgain_98 : decode cL_isReadAgain 98 = .ok (.iload_n 2, 1) := by decide +kernel
theorem dL_isReadAgain_99 : decode cL_isReadAgain 99 = .ok (.if_icmp .ne 22, 3) := by decide +kernel
theorem dL_isReadAgain_102 : decode cL_isReadAgain 102 = .ok (.aload_n 1, 1) := by decide +kernel
theorem dL_isReadAgain_103 : decode cL_isReadAgain 103 = .ok (.iload 4, 2) := by decide +kernel
theorem dL_isReadAgain_105 : decode cL_isReadAgain 105 = .ok (.invokevirtual 66, 3) := by decide +kernel
theorem dL_isReadAgain_108 : decode cL_isReadAgain 108 = .ok (.aload_n 0, 1) := by decide +kernel
theorem dL_isReadAgain_109 : decode cL_isReadAgain 109 = .ok (.iload 4, 2) := by decide +kernel
theorem dL_isReadAgain_111 : decode cL_isReadAgain 111 = .ok (.invokevirtual 66, 3) := by decide +kernel
theorem dL_isReadAgain_114 : decode cL_isReadAgain 114 = .ok (.if_icmp .ne 7, 3) := by decide +kernel
theorem dL_isReadAgain_117 : decode cL_isReadAgain 117 = .ok (.iconst 1, 1) := by decide +kernel
theorem dL_isReadAgain_118 : decode cL_isReadAgain 118 = .ok (.goto 4, 3) := by decide +kernel
theorem dL_isReadAgain_121 : decode cL_isReadAgain 121 = .ok (.iconst 0, 1) := by decide +kernel
theorem dL_isReadAgain_122 : decode cL_isReadAgain 122 = .ok (.istore_n 3, 1) := by decide +kernel
theorem dL_isReadAgain_123 : decode cL_isReadAgain 123 = .ok (.iconst 0, 1) := by decide +kernel
theorem dL_isReadAgain_124 : decode cL_isReadAgain 124 = .ok (.istore 5, 2) := by decide +kernel
theorem dL_isReadAgain_126 : decode cL_isReadAgain 126 = .ok (.iload 5, 2) := by decide +kernel
theorem dL_isReadAgain_128 : decode cL_isReadAgain 128 = .ok (.iload_n 2, 1) := by decide +kernel
theorem dL_isReadAgain_129 : decode cL_isReadAgain 129 = .ok (.if_icmp .ge 106, 3) := by decide +kernel
theorem dL_isReadAgain_132 : decode cL_isReadAgain 132 = .ok (.iload_n 3, 1) := by decide +kernel
theorem dL_isReadAgain_133 : decode cL_isReadAgain 133 = .ok (.ifCond .eq 102, 3) := by decide +kernel
theorem dL_isReadAgain_136 : decode cL_isReadAgain 136 = .ok (.iload 5, 2) := by decide +kernel
theorem dL_isReadAgain_138 : decode cL_isReadAgain 138 = .ok (.aload_n 0, 1) := by decide +kernel
theorem dL_isReadAgain_139 : decode cL_isReadAgain 139 = .ok (.iload 4, 2) := by decide +kernel
theorem dL_isReadAgain_141 : decode cL_isReadAgain 141 = .ok (.invokevirtual 59, 3) := by decide +kernel
theorem dL_isReadAgain_144 : decode cL_isReadAgain 144 = .ok (.if_icmp .ge 14, 3) := by decide +kernel
theorem dL_isReadAgain_147 : decode cL_isReadAgain 147 = .ok (.aload_n 0, 1) := by decide +kernel
theorem dL_isReadAgain_148 : decode cL_isReadAgain 148 = .ok (.iload 4, 2) := by decide +kernel
theorem dL_isReadAgain_150 : decode cL_isReadAgain 150 = .ok (.iload 5, 2) := by decide +kernel
theorem dL_isReadAgain_152 : decode cL_isReadAgain 152 = .ok (.invokevirtual 69, 3) := by decide +kernel
theorem dL_isReadAgain_155 : decode cL_isReadAgain 155 = .ok (.goto 4, 3) := by decide +kernel
theorem dL_isReadAgain_158 : decode cL_isReadAgain 158 = .ok (.iconst 0, 1) := by decide +kernel
theorem dL_isReadAgain_159 : decode cL_isReadAgain 159 = .ok (.istore 6, 2) := by decide +kernel
theorem dL_isReadAgain_161 : decode cL_isReadAgain 161 = .ok (.aload_n 1, 1) := by decide +kernel
theorem dL_isReadAgain_162 : decode cL_isReadAgain 162 = .ok (.iload 4, 2) := by decide +kernel
theorem dL_isReadAgain_164 : decode cL_isReadAgain 164 = .ok (.iload 5, 2) := by decide +kernel
theorem dL_isReadAgain_166 : decode cL_isReadAgain 166 = .ok (.invokevirtual 69, 3) := by decide +kernel
theorem dL_isReadAgain_169 : decode cL_isReadAgain 169 = .ok (.iload 6, 2) := by decide +kernel
theorem dL_isReadAgain_171 : decode cL_isReadAgain 171 = .ok (.if_icmp .ne 7, 3) := by decide +kernel
theorem dL_isReadAgain_174 : decode cL_isReadAgain 174 = .ok (.iconst 1, 1) := by decide +kernel
theorem dL_isReadAgain_175 : decode cL_isReadAgain 175 = .ok (.goto 4, 3) := by decide +kernel
theorem dL_isReadAgain_178 : decode cL_isReadAgain 178 = .ok (.iconst 0, 1) := by decide +kernel
theorem dL_isReadAgain_179 : decode cL_isReadAgain 179 = .ok (.istore_n 3, 1) := by decide +kernel
theorem dL_isReadAgain_180 : decode cL_isReadAgain 180 = .ok (.iconst 0, 1) := by decide +kernel
theorem dL_isReadAgain_181 : decode cL_isReadAgain 181 = .ok (.istore 7, 2) := by decide +kernel
theorem dL_isReadAgain_183 : decode cL_isReadAgain 183 = .ok (.iload 7, 2) := by decide +kernel
theorem dL_isReadAgain_185 : decode cL_isReadAgain 185 = .ok (.iload 6, 2) := by decide +kernel
theorem dL_isReadAgain_187 : decode cL_isReadAgain 187 = .ok (.if_icmp .ge 42, 3) := by decide +kernel
theorem dL_isReadAgain_190 : decode cL_isReadAgain 190 = .ok (.iload_n 3, 1) := by decide +kernel
theorem dL_isReadAgain_191 : decode cL_isReadAgain 191 = .ok (.ifCond .eq 38, 3) := by decide +kernel
theorem dL_isReadAgain_194 : decode cL_isReadAgain 194 = .ok (.aload_n 1, 1) := by decide +kernel
theorem dL_isReadAgain_195 : decode cL_isReadAgain 195 = .ok (.iload 4, 2) := by decide +kernel
theorem dL_isReadAgain_197 : decode cL_isReadAgain 197 = .ok (.iload 5, 2) := by decide +kernel
theorem dL_isReadAgain_199 : decode cL_isReadAgain 199 = .ok (.iload 7, 2) := by decide +kernel
theorem dL_isReadAgain_201 : decode cL_isReadAgain 201 = .ok (.invokevirtual 72, 3) := by decide +kernel
theorem dL_isReadAgain_204 : decode cL_isReadAgain 204 = .ok (.aload_n 0, 1) := by decide +kernel
theorem dL_isReadAgain_205 : decode cL_isReadAgain 205 = .ok (.iload 4, 2) := by decide +kernel
theorem dL_isReadAgain_207 : decode cL_isReadAgain 207 = .ok (.iload 5, 2) := by decide +kernel
theorem dL_isReadAgain_209 : decode cL_isReadAgain 209 = .ok (.iload 7, 2) := by decide +kernel
theorem dL_isReadAgain_211 : decode cL_isReadAgain 211 = .ok (.invokevirtual 72, 3) := by decide +kernel
theorem dL_isReadAgain_214 : decode cL_isReadAgain 214 = .ok (.if_icmp .ne 7, 3) := by decide +kernel
theorem dL_isReadAgain_217 : decode cL_isReadAgain 217 = .ok (.iconst 1, 1) := by decide +kernel
theorem dL_isReadAgain_218 : decode cL_isReadAgain 218 = .ok (.goto 4, 3) := by decide +kernel
theorem dL_isReadAgain_221 : decode cL_isReadAgain 221 = .ok (.iconst 0, 1) := by decide +kernel
theorem dL_isReadAgain_222 : decode cL_isReadAgain 222 = .ok (.istore_n 3, 1) := by decide +kernel
theorem dL_isReadAgain_223 : decode cL_isReadAgain 223 = .ok (.iinc 7 1, 3) := by decide +kernel
theorem dL_isReadAgain_226 : decode cL_isReadAgain 226 = .ok (.goto (-43), 3) := by decide +kernel
theorem dL_isReadAgain_229 : decode cL_isReadAgain 229 = .ok (.iinc 5 1, 3) := by decide +kernel
theorem dL_isReadAgain_232 : decode cL_isReadAgain 232 = .ok (.goto (-106), 3) := by decide +kernel
theorem dL_isReadAgain_235 : decode cL_isReadAgain 235 = .ok (.iinc 4 1, 3) := by decide +kernel
theorem dL_isReadAgain_238 : decode cL_isReadAgain 238 = .ok (.goto (-174), 3) := by decide +kernel
theorem dL_isReadAgain_241 : decode cL_isReadAgain 241 = .ok (.iload_n 3, 1) := by decide +kernel
theorem dL_isReadAgain_242 : decode cL_isReadAgain 242 = .ok (.ireturn, 1) := by decide +kernel
theorem dL_law_0 : decode cL_law 0 = .ok (.new 10, 3) := by decide +kernel
theorem dL_law_3 : decode cL_law 3 = .ok (.dup, 1) := by decide +kernel
theorem dL_law_4 : decode cL_law 4 = .ok (.invokespecial 86, 3) := by decide +kernel
theorem dL_law_7 : decode cL_law 7 = .ok (.astore_n 1, 1) := by decide +kernel
theorem dL_law_8 : decode cL_law 8 = .ok (.new 10, 3) := by decide +kernel
theorem dL_law_11 : decode cL_law 11 = .ok (.dup, 1) := by decide +kernel
theorem dL_law_12 : decode cL_law 12 = .ok (.invokespecial 86, 3) := by decide +kernel
theorem dL_law_15 : decode cL_law 15 = .ok (.astore_n 2, 1) := by decide +kernel
theorem dL_law_16 : decode cL_law 16 = .ok (.aload_n 0, 1) := by decide +kernel
theorem dL_law_17 : decode cL_law 17 = .ok (.iconst 0, 1) := by decide +kernel
theorem dL_law_18 : decode cL_law 18 = .ok (.invokestatic 41, 3) := by decide +kernel
theorem dL_law_21 : decode cL_law 21 = .ok (.bipush 6, 2) := by decide +kernel
theorem dL_law_23 : decode cL_law 23 = .ok (.irem, 1) := by decide +kernel
theorem dL_law_24 : decode cL_law 24 = .ok (.istore_n 3, 1) := by decide +kernel
theorem dL_law_25 : decode cL_law 25 = .ok (.aload_n 1, 1) := by decide +kernel
theorem dL_law_26 : decode cL_law 26 = .ok (.iload_n 3, 1) := by decide +kernel
theorem dL_law_27 : decode cL_law 27 = .ok (.invokestatic 87, 3) := by decide +kernel
theorem dL_law_30 : decode cL_law 30 = .ok (.ifCond .eq 15, 3) := by decide +kernel
theorem dL_law_33 : decode cL_law 33 = .ok (.aload_n 2, 1) := by decide +kernel
theorem dL_law_34 : decode cL_law 34 = .ok (.iload_n 3, 1) := by decide +kernel
theorem dL_law_35 : decode cL_law 35 = .ok (.invokestatic 87, 3) := by decide +kernel
theorem dL_law_38 : decode cL_law 38 = .ok (.ifCond .eq 7, 3) := by decide +kernel
theorem dL_law_41 : decode cL_law 41 = .ok (.iconst 1, 1) := by decide +kernel
theorem dL_law_42 : decode cL_law 42 = .ok (.goto 4, 3) := by decide +kernel
theorem dL_law_45 : decode cL_law 45 = .ok (.iconst 0, 1) := by decide +kernel
theorem dL_law_46 : decode cL_law 46 = .ok (.istore 4, 2) := by decide +kernel
theorem dL_law_48 : decode cL_law 48 = .ok (.iconst 1, 1) := by decide +kernel
theorem dL_law_49 : decode cL_law 49 = .ok (.aload_n 0, 1) := by decide +kernel
theorem dL_law_50 : decode cL_law 50 = .ok (.iconst 1, 1) := by decide +kernel
theorem dL_law_51 : decode cL_law 51 = .ok (.invokestatic 41, 3) := by decide +kernel
theorem dL_law_54 : decode cL_law 54 = .ok (.bipush 80, 2) := by decide +kernel
theorem dL_law_56 : decode cL_law 56 = .ok (.irem, 1) := by decide +kernel
theorem dL_law_57 : decode cL_law 57 = .ok (.iadd, 1) := by decide +kernel
theorem dL_law_58 : decode cL_law 58 = .ok (.istore 5, 2) := by decide +kernel
theorem dL_law_60 : decode cL_law 60 = .ok (.iconst 0, 1) := by decide +kernel
theorem dL_law_61 : decode cL_law 61 = .ok (.istore 6, 2) := by decide +kernel
theorem dL_law_63 : decode cL_law 63 = .ok (.iload 6, 2) := by decide +kernel
theorem dL_law_65 : decode cL_law 65 = .ok (.bipush 6, 2) := by decide +kernel
theorem dL_law_67 : decode cL_law 67 = .ok (.if_icmp .ge 134, 3) := by decide +kernel
theorem dL_law_70 : decode cL_law 70 = .ok (.iload 4, 2) := by decide +kernel
theorem dL_law_72 : decode cL_law 72 = .ok (.ifCond .eq 129, 3) := by decide +kernel
theorem dL_law_75 : decode cL_law 75 = .ok (.aload_n 0, 1) := by decide +kernel
theorem dL_law_76 : decode cL_law 76 = .ok (.iconst 2, 1) := by decide +kernel
theorem dL_law_77 : decode cL_law 77 = .ok (.iload 6, 2) := by decide +kernel
theorem dL_law_79 : decode cL_law 79 = .ok (.iadd, 1) := by decide +kernel
theorem dL_law_80 : decode cL_law 80 = .ok (.invokestatic 41, 3) := by decide +kernel
theorem dL_law_83 : decode cL_law 83 = .ok (.iconst 5, 1) := by decide +kernel
theorem dL_law_84 : decode cL_law 84 = .ok (.irem, 1) := by decide +kernel
theorem dL_law_85 : decode cL_law 85 = .ok (.istore 7, 2) := by decide +kernel
theorem dL_law_87 : decode cL_law 87 = .ok (.aload_n 1, 1) := by decide +kernel
theorem dL_law_88 : decode cL_law 88 = .ok (.aload_n 0, 1) := by decide +kernel
theorem dL_law_89 : decode cL_law 89 = .ok (.bipush 7, 2) := by decide +kernel
theorem dL_law_91 : decode cL_law 91 = .ok (.iload 6, 2) := by decide +kernel
theorem dL_law_93 : decode cL_law 93 = .ok (.imul, 1) := by decide +kernel
theorem dL_law_94 : decode cL_law 94 = .ok (.iload 7, 2) := by decide +kernel
theorem dL_law_96 : decode cL_law 96 = .ok (.iload 5, 2) := by decide +kernel
theorem dL_law_98 : decode cL_law 98 = .ok (.iload 6, 2) := by decide +kernel
theorem dL_law_100 : decode cL_law 100 = .ok (.iadd, 1) := by decide +kernel
theorem dL_law_101 : decode cL_law 101 = .ok (.invokestatic 91, 3) := by decide +kernel
theorem dL_law_104 : decode cL_law 104 = .ok (.aload_n 1, 1) := by decide +kernel
theorem dL_law_105 : decode cL_law 105 = .ok (.invokevirtual 83, 3) := by decide +kernel
theorem dL_law_108 : decode cL_law 108 = .ok (.ifCond .ne 41, 3) := by decide +kernel
theorem dL_law_111 : decode cL_law 111 = .ok (.aload_n 1, 1) := by decide +kernel
theorem dL_law_112 : decode cL_law 112 = .ok (.invokevirtual 80, 3) := by decide +kernel
theorem dL_law_115 : decode cL_law 115 = .ok (.ifCond .ne 34, 3) := by decide +kernel
theorem dL_law_118 : decode cL_law 118 = .ok (.aload_n 1, 1) := by decide +kernel
theorem dL_law_119 : decode cL_law 119 = .ok (.invokevirtual 95, 3) := by decide +kernel
theorem dL_law_122 : decode cL_law 122 = .ok (.iload 5, 2) := by decide +kernel
theorem dL_law_124 : decode cL_law 124 = .ok (.iload 6, 2) := by decide +kernel
theorem dL_law_126 : decode cL_law 126 = .ok (.iadd, 1) := by decide +kernel
theorem dL_law_127 : decode cL_law 127 = .ok (.if_icmp .ne 22, 3) := by decide +kernel
theorem dL_law_130 : decode cL_law 130 = .ok (.aload_n 1, 1) := by decide +kernel
theorem dL_law_131 : decode cL_law 131 = .ok (.aload_n 0, 1) := by decide +kernel
theorem dL_law_132 : decode cL_law 132 = .ok (.bipush 7, 2) := by decide +kernel
theorem dL_law_134 : decode cL_law 134 = .ok (.iload 6, 2) := by decide +kernel
theorem dL_law_136 : decode cL_law 136 = .ok (.imul, 1) := by decide +kernel
theorem dL_law_137 : decode cL_law 137 = .ok (.iload 7, 2) := by decide +kernel
theorem dL_law_139 : decode cL_law 139 = .ok (.invokestatic 98, 3) := by decide +kernel
theorem dL_law_142 : decode cL_law 142 = .ok (.ifCond .eq 7, 3) := by decide +kernel
theorem dL_law_145 : decode cL_law 145 = .ok (.iconst 1, 1) := by decide +kernel
theorem dL_law_146 : decode cL_law 146 = .ok (.goto 4, 3) := by decide +kernel
theorem dL_law_149 : decode cL_law 149 = .ok (.iconst 0, 1) := by decide +kernel
theorem dL_law_150 : decode cL_law 150 = .ok (.istore 4, 2) := by decide +kernel
theorem dL_law_152 : decode cL_law 152 = .ok (.iload 4, 2) := by decide +kernel
theorem dL_law_154 : decode cL_law 154 = .ok (.ifCond .eq 38, 3) := by decide +kernel
theorem dL_law_157 : decode cL_law 157 = .ok (.aload_n 1, 1) := by decide +kernel
theorem dL_law_158 : decode cL_law 158 = .ok (.invokevirtual 102, 3) := by decide +kernel
theorem dL_law_161 : decode cL_law 161 = .ok (.aload_n 1, 1) := by decide +kernel
theorem dL_law_162 : decode cL_law 162 = .ok (.invokevirtual 76, 3) := by decide +kernel
theorem dL_law_165 : decode cL_law 165 = .ok (.if_icmp .ne 27, 3) := by decide +kernel
theorem dL_law_168 : decode cL_law 168 = .ok (.aload_n 1, 1) := by decide +kernel
theorem dL_law_169 : decode cL_law 169 = .ok (.aload_n 2, 1) := by decide +kernel
theorem dL_law_170 : decode cL_law 170 = .ok (.iload_n 3, 1) := by decide +kernel
theorem dL_law_171 : decode cL_law 171 = .ok (.invokestatic 105, 3) := by decide +kernel
theorem dL_law_174 : decode cL_law 174 = .ok (.ifCond .eq 18, 3) := by decide +kernel
theorem dL_law_177 : decode cL_law 177 = .ok (.aload_n 2, 1) := by decide +kernel
theorem dL_law_178 : decode cL_law 178 = .ok (.invokevirtual 95, 3) := by decide +kernel
theorem dL_law_181 : decode cL_law 181 = .ok (.iload 6, 2) := by decide +kernel
theorem dL_law_183 : decode cL_law 183 = .ok (.iconst 1, 1) := by decide +kernel
theorem dL_law_184 : decode cL_law 184 = .ok (.iadd, 1) := by decide +kernel
theorem dL_law_185 : decode cL_law 185 = .ok (.if_icmp .ne 7, 3) := by decide +kernel
theorem dL_law_188 : decode cL_law 188 = .ok (.iconst 1, 1) := by decide +kernel
theorem dL_law_189 : decode cL_law 189 = .ok (.goto 4, 3) := by decide +kernel
theorem dL_law_192 : decode cL_law 192 = .ok (.iconst 0, 1) := by decide +kernel
theorem dL_law_193 : decode cL_law 193 = .ok (.istore 4, 2) := by decide +kernel
theorem dL_law_195 : decode cL_law 195 = .ok (.iinc 6 1, 3) := by decide +kernel
theorem dL_law_198 : decode cL_law 198 = .ok (.goto (-135), 3) := by decide +kernel
theorem dL_law_201 : decode cL_law 201 = .ok (.iload 4, 2) := by decide +kernel
theorem dL_law_203 : decode cL_law 203 = .ok (.ireturn, 1) := by decide +kernel
