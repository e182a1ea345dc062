theorem dX0_init_0 : decode cX0_init 0 = .ok (.aload_n 0, 1) := by decide +kernel
theorem dX0_init_1 : decode cX0_init 1 = .ok (.invokespecial 1, 3) := by decide +kernel
theorem dX0_init_4 : decode cX0_init 4 = .ok (.aload_n 0, 1) := by decide +kernel
theorem dX0_init_5 : decode cX0_init 5 = .ok (.iconst 0, 1) := by decide +kernel
theorem dX0_init_6 : decode cX0_init 6 = .ok (.iload_n 1, 1) := by decide +kernel
theorem dX0_init_7 : decode cX0_init 7 = .ok (.invokestatic 7, 3) := by decide +kernel
theorem dX0_init_10 : decode cX0_init 10 = .ok (.newarray .int, 2) := by decide +kernel
theorem dX0_init_12 : decode cX0_init 12 = .ok (.putfield 13, 3) := by decide +kernel
theorem dX0_init_15 : decode cX0_init 15 = .ok (.return_, 1) := by decide +kernel
theorem dX0_at_0 : decode cX0_at 0 = .ok (.iload_n 1, 1) := by decide +kernel
theorem dX0_at_1 : decode cX0_at 1 = .ok (.ifCond .lt 29, 3) := by decide +kernel
theorem dX0_at_4 : decode cX0_at 4 = .ok (.iload_n 1, 1) := by decide +kernel
theorem dX0_at_5 : decode cX0_at 5 = .ok (.aload_n 0, 1) := by decide +kernel
theorem dX0_at_6 : decode cX0_at 6 = .ok (.getfield 19, 3) := by decide +kernel
theorem dX0_at_9 : decode cX0_at 9 = .ok (.if_icmp .ge 21, 3) := by decide +kernel
theorem dX0_at_12 : decode cX0_at 12 = .ok (.iload_n 1, 1) := by decide +kernel
theorem dX0_at_13 : decode cX0_at 13 = .ok (.aload_n 0, 1) := by decide +kernel
theorem dX0_at_14 : decode cX0_at 14 = .ok (.getfield 13, 3) := by decide +kernel
theorem dX0_at_17 : decode cX0_at 17 = .ok (.arraylength, 1) := by decide +kernel
theorem dX0_at_18 : decode cX0_at 18 = .ok (.if_icmp .ge 12, 3) := by decide +kernel
theorem dX0_at_21 : decode cX0_at 21 = .ok (.aload_n 0, 1) := by decide +kernel
theorem dX0_at_22 : decode cX0_at 22 = .ok (.getfield 13, 3) := by decide +kernel
theorem dX0_at_25 : decode cX0_at 25 = .ok (.iload_n 1, 1) := by decide +kernel
theorem dX0_at_26 : decode cX0_at 26 = .ok (.iaload, 1) := by decide +kernel
theorem dX0_at_27 : decode cX0_at 27 = .ok (.goto 4, 3) := by decide +kernel
theorem dX0_at_30 : decode cX0_at 30 = .ok (.iconst 0, 1) := by decide +kernel
theorem dX0_at_31 : decode cX0_at 31 = .ok (.ireturn, 1) := by decide +kernel
theorem dX0_add_0 : decode cX0_add 0 = .ok (.aload_n 0, 1) := by decide +kernel
theorem dX0_add_1 : decode cX0_add 1 = .ok (.getfield 19, 3) := by decide +kernel
theorem dX0_add_4 : decode cX0_add 4 = .ok (.ifCond .lt 35, 3) := by decide +kernel
theorem dX0_add_7 : decode cX0_add 7 = .ok (.aload_n 0, 1) := by decide +kernel
theorem dX0_add_8 : decode cX0_add 8 = .ok (.getfield 19, 3) := by decide +kernel
theorem dX0_add_11 : decode cX0_add 11 = .ok (.aload_n 0, 1) := by decide +kernel
theorem dX0_add_12 : decode cX0_add 12 = .ok (.getfield 13, 3) := by decide +kernel
theorem dX0_add_15 : decode cX0_add 15 = .ok (.arraylength, 1) := by decide +kernel
theorem dX0_add_16 : decode cX0_add 16 = .ok (.if_icmp .ge 23, 3) := by decide +kernel
theorem dX0_add_19 : decode cX0_add 19 = .ok (.aload_n 0, 1) := by decide +kernel
theorem dX0_add_20 : decode cX0_add 20 = .ok (.getfield 13, 3) := by decide +kernel
theorem dX0_add_23 : decode cX0_add 23 = .ok (.aload_n 0, 1) := by decide +kernel
theorem dX0_add_24 : decode cX0_add 24 = .ok (.getfield 19, 3) := by decide +kernel
theorem dX0_add_27 : decode cX0_add 27 = .ok (.iload_n 1, 1) := by decide +kernel
theorem dX0_add_28 : decode cX0_add 28 = .ok (.iastore, 1) := by decide +kernel
theorem dX0_add_29 : decode cX0_add 29 = .ok (.aload_n 0, 1) := by decide +kernel
theorem dX0_add_30 : decode cX0_add 30 = .ok (.dup, 1) := by decide +kernel
theorem dX0_add_31 : decode cX0_add 31 = .ok (.getfield 19, 3) := by decide +kernel
theorem dX0_add_34 : decode cX0_add 34 = .ok (.iconst 1, 1) := by decide +kernel
theorem dX0_add_35 : decode cX0_add 35 = .ok (.iadd, 1) := by decide +kernel
theorem dX0_add_36 : decode cX0_add 36 = .ok (.putfield 19, 3) := by decide +kernel
theorem dX0_add_39 : decode cX0_add 39 = .ok (.return_, 1) := by decide +kernel
theorem dX0_addAll_0 : decode cX0_addAll 0 = .ok (.iconst 0, 1) := by decide +kernel
theorem dX0_addAll_1 : decode cX0_addAll 1 = .ok (.istore_n 2, 1) := by decide +kernel
theorem dX0_addAll_2 : decode cX0_addAll 2 = .ok (.iload_n 2, 1) := by decide +kernel
theorem dX0_addAll_3 : decode cX0_addAll 3 = .ok (.aload_n 1, 1) := by decide +kernel
theorem dX0_addAll_4 : decode cX0_addAll 4 = .ok (.getfield 19, 3) := by decide +kernel
theorem dX0_addAll_7 : decode cX0_addAll 7 = .ok (.if_icmp .ge 18, 3) := by decide +kernel
theorem dX0_addAll_10 : decode cX0_addAll 10 = .ok (.aload_n 0, 1) := by decide +kernel
theorem dX0_addAll_11 : decode cX0_addAll 11 = .ok (.aload_n 1, 1) := by decide +kernel
theorem dX0_addAll_12 : decode cX0_addAll 12 = .ok (.iload_n 2, 1) := by decide +kernel
theorem dX0_addAll_13 : decode cX0_addAll 13 = .ok (.invokevirtual 23, 3) := by decide +kernel
theorem dX0_addAll_16 : decode cX0_addAll 16 = .ok (.invokevirtual 27, 3) := by decide +kernel
theorem dX0_addAll_19 : decode cX0_addAll 19 = .ok (.iinc 2 1, 3) := by decide +kernel
theorem dX0_addAll_22 : decode cX0_addAll 22 = .ok (.goto (-20), 3) := by decide +kernel
theorem dX0_addAll_25 : decode cX0_addAll 25 = .ok (.return_, 1) := by decide +kernel
theorem dX0_empty_0 : decode cX0_empty 0 = .ok (.aload_n 0, 1) := by decide +kernel
theorem dX0_empty_1 : decode cX0_empty 1 = .ok (.iconst 0, 1) := by decide +kernel
theorem dX0_empty_2 : decode cX0_empty 2 = .ok (.putfield 19, 3) := by decide +kernel
theorem dX0_empty_5 : decode cX0_empty 5 = .ok (.return_, 1) := by decide +kernel
theorem dX0_takePart_0 : decode cX0_takePart 0 = .ok (.aload_n 0, 1) := by decide +kernel
theorem dX0_takePart_1 : decode cX0_takePart 1 = .ok (.invokevirtual 31, 3) := by decide +kernel
theorem dX0_takePart_4 : decode cX0_takePart 4 = .ok (.iload_n 2, 1) := by decide +kernel
theorem dX0_takePart_5 : decode cX0_takePart 5 = .ok (.istore 4, 2) := by decide +kernel
theorem dX0_takePart_7 : decode cX0_takePart 7 = .ok (.iload 4, 2) := by decide +kernel
theorem dX0_takePart_9 : decode cX0_takePart 9 = .ok (.iload_n 3, 1) := by decide +kernel
theorem dX0_takePart_10 : decode cX0_takePart 10 = .ok (.if_icmp .ge 19, 3) := by decide +kernel
theorem dX0_takePart_13 : decode cX0_takePart 13 = .ok (.aload_n 0, 1) := by decide +kernel
theorem dX0_takePart_14 : decode cX0_takePart 14 = .ok (.aload_n 1, 1) := by decide +kernel
theorem dX0_takePart_15 : decode cX0_takePart 15 = .ok (.iload 4, 2) := by decide +kernel
theorem dX0_takePart_17 : decode cX0_takePart 17 = .ok (.invokevirtual 23, 3) := by decide +kernel
theorem dX0_takePart_20 : decode cX0_takePart 20 = .ok (.invokevirtual 27, 3) := by decide +kernel
theorem dX0_takePart_23 : decode cX0_takePart 23 = .ok (.iinc 4 1, 3) := by decide +kernel
theorem dX0_takePart_26 : decode cX0_takePart 26 = .ok (.goto (-19), 3) := by decide +kernel
theorem dX0_takePart_29 : decode cX0_takePart 29 = .ok (.return_, 1) := by decide +kernel
theorem dX1_init_0 : decode cX1_init 0 = .ok (.aload_n 0, 1) := by decide +kernel
theorem dX1_init_1 : decode cX1_init 1 = .ok (.invokespecial 1, 3) := by decide +kernel
theorem dX1_init_4 : decode cX1_init 4 = .ok (.return_, 1) := by decide +kernel
theorem dX2_init_0 : decode cX2_init 0 = .ok (.aload_n 0, 1) := by decide +kernel
theorem dX2_init_1 : decode cX2_init 1 = .ok (.invokespecial 3, 3) := by decide +kernel
theorem dX2_init_4 : decode cX2_init 4 = .ok (.aload_n 0, 1) := by decide +kernel
theorem dX2_init_5 : decode cX2_init 5 = .ok (.new 9, 3) := by decide +kernel
theorem dX2_init_8 : decode cX2_init 8 = .ok (.dup, 1) := by decide +kernel
theorem dX2_init_9 : decode cX2_init 9 = .ok (.invokespecial 11, 3) := by decide +kernel
theorem dX2_init_12 : decode cX2_init 12 = .ok (.putfield 12, 3) := by decide +kernel
theorem dX2_init_15 : decode cX2_init 15 = .ok (.aload_n 0, 1) := by decide +kernel
theorem dX2_init_16 : decode cX2_init 16 = .ok (.new 18, 3) := by decide +kernel
theorem dX2_init_19 : decode cX2_init 19 = .ok (.dup, 1) := by decide +kernel
theorem dX2_init_20 : decode cX2_init 20 = .ok (.sipush 128, 3) := by decide +kernel
theorem dX2_init_23 : decode cX2_init 23 = .ok (.invokespecial 20, 3) := by decide +kernel
theorem dX2_init_26 : decode cX2_init 26 = .ok (.putfield 23, 3) := by decide +kernel
theorem dX2_init_29 : decode cX2_init 29 = .ok (.return_, 1) := by decide +kernel
theorem dX2_freeBytes_0 : decode cX2_freeBytes 0 = .ok (.aload_n 0, 1) := by decide +kernel
theorem dX2_freeBytes_1 : decode cX2_freeBytes 1 = .ok (.getfield 12, 3) := by decide +kernel
theorem dX2_freeBytes_4 : decode cX2_freeBytes 4 = .ok (.iload_n 1, 1) := by decide +kernel
theorem dX2_freeBytes_5 : decode cX2_freeBytes 5 = .ok (.invokevirtual 27, 3) := by decide +kernel
theorem dX2_freeBytes_8 : decode cX2_freeBytes 8 = .ok (.istore_n 2, 1) := by decide +kernel
theorem dX2_freeBytes_9 : decode cX2_freeBytes 9 = .ok (.sipush 128, 3) := by decide +kernel
theorem dX2_freeBytes_12 : decode cX2_freeBytes 12 = .ok (.iload_n 2, 1) := by decide +kernel
theorem dX2_freeBytes_13 : decode cX2_freeBytes 13 = .ok (.invokestatic 31, 3) := by decide +kernel
theorem dX2_freeBytes_16 : decode cX2_freeBytes 16 = .ok (.isub, 1) := by decide +kernel
theorem dX2_freeBytes_17 : decode cX2_freeBytes 17 = .ok (.istore_n 3, 1) := by decide +kernel
theorem dX2_freeBytes_18 : decode cX2_freeBytes 18 = .ok (.iconst 0, 1) := by decide +kernel
theorem dX2_freeBytes_19 : decode cX2_freeBytes 19 = .ok (.istore 4, 2) := by decide +kernel
theorem dX2_freeBytes_21 : decode cX2_freeBytes 21 = .ok (.iload 4, 2) := by decide +kernel
theorem dX2_freeBytes_23 : decode cX2_freeBytes 23 = .ok (.iload_n 2, 1) := by decide +kernel
theorem dX2_freeBytes_24 : decode cX2_freeBytes 24 = .ok (.if_icmp .ge 22, 3) := by decide +kernel
theorem dX2_freeBytes_27 : decode cX2_freeBytes 27 = .ok (.iload_n 3, 1) := by decide +kernel
theorem dX2_freeBytes_28 : decode cX2_freeBytes 28 = .ok (.aload_n 0, 1) := by decide +kernel
theorem dX2_freeBytes_29 : decode cX2_freeBytes 29 = .ok (.getfield 12, 3) := by decide +kernel
theorem dX2_freeBytes_32 : decode cX2_freeBytes 32 = .ok (.iload_n 1, 1) := by decide +kernel
theorem dX2_freeBytes_33 : decode cX2_freeBytes 33 = .ok (.iload 4, 2) := by decide +kernel
theorem dX2_freeBytes_35 : decode cX2_freeBytes 35 = .ok (.invokevirtual 34, 3) := by decide +kernel
theorem dX2_freeBytes_38 : decode cX2_freeBytes 38 = .ok (.isub, 1) := by decide +kernel
theorem dX2_freeBytes_39 : decode cX2_freeBytes 39 = .ok (.istore_n 3, 1) := by decide +kernel
theorem dX2_freeBytes_40 : decode cX2_freeBytes 40 = .ok (.iinc 4 1, 3) := by decide +kernel
theorem dX2_freeBytes_43 : decode cX2_freeBytes 43 = .ok (.goto (-22), 3) := by decide +kernel
theorem dX2_freeBytes_46 : decode cX2_freeBytes 46 = .ok (.iload_n 3, 1) := by decide +kernel
theorem dX2_freeBytes_47 : decode cX2_freeBytes 47 = .ok (.ireturn, 1) := by decide +kernel
theorem dX2_sizeOfRecords_0 : decode cX2_sizeOfRecords 0 = .ok (.sipush 128, 3) := by decide +kernel
theorem dX2_sizeOfRecords_3 : decode cX2_sizeOfRecords 3 = .ok (.aload_n 0, 1) := by decide +kernel
theorem dX2_sizeOfRecords_4 : decode cX2_sizeOfRecords 4 = .ok (.getfield 12, 3) := by decide +kernel
theorem dX2_sizeOfRecords_7 : decode cX2_sizeOfRecords 7 = .ok (.iload_n 1, 1) := by decide +kernel
theorem dX2_sizeOfRecords_8 : decode cX2_sizeOfRecords 8 = .ok (.invokevirtual 27, 3) := by decide +kernel
theorem dX2_sizeOfRecords_11 : decode cX2_sizeOfRecords 11 = .ok (.invokestatic 31, 3) := by decide +kernel
theorem dX2_sizeOfRecords_14 : decode cX2_sizeOfRecords 14 = .ok (.isub, 1) := by decide +kernel
theorem dX2_sizeOfRecords_15 : decode cX2_sizeOfRecords 15 = .ok (.aload_n 0, 1) := by decide +kernel
theorem dX2_sizeOfRecords_16 : decode cX2_sizeOfRecords 16 = .ok (.iload_n 1, 1) := by decide +kernel
theorem dX2_sizeOfRecords_17 : decode cX2_sizeOfRecords 17 = .ok (.invokevirtual 38, 3) := by decide +kernel
theorem dX2_sizeOfRecords_20 : decode cX2_sizeOfRecords 20 = .ok (.isub, 1) := by decide +kernel
theorem dX2_sizeOfRecords_21 : decode cX2_sizeOfRecords 21 = .ok (.ireturn, 1) := by decide +kernel
theorem dX2_gapWith_0 : decode cX2_gapWith 0 = .ok (.aload_n 0, 1) := by decide +kernel
theorem dX2_gapWith_1 : decode cX2_gapWith 1 = .ok (.getfield 12, 3) := by decide +kernel
theorem dX2_gapWith_4 : decode cX2_gapWith 4 = .ok (.iload_n 1, 1) := by decide +kernel
theorem dX2_gapWith_5 : decode cX2_gapWith 5 = .ok (.iconst 1, 1) := by decide +kernel
theorem dX2_gapWith_6 : decode cX2_gapWith 6 = .ok (.invokevirtual 41, 3) := by decide +kernel
theorem dX2_gapWith_9 : decode cX2_gapWith 9 = .ok (.iload_n 2, 1) := by decide +kernel
theorem dX2_gapWith_10 : decode cX2_gapWith 10 = .ok (.invokestatic 31, 3) := by decide +kernel
theorem dX2_gapWith_13 : decode cX2_gapWith 13 = .ok (.isub, 1) := by decide +kernel
theorem dX2_gapWith_14 : decode cX2_gapWith 14 = .ok (.ireturn, 1) := by decide +kernel
theorem dX2_slotToUse_0 : decode cX2_slotToUse 0 = .ok (.aload_n 0, 1) := by decide +kernel
theorem dX2_slotToUse_1 : decode cX2_slotToUse 1 = .ok (.getfield 12, 3) := by decide +kernel
theorem dX2_slotToUse_4 : decode cX2_slotToUse 4 = .ok (.iload_n 1, 1) := by decide +kernel
theorem dX2_slotToUse_5 : decode cX2_slotToUse 5 = .ok (.invokevirtual 27, 3) := by decide +kernel
theorem dX2_slotToUse_8 : decode cX2_slotToUse 8 = .ok (.istore_n 2, 1) := by decide +kernel
theorem dX2_slotToUse_9 : decode cX2_slotToUse 9 = .ok (.iconst 0, 1) := by decide +kernel
theorem dX2_slotToUse_10 : decode cX2_slotToUse 10 = .ok (.istore_n 3, 1) := by decide +kernel
theorem dX2_slotToUse_11 : decode cX2_slotToUse 11 = .ok (.iload_n 3, 1) := by decide +kernel
theorem dX2_slotToUse_12 : decode cX2_slotToUse 12 = .ok (.iload_n 2, 1) := by decide +kernel
theorem dX2_slotToUse_13 : decode cX2_slotToUse 13 = .ok (.if_icmp .ge 23, 3) := by decide +kernel
theorem dX2_slotToUse_16 : decode cX2_slotToUse 16 = .ok (.aload_n 0, 1) := by decide +kernel
theorem dX2_slotToUse_17 : decode cX2_slotToUse 17 = .ok (.getfield 12, 3) := by decide +kernel
theorem dX2_slotToUse_20 : decode cX2_slotToUse 20 = .ok (.iload_n 1, 1) := by decide +kernel
theorem dX2_slotToUse_21 : decode cX2_slotToUse 21 = .ok (.iload_n 3, 1) := by decide +kernel
theorem dX2_slotToUse_22 : decode cX2_slotToUse 22 = .ok (.invokevirtual 34, 3) := by decide +kernel
theorem dX2_slotToUse_25 : decode cX2_slotToUse 25 = .ok (.ifCond .ne 5, 3) := by decide +kernel
theorem dX2_slotToUse_28 : decode cX2_slotToUse 28 = .ok (.iload_n 3, 1) := by decide +kernel
theorem dX2_slotToUse_29 : decode cX2_slotToUse 29 = .ok (.ireturn, 1) := by decide +kernel
theorem dX2_slotToUse_30 : decode cX2_slotToUse 30 = .ok (.iinc 3 1, 3) := by decide +kernel
theorem dX2_slotToUse_33 : decode cX2_slotToUse 33 = .ok (.goto (-22), 3) := by decide +kernel
theorem dX2_slotToUse_36 : decode cX2_slotToUse 36 = .ok (.iload_n 2, 1) := by decide +kernel
theorem dX2_slotToUse_37 : decode cX2_slotToUse 37 = .ok (.ireturn, 1) := by decide +kernel
theorem dX2_hasRoom_0 : decode cX2_hasRoom 0 = .ok (.aload_n 0, 1) := by decide +kernel
theorem dX2_hasRoom_1 : decode cX2_hasRoom 1 = .ok (.getfield 12, 3) := by decide +kernel
theorem dX2_hasRoom_4 : decode cX2_hasRoom 4 = .ok (.iload_n 1, 1) := by decide +kernel
theorem dX2_hasRoom_5 : decode cX2_hasRoom 5 = .ok (.invokevirtual 27, 3) := by decide +kernel
theorem dX2_hasRoom_8 : decode cX2_hasRoom 8 = .ok (.istore_n 3, 1) := by decide +kernel
theorem dX2_hasRoom_9 : decode cX2_hasRoom 9 = .ok (.aload_n 0, 1) := by decide +kernel
theorem dX2_hasRoom_10 : decode cX2_hasRoom 10 = .ok (.iload_n 1, 1) := by decide +kernel
theorem dX2_hasRoom_11 : decode cX2_hasRoom 11 = .ok (.invokevirtual 44, 3) := by decide +kernel
theorem dX2_hasRoom_14 : decode cX2_hasRoom 14 = .ok (.iload_n 3, 1) := by decide +kernel
theorem dX2_hasRoom_15 : decode cX2_hasRoom 15 = .ok (.if_icmp .ge 18, 3) := by decide +kernel
theorem dX2_hasRoom_18 : decode cX2_hasRoom 18 = .ok (.iload_n 2, 1) := by decide +kernel
theorem dX2_hasRoom_19 : decode cX2_hasRoom 19 = .ok (.aload_n 0, 1) := by decide +kernel
theorem dX2_hasRoom_20 : decode cX2_hasRoom 20 = .ok (.iload_n 1, 1) := by decide +kernel
theorem dX2_hasRoom_21 : decode cX2_hasRoom 21 = .ok (.invokevirtual 38, 3) := by decide +kernel
theorem dX2_hasRoom_24 : decode cX2_hasRoom 24 = .ok (.if_icmp .gt 7, 3) := by decide +kernel
theorem dX2_hasRoom_27 : decode cX2_hasRoom 27 = .ok (.iconst 1, 1) := by decide +kernel
theorem dX2_hasRoom_28 : decode cX2_hasRoom 28 = .ok (.goto 4, 3) := by decide +kernel
theorem dX2_hasRoom_31 : decode cX2_hasRoom 31 = .ok (.iconst 0, 1) := by decide +kernel
theorem dX2_hasRoom_32 : decode cX2_hasRoom 32 = .ok (.ireturn, 1) := by decide +kernel
theorem dX2_hasRoom_33 : decode cX2_hasRoom 33 = .ok (.iload_n 3, 1) := by decide +kernel
theorem dX2_hasRoom_34 : decode cX2_hasRoom 34 = .ok (.bipush 31, 2) := by decide +kernel
theorem dX2_hasRoom_36 : decode cX2_hasRoom 36 = .ok (.if_icmp .ge 18, 3) := by decide +kernel
theorem dX2_hasRoom_39 : decode cX2_hasRoom 39 = .ok (.iload_n 2, 1) := by decide +kernel
theorem dX2_hasRoom_40 : decode cX2_hasRoom 40 = .ok (.iconst 2, 1) := by decide +kernel
theorem dX2_hasRoom_41 : decode cX2_hasRoom 41 = .ok (.iadd, 1) := by decide +kernel
theorem dX2_hasRoom_42 : decode cX2_hasRoom 42 = .ok (.aload_n 0, 1) := by decide +kernel
theorem dX2_hasRoom_43 : decode cX2_hasRoom 43 = .ok (.iload_n 1, 1) := by decide +kernel
theorem dX2_hasRoom_44 : decode cX2_hasRoom 44 = .ok (.invokevirtual 38, 3) := by decide +kernel
theorem dX2_hasRoom_47 : decode cX2_hasRoom 47 = .ok (.if_icmp .gt 7, 3) := by decide +kernel
theorem dX2_hasRoom_50 : decode cX2_hasRoom 50 = .ok (.iconst 1, 1) := by decide +kernel
theorem dX2_hasRoom_51 : decode cX2_hasRoom 51 = .ok (.goto 4, 3) := by decide +kernel
theorem dX2_hasRoom_54 : decode cX2_hasRoom 54 = .ok (.iconst 0, 1) := by decide +kernel
theorem dX2_hasRoom_55 : decode cX2_hasRoom 55 = .ok (.ireturn, 1) := by decide +kernel
theorem dX2_findPage_0 : decode cX2_findPage 0 = .ok (.iconst 0, 1) := by decide +kernel
theorem dX2_findPage_1 : decode cX2_findPage 1 = .ok (.istore 4, 2) := by decide +kernel
theorem dX2_findPage_3 : decode cX2_findPage 3 = .ok (.iload 4, 2) := by decide +kernel
theorem dX2_findPage_5 : decode cX2_findPage 5 = .ok (.aload_n 0, 1) := by decide +kernel
theorem dX2_findPage_6 : decode cX2_findPage 6 = .ok (.getfield 12, 3) := by decide +kernel
theorem dX2_findPage_9 : decode cX2_findPage 9 = .ok (.getfield 47, 3) := by decide +kernel
theorem dX2_findPage_12 : decode cX2_findPage 12 = .ok (.if_icmp .ge 34, 3) := by decide +kernel
theorem dX2_findPage_15 : decode cX2_findPage 15 = .ok (.iload 4, 2) := by decide +kernel
theorem dX2_findPage_17 : decode cX2_findPage 17 = .ok (.iload_n 2, 1) := by decide +kernel
theorem dX2_findPage_18 : decode cX2_findPage 18 = .ok (.if_icmp .eq 22, 3) := by decide +kernel
theorem dX2_findPage_21 : decode cX2_findPage 21 = .ok (.iload 4, 2) := by decide +kernel
theorem dX2_findPage_23 : decode cX2_findPage 23 = .ok (.iload_n 3, 1) := by decide +kernel
theorem dX2_findPage_24 : decode cX2_findPage 24 = .ok (.if_icmp .eq 16, 3) := by decide +kernel
theorem dX2_findPage_27 : decode cX2_findPage 27 = .ok (.aload_n 0, 1) := by decide +kernel
theorem dX2_findPage_28 : decode cX2_findPage 28 = .ok (.iload 4, 2) := by decide +kernel
theorem dX2_findPage_30 : decode cX2_findPage 30 = .ok (.iload_n 1, 1) := by decide +kernel
theorem dX2_findPage_31 : decode cX2_findPage 31 = .ok (.invokevirtual 51, 3) := by decide +kernel
theorem dX2_findPage_34 : decode cX2_findPage 34 = .ok (.ifCond .eq 6, 3) := by decide +kernel
theorem dX2_findPage_37 : decode cX2_findPage 37 = .ok (.iload 4, 2) := by decide +kernel
theorem dX2_findPage_39 : decode cX2_findPage 39 = .ok (.ireturn, 1) := by decide +kernel
theorem dX2_findPage_40 : decode cX2_findPage 40 = .ok (.iinc 4 1, 3) := by decide +kernel
theorem dX2_findPage_43 : decode cX2_findPage 43 = .ok (.goto (-40), 3) := by decide +kernel
theorem dX2_findPage_46 : decode cX2_findPage 46 = .ok (.aload_n 0, 1) := by decide +kernel
theorem dX2_findPage_47 : decode cX2_findPage 47 = .ok (.getfield 12, 3) := by decide +kernel
theorem dX2_findPage_50 : decode cX2_findPage 50 = .ok (.getfield 47, 3) := by decide +kernel
theorem dX2_findPage_53 : decode cX2_findPage 53 = .ok (.bipush 8, 2) := by decide +kernel
theorem dX2_findPage_55 : decode cX2_findPage 55 = .ok (.if_icmp .ge 13, 3) := by decide +kernel
theorem dX2_findPage_58 : decode cX2_findPage 58 = .ok (.aload_n 0, 1) := by decide +kernel
theorem dX2_findPage_59 : decode cX2_findPage 59 = .ok (.getfield 12, 3) := by decide +kernel
theorem dX2_findPage_62 : decode cX2_findPage 62 = .ok (.getfield 47, 3) := by decide +kernel
theorem dX2_findPage_65 : decode cX2_findPage 65 = .ok (.goto 4, 3) := by decide +kernel
theorem dX2_findPage_68 : decode cX2_findPage 68 = .ok (.iconst (-1), 1) := by decide +kernel
theorem dX2_findPage_69 : decode cX2_findPage 69 = .ok (.ireturn, 1) := by decide +kernel
theorem dX2_openIfNew_0 : decode cX2_openIfNew 0 = .ok (.iload_n 1, 1) := by decide +kernel
theorem dX2_openIfNew_1 : decode cX2_openIfNew 1 = .ok (.aload_n 0, 1) := by decide +kernel
theorem dX2_openIfNew_2 : decode cX2_openIfNew 2 = .ok (.getfield 12, 3) := by decide +kernel
theorem dX2_openIfNew_5 : decode cX2_openIfNew 5 = .ok (.getfield 47, 3) := by decide +kernel
theorem dX2_openIfNew_8 : decode cX2_openIfNew 8 = .ok (.if_icmp .ne 34, 3) := by decide +kernel
theorem dX2_openIfNew_11 : decode cX2_openIfNew 11 = .ok (.iload_n 1, 1) := by decide +kernel
theorem dX2_openIfNew_12 : decode cX2_openIfNew 12 = .ok (.bipush 8, 2) := by decide +kernel
theorem dX2_openIfNew_14 : decode cX2_openIfNew 14 = .ok (.if_icmp .ge 28, 3) := by decide +kernel
theorem dX2_openIfNew_17 : decode cX2_openIfNew 17 = .ok (.aload_n 0, 1) := by decide +kernel
theorem dX2_openIfNew_18 : decode cX2_openIfNew 18 = .ok (.getfield 12, 3) := by decide +kernel
theorem dX2_openIfNew_21 : decode cX2_openIfNew 21 = .ok (.iload_n 1, 1) := by decide +kernel
theorem dX2_openIfNew_22 : decode cX2_openIfNew 22 = .ok (.iconst 1, 1) := by decide +kernel
theorem dX2_openIfNew_23 : decode cX2_openIfNew 23 = .ok (.sipush 128, 3) := by decide +kernel
theorem dX2_openIfNew_26 : decode cX2_openIfNew 26 = .ok (.invokevirtual 55, 3) := by decide +kernel
theorem dX2_openIfNew_29 : decode cX2_openIfNew 29 = .ok (.aload_n 0, 1) := by decide +kernel
theorem dX2_openIfNew_30 : decode cX2_openIfNew 30 = .ok (.getfield 12, 3) := by decide +kernel
theorem dX2_openIfNew_33 : decode cX2_openIfNew 33 = .ok (.dup, 1) := by decide +kernel
theorem dX2_openIfNew_34 : decode cX2_openIfNew 34 = .ok (.getfield 47, 3) := by decide +kernel
theorem dX2_openIfNew_37 : decode cX2_openIfNew 37 = .ok (.iconst 1, 1) := by decide +kernel
theorem dX2_openIfNew_38 : decode cX2_openIfNew 38 = .ok (.iadd, 1) := by decide +kernel
theorem dX2_openIfNew_39 : decode cX2_openIfNew 39 = .ok (.putfield 47, 3) := by decide +kernel
theorem dX2_openIfNew_42 : decode cX2_openIfNew 42 = .ok (.return_, 1) := by decide +kernel
theorem dX2_recordsThatFit_0 : decode cX2_recordsThatFit 0 = .ok (.aload_n 0, 1) := by decide +kernel
theorem dX2_recordsThatFit_1 : decode cX2_recordsThatFit 1 = .ok (.getfield 12, 3) := by decide +kernel
theorem dX2_recordsThatFit_4 : decode cX2_recordsThatFit 4 = .ok (.iload_n 1, 1) := by decide +kernel
theorem dX2_recordsThatFit_5 : decode cX2_recordsThatFit 5 = .ok (.invokevirtual 27, 3) := by decide +kernel
theorem dX2_recordsThatFit_8 : decode cX2_recordsThatFit 8 = .ok (.istore_n 3, 1) := by decide +kernel
theorem dX2_recordsThatFit_9 : decode cX2_recordsThatFit 9 = .ok (.aload_n 0, 1) := by decide +kernel
theorem dX2_recordsThatFit_10 : decode cX2_recordsThatFit 10 = .ok (.iload_n 1, 1) := by decide +kernel
theorem dX2_recordsThatFit_11 : decode cX2_recordsThatFit 11 = .ok (.invokevirtual 38, 3) := by decide +kernel
theorem dX2_recordsThatFit_14 : decode cX2_recordsThatFit 14 = .ok (.istore 4, 2) := by decide +kernel
theorem dX2_recordsThatFit_16 : decode cX2_recordsThatFit 16 = .ok (.iconst 0, 1) := by decide +kernel
theorem dX2_recordsThatFit_17 : decode cX2_recordsThatFit 17 = .ok (.istore 5, 2) := by decide +kernel
theorem dX2_recordsThatFit_19 : decode cX2_recordsThatFit 19 = .ok (.iconst 0, 1) := by decide +kernel
theorem dX2_recordsThatFit_20 : decode cX2_recordsThatFit 20 = .ok (.istore 6, 2) := by decide +kernel
theorem dX2_recordsThatFit_22 : decode cX2_recordsThatFit 22 = .ok (.iload 6, 2) := by decide +kernel
theorem dX2_recordsThatFit_24 : decode cX2_recordsThatFit 24 = .ok (.bipush 31, 2) := by decide +kernel
theorem dX2_recordsThatFit_26 : decode cX2_recordsThatFit 26 = .ok (.if_icmp .ge 68, 3) := by decide +kernel
theorem dX2_recordsThatFit_29 : decode cX2_recordsThatFit 29 = .ok (.iload 6, 2) := by decide +kernel
theorem dX2_recordsThatFit_31 : decode cX2_recordsThatFit 31 = .ok (.iload_n 3, 1) := by decide +kernel
theorem dX2_recordsThatFit_32 : decode cX2_recordsThatFit 32 = .ok (.if_icmp .lt 7, 3) := by decide +kernel
theorem dX2_recordsThatFit_35 : decode cX2_recordsThatFit 35 = .ok (.iconst 1, 1) := by decide +kernel
theorem dX2_recordsThatFit_36 : decode cX2_recordsThatFit 36 = .ok (.goto 4, 3) := by decide +kernel
theorem dX2_recordsThatFit_39 : decode cX2_recordsThatFit 39 = .ok (.iconst 0, 1) := by decide +kernel
theorem dX2_recordsThatFit_40 : decode cX2_recordsThatFit 40 = .ok (.istore 7, 2) := by decide +kernel
theorem dX2_recordsThatFit_42 : decode cX2_recordsThatFit 42 = .ok (.iload 7, 2) := by decide +kernel
theorem dX2_recordsThatFit_44 : decode cX2_recordsThatFit 44 = .ok (.ifCond .ne 16, 3) := by decide +kernel
theorem dX2_recordsThatFit_47 : decode cX2_recordsThatFit 47 = .ok (.aload_n 0, 1) := by decide +kernel
theorem dX2_recordsThatFit_48 : decode cX2_recordsThatFit 48 = .ok (.getfield 12, 3) := by decide +kernel
theorem dX2_recordsThatFit_51 : decode cX2_recordsThatFit 51 = .ok (.iload_n 1, 1) := by decide +kernel
theorem dX2_recordsThatFit_52 : decode cX2_recordsThatFit 52 = .ok (.iload 6, 2) := by decide +kernel
theorem dX2_recordsThatFit_54 : decode cX2_recordsThatFit 54 = .ok (.invokevirtual 34, 3) := by decide +kernel
theorem dX2_recordsThatFit_57 : decode cX2_recordsThatFit 57 = .ok (.ifCond .ne 31, 3) := by decide +kernel
theorem dX2_recordsThatFit_60 : decode cX2_recordsThatFit 60 = .ok (.iload 4, 2) := by decide +kernel
theorem dX2_recordsThatFit_62 : decode cX2_recordsThatFit 62 = .ok (.iload 7, 2) := by decide +kernel
theorem dX2_recordsThatFit_64 : decode cX2_recordsThatFit 64 = .ok (.ifCond .eq 9, 3) := by decide +kernel
theorem dX2_recordsThatFit_67 : decode cX2_recordsThatFit 67 = .ok (.iload_n 2, 1) := by decide +kernel
theorem dX2_recordsThatFit_68 : decode cX2_recordsThatFit 68 = .ok (.iconst 2, 1) := by decide +kernel
theorem dX2_recordsThatFit_69 : decode cX2_recordsThatFit 69 = .ok (.iadd, 1) := by decide +kernel
theorem dX2_recordsThatFit_70 : decode cX2_recordsThatFit 70 = .ok (.goto 4, 3) := by decide +kernel
theorem dX2_recordsThatFit_73 : decode cX2_recordsThatFit 73 = .ok (.iload_n 2, 1) := by decide +kernel
theorem dX2_recordsThatFit_74 : decode cX2_recordsThatFit 74 = .ok (.isub, 1) := by decide +kernel
theorem dX2_recordsThatFit_75 : decode cX2_recordsThatFit 75 = .ok (.istore 4, 2) := by decide +kernel
theorem dX2_recordsThatFit_77 : decode cX2_recordsThatFit 77 = .ok (.iload 4, 2) := by decide +kernel
theorem dX2_recordsThatFit_79 : decode cX2_recordsThatFit 79 = .ok (.ifCond .ge 6, 3) := by decide +kernel
theorem dX2_recordsThatFit_82 : decode cX2_recordsThatFit 82 = .ok (.iload 5, 2) := by decide +kernel
theorem dX2_recordsThatFit_84 : decode cX2_recordsThatFit 84 = .ok (.ireturn, 1) := by decide +kernel
theorem dX2_recordsThatFit_85 : decode cX2_recordsThatFit 85 = .ok (.iinc 5 1, 3) := by decide +kernel
theorem dX2_recordsThatFit_88 : decode cX2_recordsThatFit 88 = .ok (.iinc 6 1, 3) := by decide +kernel
theorem dX2_recordsThatFit_91 : decode cX2_recordsThatFit 91 = .ok (.goto (-69), 3) := by decide +kernel
theorem dX2_recordsThatFit_94 : decode cX2_recordsThatFit 94 = .ok (.iload 5, 2) := by decide +kernel
theorem dX2_recordsThatFit_96 : decode cX2_recordsThatFit 96 = .ok (.ireturn, 1) := by decide +kernel
theorem dX2_eraseRecord_0 : decode cX2_eraseRecord 0 = .ok (.aload_n 0, 1) := by decide +kernel
theorem dX2_eraseRecord_1 : decode cX2_eraseRecord 1 = .ok (.getfield 12, 3) := by decide +kernel
theorem dX2_eraseRecord_4 : decode cX2_eraseRecord 4 = .ok (.iload_n 1, 1) := by decide +kernel
theorem dX2_eraseRecord_5 : decode cX2_eraseRecord 5 = .ok (.iload_n 2, 1) := by decide +kernel
theorem dX2_eraseRecord_6 : decode cX2_eraseRecord 6 = .ok (.invokevirtual 59, 3) := by decide +kernel
theorem dX2_eraseRecord_9 : decode cX2_eraseRecord 9 = .ok (.istore_n 3, 1) := by decide +kernel
theorem dX2_eraseRecord_10 : decode cX2_eraseRecord 10 = .ok (.aload_n 0, 1) := by decide +kernel
theorem dX2_eraseRecord_11 : decode cX2_eraseRecord 11 = .ok (.getfield 12, 3) := by decide +kernel
theorem dX2_eraseRecord_14 : decode cX2_eraseRecord 14 = .ok (.iload_n 1, 1) := by decide +kernel
theorem dX2_eraseRecord_15 : decode cX2_eraseRecord 15 = .ok (.iload_n 2, 1) := by decide +kernel
theorem dX2_eraseRecord_16 : decode cX2_eraseRecord 16 = .ok (.invokevirtual 34, 3) := by decide +kernel
theorem dX2_eraseRecord_19 : decode cX2_eraseRecord 19 = .ok (.istore 4, 2) := by decide +kernel
theorem dX2_eraseRecord_21 : decode cX2_eraseRecord 21 = .ok (.iconst 0, 1) := by decide +kernel
theorem dX2_eraseRecord_22 : decode cX2_eraseRecord 22 = .ok (.istore 5, 2) := by decide +kernel
theorem dX2_eraseRecord_24 : decode cX2_eraseRecord 24 = .ok (.iload 5, 2) := by decide +kernel
theorem dX2_eraseRecord_26 : decode cX2_eraseRecord 26 = .ok (.iload 4, 2) := by decide +kernel
theorem dX2_eraseRecord_28 : decode cX2_eraseRecord 28 = .ok (.if_icmp .ge 22, 3) := by decide +kernel
theorem dX2_eraseRecord_31 : decode cX2_eraseRecord 31 = .ok (.aload_n 0, 1) := by decide +kernel
theorem dX2_eraseRecord_32 : decode cX2_eraseRecord 32 = .ok (.getfield 12, 3) := by decide +kernel
theorem dX2_eraseRecord_35 : decode cX2_eraseRecord 35 = .ok (.iload_n 1, 1) := by decide +kernel
theorem dX2_eraseRecord_36 : decode cX2_eraseRecord 36 = .ok (.iload_n 3, 1) := by decide +kernel
theorem dX2_eraseRecord_37 : decode cX2_eraseRecord 37 = .ok (.iload 5, 2) := by decide +kernel
theorem dX2_eraseRecord_39 : decode cX2_eraseRecord 39 = .ok (.iadd, 1) := by decide +kernel
theorem dX2_eraseRecord_40 : decode cX2_eraseRecord 40 = .ok (.iconst 0, 1) := by decide +kernel
theorem dX2_eraseRecord_41 : decode cX2_eraseRecord 41 = .ok (.invokevirtual 55, 3) := by decide +kernel
theorem dX2_eraseRecord_44 : decode cX2_eraseRecord 44 = .ok (.iinc 5 1, 3) := by decide +kernel
theorem dX2_eraseRecord_47 : decode cX2_eraseRecord 47 = .ok (.goto (-23), 3) := by decide +kernel
theorem dX2_eraseRecord_50 : decode cX2_eraseRecord 50 = .ok (.aload_n 0, 1) := by decide +kernel
theorem dX2_eraseRecord_51 : decode cX2_eraseRecord 51 = .ok (.getfield 12, 3) := by decide +kernel
theorem dX2_eraseRecord_54 : decode cX2_eraseRecord 54 = .ok (.iload_n 1, 1) := by decide +kernel
theorem dX2_eraseRecord_55 : decode cX2_eraseRecord 55 = .ok (.iload_n 2, 1) := by decide +kernel
theorem dX2_eraseRecord_56 : decode cX2_eraseRecord 56 = .ok (.invokestatic 31, 3) := by decide +kernel
theorem dX2_eraseRecord_59 : decode cX2_eraseRecord 59 = .ok (.iconst 0, 1) := by decide +kernel
theorem dX2_eraseRecord_60 : decode cX2_eraseRecord 60 = .ok (.invokevirtual 55, 3) := by decide +kernel
theorem dX2_eraseRecord_63 : decode cX2_eraseRecord 63 = .ok (.aload_n 0, 1) := by decide +kernel
theorem dX2_eraseRecord_64 : decode cX2_eraseRecord 64 = .ok (.getfield 12, 3) := by decide +kernel
theorem dX2_eraseRecord_67 : decode cX2_eraseRecord 67 = .ok (.iload_n 1, 1) := by decide +kernel
theorem dX2_eraseRecord_68 : decode cX2_eraseRecord 68 = .ok (.iload_n 2, 1) := by decide +kernel
theorem dX2_eraseRecord_69 : decode cX2_eraseRecord 69 = .ok (.invokestatic 31, 3) := by decide +kernel
theorem dX2_eraseRecord_72 : decode cX2_eraseRecord 72 = .ok (.iconst 1, 1) := by decide +kernel
theorem dX2_eraseRecord_73 : decode cX2_eraseRecord 73 = .ok (.iadd, 1) := by decide +kernel
theorem dX2_eraseRecord_74 : decode cX2_eraseRecord 74 = .ok (.iconst 0, 1) := by decide +kernel
theorem dX2_eraseRecord_75 : decode cX2_eraseRecord 75 = .ok (.invokevirtual 55, 3) := by decide +kernel
theorem dX2_eraseRecord_78 : decode cX2_eraseRecord 78 = .ok (.aload_n 0, 1) := by decide +kernel
theorem dX2_eraseRecord_79 : decode cX2_eraseRecord 79 = .ok (.getfield 12, 3) := by decide +kernel
theorem dX2_eraseRecord_82 : decode cX2_eraseRecord 82 = .ok (.iload_n 1, 1) := by decide +kernel
theorem dX2_eraseRecord_83 : decode cX2_eraseRecord 83 = .ok (.invokevirtual 27, 3) := by decide +kernel
theorem dX2_eraseRecord_86 : decode cX2_eraseRecord 86 = .ok (.istore 5, 2) := by decide +kernel
theorem dX2_eraseRecord_88 : decode cX2_eraseRecord 88 = .ok (.sipush 128, 3) := by decide +kernel
theorem dX2_eraseRecord_91 : decode cX2_eraseRecord 91 = .ok (.istore 6, 2) := by decide +kernel
theorem dX2_eraseRecord_93 : decode cX2_eraseRecord 93 = .ok (.iconst 0, 1) := by decide +kernel
theorem dX2_eraseRecord_94 : decode cX2_eraseRecord 94 = .ok (.istore 7, 2) := by decide +kernel
theorem dX2_eraseRecord_96 : decode cX2_eraseRecord 96 = .ok (.iload 7, 2) := by decide +kernel
theorem dX2_eraseRecord_98 : decode cX2_eraseRecord 98 = .ok (.iload 5, 2) := by decide +kernel
theorem dX2_eraseRecord_100 : decode cX2_eraseRecord 100 = .ok (.if_icmp .ge 39, 3) := by decide +kernel
theorem dX2_eraseRecord_103 : decode cX2_eraseRecord 103 = .ok (.aload_n 0, 1) := by decide +kernel
theorem dX2_eraseRecord_104 : decode cX2_eraseRecord 104 = .ok (.getfield 12, 3) := by decide +kernel
theorem dX2_eraseRecord_107 : decode cX2_eraseRecord 107 = .ok (.iload_n 1, 1) := by decide +kernel
theorem dX2_eraseRecord_108 : decode cX2_eraseRecord 108 = .ok (.iload 7, 2) := by decide +kernel
theorem dX2_eraseRecord_110 : decode cX2_eraseRecord 110 = .ok (.invokevirtual 34, 3) := by decide +kernel
theorem dX2_eraseRecord_113 : decode cX2_eraseRecord 113 = .ok (.ifCond .le 20, 3) := by decide +kernel
theorem dX2_eraseRecord_116 : decode cX2_eraseRecord 116 = .ok (.iload 6, 2) := by decide +kernel
theorem dX2_eraseRecord_118 : decode cX2_eraseRecord 118 = .ok (.aload_n 0, 1) := by decide +kernel
theorem dX2_eraseRecord_119 : decode cX2_eraseRecord 119 = .ok (.getfield 12, 3) := by decide +kernel
theorem dX2_eraseRecord_122 : decode cX2_eraseRecord 122 = .ok (.iload_n 1, 1) := by decide +kernel
theorem dX2_eraseRecord_123 : decode cX2_eraseRecord 123 = .ok (.iload 7, 2) := by decide +kernel
theorem dX2_eraseRecord_125 : decode cX2_eraseRecord 125 = .ok (.invokevirtual 59, 3) := by decide +kernel
theorem dX2_eraseRecord_128 : decode cX2_eraseRecord 128 = .ok (.invokestatic 62, 3) := by decide +kernel
theorem dX2_eraseRecord_131 : decode cX2_eraseRecord 131 = .ok (.istore 6, 2) := by decide +kernel
theorem dX2_eraseRecord_133 : decode cX2_eraseRecord 133 = .ok (.iinc 7 1, 3) := by decide +kernel
theorem dX2_eraseRecord_136 : decode cX2_eraseRecord 136 = .ok (.goto (-40), 3) := by decide +kernel
theorem dX2_eraseRecord_139 : decode cX2_eraseRecord 139 = .ok (.aload_n 0, 1) := by decide +kernel
theorem dX2_eraseRecord_140 : decode cX2_eraseRecord 140 = .ok (.getfield 12, 3) := by decide +kernel
theorem dX2_eraseRecord_143 : decode cX2_eraseRecord 143 = .ok (.iload_n 1, 1) := by decide +kernel
theorem dX2_eraseRecord_144 : decode cX2_eraseRecord 144 = .ok (.iconst 1, 1) := by decide +kernel
theorem dX2_eraseRecord_145 : decode cX2_eraseRecord 145 = .ok (.iload 6, 2) := by decide +kernel
theorem dX2_eraseRecord_147 : decode cX2_eraseRecord 147 = .ok (.invokevirtual 55, 3) := by decide +kernel
theorem dX2_eraseRecord_150 : decode cX2_eraseRecord 150 = .ok (.return_, 1) := by decide +kernel
theorem dX2_removeRecord_0 : decode cX2_removeRecord 0 = .ok (.iload_n 1, 1) := by decide +kernel
theorem dX2_removeRecord_1 : decode cX2_removeRecord 1 = .ok (.invokestatic 67, 3) := by decide +kernel
theorem dX2_removeRecord_4 : decode cX2_removeRecord 4 = .ok (.istore_n 2, 1) := by decide +kernel
theorem dX2_removeRecord_5 : decode cX2_removeRecord 5 = .ok (.aload_n 0, 1) := by decide +kernel
theorem dX2_removeRecord_6 : decode cX2_removeRecord 6 = .ok (.iload_n 2, 1) := by decide +kernel
theorem dX2_removeRecord_7 : decode cX2_removeRecord 7 = .ok (.iload_n 1, 1) := by decide +kernel
theorem dX2_removeRecord_8 : decode cX2_removeRecord 8 = .ok (.invokestatic 70, 3) := by decide +kernel
theorem dX2_removeRecord_11 : decode cX2_removeRecord 11 = .ok (.invokevirtual 73, 3) := by decide +kernel
theorem dX2_removeRecord_14 : decode cX2_removeRecord 14 = .ok (.aload_n 0, 1) := by decide +kernel
theorem dX2_removeRecord_15 : decode cX2_removeRecord 15 = .ok (.getfield 12, 3) := by decide +kernel
theorem dX2_removeRecord_18 : decode cX2_removeRecord 18 = .ok (.iload_n 2, 1) := by decide +kernel
theorem dX2_removeRecord_19 : decode cX2_removeRecord 19 = .ok (.invokevirtual 27, 3) := by decide +kernel
theorem dX2_removeRecord_22 : decode cX2_removeRecord 22 = .ok (.istore_n 3, 1) := by decide +kernel
theorem dX2_removeRecord_23 : decode cX2_removeRecord 23 = .ok (.iload_n 3, 1) := by decide +kernel
theorem dX2_removeRecord_24 : decode cX2_removeRecord 24 = .ok (.ifCond .le 23, 3) := by decide +kernel
theorem dX2_removeRecord_27 : decode cX2_removeRecord 27 = .ok (.aload_n 0, 1) := by decide +kernel
theorem dX2_removeRecord_28 : decode cX2_removeRecord 28 = .ok (.getfield 12, 3) := by decide +kernel
theorem dX2_removeRecord_31 : decode cX2_removeRecord 31 = .ok (.iload_n 2, 1) := by decide +kernel
theorem dX2_removeRecord_32 : decode cX2_removeRecord 32 = .ok (.iload_n 3, 1) := by decide +kernel
theorem dX2_removeRecord_33 : decode cX2_removeRecord 33 = .ok (.iconst 1, 1) := by decide +kernel
theorem dX2_removeRecord_34 : decode cX2_removeRecord 34 = .ok (.isub, 1) := by decide +kernel
theorem dX2_removeRecord_35 : decode cX2_removeRecord 35 = .ok (.invokevirtual 34, 3) := by decide +kernel
theorem dX2_removeRecord_38 : decode cX2_removeRecord 38 = .ok (.ifCond .ne 9, 3) := by decide +kernel
theorem dX2_removeRecord_41 : decode cX2_removeRecord 41 = .ok (.iinc 3 (-1), 3) := by decide +kernel
theorem dX2_removeRecord_44 : decode cX2_removeRecord 44 = .ok (.goto (-21), 3) := by decide +kernel
theorem dX2_removeRecord_47 : decode cX2_removeRecord 47 = .ok (.aload_n 0, 1) := by decide +kernel
theorem dX2_removeRecord_48 : decode cX2_removeRecord 48 = .ok (.getfield 12, 3) := by decide +kernel
theorem dX2_removeRecord_51 : decode cX2_removeRecord 51 = .ok (.iload_n 2, 1) := by decide +kernel
theorem dX2_removeRecord_52 : decode cX2_removeRecord 52 = .ok (.iconst 0, 1) := by decide +kernel
theorem dX2_removeRecord_53 : decode cX2_removeRecord 53 = .ok (.iload_n 3, 1) := by decide +kernel
theorem dX2_removeRecord_54 : decode cX2_removeRecord 54 = .ok (.invokevirtual 55, 3) := by decide +kernel
theorem dX2_removeRecord_57 : decode cX2_removeRecord 57 = .ok (.return_, 1) := by decide +kernel
theorem dX2_putRecord_0 : decode cX2_putRecord 0 = .ok (.iload_n 1, 1) := by decide +kernel
theorem dX2_putRecord_1 : decode cX2_putRecord 1 = .ok (.invokestatic 67, 3) := by decide +kernel
theorem dX2_putRecord_4 : decode cX2_putRecord 4 = .ok (.istore_n 3, 1) := by decide +kernel
theorem dX2_putRecord_5 : decode cX2_putRecord 5 = .ok (.iload_n 1, 1) := by decide +kernel
theorem dX2_putRecord_6 : decode cX2_putRecord 6 = .ok (.invokestatic 70, 3) := by decide +kernel
theorem dX2_putRecord_9 : decode cX2_putRecord 9 = .ok (.istore 4, 2) := by decide +kernel
theorem dX2_putRecord_11 : decode cX2_putRecord 11 = .ok (.iload 4, 2) := by decide +kernel
theorem dX2_putRecord_13 : decode cX2_putRecord 13 = .ok (.aload_n 0, 1) := by decide +kernel
theorem dX2_putRecord_14 : decode cX2_putRecord 14 = .ok (.getfield 12, 3) := by decide +kernel
theorem dX2_putRecord_17 : decode cX2_putRecord 17 = .ok (.iload_n 3, 1) := by decide +kernel
theorem dX2_putRecord_18 : decode cX2_putRecord 18 = .ok (.invokevirtual 27, 3) := by decide +kernel
theorem dX2_putRecord_21 : decode cX2_putRecord 21 = .ok (.if_icmp .ge 10, 3) := by decide +kernel
theorem dX2_putRecord_24 : decode cX2_putRecord 24 = .ok (.aload_n 0, 1) := by decide +kernel
theorem dX2_putRecord_25 : decode cX2_putRecord 25 = .ok (.iload_n 3, 1) := by decide +kernel
theorem dX2_putRecord_26 : decode cX2_putRecord 26 = .ok (.iload 4, 2) := by decide +kernel
theorem dX2_putRecord_28 : decode cX2_putRecord 28 = .ok (.invokevirtual 73, 3) := by decide +kernel
theorem dX2_putRecord_31 : decode cX2_putRecord 31 = .ok (.aload_n 0, 1) := by decide +kernel
theorem dX2_putRecord_32 : decode cX2_putRecord 32 = .ok (.getfield 12, 3) := by decide +kernel
theorem dX2_putRecord_35 : decode cX2_putRecord 35 = .ok (.iload_n 3, 1) := by decide +kernel
theorem dX2_putRecord_36 : decode cX2_putRecord 36 = .ok (.invokevirtual 27, 3) := by decide +kernel
theorem dX2_putRecord_39 : decode cX2_putRecord 39 = .ok (.iload 4, 2) := by decide +kernel
theorem dX2_putRecord_41 : decode cX2_putRecord 41 = .ok (.iconst 1, 1) := by decide +kernel
theorem dX2_putRecord_42 : decode cX2_putRecord 42 = .ok (.iadd, 1) := by decide +kernel
theorem dX2_putRecord_43 : decode cX2_putRecord 43 = .ok (.invokestatic 77, 3) := by decide +kernel
theorem dX2_putRecord_46 : decode cX2_putRecord 46 = .ok (.istore 5, 2) := by decide +kernel
theorem dX2_putRecord_48 : decode cX2_putRecord 48 = .ok (.aload_n 0, 1) := by decide +kernel
theorem dX2_putRecord_49 : decode cX2_putRecord 49 = .ok (.iload_n 3, 1) := by decide +kernel
theorem dX2_putRecord_50 : decode cX2_putRecord 50 = .ok (.iload 5, 2) := by decide +kernel
theorem dX2_putRecord_52 : decode cX2_putRecord 52 = .ok (.invokevirtual 80, 3) := by decide +kernel
theorem dX2_putRecord_55 : decode cX2_putRecord 55 = .ok (.aload_n 2, 1) := by decide +kernel
theorem dX2_putRecord_56 : decode cX2_putRecord 56 = .ok (.getfield 83, 3) := by decide +kernel
theorem dX2_putRecord_59 : decode cX2_putRecord 59 = .ok (.if_icmp .ge 9, 3) := by decide +kernel
theorem dX2_putRecord_62 : decode cX2_putRecord 62 = .ok (.aload_n 0, 1) := by decide +kernel
theorem dX2_putRecord_63 : decode cX2_putRecord 63 = .ok (.iload_n 3, 1) := by decide +kernel
theorem dX2_putRecord_64 : decode cX2_putRecord 64 = .ok (.invokevirtual 86, 3) := by decide +kernel
theorem dX2_putRecord_67 : decode cX2_putRecord 67 = .ok (.pop, 1) := by decide +kernel
theorem dX2_putRecord_68 : decode cX2_putRecord 68 = .ok (.aload_n 0, 1) := by decide +kernel
theorem dX2_putRecord_69 : decode cX2_putRecord 69 = .ok (.getfield 12, 3) := by decide +kernel
theorem dX2_putRecord_72 : decode cX2_putRecord 72 = .ok (.iload_n 3, 1) := by decide +kernel
theorem dX2_putRecord_73 : decode cX2_putRecord 73 = .ok (.iconst 0, 1) := by decide +kernel
theorem dX2_putRecord_74 : decode cX2_putRecord 74 = .ok (.iload 5, 2) := by decide +kernel
theorem dX2_putRecord_76 : decode cX2_putRecord 76 = .ok (.invokevirtual 55, 3) := by decide +kernel
theorem dX2_putRecord_79 : decode cX2_putRecord 79 = .ok (.aload_n 0, 1) := by decide +kernel
theorem dX2_putRecord_80 : decode cX2_putRecord 80 = .ok (.getfield 12, 3) := by decide +kernel
theorem dX2_putRecord_83 : decode cX2_putRecord 83 = .ok (.iload_n 3, 1) := by decide +kernel
theorem dX2_putRecord_84 : decode cX2_putRecord 84 = .ok (.iconst 1, 1) := by decide +kernel
theorem dX2_putRecord_85 : decode cX2_putRecord 85 = .ok (.invokevirtual 41, 3) := by decide +kernel
theorem dX2_putRecord_88 : decode cX2_putRecord 88 = .ok (.aload_n 2, 1) := by decide +kernel
theorem dX2_putRecord_89 : decode cX2_putRecord 89 = .ok (.getfield 83, 3) := by decide +kernel
theorem dX2_putRecord_92 : decode cX2_putRecord 92 = .ok (.isub, 1) := by decide +kernel
theorem dX2_putRecord_93 : decode cX2_putRecord 93 = .ok (.istore 6, 2) := by decide +kernel
theorem dX2_putRecord_95 : decode cX2_putRecord 95 = .ok (.iconst 0, 1) := by decide +kernel
theorem dX2_putRecord_96 : decode cX2_putRecord 96 = .ok (.istore 7, 2) := by decide +kernel
theorem dX2_putRecord_98 : decode cX2_putRecord 98 = .ok (.iload 7, 2) := by decide +kernel
theorem dX2_putRecord_100 : decode cX2_putRecord 100 = .ok (.aload_n 2, 1) := by decide +kernel
theorem dX2_putRecord_101 : decode cX2_putRecord 101 = .ok (.getfield 83, 3) := by decide +kernel
theorem dX2_putRecord_104 : decode cX2_putRecord 104 = .ok (.if_icmp .ge 28, 3) := by decide +kernel
theorem dX2_putRecord_107 : decode cX2_putRecord 107 = .ok (.aload_n 0, 1) := by decide +kernel
theorem dX2_putRecord_108 : decode cX2_putRecord 108 = .ok (.getfield 12, 3) := by decide +kernel
theorem dX2_putRecord_111 : decode cX2_putRecord 111 = .ok (.iload_n 3, 1) := by decide +kernel
theorem dX2_putRecord_112 : decode cX2_putRecord 112 = .ok (.iload 6, 2) := by decide +kernel
theorem dX2_putRecord_114 : decode cX2_putRecord 114 = .ok (.iload 7, 2) := by decide +kernel
theorem dX2_putRecord_116 : decode cX2_putRecord 116 = .ok (.iadd, 1) := by decide +kernel
theorem dX2_putRecord_117 : decode cX2_putRecord 117 = .ok (.aload_n 2, 1) := by decide +kernel
theorem dX2_putRecord_118 : decode cX2_putRecord 118 = .ok (.iload 7, 2) := by decide +kernel
theorem dX2_putRecord_120 : decode cX2_putRecord 120 = .ok (.invokevirtual 89, 3) := by decide +kernel
theorem dX2_putRecord_123 : decode cX2_putRecord 123 = .ok (.invokevirtual 55, 3) := by decide +kernel
theorem dX2_putRecord_126 : decode cX2_putRecord 126 = .ok (.iinc 7 1, 3) := by decide +kernel
theorem dX2_putRecord_129 : decode cX2_putRecord 129 = .ok (.goto (-31), 3) := by decide +kernel
theorem dX2_putRecord_132 : decode cX2_putRecord 132 = .ok (.aload_n 0, 1) := by decide +kernel
theorem dX2_putRecord_133 : decode cX2_putRecord 133 = .ok (.getfield 12, 3) := by decide +kernel
theorem dX2_putRecord_136 : decode cX2_putRecord 136 = .ok (.iload_n 3, 1) := by decide +kernel
theorem dX2_putRecord_137 : decode cX2_putRecord 137 = .ok (.iload 4, 2) := by decide +kernel
theorem dX2_putRecord_139 : decode cX2_putRecord 139 = .ok (.invokestatic 31, 3) := by decide +kernel
theorem dX2_putRecord_142 : decode cX2_putRecord 142 = .ok (.iload 6, 2) := by decide +kernel
theorem dX2_putRecord_144 : decode cX2_putRecord 144 = .ok (.invokevirtual 55, 3) := by decide +kernel
theorem dX2_putRecord_147 : decode cX2_putRecord 147 = .ok (.aload_n 0, 1) := by decide +kernel
theorem dX2_putRecord_148 : decode cX2_putRecord 148 = .ok (.getfield 12, 3) := by decide +kernel
theorem dX2_putRecord_151 : decode cX2_putRecord 151 = .ok (.iload_n 3, 1) := by decide +kernel
theorem dX2_putRecord_152 : decode cX2_putRecord 152 = .ok (.iload 4, 2) := by decide +kernel
theorem dX2_putRecord_154 : decode cX2_putRecord 154 = .ok (.invokestatic 31, 3) := by decide +kernel
theorem dX2_putRecord_157 : decode cX2_putRecord 157 = .ok (.iconst 1, 1) := by decide +kernel
theorem dX2_putRecord_158 : decode cX2_putRecord 158 = .ok (.iadd, 1) := by decide +kernel
theorem dX2_putRecord_159 : decode cX2_putRecord 159 = .ok (.aload_n 2, 1) := by decide +kernel
theorem dX2_putRecord_160 : decode cX2_putRecord 160 = .ok (.getfield 83, 3) := by decide +kernel
theorem dX2_putRecord_163 : decode cX2_putRecord 163 = .ok (.invokevirtual 55, 3) := by decide +kernel
theorem dX2_putRecord_166 : decode cX2_putRecord 166 = .ok (.aload_n 0, 1) := by decide +kernel
theorem dX2_putRecord_167 : decode cX2_putRecord 167 = .ok (.getfield 12, 3) := by decide +kernel
theorem dX2_putRecord_170 : decode cX2_putRecord 170 = .ok (.iload_n 3, 1) := by decide +kernel
theorem dX2_putRecord_171 : decode cX2_putRecord 171 = .ok (.iconst 1, 1) := by decide +kernel
theorem dX2_putRecord_172 : decode cX2_putRecord 172 = .ok (.iload 6, 2) := by decide +kernel
theorem dX2_putRecord_174 : decode cX2_putRecord 174 = .ok (.invokevirtual 55, 3) := by decide +kernel
theorem dX2_putRecord_177 : decode cX2_putRecord 177 = .ok (.return_, 1) := by decide +kernel
theorem dX2_compactPage_0 : decode cX2_compactPage 0 = .ok (.aload_n 0, 1) := by decide +kernel
theorem dX2_compactPage_1 : decode cX2_compactPage 1 = .ok (.getfield 12, 3) := by decide +kernel
theorem dX2_compactPage_4 : decode cX2_compactPage 4 = .ok (.iload_n 1, 1) := by decide +kernel
theorem dX2_compactPage_5 : decode cX2_compactPage 5 = .ok (.invokevirtual 27, 3) := by decide +kernel
theorem dX2_compactPage_8 : decode cX2_compactPage 8 = .ok (.istore_n 2, 1) := by decide +kernel
theorem dX2_compactPage_9 : decode cX2_compactPage 9 = .ok (.aload_n 0, 1) := by decide +kernel
theorem dX2_compactPage_10 : decode cX2_compactPage 10 = .ok (.getfield 23, 3) := by decide +kernel
theorem dX2_compactPage_13 : decode cX2_compactPage 13 = .ok (.invokevirtual 92, 3) := by decide +kernel
theorem dX2_compactPage_16 : decode cX2_compactPage 16 = .ok (.iconst 0, 1) := by decide +kernel
theorem dX2_compactPage_17 : decode cX2_compactPage 17 = .ok (.istore_n 3, 1) := by decide +kernel
theorem dX2_compactPage_18 : decode cX2_compactPage 18 = .ok (.iload_n 3, 1) := by decide +kernel
theorem dX2_compactPage_19 : decode cX2_compactPage 19 = .ok (.sipush 128, 3) := by decide +kernel
theorem dX2_compactPage_22 : decode cX2_compactPage 22 = .ok (.if_icmp .ge 25, 3) := by decide +kernel
theorem dX2_compactPage_25 : decode cX2_compactPage 25 = .ok (.aload_n 0, 1) := by decide +kernel
theorem dX2_compactPage_26 : decode cX2_compactPage 26 = .ok (.getfield 23, 3) := by decide +kernel
theorem dX2_compactPage_29 : decode cX2_compactPage 29 = .ok (.aload_n 0, 1) := by decide +kernel
theorem dX2_compactPage_30 : decode cX2_compactPage 30 = .ok (.getfield 12, 3) := by decide +kernel
theorem dX2_compactPage_33 : decode cX2_compactPage 33 = .ok (.iload_n 1, 1) := by decide +kernel
theorem dX2_compactPage_34 : decode cX2_compactPage 34 = .ok (.iload_n 3, 1) := by decide +kernel
theorem dX2_compactPage_35 : decode cX2_compactPage 35 = .ok (.invokevirtual 41, 3) := by decide +kernel
theorem dX2_compactPage_38 : decode cX2_compactPage 38 = .ok (.invokevirtual 95, 3) := by decide +kernel
theorem dX2_compactPage_41 : decode cX2_compactPage 41 = .ok (.iinc 3 1, 3) := by decide +kernel
theorem dX2_compactPage_44 : decode cX2_compactPage 44 = .ok (.goto (-26), 3) := by decide +kernel
theorem dX2_compactPage_47 : decode cX2_compactPage 47 = .ok (.iload_n 2, 1) := by decide +kernel
theorem dX2_compactPage_48 : decode cX2_compactPage 48 = .ok (.invokestatic 31, 3) := by decide +kernel
theorem dX2_compactPage_51 : decode cX2_compactPage 51 = .ok (.istore_n 3, 1) := by decide +kernel
theorem dX2_compactPage_52 : decode cX2_compactPage 52 = .ok (.iload_n 3, 1) := by decide +kernel
theorem dX2_compactPage_53 : decode cX2_compactPage 53 = .ok (.sipush 128, 3) := by decide +kernel
theorem dX2_compactPage_56 : decode cX2_compactPage 56 = .ok (.if_icmp .ge 19, 3) := by decide +kernel
theorem dX2_compactPage_59 : decode cX2_compactPage 59 = .ok (.aload_n 0, 1) := by decide +kernel
theorem dX2_compactPage_60 : decode cX2_compactPage 60 = .ok (.getfield 12, 3) := by decide +kernel
theorem dX2_compactPage_63 : decode cX2_compactPage 63 = .ok (.iload_n 1, 1) := by decide +kernel
theorem dX2_compactPage_64 : decode cX2_compactPage 64 = .ok (.iload_n 3, 1) := by decide +kernel
theorem dX2_compactPage_65 : decode cX2_compactPage 65 = .ok (.iconst 0, 1) := by decide +kernel
theorem dX2_compactPage_66 : decode cX2_compactPage 66 = .ok (.invokevirtual 55, 3) := by decide +kernel
theorem dX2_compactPage_69 : decode cX2_compactPage 69 = .ok (.iinc 3 1, 3) := by decide +kernel
theorem dX2_compactPage_72 : decode cX2_compactPage 72 = .ok (.goto (-20), 3) := by decide +kernel
theorem dX2_compactPage_75 : decode cX2_compactPage 75 = .ok (.sipush 128, 3) := by decide +kernel
theorem dX2_compactPage_78 : decode cX2_compactPage 78 = .ok (.istore_n 3, 1) := by decide +kernel
theorem dX2_compactPage_79 : decode cX2_compactPage 79 = .ok (.iconst 0, 1) := by decide +kernel
theorem dX2_compactPage_80 : decode cX2_compactPage 80 = .ok (.istore 4, 2) := by decide +kernel
theorem dX2_compactPage_82 : decode cX2_compactPage 82 = .ok (.iconst 0, 1) := by decide +kernel
theorem dX2_compactPage_83 : decode cX2_compactPage 83 = .ok (.istore 5, 2) := by decide +kernel
theorem dX2_compactPage_85 : decode cX2_compactPage 85 = .ok (.iload 5, 2) := by decide +kernel
theorem dX2_compactPage_87 : decode cX2_compactPage 87 = .ok (.iload_n 2, 1) := by decide +kernel
theorem dX2_compactPage_88 : decode cX2_compactPage 88 = .ok (.if_icmp .ge 106, 3) := by decide +kernel
theorem dX2_compactPage_91 : decode cX2_compactPage 91 = .ok (.aload_n 0, 1) := by decide +kernel
theorem dX2_compactPage_92 : decode cX2_compactPage 92 = .ok (.getfield 12, 3) := by decide +kernel
theorem dX2_compactPage_95 : decode cX2_compactPage 95 = .ok (.iload_n 1, 1) := by decide +kernel
theorem dX2_compactPage_96 : decode cX2_compactPage 96 = .ok (.iload 5, 2) := by decide +kernel
theorem dX2_compactPage_98 : decode cX2_compactPage 98 = .ok (.invokevirtual 34, 3) := by decide +kernel
theorem dX2_compactPage_101 : decode cX2_compactPage 101 = .ok (.istore 6, 2) := by decide +kernel
theorem dX2_compactPage_103 : decode cX2_compactPage 103 = .ok (.aload_n 0, 1) := by decide +kernel
theorem dX2_compactPage_104 : decode cX2_compactPage 104 = .ok (.getfield 12, 3) := by decide +kernel
theorem dX2_compactPage_107 : decode cX2_compactPage 107 = .ok (.iload_n 1, 1) := by decide +kernel
theorem dX2_compactPage_108 : decode cX2_compactPage 108 = .ok (.iload 5, 2) := by decide +kernel
theorem dX2_compactPage_110 : decode cX2_compactPage 110 = .ok (.invokevirtual 59, 3) := by decide +kernel
theorem dX2_compactPage_113 : decode cX2_compactPage 113 = .ok (.istore 7, 2) := by decide +kernel
theorem dX2_compactPage_115 : decode cX2_compactPage 115 = .ok (.iload_n 3, 1) := by decide +kernel
theorem dX2_compactPage_116 : decode cX2_compactPage 116 = .ok (.iload 6, 2) := by decide +kernel
theorem dX2_compactPage_118 : decode cX2_compactPage 118 = .ok (.isub, 1) := by decide +kernel
theorem dX2_compactPage_119 : decode cX2_compactPage 119 = .ok (.istore_n 3, 1) := by decide +kernel
theorem dX2_compactPage_120 : decode cX2_compactPage 120 = .ok (.iconst 0, 1) := by decide +kernel
theorem dX2_compactPage_121 : decode cX2_compactPage 121 = .ok (.istore 8, 2) := by decide +kernel
theorem dX2_compactPage_123 : decode cX2_compactPage 123 = .ok (.iload 8, 2) := by decide +kernel
theorem dX2_compactPage_125 : decode cX2_compactPage 125 = .ok (.iload 6, 2) := by decide +kernel
theorem dX2_compactPage_127 : decode cX2_compactPage 127 = .ok (.if_icmp .ge 33, 3) := by decide +kernel
theorem dX2_compactPage_130 : decode cX2_compactPage 130 = .ok (.aload_n 0, 1) := by decide +kernel
theorem dX2_compactPage_131 : decode cX2_compactPage 131 = .ok (.getfield 12, 3) := by decide +kernel
theorem dX2_compactPage_134 : decode cX2_compactPage 134 = .ok (.iload_n 1, 1) := by decide +kernel
theorem dX2_compactPage_135 : decode cX2_compactPage 135 = .ok (.iload_n 3, 1) := by decide +kernel
theorem dX2_compactPage_136 : decode cX2_compactPage 136 = .ok (.iload 8, 2) := by decide +kernel
theorem dX2_compactPage_138 : decode cX2_compactPage 138 = .ok (.iadd, 1) := by decide +kernel
theorem dX2_compactPage_139 : decode cX2_compactPage 139 = .ok (.aload_n 0, 1) := by decide +kernel
theorem dX2_compactPage_140 : decode cX2_compactPage 140 = .ok (.getfield 23, 3) := by decide +kernel
theorem dX2_compactPage_143 : decode cX2_compactPage 143 = .ok (.iload 7, 2) := by decide +kernel
theorem dX2_compactPage_145 : decode cX2_compactPage 145 = .ok (.iload 8, 2) := by decide +kernel
theorem dX2_compactPage_147 : decode cX2_compactPage 147 = .ok (.iadd, 1) := by decide +kernel
theorem dX2_compactPage_148 : decode cX2_compactPage 148 = .ok (.invokevirtual 89, 3) := by decide +kernel
theorem dX2_compactPage_151 : decode cX2_compactPage 151 = .ok (.invokevirtual 55, 3) := by decide +kernel
theorem dX2_compactPage_154 : decode cX2_compactPage 154 = .ok (.iinc 8 1, 3) := by decide +kernel
theorem dX2_compactPage_157 : decode cX2_compactPage 157 = .ok (.goto (-34), 3) := by decide +kernel
theorem dX2_compactPage_160 : decode cX2_compactPage 160 = .ok (.iload 6, 2) := by decide +kernel
theorem dX2_compactPage_162 : decode cX2_compactPage 162 = .ok (.ifCond .le 26, 3) := by decide +kernel
theorem dX2_compactPage_165 : decode cX2_compactPage 165 = .ok (.iload 7, 2) := by decide +kernel
theorem dX2_compactPage_167 : decode cX2_compactPage 167 = .ok (.iload_n 3, 1) := by decide +kernel
theorem dX2_compactPage_168 : decode cX2_compactPage 168 = .ok (.if_icmp .eq 20, 3) := by decide +kernel
theorem dX2_compactPage_171 : decode cX2_compactPage 171 = .ok (.aload_n 0, 1) := by decide +kernel
theorem dX2_compactPage_172 : decode cX2_compactPage 172 = .ok (.getfield 12, 3) := by decide +kernel
theorem dX2_compactPage_175 : decode cX2_compactPage 175 = .ok (.iload_n 1, 1) := by decide +kernel
theorem dX2_compactPage_176 : decode cX2_compactPage 176 = .ok (.iload 5, 2) := by decide +kernel
theorem dX2_compactPage_178 : decode cX2_compactPage 178 = .ok (.invokestatic 31, 3) := by decide +kernel
theorem dX2_compactPage_181 : decode cX2_compactPage 181 = .ok (.iload_n 3, 1) := by decide +kernel
theorem dX2_compactPage_182 : decode cX2_compactPage 182 = .ok (.invokevirtual 55, 3) := by decide +kernel
theorem dX2_compactPage_185 : decode cX2_compactPage 185 = .ok (.iinc 4 1, 3) := by decide +kernel
theorem dX2_compactPage_188 : decode cX2_compactPage 188 = .ok (.iinc 5 1, 3) := by decide +kernel
theorem dX2_compactPage_191 : decode cX2_compactPage 191 = .ok (.goto (-106), 3) := by decide +kernel
theorem dX2_compactPage_194 : decode cX2_compactPage 194 = .ok (.aload_n 0, 1) := by decide +kernel
theorem dX2_compactPage_195 : decode cX2_compactPage 195 = .ok (.getfield 12, 3) := by decide +kernel
theorem dX2_compactPage_198 : decode cX2_compactPage 198 = .ok (.iload_n 1, 1) := by decide +kernel
theorem dX2_compactPage_199 : decode cX2_compactPage 199 = .ok (.iconst 1, 1) := by decide +kernel
theorem dX2_compactPage_200 : decode cX2_compactPage 200 = .ok (.iload_n 3, 1) := by decide +kernel
theorem dX2_compactPage_201 : decode cX2_compactPage 201 = .ok (.invokevirtual 55, 3) := by decide +kernel
theorem dX2_compactPage_204 : decode cX2_compactPage 204 = .ok (.aload_n 0, 1) := by decide +kernel
theorem dX2_compactPage_205 : decode cX2_compactPage 205 = .ok (.getfield 12, 3) := by decide +kernel
theorem dX2_compactPage_208 : decode cX2_compactPage 208 = .ok (.dup, 1) := by decide +kernel
theorem dX2_compactPage_209 : decode cX2_compactPage 209 = .ok (.getfield 98, 3) := by decide +kernel
theorem dX2_compactPage_212 : decode cX2_compactPage 212 = .ok (.iconst 1, 1) := by decide +kernel
theorem dX2_compactPage_213 : decode cX2_compactPage 213 = .ok (.iadd, 1) := by decide +kernel
theorem dX2_compactPage_214 : decode cX2_compactPage 214 = .ok (.putfield 98, 3) := by decide +kernel
theorem dX2_compactPage_217 : decode cX2_compactPage 217 = .ok (.iload 4, 2) := by decide +kernel
theorem dX2_compactPage_219 : decode cX2_compactPage 219 = .ok (.ireturn, 1) := by decide +kernel
theorem dX3_init_0 : decode cX3_init 0 = .ok (.aload_n 0, 1) := by decide +kernel
theorem dX3_init_1 : decode cX3_init 1 = .ok (.invokespecial 3, 3) := by decide +kernel
theorem dX3_init_4 : decode cX3_init 4 = .ok (.aload_n 0, 1) := by decide +kernel
theorem dX3_init_5 : decode cX3_init 5 = .ok (.sipush 1024, 3) := by decide +kernel
theorem dX3_init_8 : decode cX3_init 8 = .ok (.newarray .int, 2) := by decide +kernel
theorem dX3_init_10 : decode cX3_init 10 = .ok (.putfield 9, 3) := by decide +kernel
theorem dX3_init_13 : decode cX3_init 13 = .ok (.return_, 1) := by decide +kernel
theorem dX3_byteAt_0 : decode cX3_byteAt 0 = .ok (.sipush 128, 3) := by decide +kernel
theorem dX3_byteAt_3 : decode cX3_byteAt 3 = .ok (.iload_n 1, 1) := by decide +kernel
theorem dX3_byteAt_4 : decode cX3_byteAt 4 = .ok (.imul, 1) := by decide +kernel
theorem dX3_byteAt_5 : decode cX3_byteAt 5 = .ok (.iload_n 2, 1) := by decide +kernel
theorem dX3_byteAt_6 : decode cX3_byteAt 6 = .ok (.iadd, 1) := by decide +kernel
theorem dX3_byteAt_7 : decode cX3_byteAt 7 = .ok (.istore_n 3, 1) := by decide +kernel
theorem dX3_byteAt_8 : decode cX3_byteAt 8 = .ok (.iload_n 3, 1) := by decide +kernel
theorem dX3_byteAt_9 : decode cX3_byteAt 9 = .ok (.ifCond .lt 21, 3) := by decide +kernel
theorem dX3_byteAt_12 : decode cX3_byteAt 12 = .ok (.iload_n 3, 1) := by decide +kernel
theorem dX3_byteAt_13 : decode cX3_byteAt 13 = .ok (.aload_n 0, 1) := by decide +kernel
theorem dX3_byteAt_14 : decode cX3_byteAt 14 = .ok (.getfield 9, 3) := by decide +kernel
theorem dX3_byteAt_17 : decode cX3_byteAt 17 = .ok (.arraylength, 1) := by decide +kernel
theorem dX3_byteAt_18 : decode cX3_byteAt 18 = .ok (.if_icmp .ge 12, 3) := by decide +kernel
theorem dX3_byteAt_21 : decode cX3_byteAt 21 = .ok (.aload_n 0, 1) := by decide +kernel
theorem dX3_byteAt_22 : decode cX3_byteAt 22 = .ok (.getfield 9, 3) := by decide +kernel
theorem dX3_byteAt_25 : decode cX3_byteAt 25 = .ok (.iload_n 3, 1) := by decide +kernel
theorem dX3_byteAt_26 : decode cX3_byteAt 26 = .ok (.iaload, 1) := by decide +kernel
theorem dX3_byteAt_27 : decode cX3_byteAt 27 = .ok (.goto 4, 3) := by decide +kernel
theorem dX3_byteAt_30 : decode cX3_byteAt 30 = .ok (.iconst 0, 1) := by decide +kernel
theorem dX3_byteAt_31 : decode cX3_byteAt 31 = .ok (.ireturn, 1) := by decide +kernel
theorem dX3_slotCount_0 : decode cX3_slotCount 0 = .ok (.sipush 128, 3) := by decide +kernel
theorem dX3_slotCount_3 : decode cX3_slotCount 3 = .ok (.iload_n 1, 1) := by decide +kernel
theorem dX3_slotCount_4 : decode cX3_slotCount 4 = .ok (.imul, 1) := by decide +kernel
theorem dX3_slotCount_5 : decode cX3_slotCount 5 = .ok (.iconst 0, 1) := by decide +kernel
theorem dX3_slotCount_6 : decode cX3_slotCount 6 = .ok (.iadd, 1) := by decide +kernel
theorem dX3_slotCount_7 : decode cX3_slotCount 7 = .ok (.istore_n 2, 1) := by decide +kernel
theorem dX3_slotCount_8 : decode cX3_slotCount 8 = .ok (.iload_n 2, 1) := by decide +kernel
theorem dX3_slotCount_9 : decode cX3_slotCount 9 = .ok (.ifCond .lt 21, 3) := by decide +kernel
theorem dX3_slotCount_12 : decode cX3_slotCount 12 = .ok (.iload_n 2, 1) := by decide +kernel
theorem dX3_slotCount_13 : decode cX3_slotCount 13 = .ok (.aload_n 0, 1) := by decide +kernel
theorem dX3_slotCount_14 : decode cX3_slotCount 14 = .ok (.getfield 9, 3) := by decide +kernel
theorem dX3_slotCount_17 : decode cX3_slotCount 17 = .ok (.arraylength, 1) := by decide +kernel
theorem dX3_slotCount_18 : decode cX3_slotCount 18 = .ok (.if_icmp .ge 12, 3) := by decide +kernel
theorem dX3_slotCount_21 : decode cX3_slotCount 21 = .ok (.aload_n 0, 1) := by decide +kernel
theorem dX3_slotCount_22 : decode cX3_slotCount 22 = .ok (.getfield 9, 3) := by decide +kernel
theorem dX3_slotCount_25 : decode cX3_slotCount 25 = .ok (.iload_n 2, 1) := by decide +kernel
theorem dX3_slotCount_26 : decode cX3_slotCount 26 = .ok (.iaload, 1) := by decide +kernel
theorem dX3_slotCount_27 : decode cX3_slotCount 27 = .ok (.goto 4, 3) := by decide +kernel
theorem dX3_slotCount_30 : decode cX3_slotCount 30 = .ok (.iconst 0, 1) := by decide +kernel
theorem dX3_slotCount_31 : decode cX3_slotCount 31 = .ok (.ireturn, 1) := by decide +kernel
theorem dX3_offsetOf_0 : decode cX3_offsetOf 0 = .ok (.sipush 128, 3) := by decide +kernel
theorem dX3_offsetOf_3 : decode cX3_offsetOf 3 = .ok (.iload_n 1, 1) := by decide +kernel
theorem dX3_offsetOf_4 : decode cX3_offsetOf 4 = .ok (.imul, 1) := by decide +kernel
theorem dX3_offsetOf_5 : decode cX3_offsetOf 5 = .ok (.iconst 2, 1) := by decide +kernel
theorem dX3_offsetOf_6 : decode cX3_offsetOf 6 = .ok (.iadd, 1) := by decide +kernel
theorem dX3_offsetOf_7 : decode cX3_offsetOf 7 = .ok (.iconst 2, 1) := by decide +kernel
theorem dX3_offsetOf_8 : decode cX3_offsetOf 8 = .ok (.iload_n 2, 1) := by decide +kernel
theorem dX3_offsetOf_9 : decode cX3_offsetOf 9 = .ok (.imul, 1) := by decide +kernel
theorem dX3_offsetOf_10 : decode cX3_offsetOf 10 = .ok (.iadd, 1) := by decide +kernel
theorem dX3_offsetOf_11 : decode cX3_offsetOf 11 = .ok (.istore_n 3, 1) := by decide +kernel
theorem dX3_offsetOf_12 : decode cX3_offsetOf 12 = .ok (.iload_n 3, 1) := by decide +kernel
theorem dX3_offsetOf_13 : decode cX3_offsetOf 13 = .ok (.ifCond .lt 21, 3) := by decide +kernel
theorem dX3_offsetOf_16 : decode cX3_offsetOf 16 = .ok (.iload_n 3, 1) := by decide +kernel
theorem dX3_offsetOf_17 : decode cX3_offsetOf 17 = .ok (.aload_n 0, 1) := by decide +kernel
theorem dX3_offsetOf_18 : decode cX3_offsetOf 18 = .ok (.getfield 9, 3) := by decide +kernel
theorem dX3_offsetOf_21 : decode cX3_offsetOf 21 = .ok (.arraylength, 1) := by decide +kernel
theorem dX3_offsetOf_22 : decode cX3_offsetOf 22 = .ok (.if_icmp .ge 12, 3) := by decide +kernel
theorem dX3_offsetOf_25 : decode cX3_offsetOf 25 = .ok (.aload_n 0, 1) := by decide +kernel
theorem dX3_offsetOf_26 : decode cX3_offsetOf 26 = .ok (.getfield 9, 3) := by decide +kernel
theorem dX3_offsetOf_29 : decode cX3_offsetOf 29 = .ok (.iload_n 3, 1) := by decide +kernel
theorem dX3_offsetOf_30 : decode cX3_offsetOf 30 = .ok (.iaload, 1) := by decide +kernel
theorem dX3_offsetOf_31 : decode cX3_offsetOf 31 = .ok (.goto 4, 3) := by decide +kernel
theorem dX3_offsetOf_34 : decode cX3_offsetOf 34 = .ok (.iconst 0, 1) := by decide +kernel
theorem dX3_offsetOf_35 : decode cX3_offsetOf 35 = .ok (.ireturn, 1) := by decide +kernel
theorem dX3_sizeOf_0 : decode cX3_sizeOf 0 = .ok (.sipush 128, 3) := by decide +kernel
theorem dX3_sizeOf_3 : decode cX3_sizeOf 3 = .ok (.iload_n 1, 1) := by decide +kernel
theorem dX3_sizeOf_4 : decode cX3_sizeOf 4 = .ok (.imul, 1) := by decide +kernel
theorem dX3_sizeOf_5 : decode cX3_sizeOf 5 = .ok (.iconst 2, 1) := by decide +kernel
theorem dX3_sizeOf_6 : decode cX3_sizeOf 6 = .ok (.iadd, 1) := by decide +kernel
theorem dX3_sizeOf_7 : decode cX3_sizeOf 7 = .ok (.iconst 2, 1) := by decide +kernel
theorem dX3_sizeOf_8 : decode cX3_sizeOf 8 = .ok (.iload_n 2, 1) := by decide +kernel
theorem dX3_sizeOf_9 : decode cX3_sizeOf 9 = .ok (.imul, 1) := by decide +kernel
theorem dX3_sizeOf_10 : decode cX3_sizeOf 10 = .ok (.iadd, 1) := by decide +kernel
theorem dX3_sizeOf_11 : decode cX3_sizeOf 11 = .ok (.iconst 1, 1) := by decide +kernel
theorem dX3_sizeOf_12 : decode cX3_sizeOf 12 = .ok (.iadd, 1) := by decide +kernel
theorem dX3_sizeOf_13 : decode cX3_sizeOf 13 = .ok (.istore_n 3, 1) := by decide +kernel
theorem dX3_sizeOf_14 : decode cX3_sizeOf 14 = .ok (.iload_n 3, 1) := by decide +kernel
theorem dX3_sizeOf_15 : decode cX3_sizeOf 15 = .ok (.ifCond .lt 21, 3) := by decide +kernel
theorem dX3_sizeOf_18 : decode cX3_sizeOf 18 = .ok (.iload_n 3, 1) := by decide +kernel
theorem dX3_sizeOf_19 : decode cX3_sizeOf 19 = .ok (.aload_n 0, 1) := by decide +kernel
theorem dX3_sizeOf_20 : decode cX3_sizeOf 20 = .ok (.getfield 9, 3) := by decide +kernel
theorem dX3_sizeOf_23 : decode cX3_sizeOf 23 = .ok (.arraylength, 1) := by decide +kernel
theorem dX3_sizeOf_24 : decode cX3_sizeOf 24 = .ok (.if_icmp .ge 12, 3) := by decide +kernel
theorem dX3_sizeOf_27 : decode cX3_sizeOf 27 = .ok (.aload_n 0, 1) := by decide +kernel
theorem dX3_sizeOf_28 : decode cX3_sizeOf 28 = .ok (.getfield 9, 3) := by decide +kernel
theorem dX3_sizeOf_31 : decode cX3_sizeOf 31 = .ok (.iload_n 3, 1) := by decide +kernel
theorem dX3_sizeOf_32 : decode cX3_sizeOf 32 = .ok (.iaload, 1) := by decide +kernel
theorem dX3_sizeOf_33 : decode cX3_sizeOf 33 = .ok (.goto 4, 3) := by decide +kernel
theorem dX3_sizeOf_36 : decode cX3_sizeOf 36 = .ok (.iconst 0, 1) := by decide +kernel
theorem dX3_sizeOf_37 : decode cX3_sizeOf 37 = .ok (.ireturn, 1) := by decide +kernel
theorem dX3_recordByte_0 : decode cX3_recordByte 0 = .ok (.aload_n 0, 1) := by decide +kernel
theorem dX3_recordByte_1 : decode cX3_recordByte 1 = .ok (.iload_n 1, 1) := by decide +kernel
theorem dX3_recordByte_2 : decode cX3_recordByte 2 = .ok (.aload_n 0, 1) := by decide +kernel
theorem dX3_recordByte_3 : decode cX3_recordByte 3 = .ok (.iload_n 1, 1) := by decide +kernel
theorem dX3_recordByte_4 : decode cX3_recordByte 4 = .ok (.iload_n 2, 1) := by decide +kernel
theorem dX3_recordByte_5 : decode cX3_recordByte 5 = .ok (.invokevirtual 15, 3) := by decide +kernel
theorem dX3_recordByte_8 : decode cX3_recordByte 8 = .ok (.iload_n 3, 1) := by decide +kernel
theorem dX3_recordByte_9 : decode cX3_recordByte 9 = .ok (.iadd, 1) := by decide +kernel
theorem dX3_recordByte_10 : decode cX3_recordByte 10 = .ok (.invokevirtual 19, 3) := by decide +kernel
theorem dX3_recordByte_13 : decode cX3_recordByte 13 = .ok (.ireturn, 1) := by decide +kernel
theorem dX3_setByte_0 : decode cX3_setByte 0 = .ok (.sipush 128, 3) := by decide +kernel
theorem dX3_setByte_3 : decode cX3_setByte 3 = .ok (.iload_n 1, 1) := by decide +kernel
theorem dX3_setByte_4 : decode cX3_setByte 4 = .ok (.imul, 1) := by decide +kernel
theorem dX3_setByte_5 : decode cX3_setByte 5 = .ok (.iload_n 2, 1) := by decide +kernel
theorem dX3_setByte_6 : decode cX3_setByte 6 = .ok (.iadd, 1) := by decide +kernel
theorem dX3_setByte_7 : decode cX3_setByte 7 = .ok (.istore 4, 2) := by decide +kernel
theorem dX3_setByte_9 : decode cX3_setByte 9 = .ok (.iload 4, 2) := by decide +kernel
theorem dX3_setByte_11 : decode cX3_setByte 11 = .ok (.ifCond .lt 21, 3) := by decide +kernel
theorem dX3_setByte_14 : decode cX3_setByte 14 = .ok (.iload 4, 2) := by decide +kernel
theorem dX3_setByte_16 : decode cX3_setByte 16 = .ok (.aload_n 0, 1) := by decide +kernel
theorem dX3_setByte_17 : decode cX3_setByte 17 = .ok (.getfield 9, 3) := by decide +kernel
theorem dX3_setByte_20 : decode cX3_setByte 20 = .ok (.arraylength, 1) := by decide +kernel
theorem dX3_setByte_21 : decode cX3_setByte 21 = .ok (.if_icmp .ge 11, 3) := by decide +kernel
theorem dX3_setByte_24 : decode cX3_setByte 24 = .ok (.aload_n 0, 1) := by decide +kernel
theorem dX3_setByte_25 : decode cX3_setByte 25 = .ok (.getfield 9, 3) := by decide +kernel
theorem dX3_setByte_28 : decode cX3_setByte 28 = .ok (.iload 4, 2) := by decide +kernel
theorem dX3_setByte_30 : decode cX3_setByte 30 = .ok (.iload_n 3, 1) := by decide +kernel
theorem dX3_setByte_31 : decode cX3_setByte 31 = .ok (.iastore, 1) := by decide +kernel
theorem dX3_setByte_32 : decode cX3_setByte 32 = .ok (.return_, 1) := by decide +kernel
theorem dX3_setRecordByte_0 : decode cX3_setRecordByte 0 = .ok (.aload_n 0, 1) := by decide +kernel
theorem dX3_setRecordByte_1 : decode cX3_setRecordByte 1 = .ok (.iload_n 1, 1) := by decide +kernel
theorem dX3_setRecordByte_2 : decode cX3_setRecordByte 2 = .ok (.aload_n 0, 1) := by decide +kernel
theorem dX3_setRecordByte_3 : decode cX3_setRecordByte 3 = .ok (.iload_n 1, 1) := by decide +kernel
theorem dX3_setRecordByte_4 : decode cX3_setRecordByte 4 = .ok (.iload_n 2, 1) := by decide +kernel
theorem dX3_setRecordByte_5 : decode cX3_setRecordByte 5 = .ok (.invokevirtual 15, 3) := by decide +kernel
theorem dX3_setRecordByte_8 : decode cX3_setRecordByte 8 = .ok (.iload_n 3, 1) := by decide +kernel
theorem dX3_setRecordByte_9 : decode cX3_setRecordByte 9 = .ok (.iadd, 1) := by decide +kernel
theorem dX3_setRecordByte_10 : decode cX3_setRecordByte 10 = .ok (.iload 4, 2) := by decide +kernel
theorem dX3_setRecordByte_12 : decode cX3_setRecordByte 12 = .ok (.invokevirtual 22, 3) := by decide +kernel
theorem dX3_setRecordByte_15 : decode cX3_setRecordByte 15 = .ok (.return_, 1) := by decide +kernel
theorem dX3_copyFrom_0 : decode cX3_copyFrom 0 = .ok (.aload_n 1, 1) := by decide +kernel
theorem dX3_copyFrom_1 : decode cX3_copyFrom 1 = .ok (.ifnonnull 4, 3) := by decide +kernel
theorem dX3_copyFrom_4 : decode cX3_copyFrom 4 = .ok (.return_, 1) := by decide +kernel
theorem dX3_copyFrom_5 : decode cX3_copyFrom 5 = .ok (.aload_n 1, 1) := by decide +kernel
theorem dX3_copyFrom_6 : decode cX3_copyFrom 6 = .ok (.getfield 9, 3) := by decide +kernel
theorem dX3_copyFrom_9 : decode cX3_copyFrom 9 = .ok (.iconst 0, 1) := by decide +kernel
theorem dX3_copyFrom_10 : decode cX3_copyFrom 10 = .ok (.aload_n 0, 1) := by decide +kernel
theorem dX3_copyFrom_11 : decode cX3_copyFrom 11 = .ok (.getfield 9, 3) := by decide +kernel
theorem dX3_copyFrom_14 : decode cX3_copyFrom 14 = .ok (.iconst 0, 1) := by decide +kernel
theorem dX3_copyFrom_15 : decode cX3_copyFrom 15 = .ok (.aload_n 1, 1) := by decide +kernel
theorem dX3_copyFrom_16 : decode cX3_copyFrom 16 = .ok (.getfield 9, 3) := by decide +kernel
theorem dX3_copyFrom_19 : decode cX3_copyFrom 19 = .ok (.arraylength, 1) := by decide +kernel
theorem dX3_copyFrom_20 : decode cX3_copyFrom 20 = .ok (.aload_n 0, 1) := by decide +kernel
theorem dX3_copyFrom_21 : decode cX3_copyFrom 21 = .ok (.getfield 9, 3) := by decide +kernel
theorem dX3_copyFrom_24 : decode cX3_copyFrom 24 = .ok (.arraylength, 1) := by decide +kernel
theorem dX3_copyFrom_25 : decode cX3_copyFrom 25 = .ok (.invokestatic 26, 3) := by decide +kernel
theorem dX3_copyFrom_28 : decode cX3_copyFrom 28 = .ok (.invokestatic 31, 3) := by decide +kernel
theorem dX3_copyFrom_31 : decode cX3_copyFrom 31 = .ok (.aload_n 0, 1) := by decide +kernel
theorem dX3_copyFrom_32 : decode cX3_copyFrom 32 = .ok (.aload_n 1, 1) := by decide +kernel
theorem dX3_copyFrom_33 : decode cX3_copyFrom 33 = .ok (.getfield 37, 3) := by decide +kernel
theorem dX3_copyFrom_36 : decode cX3_copyFrom 36 = .ok (.putfield 37, 3) := by decide +kernel
theorem dX3_copyFrom_39 : decode cX3_copyFrom 39 = .ok (.aload_n 0, 1) := by decide +kernel
theorem dX3_copyFrom_40 : decode cX3_copyFrom 40 = .ok (.aload_n 1, 1) := by decide +kernel
theorem dX3_copyFrom_41 : decode cX3_copyFrom 41 = .ok (.getfield 41, 3) := by decide +kernel
theorem dX3_copyFrom_44 : decode cX3_copyFrom 44 = .ok (.putfield 41, 3) := by decide +kernel
theorem dX3_copyFrom_47 : decode cX3_copyFrom 47 = .ok (.aload_n 0, 1) := by decide +kernel
theorem dX3_copyFrom_48 : decode cX3_copyFrom 48 = .ok (.aload_n 1, 1) := by decide +kernel
theorem dX3_copyFrom_49 : decode cX3_copyFrom 49 = .ok (.getfield 44, 3) := by decide +kernel
theorem dX3_copyFrom_52 : decode cX3_copyFrom 52 = .ok (.putfield 44, 3) := by decide +kernel
theorem dX3_copyFrom_55 : decode cX3_copyFrom 55 = .ok (.aload_n 0, 1) := by decide +kernel
theorem dX3_copyFrom_56 : decode cX3_copyFrom 56 = .ok (.aload_n 1, 1) := by decide +kernel
theorem dX3_copyFrom_57 : decode cX3_copyFrom 57 = .ok (.getfield 47, 3) := by decide +kernel
theorem dX3_copyFrom_60 : decode cX3_copyFrom 60 = .ok (.putfield 47, 3) := by decide +kernel
theorem dX3_copyFrom_63 : decode cX3_copyFrom 63 = .ok (.return_, 1) := by decide +kernel
theorem dX4_init_0 : decode cX4_init 0 = .ok (.aload_n 0, 1) := by decide +kernel
theorem dX4_init_1 : decode cX4_init 1 = .ok (.invokespecial 3, 3) := by decide +kernel
theorem dX4_init_4 : decode cX4_init 4 = .ok (.aload_n 0, 1) := by decide +kernel
theorem dX4_init_5 : decode cX4_init 5 = .ok (.new 9, 3) := by decide +kernel
theorem dX4_init_8 : decode cX4_init 8 = .ok (.dup, 1) := by decide +kernel
theorem dX4_init_9 : decode cX4_init 9 = .ok (.invokespecial 11, 3) := by decide +kernel
theorem dX4_init_12 : decode cX4_init 12 = .ok (.putfield 12, 3) := by decide +kernel
theorem dX4_init_15 : decode cX4_init 15 = .ok (.aload_n 0, 1) := by decide +kernel
theorem dX4_init_16 : decode cX4_init 16 = .ok (.aload_n 0, 1) := by decide +kernel
theorem dX4_init_17 : decode cX4_init 17 = .ok (.getfield 12, 3) := by decide +kernel
theorem dX4_init_20 : decode cX4_init 20 = .ok (.getfield 16, 3) := by decide +kernel
theorem dX4_init_23 : decode cX4_init 23 = .ok (.putfield 20, 3) := by decide +kernel
theorem dX4_init_26 : decode cX4_init 26 = .ok (.aload_n 0, 1) := by decide +kernel
theorem dX4_init_27 : decode cX4_init 27 = .ok (.new 21, 3) := by decide +kernel
theorem dX4_init_30 : decode cX4_init 30 = .ok (.dup, 1) := by decide +kernel
theorem dX4_init_31 : decode cX4_init 31 = .ok (.bipush 60, 2) := by decide +kernel
theorem dX4_init_33 : decode cX4_init 33 = .ok (.invokespecial 23, 3) := by decide +kernel
theorem dX4_init_36 : decode cX4_init 36 = .ok (.putfield 26, 3) := by decide +kernel
theorem dX4_init_39 : decode cX4_init 39 = .ok (.aload_n 0, 1) := by decide +kernel
theorem dX4_init_40 : decode cX4_init 40 = .ok (.new 21, 3) := by decide +kernel
theorem dX4_init_43 : decode cX4_init 43 = .ok (.dup, 1) := by decide +kernel
theorem dX4_init_44 : decode cX4_init 44 = .ok (.bipush 60, 2) := by decide +kernel
theorem dX4_init_46 : decode cX4_init 46 = .ok (.invokespecial 23, 3) := by decide +kernel
theorem dX4_init_49 : decode cX4_init 49 = .ok (.putfield 30, 3) := by decide +kernel
theorem dX4_init_52 : decode cX4_init 52 = .ok (.aload_n 0, 1) := by decide +kernel
theorem dX4_init_53 : decode cX4_init 53 = .ok (.new 21, 3) := by decide +kernel
theorem dX4_init_56 : decode cX4_init 56 = .ok (.dup, 1) := by decide +kernel
theorem dX4_init_57 : decode cX4_init 57 = .ok (.bipush 63, 2) := by decide +kernel
theorem dX4_init_59 : decode cX4_init 59 = .ok (.invokespecial 23, 3) := by decide +kernel
theorem dX4_init_62 : decode cX4_init 62 = .ok (.putfield 33, 3) := by decide +kernel
theorem dX4_init_65 : decode cX4_init 65 = .ok (.aload_n 0, 1) := by decide +kernel
theorem dX4_init_66 : decode cX4_init 66 = .ok (.new 36, 3) := by decide +kernel
theorem dX4_init_69 : decode cX4_init 69 = .ok (.dup, 1) := by decide +kernel
theorem dX4_init_70 : decode cX4_init 70 = .ok (.invokespecial 38, 3) := by decide +kernel
theorem dX4_init_73 : decode cX4_init 73 = .ok (.putfield 39, 3) := by decide +kernel
theorem dX4_init_76 : decode cX4_init 76 = .ok (.aload_n 0, 1) := by decide +kernel
theorem dX4_init_77 : decode cX4_init 77 = .ok (.bipush 6, 2) := by decide +kernel
theorem dX4_init_79 : decode cX4_init 79 = .ok (.anewarray 43, 3) := by decide +kernel
theorem dX4_init_82 : decode cX4_init 82 = .ok (.putfield 45, 3) := by decide +kernel
theorem dX4_init_85 : decode cX4_init 85 = .ok (.iconst 0, 1) := by decide +kernel
theorem dX4_init_86 : decode cX4_init 86 = .ok (.istore_n 1, 1) := by decide +kernel
theorem dX4_init_87 : decode cX4_init 87 = .ok (.iload_n 1, 1) := by decide +kernel
theorem dX4_init_88 : decode cX4_init 88 = .ok (.aload_n 0, 1) := by decide +kernel
theorem dX4_init_89 : decode cX4_init 89 = .ok (.getfield 45, 3) := by decide +kernel
theorem dX4_init_92 : decode cX4_init 92 = .ok (.arraylength, 1) := by decide +kernel
theorem dX4_init_93 : decode cX4_init 93 = .ok (.if_icmp .ge 22, 3) := by decide +kernel
theorem dX4_init_96 : decode cX4_init 96 = .ok (.aload_n 0, 1) := by decide +kernel
theorem dX4_init_97 : decode cX4_init 97 = .ok (.getfield 45, 3) := by decide +kernel
theorem dX4_init_100 : decode cX4_init 100 = .ok (.iload_n 1, 1) := by decide +kernel
theorem dX4_init_101 : decode cX4_init 101 = .ok (.new 43, 3) := by decide +kernel
theorem dX4_init_104 : decode cX4_init 104 = .ok (.dup, 1) := by decide +kernel
theorem dX4_init_105 : decode cX4_init 105 = .ok (.invokespecial 49, 3) := by decide +kernel
theorem dX4_init_108 : decode cX4_init 108 = .ok (.aastore, 1) := by decide +kernel
theorem dX4_init_109 : decode cX4_init 109 = .ok (.iinc 1 1, 3) := by decide +kernel
theorem dX4_init_112 : decode cX4_init 112 = .ok (.goto (-25), 3) := by decide +kernel
theorem dX4_init_115 : decode cX4_init 115 = .ok (.return_, 1) := by decide +kernel
theorem dX4_fill_0 : decode cX4_fill 0 = .ok (.aload_n 0, 1) := by decide +kernel
theorem dX4_fill_1 : decode cX4_fill 1 = .ok (.iload_n 1, 1) := by decide +kernel
theorem dX4_fill_2 : decode cX4_fill 2 = .ok (.iload_n 2, 1) := by decide +kernel
theorem dX4_fill_3 : decode cX4_fill 3 = .ok (.invokevirtual 50, 3) := by decide +kernel
theorem dX4_fill_6 : decode cX4_fill 6 = .ok (.ireturn, 1) := by decide +kernel
theorem dX4_clearBuffer_0 : decode cX4_clearBuffer 0 = .ok (.aload_n 0, 1) := by decide +kernel
theorem dX4_clearBuffer_1 : decode cX4_clearBuffer 1 = .ok (.getfield 26, 3) := by decide +kernel
theorem dX4_clearBuffer_4 : decode cX4_clearBuffer 4 = .ok (.getfield 54, 3) := by decide +kernel
theorem dX4_clearBuffer_7 : decode cX4_clearBuffer 7 = .ok (.istore_n 1, 1) := by decide +kernel
theorem dX4_clearBuffer_8 : decode cX4_clearBuffer 8 = .ok (.aload_n 0, 1) := by decide +kernel
theorem dX4_clearBuffer_9 : decode cX4_clearBuffer 9 = .ok (.getfield 26, 3) := by decide +kernel
theorem dX4_clearBuffer_12 : decode cX4_clearBuffer 12 = .ok (.invokevirtual 58, 3) := by decide +kernel
theorem dX4_clearBuffer_15 : decode cX4_clearBuffer 15 = .ok (.iload_n 1, 1) := by decide +kernel
theorem dX4_clearBuffer_16 : decode cX4_clearBuffer 16 = .ok (.ireturn, 1) := by decide +kernel
theorem dX4_appendSeveral_0 : decode cX4_appendSeveral 0 = .ok (.iload_n 1, 1) := by decide +kernel
theorem dX4_appendSeveral_1 : decode cX4_appendSeveral 1 = .ok (.iconst 1, 1) := by decide +kernel
theorem dX4_appendSeveral_2 : decode cX4_appendSeveral 2 = .ok (.if_icmp .lt 9, 3) := by decide +kernel
theorem dX4_appendSeveral_5 : decode cX4_appendSeveral 5 = .ok (.iload_n 1, 1) := by decide +kernel
theorem dX4_appendSeveral_6 : decode cX4_appendSeveral 6 = .ok (.bipush 60, 2) := by decide +kernel
theorem dX4_appendSeveral_8 : decode cX4_appendSeveral 8 = .ok (.if_icmp .le 13, 3) := by decide +kernel
theorem dX4_appendSeveral_11 : decode cX4_appendSeveral 11 = .ok (.new 61, 3) := by decide +kernel
theorem dX4_appendSeveral_14 : decode cX4_appendSeveral 14 = .ok (.dup, 1) := by decide +kernel
theorem dX4_appendSeveral_15 : decode cX4_appendSeveral 15 = .ok (.ldc 63, 2) := by decide +kernel
theorem dX4_appendSeveral_17 : decode cX4_appendSeveral 17 = .ok (.invokespecial 65, 3) := by decide +kernel
theorem dX4_appendSeveral_20 : decode cX4_appendSeveral 20 = .ok (.athrow, 1) := by decide +kernel
theorem dX4_appendSeveral_21 : decode cX4_appendSeveral 21 = .ok (.iload_n 2, 1) := by decide +kernel
theorem dX4_appendSeveral_22 : decode cX4_appendSeveral 22 = .ok (.ifCond .lt 10, 3) := by decide +kernel
theorem dX4_appendSeveral_25 : decode cX4_appendSeveral 25 = .ok (.iload_n 2, 1) := by decide +kernel
theorem dX4_appendSeveral_26 : decode cX4_appendSeveral 26 = .ok (.sipush 255, 3) := by decide +kernel
theorem dX4_appendSeveral_29 : decode cX4_appendSeveral 29 = .ok (.if_icmp .le 13, 3) := by decide +kernel
theorem dX4_appendSeveral_32 : decode cX4_appendSeveral 32 = .ok (.new 61, 3) := by decide +kernel
theorem dX4_appendSeveral_35 : decode cX4_appendSeveral 35 = .ok (.dup, 1) := by decide +kernel
theorem dX4_appendSeveral_36 : decode cX4_appendSeveral 36 = .ok (.ldc 68, 2) := by decide +kernel
theorem dX4_appendSeveral_38 : decode cX4_appendSeveral 38 = .ok (.invokespecial 65, 3) := by decide +kernel
theorem dX4_appendSeveral_41 : decode cX4_appendSeveral 41 = .ok (.athrow, 1) := by decide +kernel
theorem dX4_appendSeveral_42 : decode cX4_appendSeveral 42 = .ok (.aload_n 0, 1) := by decide +kernel
theorem dX4_appendSeveral_43 : decode cX4_appendSeveral 43 = .ok (.getfield 26, 3) := by decide +kernel
theorem dX4_appendSeveral_46 : decode cX4_appendSeveral 46 = .ok (.getfield 54, 3) := by decide +kernel
theorem dX4_appendSeveral_49 : decode cX4_appendSeveral 49 = .ok (.iload_n 1, 1) := by decide +kernel
theorem dX4_appendSeveral_50 : decode cX4_appendSeveral 50 = .ok (.iadd, 1) := by decide +kernel
theorem dX4_appendSeveral_51 : decode cX4_appendSeveral 51 = .ok (.bipush 60, 2) := by decide +kernel
theorem dX4_appendSeveral_53 : decode cX4_appendSeveral 53 = .ok (.if_icmp .le 13, 3) := by decide +kernel
theorem dX4_appendSeveral_56 : decode cX4_appendSeveral 56 = .ok (.new 70, 3) := by decide +kernel
theorem dX4_appendSeveral_59 : decode cX4_appendSeveral 59 = .ok (.dup, 1) := by decide +kernel
theorem dX4_appendSeveral_60 : decode cX4_appendSeveral 60 = .ok (.ldc 72, 2) := by decide +kernel
theorem dX4_appendSeveral_62 : decode cX4_appendSeveral 62 = .ok (.invokespecial 74, 3) := by decide +kernel
theorem dX4_appendSeveral_65 : decode cX4_appendSeveral 65 = .ok (.athrow, 1) := by decide +kernel
theorem dX4_appendSeveral_66 : decode cX4_appendSeveral 66 = .ok (.iconst 0, 1) := by decide +kernel
theorem dX4_appendSeveral_67 : decode cX4_appendSeveral 67 = .ok (.istore_n 3, 1) := by decide +kernel
theorem dX4_appendSeveral_68 : decode cX4_appendSeveral 68 = .ok (.iload_n 3, 1) := by decide +kernel
theorem dX4_appendSeveral_69 : decode cX4_appendSeveral 69 = .ok (.iload_n 1, 1) := by decide +kernel
theorem dX4_appendSeveral_70 : decode cX4_appendSeveral 70 = .ok (.if_icmp .ge 17, 3) := by decide +kernel
theorem dX4_appendSeveral_73 : decode cX4_appendSeveral 73 = .ok (.aload_n 0, 1) := by decide +kernel
theorem dX4_appendSeveral_74 : decode cX4_appendSeveral 74 = .ok (.getfield 26, 3) := by decide +kernel
theorem dX4_appendSeveral_77 : decode cX4_appendSeveral 77 = .ok (.iload_n 2, 1) := by decide +kernel
theorem dX4_appendSeveral_78 : decode cX4_appendSeveral 78 = .ok (.invokevirtual 75, 3) := by decide +kernel
theorem dX4_appendSeveral_81 : decode cX4_appendSeveral 81 = .ok (.iinc 3 1, 3) := by decide +kernel
theorem dX4_appendSeveral_84 : decode cX4_appendSeveral 84 = .ok (.goto (-16), 3) := by decide +kernel
theorem dX4_appendSeveral_87 : decode cX4_appendSeveral 87 = .ok (.aload_n 0, 1) := by decide +kernel
theorem dX4_appendSeveral_88 : decode cX4_appendSeveral 88 = .ok (.getfield 26, 3) := by decide +kernel
theorem dX4_appendSeveral_91 : decode cX4_appendSeveral 91 = .ok (.getfield 54, 3) := by decide +kernel
theorem dX4_appendSeveral_94 : decode cX4_appendSeveral 94 = .ok (.ireturn, 1) := by decide +kernel
theorem dX4_insert_0 : decode cX4_insert 0 = .ok (.aload_n 0, 1) := by decide +kernel
theorem dX4_insert_1 : decode cX4_insert 1 = .ok (.getfield 12, 3) := by decide +kernel
theorem dX4_insert_4 : decode cX4_insert 4 = .ok (.aload_n 0, 1) := by decide +kernel
theorem dX4_insert_5 : decode cX4_insert 5 = .ok (.getfield 26, 3) := by decide +kernel
theorem dX4_insert_8 : decode cX4_insert 8 = .ok (.getfield 54, 3) := by decide +kernel
theorem dX4_insert_11 : decode cX4_insert 11 = .ok (.invokestatic 78, 3) := by decide +kernel
theorem dX4_insert_14 : decode cX4_insert 14 = .ok (.iconst (-1), 1) := by decide +kernel
theorem dX4_insert_15 : decode cX4_insert 15 = .ok (.iconst (-1), 1) := by decide +kernel
theorem dX4_insert_16 : decode cX4_insert 16 = .ok (.invokevirtual 82, 3) := by decide +kernel
theorem dX4_insert_19 : decode cX4_insert 19 = .ok (.istore_n 1, 1) := by decide +kernel
theorem dX4_insert_20 : decode cX4_insert 20 = .ok (.iload_n 1, 1) := by decide +kernel
theorem dX4_insert_21 : decode cX4_insert 21 = .ok (.iconst (-1), 1) := by decide +kernel
theorem dX4_insert_22 : decode cX4_insert 22 = .ok (.if_icmp .ne 13, 3) := by decide +kernel
theorem dX4_insert_25 : decode cX4_insert 25 = .ok (.new 70, 3) := by decide +kernel
theorem dX4_insert_28 : decode cX4_insert 28 = .ok (.dup, 1) := by decide +kernel
theorem dX4_insert_29 : decode cX4_insert 29 = .ok (.ldc 86, 2) := by decide +kernel
theorem dX4_insert_31 : decode cX4_insert 31 = .ok (.invokespecial 74, 3) := by decide +kernel
theorem dX4_insert_34 : decode cX4_insert 34 = .ok (.athrow, 1) := by decide +kernel
theorem dX4_insert_35 : decode cX4_insert 35 = .ok (.aload_n 0, 1) := by decide +kernel
theorem dX4_insert_36 : decode cX4_insert 36 = .ok (.invokevirtual 88, 3) := by decide +kernel
theorem dX4_insert_39 : decode cX4_insert 39 = .ok (.aload_n 0, 1) := by decide +kernel
theorem dX4_insert_40 : decode cX4_insert 40 = .ok (.getfield 30, 3) := by decide +kernel
theorem dX4_insert_43 : decode cX4_insert 43 = .ok (.aload_n 0, 1) := by decide +kernel
theorem dX4_insert_44 : decode cX4_insert 44 = .ok (.getfield 26, 3) := by decide +kernel
theorem dX4_insert_47 : decode cX4_insert 47 = .ok (.iconst 0, 1) := by decide +kernel
theorem dX4_insert_48 : decode cX4_insert 48 = .ok (.aload_n 0, 1) := by decide +kernel
theorem dX4_insert_49 : decode cX4_insert 49 = .ok (.getfield 26, 3) := by decide +kernel
theorem dX4_insert_52 : decode cX4_insert 52 = .ok (.getfield 54, 3) := by decide +kernel
theorem dX4_insert_55 : decode cX4_insert 55 = .ok (.invokevirtual 91, 3) := by decide +kernel
theorem dX4_insert_58 : decode cX4_insert 58 = .ok (.aload_n 0, 1) := by decide +kernel
theorem dX4_insert_59 : decode cX4_insert 59 = .ok (.getfield 26, 3) := by decide +kernel
theorem dX4_insert_62 : decode cX4_insert 62 = .ok (.invokevirtual 58, 3) := by decide +kernel
theorem dX4_insert_65 : decode cX4_insert 65 = .ok (.aload_n 0, 1) := by decide +kernel
theorem dX4_insert_66 : decode cX4_insert 66 = .ok (.iload_n 1, 1) := by decide +kernel
theorem dX4_insert_67 : decode cX4_insert 67 = .ok (.invokevirtual 95, 3) := by decide +kernel
theorem dX4_insert_70 : decode cX4_insert 70 = .ok (.ireturn, 1) := by decide +kernel
theorem dX4_update_0 : decode cX4_update 0 = .ok (.aload_n 0, 1) := by decide +kernel
theorem dX4_update_1 : decode cX4_update 1 = .ok (.iload_n 1, 1) := by decide +kernel
theorem dX4_update_2 : decode cX4_update 2 = .ok (.invokevirtual 98, 3) := by decide +kernel
theorem dX4_update_5 : decode cX4_update 5 = .ok (.aload_n 0, 1) := by decide +kernel
theorem dX4_update_6 : decode cX4_update 6 = .ok (.iload_n 1, 1) := by decide +kernel
theorem dX4_update_7 : decode cX4_update 7 = .ok (.aload_n 0, 1) := by decide +kernel
theorem dX4_update_8 : decode cX4_update 8 = .ok (.getfield 26, 3) := by decide +kernel
theorem dX4_update_11 : decode cX4_update 11 = .ok (.getfield 54, 3) := by decide +kernel
theorem dX4_update_14 : decode cX4_update 14 = .ok (.invokevirtual 101, 3) := by decide +kernel
theorem dX4_update_17 : decode cX4_update 17 = .ok (.istore_n 2, 1) := by decide +kernel
theorem dX4_update_18 : decode cX4_update 18 = .ok (.iload_n 2, 1) := by decide +kernel
theorem dX4_update_19 : decode cX4_update 19 = .ok (.iconst (-1), 1) := by decide +kernel
theorem dX4_update_20 : decode cX4_update 20 = .ok (.if_icmp .ne 13, 3) := by decide +kernel
theorem dX4_update_23 : decode cX4_update 23 = .ok (.new 70, 3) := by decide +kernel
theorem dX4_update_26 : decode cX4_update 26 = .ok (.dup, 1) := by decide +kernel
theorem dX4_update_27 : decode cX4_update 27 = .ok (.ldc 104, 2) := by decide +kernel
theorem dX4_update_29 : decode cX4_update 29 = .ok (.invokespecial 74, 3) := by decide +kernel
theorem dX4_update_32 : decode cX4_update 32 = .ok (.athrow, 1) := by decide +kernel
theorem dX4_update_33 : decode cX4_update 33 = .ok (.aload_n 0, 1) := by decide +kernel
theorem dX4_update_34 : decode cX4_update 34 = .ok (.invokevirtual 88, 3) := by decide +kernel
theorem dX4_update_37 : decode cX4_update 37 = .ok (.aload_n 0, 1) := by decide +kernel
theorem dX4_update_38 : decode cX4_update 38 = .ok (.getfield 30, 3) := by decide +kernel
theorem dX4_update_41 : decode cX4_update 41 = .ok (.aload_n 0, 1) := by decide +kernel
theorem dX4_update_42 : decode cX4_update 42 = .ok (.getfield 26, 3) := by decide +kernel
theorem dX4_update_45 : decode cX4_update 45 = .ok (.iconst 0, 1) := by decide +kernel
theorem dX4_update_46 : decode cX4_update 46 = .ok (.aload_n 0, 1) := by decide +kernel
theorem dX4_update_47 : decode cX4_update 47 = .ok (.getfield 26, 3) := by decide +kernel
theorem dX4_update_50 : decode cX4_update 50 = .ok (.getfield 54, 3) := by decide +kernel
theorem dX4_update_53 : decode cX4_update 53 = .ok (.invokevirtual 91, 3) := by decide +kernel
theorem dX4_update_56 : decode cX4_update 56 = .ok (.aload_n 0, 1) := by decide +kernel
theorem dX4_update_57 : decode cX4_update 57 = .ok (.getfield 26, 3) := by decide +kernel
theorem dX4_update_60 : decode cX4_update 60 = .ok (.invokevirtual 58, 3) := by decide +kernel
theorem dX4_update_63 : decode cX4_update 63 = .ok (.aload_n 0, 1) := by decide +kernel
theorem dX4_update_64 : decode cX4_update 64 = .ok (.iload_n 1, 1) := by decide +kernel
theorem dX4_update_65 : decode cX4_update 65 = .ok (.iload_n 2, 1) := by decide +kernel
theorem dX4_update_66 : decode cX4_update 66 = .ok (.invokevirtual 106, 3) := by decide +kernel
theorem dX4_update_69 : decode cX4_update 69 = .ok (.iload_n 2, 1) := by decide +kernel
theorem dX4_update_70 : decode cX4_update 70 = .ok (.ireturn, 1) := by decide +kernel
theorem dX4_delete_0 : decode cX4_delete 0 = .ok (.aload_n 0, 1) := by decide +kernel
theorem dX4_delete_1 : decode cX4_delete 1 = .ok (.iload_n 1, 1) := by decide +kernel
theorem dX4_delete_2 : decode cX4_delete 2 = .ok (.invokevirtual 98, 3) := by decide +kernel
theorem dX4_delete_5 : decode cX4_delete 5 = .ok (.aload_n 0, 1) := by decide +kernel
theorem dX4_delete_6 : decode cX4_delete 6 = .ok (.invokevirtual 88, 3) := by decide +kernel
theorem dX4_delete_9 : decode cX4_delete 9 = .ok (.aload_n 0, 1) := by decide +kernel
theorem dX4_delete_10 : decode cX4_delete 10 = .ok (.aload_n 0, 1) := by decide +kernel
theorem dX4_delete_11 : decode cX4_delete 11 = .ok (.iload_n 1, 1) := by decide +kernel
theorem dX4_delete_12 : decode cX4_delete 12 = .ok (.invokevirtual 110, 3) := by decide +kernel
theorem dX4_delete_15 : decode cX4_delete 15 = .ok (.invokevirtual 113, 3) := by decide +kernel
theorem dX4_delete_18 : decode cX4_delete 18 = .ok (.istore_n 2, 1) := by decide +kernel
theorem dX4_delete_19 : decode cX4_delete 19 = .ok (.aload_n 0, 1) := by decide +kernel
theorem dX4_delete_20 : decode cX4_delete 20 = .ok (.iload_n 1, 1) := by decide +kernel
theorem dX4_delete_21 : decode cX4_delete 21 = .ok (.invokevirtual 116, 3) := by decide +kernel
theorem dX4_delete_24 : decode cX4_delete 24 = .ok (.iload_n 2, 1) := by decide +kernel
theorem dX4_delete_25 : decode cX4_delete 25 = .ok (.ireturn, 1) := by decide +kernel
theorem dX4_bringHome_0 : decode cX4_bringHome 0 = .ok (.aload_n 0, 1) := by decide +kernel
theorem dX4_bringHome_1 : decode cX4_bringHome 1 = .ok (.invokevirtual 88, 3) := by decide +kernel
theorem dX4_bringHome_4 : decode cX4_bringHome 4 = .ok (.aload_n 0, 1) := by decide +kernel
theorem dX4_bringHome_5 : decode cX4_bringHome 5 = .ok (.invokevirtual 119, 3) := by decide +kernel
theorem dX4_bringHome_8 : decode cX4_bringHome 8 = .ok (.ireturn, 1) := by decide +kernel
theorem dX4_compact_0 : decode cX4_compact 0 = .ok (.aload_n 0, 1) := by decide +kernel
theorem dX4_compact_1 : decode cX4_compact 1 = .ok (.iload_n 1, 1) := by decide +kernel
theorem dX4_compact_2 : decode cX4_compact 2 = .ok (.invokevirtual 123, 3) := by decide +kernel
theorem dX4_compact_5 : decode cX4_compact 5 = .ok (.aload_n 0, 1) := by decide +kernel
theorem dX4_compact_6 : decode cX4_compact 6 = .ok (.invokevirtual 88, 3) := by decide +kernel
theorem dX4_compact_9 : decode cX4_compact 9 = .ok (.aload_n 0, 1) := by decide +kernel
theorem dX4_compact_10 : decode cX4_compact 10 = .ok (.getfield 12, 3) := by decide +kernel
theorem dX4_compact_13 : decode cX4_compact 13 = .ok (.iload_n 1, 1) := by decide +kernel
theorem dX4_compact_14 : decode cX4_compact 14 = .ok (.invokevirtual 126, 3) := by decide +kernel
theorem dX4_compact_17 : decode cX4_compact 17 = .ok (.ireturn, 1) := by decide +kernel
theorem dX4_rows_0 : decode cX4_rows 0 = .ok (.aload_n 0, 1) := by decide +kernel
theorem dX4_rows_1 : decode cX4_rows 1 = .ok (.iconst 1, 1) := by decide +kernel
theorem dX4_rows_2 : decode cX4_rows 2 = .ok (.invokevirtual 129, 3) := by decide +kernel
theorem dX4_rows_5 : decode cX4_rows 5 = .ok (.aload_n 0, 1) := by decide +kernel
theorem dX4_rows_6 : decode cX4_rows 6 = .ok (.iconst 2, 1) := by decide +kernel
theorem dX4_rows_7 : decode cX4_rows 7 = .ok (.invokevirtual 129, 3) := by decide +kernel
theorem dX4_rows_10 : decode cX4_rows 10 = .ok (.iadd, 1) := by decide +kernel
theorem dX4_rows_11 : decode cX4_rows 11 = .ok (.ireturn, 1) := by decide +kernel
theorem dX4_isRow_0 : decode cX4_isRow 0 = .ok (.aload_n 0, 1) := by decide +kernel
theorem dX4_isRow_1 : decode cX4_isRow 1 = .ok (.iload_n 1, 1) := by decide +kernel
theorem dX4_isRow_2 : decode cX4_isRow 2 = .ok (.invokevirtual 132, 3) := by decide +kernel
theorem dX4_isRow_5 : decode cX4_isRow 5 = .ok (.istore_n 2, 1) := by decide +kernel
theorem dX4_isRow_6 : decode cX4_isRow 6 = .ok (.iload_n 2, 1) := by decide +kernel
theorem dX4_isRow_7 : decode cX4_isRow 7 = .ok (.iconst 1, 1) := by decide +kernel
theorem dX4_isRow_8 : decode cX4_isRow 8 = .ok (.if_icmp .eq 8, 3) := by decide +kernel
theorem dX4_isRow_11 : decode cX4_isRow 11 = .ok (.iload_n 2, 1) := by decide +kernel
theorem dX4_isRow_12 : decode cX4_isRow 12 = .ok (.iconst 2, 1) := by decide +kernel
theorem dX4_isRow_13 : decode cX4_isRow 13 = .ok (.if_icmp .ne 7, 3) := by decide +kernel
theorem dX4_isRow_16 : decode cX4_isRow 16 = .ok (.iconst 1, 1) := by decide +kernel
theorem dX4_isRow_17 : decode cX4_isRow 17 = .ok (.goto 4, 3) := by decide +kernel
theorem dX4_isRow_20 : decode cX4_isRow 20 = .ok (.iconst 0, 1) := by decide +kernel
theorem dX4_isRow_21 : decode cX4_isRow 21 = .ok (.ireturn, 1) := by decide +kernel
theorem dX4_length_0 : decode cX4_length 0 = .ok (.aload_n 0, 1) := by decide +kernel
theorem dX4_length_1 : decode cX4_length 1 = .ok (.iload_n 1, 1) := by decide +kernel
theorem dX4_length_2 : decode cX4_length 2 = .ok (.invokevirtual 98, 3) := by decide +kernel
theorem dX4_length_5 : decode cX4_length 5 = .ok (.aload_n 0, 1) := by decide +kernel
theorem dX4_length_6 : decode cX4_length 6 = .ok (.aload_n 0, 1) := by decide +kernel
theorem dX4_length_7 : decode cX4_length 7 = .ok (.iload_n 1, 1) := by decide +kernel
theorem dX4_length_8 : decode cX4_length 8 = .ok (.invokevirtual 110, 3) := by decide +kernel
theorem dX4_length_11 : decode cX4_length 11 = .ok (.invokevirtual 113, 3) := by decide +kernel
theorem dX4_length_14 : decode cX4_length 14 = .ok (.ireturn, 1) := by decide +kernel
theorem dX4_byteOf_0 : decode cX4_byteOf 0 = .ok (.aload_n 0, 1) := by decide +kernel
theorem dX4_byteOf_1 : decode cX4_byteOf 1 = .ok (.iload_n 1, 1) := by decide +kernel
theorem dX4_byteOf_2 : decode cX4_byteOf 2 = .ok (.invokevirtual 98, 3) := by decide +kernel
theorem dX4_byteOf_5 : decode cX4_byteOf 5 = .ok (.aload_n 0, 1) := by decide +kernel
theorem dX4_byteOf_6 : decode cX4_byteOf 6 = .ok (.iload_n 1, 1) := by decide +kernel
theorem dX4_byteOf_7 : decode cX4_byteOf 7 = .ok (.invokevirtual 110, 3) := by decide +kernel
theorem dX4_byteOf_10 : decode cX4_byteOf 10 = .ok (.istore_n 3, 1) := by decide +kernel
theorem dX4_byteOf_11 : decode cX4_byteOf 11 = .ok (.iload_n 2, 1) := by decide +kernel
theorem dX4_byteOf_12 : decode cX4_byteOf 12 = .ok (.ifCond .lt 12, 3) := by decide +kernel
theorem dX4_byteOf_15 : decode cX4_byteOf 15 = .ok (.iload_n 2, 1) := by decide +kernel
theorem dX4_byteOf_16 : decode cX4_byteOf 16 = .ok (.aload_n 0, 1) := by decide +kernel
theorem dX4_byteOf_17 : decode cX4_byteOf 17 = .ok (.iload_n 3, 1) := by decide +kernel
theorem dX4_byteOf_18 : decode cX4_byteOf 18 = .ok (.invokevirtual 113, 3) := by decide +kernel
theorem dX4_byteOf_21 : decode cX4_byteOf 21 = .ok (.if_icmp .lt 13, 3) := by decide +kernel
theorem dX4_byteOf_24 : decode cX4_byteOf 24 = .ok (.new 135, 3) := by decide +kernel
theorem dX4_byteOf_27 : decode cX4_byteOf 27 = .ok (.dup, 1) := by decide +kernel
theorem dX4_byteOf_28 : decode cX4_byteOf 28 = .ok (.ldc 137, 2) := by decide +kernel
theorem dX4_byteOf_30 : decode cX4_byteOf 30 = .ok (.invokespecial 139, 3) := by decide +kernel
theorem dX4_byteOf_33 : decode cX4_byteOf 33 = .ok (.athrow, 1) := by decide +kernel
theorem dX4_byteOf_34 : decode cX4_byteOf 34 = .ok (.aload_n 0, 1) := by decide +kernel
theorem dX4_byteOf_35 : decode cX4_byteOf 35 = .ok (.iload_n 3, 1) := by decide +kernel
theorem dX4_byteOf_36 : decode cX4_byteOf 36 = .ok (.iload_n 2, 1) := by decide +kernel
theorem dX4_byteOf_37 : decode cX4_byteOf 37 = .ok (.invokevirtual 140, 3) := by decide +kernel
theorem dX4_byteOf_40 : decode cX4_byteOf 40 = .ok (.ireturn, 1) := by decide +kernel
theorem dX4_placeOf_0 : decode cX4_placeOf 0 = .ok (.aload_n 0, 1) := by decide +kernel
theorem dX4_placeOf_1 : decode cX4_placeOf 1 = .ok (.iload_n 1, 1) := by decide +kernel
theorem dX4_placeOf_2 : decode cX4_placeOf 2 = .ok (.invokevirtual 98, 3) := by decide +kernel
theorem dX4_placeOf_5 : decode cX4_placeOf 5 = .ok (.aload_n 0, 1) := by decide +kernel
theorem dX4_placeOf_6 : decode cX4_placeOf 6 = .ok (.iload_n 1, 1) := by decide +kernel
theorem dX4_placeOf_7 : decode cX4_placeOf 7 = .ok (.invokevirtual 110, 3) := by decide +kernel
theorem dX4_placeOf_10 : decode cX4_placeOf 10 = .ok (.ireturn, 1) := by decide +kernel
theorem dX4_next_0 : decode cX4_next 0 = .ok (.iconst 0, 1) := by decide +kernel
theorem dX4_next_1 : decode cX4_next 1 = .ok (.istore_n 2, 1) := by decide +kernel
theorem dX4_next_2 : decode cX4_next 2 = .ok (.iload_n 2, 1) := by decide +kernel
theorem dX4_next_3 : decode cX4_next 3 = .ok (.aload_n 0, 1) := by decide +kernel
theorem dX4_next_4 : decode cX4_next 4 = .ok (.getfield 20, 3) := by decide +kernel
theorem dX4_next_7 : decode cX4_next 7 = .ok (.getfield 143, 3) := by decide +kernel
theorem dX4_next_10 : decode cX4_next 10 = .ok (.if_icmp .ge 60, 3) := by decide +kernel
theorem dX4_next_13 : decode cX4_next 13 = .ok (.aload_n 0, 1) := by decide +kernel
theorem dX4_next_14 : decode cX4_next 14 = .ok (.getfield 20, 3) := by decide +kernel
theorem dX4_next_17 : decode cX4_next 17 = .ok (.iload_n 2, 1) := by decide +kernel
theorem dX4_next_18 : decode cX4_next 18 = .ok (.invokevirtual 146, 3) := by decide +kernel
theorem dX4_next_21 : decode cX4_next 21 = .ok (.istore_n 3, 1) := by decide +kernel
theorem dX4_next_22 : decode cX4_next 22 = .ok (.iconst 0, 1) := by decide +kernel
theorem dX4_next_23 : decode cX4_next 23 = .ok (.istore 4, 2) := by decide +kernel
theorem dX4_next_25 : decode cX4_next 25 = .ok (.iload 4, 2) := by decide +kernel
theorem dX4_next_27 : decode cX4_next 27 = .ok (.iload_n 3, 1) := by decide +kernel
theorem dX4_next_28 : decode cX4_next 28 = .ok (.if_icmp .ge 36, 3) := by decide +kernel
theorem dX4_next_31 : decode cX4_next 31 = .ok (.iload_n 2, 1) := by decide +kernel
theorem dX4_next_32 : decode cX4_next 32 = .ok (.iload 4, 2) := by decide +kernel
theorem dX4_next_34 : decode cX4_next 34 = .ok (.invokestatic 149, 3) := by decide +kernel
theorem dX4_next_37 : decode cX4_next 37 = .ok (.istore 5, 2) := by decide +kernel
theorem dX4_next_39 : decode cX4_next 39 = .ok (.iload 5, 2) := by decide +kernel
