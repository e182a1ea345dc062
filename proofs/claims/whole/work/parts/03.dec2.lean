theorem dX4_storeAtHome_27 : decode cX4_storeAtHome 27 = .ok (.invokevirtual 284, 3) := by decide +kernel
theorem dX4_storeAtHome_30 : decode cX4_storeAtHome 30 = .ok (.aload_n 0, 1) := by decide +kernel
theorem dX4_storeAtHome_31 : decode cX4_storeAtHome 31 = .ok (.getfield 12, 3) := by decide +kernel
theorem dX4_storeAtHome_34 : decode cX4_storeAtHome 34 = .ok (.iload_n 1, 1) := by decide +kernel
theorem dX4_storeAtHome_35 : decode cX4_storeAtHome 35 = .ok (.aload_n 0, 1) := by decide +kernel
theorem dX4_storeAtHome_36 : decode cX4_storeAtHome 36 = .ok (.getfield 33, 3) := by decide +kernel
theorem dX4_storeAtHome_39 : decode cX4_storeAtHome 39 = .ok (.invokevirtual 287, 3) := by decide +kernel
theorem dX4_storeAtHome_42 : decode cX4_storeAtHome 42 = .ok (.return_, 1) := by decide +kernel
theorem dX4_leaveNote_0 : decode cX4_leaveNote 0 = .ok (.iload_n 2, 1) := by decide +kernel
theorem dX4_leaveNote_1 : decode cX4_leaveNote 1 = .ok (.iload_n 1, 1) := by decide +kernel
theorem dX4_leaveNote_2 : decode cX4_leaveNote 2 = .ok (.if_icmp .ne 22, 3) := by decide +kernel
theorem dX4_leaveNote_5 : decode cX4_leaveNote 5 = .ok (.aload_n 0, 1) := by decide +kernel
theorem dX4_leaveNote_6 : decode cX4_leaveNote 6 = .ok (.iconst 2, 1) := by decide +kernel
theorem dX4_leaveNote_7 : decode cX4_leaveNote 7 = .ok (.iload_n 3, 1) := by decide +kernel
theorem dX4_leaveNote_8 : decode cX4_leaveNote 8 = .ok (.invokevirtual 278, 3) := by decide +kernel
theorem dX4_leaveNote_11 : decode cX4_leaveNote 11 = .ok (.aload_n 0, 1) := by decide +kernel
theorem dX4_leaveNote_12 : decode cX4_leaveNote 12 = .ok (.getfield 12, 3) := by decide +kernel
theorem dX4_leaveNote_15 : decode cX4_leaveNote 15 = .ok (.iload_n 1, 1) := by decide +kernel
theorem dX4_leaveNote_16 : decode cX4_leaveNote 16 = .ok (.aload_n 0, 1) := by decide +kernel
theorem dX4_leaveNote_17 : decode cX4_leaveNote 17 = .ok (.getfield 33, 3) := by decide +kernel
theorem dX4_leaveNote_20 : decode cX4_leaveNote 20 = .ok (.invokevirtual 287, 3) := by decide +kernel
theorem dX4_leaveNote_23 : decode cX4_leaveNote 23 = .ok (.return_, 1) := by decide +kernel
theorem dX4_leaveNote_24 : decode cX4_leaveNote 24 = .ok (.aload_n 0, 1) := by decide +kernel
theorem dX4_leaveNote_25 : decode cX4_leaveNote 25 = .ok (.getfield 12, 3) := by decide +kernel
theorem dX4_leaveNote_28 : decode cX4_leaveNote 28 = .ok (.iload_n 2, 1) := by decide +kernel
theorem dX4_leaveNote_29 : decode cX4_leaveNote 29 = .ok (.invokevirtual 304, 3) := by decide +kernel
theorem dX4_leaveNote_32 : decode cX4_leaveNote 32 = .ok (.aload_n 0, 1) := by decide +kernel
theorem dX4_leaveNote_33 : decode cX4_leaveNote 33 = .ok (.getfield 20, 3) := by decide +kernel
theorem dX4_leaveNote_36 : decode cX4_leaveNote 36 = .ok (.iload_n 1, 1) := by decide +kernel
theorem dX4_leaveNote_37 : decode cX4_leaveNote 37 = .ok (.invokestatic 167, 3) := by decide +kernel
theorem dX4_leaveNote_40 : decode cX4_leaveNote 40 = .ok (.iload_n 1, 1) := by decide +kernel
theorem dX4_leaveNote_41 : decode cX4_leaveNote 41 = .ok (.invokestatic 170, 3) := by decide +kernel
theorem dX4_leaveNote_44 : decode cX4_leaveNote 44 = .ok (.iconst 1, 1) := by decide +kernel
theorem dX4_leaveNote_45 : decode cX4_leaveNote 45 = .ok (.iload_n 3, 1) := by decide +kernel
theorem dX4_leaveNote_46 : decode cX4_leaveNote 46 = .ok (.invokestatic 167, 3) := by decide +kernel
theorem dX4_leaveNote_49 : decode cX4_leaveNote 49 = .ok (.invokevirtual 307, 3) := by decide +kernel
theorem dX4_leaveNote_52 : decode cX4_leaveNote 52 = .ok (.aload_n 0, 1) := by decide +kernel
theorem dX4_leaveNote_53 : decode cX4_leaveNote 53 = .ok (.getfield 20, 3) := by decide +kernel
theorem dX4_leaveNote_56 : decode cX4_leaveNote 56 = .ok (.iload_n 1, 1) := by decide +kernel
theorem dX4_leaveNote_57 : decode cX4_leaveNote 57 = .ok (.invokestatic 167, 3) := by decide +kernel
theorem dX4_leaveNote_60 : decode cX4_leaveNote 60 = .ok (.iload_n 1, 1) := by decide +kernel
theorem dX4_leaveNote_61 : decode cX4_leaveNote 61 = .ok (.invokestatic 170, 3) := by decide +kernel
theorem dX4_leaveNote_64 : decode cX4_leaveNote 64 = .ok (.iconst 2, 1) := by decide +kernel
theorem dX4_leaveNote_65 : decode cX4_leaveNote 65 = .ok (.iload_n 3, 1) := by decide +kernel
theorem dX4_leaveNote_66 : decode cX4_leaveNote 66 = .ok (.invokestatic 170, 3) := by decide +kernel
theorem dX4_leaveNote_69 : decode cX4_leaveNote 69 = .ok (.invokevirtual 307, 3) := by decide +kernel
theorem dX4_leaveNote_72 : decode cX4_leaveNote 72 = .ok (.return_, 1) := by decide +kernel
theorem dX4_deleteRow_0 : decode cX4_deleteRow 0 = .ok (.aload_n 0, 1) := by decide +kernel
theorem dX4_deleteRow_1 : decode cX4_deleteRow 1 = .ok (.iload_n 1, 1) := by decide +kernel
theorem dX4_deleteRow_2 : decode cX4_deleteRow 2 = .ok (.invokevirtual 110, 3) := by decide +kernel
theorem dX4_deleteRow_5 : decode cX4_deleteRow 5 = .ok (.istore_n 2, 1) := by decide +kernel
theorem dX4_deleteRow_6 : decode cX4_deleteRow 6 = .ok (.aload_n 0, 1) := by decide +kernel
theorem dX4_deleteRow_7 : decode cX4_deleteRow 7 = .ok (.getfield 12, 3) := by decide +kernel
theorem dX4_deleteRow_10 : decode cX4_deleteRow 10 = .ok (.iload_n 2, 1) := by decide +kernel
theorem dX4_deleteRow_11 : decode cX4_deleteRow 11 = .ok (.invokevirtual 304, 3) := by decide +kernel
theorem dX4_deleteRow_14 : decode cX4_deleteRow 14 = .ok (.iload_n 2, 1) := by decide +kernel
theorem dX4_deleteRow_15 : decode cX4_deleteRow 15 = .ok (.iload_n 1, 1) := by decide +kernel
theorem dX4_deleteRow_16 : decode cX4_deleteRow 16 = .ok (.if_icmp .eq 11, 3) := by decide +kernel
theorem dX4_deleteRow_19 : decode cX4_deleteRow 19 = .ok (.aload_n 0, 1) := by decide +kernel
theorem dX4_deleteRow_20 : decode cX4_deleteRow 20 = .ok (.getfield 12, 3) := by decide +kernel
theorem dX4_deleteRow_23 : decode cX4_deleteRow 23 = .ok (.iload_n 1, 1) := by decide +kernel
theorem dX4_deleteRow_24 : decode cX4_deleteRow 24 = .ok (.invokevirtual 304, 3) := by decide +kernel
theorem dX4_deleteRow_27 : decode cX4_deleteRow 27 = .ok (.return_, 1) := by decide +kernel
theorem dX4_bringAllHome_0 : decode cX4_bringAllHome 0 = .ok (.iconst 0, 1) := by decide +kernel
theorem dX4_bringAllHome_1 : decode cX4_bringAllHome 1 = .ok (.istore_n 1, 1) := by decide +kernel
theorem dX4_bringAllHome_2 : decode cX4_bringAllHome 2 = .ok (.iconst 0, 1) := by decide +kernel
theorem dX4_bringAllHome_3 : decode cX4_bringAllHome 3 = .ok (.istore_n 2, 1) := by decide +kernel
theorem dX4_bringAllHome_4 : decode cX4_bringAllHome 4 = .ok (.iload_n 2, 1) := by decide +kernel
theorem dX4_bringAllHome_5 : decode cX4_bringAllHome 5 = .ok (.aload_n 0, 1) := by decide +kernel
theorem dX4_bringAllHome_6 : decode cX4_bringAllHome 6 = .ok (.getfield 20, 3) := by decide +kernel
theorem dX4_bringAllHome_9 : decode cX4_bringAllHome 9 = .ok (.getfield 143, 3) := by decide +kernel
theorem dX4_bringAllHome_12 : decode cX4_bringAllHome 12 = .ok (.if_icmp .ge 75, 3) := by decide +kernel
theorem dX4_bringAllHome_15 : decode cX4_bringAllHome 15 = .ok (.aload_n 0, 1) := by decide +kernel
theorem dX4_bringAllHome_16 : decode cX4_bringAllHome 16 = .ok (.getfield 20, 3) := by decide +kernel
theorem dX4_bringAllHome_19 : decode cX4_bringAllHome 19 = .ok (.iload_n 2, 1) := by decide +kernel
theorem dX4_bringAllHome_20 : decode cX4_bringAllHome 20 = .ok (.invokevirtual 146, 3) := by decide +kernel
theorem dX4_bringAllHome_23 : decode cX4_bringAllHome 23 = .ok (.istore_n 3, 1) := by decide +kernel
theorem dX4_bringAllHome_24 : decode cX4_bringAllHome 24 = .ok (.iconst 0, 1) := by decide +kernel
theorem dX4_bringAllHome_25 : decode cX4_bringAllHome 25 = .ok (.istore 4, 2) := by decide +kernel
theorem dX4_bringAllHome_27 : decode cX4_bringAllHome 27 = .ok (.iload 4, 2) := by decide +kernel
theorem dX4_bringAllHome_29 : decode cX4_bringAllHome 29 = .ok (.iload_n 3, 1) := by decide +kernel
theorem dX4_bringAllHome_30 : decode cX4_bringAllHome 30 = .ok (.if_icmp .ge 51, 3) := by decide +kernel
theorem dX4_bringAllHome_33 : decode cX4_bringAllHome 33 = .ok (.iload_n 2, 1) := by decide +kernel
theorem dX4_bringAllHome_34 : decode cX4_bringAllHome 34 = .ok (.iload 4, 2) := by decide +kernel
theorem dX4_bringAllHome_36 : decode cX4_bringAllHome 36 = .ok (.invokestatic 149, 3) := by decide +kernel
theorem dX4_bringAllHome_39 : decode cX4_bringAllHome 39 = .ok (.istore 5, 2) := by decide +kernel
theorem dX4_bringAllHome_41 : decode cX4_bringAllHome 41 = .ok (.aload_n 0, 1) := by decide +kernel
theorem dX4_bringAllHome_42 : decode cX4_bringAllHome 42 = .ok (.iload 5, 2) := by decide +kernel
theorem dX4_bringAllHome_44 : decode cX4_bringAllHome 44 = .ok (.invokevirtual 311, 3) := by decide +kernel
theorem dX4_bringAllHome_47 : decode cX4_bringAllHome 47 = .ok (.ifCond .eq 28, 3) := by decide +kernel
theorem dX4_bringAllHome_50 : decode cX4_bringAllHome 50 = .ok (.aload_n 0, 1) := by decide +kernel
theorem dX4_bringAllHome_51 : decode cX4_bringAllHome 51 = .ok (.iload 5, 2) := by decide +kernel
theorem dX4_bringAllHome_53 : decode cX4_bringAllHome 53 = .ok (.invokevirtual 155, 3) := by decide +kernel
theorem dX4_bringAllHome_56 : decode cX4_bringAllHome 56 = .ok (.istore 6, 2) := by decide +kernel
theorem dX4_bringAllHome_58 : decode cX4_bringAllHome 58 = .ok (.aload_n 0, 1) := by decide +kernel
theorem dX4_bringAllHome_59 : decode cX4_bringAllHome 59 = .ok (.iload 6, 2) := by decide +kernel
theorem dX4_bringAllHome_61 : decode cX4_bringAllHome 61 = .ok (.invokevirtual 314, 3) := by decide +kernel
theorem dX4_bringAllHome_64 : decode cX4_bringAllHome 64 = .ok (.aload_n 0, 1) := by decide +kernel
theorem dX4_bringAllHome_65 : decode cX4_bringAllHome 65 = .ok (.iload 5, 2) := by decide +kernel
theorem dX4_bringAllHome_67 : decode cX4_bringAllHome 67 = .ok (.iload 6, 2) := by decide +kernel
theorem dX4_bringAllHome_69 : decode cX4_bringAllHome 69 = .ok (.invokevirtual 294, 3) := by decide +kernel
theorem dX4_bringAllHome_72 : decode cX4_bringAllHome 72 = .ok (.iinc 1 1, 3) := by decide +kernel
theorem dX4_bringAllHome_75 : decode cX4_bringAllHome 75 = .ok (.iinc 4 1, 3) := by decide +kernel
theorem dX4_bringAllHome_78 : decode cX4_bringAllHome 78 = .ok (.goto (-51), 3) := by decide +kernel
theorem dX4_bringAllHome_81 : decode cX4_bringAllHome 81 = .ok (.iinc 2 1, 3) := by decide +kernel
theorem dX4_bringAllHome_84 : decode cX4_bringAllHome 84 = .ok (.goto (-80), 3) := by decide +kernel
theorem dX4_bringAllHome_87 : decode cX4_bringAllHome 87 = .ok (.iload_n 1, 1) := by decide +kernel
theorem dX4_bringAllHome_88 : decode cX4_bringAllHome 88 = .ok (.ireturn, 1) := by decide +kernel
theorem dX4_mayReturn_0 : decode cX4_mayReturn 0 = .ok (.aload_n 0, 1) := by decide +kernel
theorem dX4_mayReturn_1 : decode cX4_mayReturn 1 = .ok (.iload_n 1, 1) := by decide +kernel
theorem dX4_mayReturn_2 : decode cX4_mayReturn 2 = .ok (.invokevirtual 132, 3) := by decide +kernel
theorem dX4_mayReturn_5 : decode cX4_mayReturn 5 = .ok (.iconst 2, 1) := by decide +kernel
theorem dX4_mayReturn_6 : decode cX4_mayReturn 6 = .ok (.if_icmp .ne 27, 3) := by decide +kernel
theorem dX4_mayReturn_9 : decode cX4_mayReturn 9 = .ok (.aload_n 0, 1) := by decide +kernel
theorem dX4_mayReturn_10 : decode cX4_mayReturn 10 = .ok (.aload_n 0, 1) := by decide +kernel
theorem dX4_mayReturn_11 : decode cX4_mayReturn 11 = .ok (.iload_n 1, 1) := by decide +kernel
theorem dX4_mayReturn_12 : decode cX4_mayReturn 12 = .ok (.invokevirtual 155, 3) := by decide +kernel
theorem dX4_mayReturn_15 : decode cX4_mayReturn 15 = .ok (.invokevirtual 113, 3) := by decide +kernel
theorem dX4_mayReturn_18 : decode cX4_mayReturn 18 = .ok (.invokestatic 78, 3) := by decide +kernel
theorem dX4_mayReturn_21 : decode cX4_mayReturn 21 = .ok (.aload_n 0, 1) := by decide +kernel
theorem dX4_mayReturn_22 : decode cX4_mayReturn 22 = .ok (.iload_n 1, 1) := by decide +kernel
theorem dX4_mayReturn_23 : decode cX4_mayReturn 23 = .ok (.invokevirtual 197, 3) := by decide +kernel
theorem dX4_mayReturn_26 : decode cX4_mayReturn 26 = .ok (.if_icmp .gt 7, 3) := by decide +kernel
theorem dX4_mayReturn_29 : decode cX4_mayReturn 29 = .ok (.iconst 1, 1) := by decide +kernel
theorem dX4_mayReturn_30 : decode cX4_mayReturn 30 = .ok (.goto 4, 3) := by decide +kernel
theorem dX4_mayReturn_33 : decode cX4_mayReturn 33 = .ok (.iconst 0, 1) := by decide +kernel
theorem dX4_mayReturn_34 : decode cX4_mayReturn 34 = .ok (.ireturn, 1) := by decide +kernel
theorem dX4_takeContentOf_0 : decode cX4_takeContentOf 0 = .ok (.aload_n 0, 1) := by decide +kernel
theorem dX4_takeContentOf_1 : decode cX4_takeContentOf 1 = .ok (.iload_n 1, 1) := by decide +kernel
theorem dX4_takeContentOf_2 : decode cX4_takeContentOf 2 = .ok (.invokevirtual 113, 3) := by decide +kernel
theorem dX4_takeContentOf_5 : decode cX4_takeContentOf 5 = .ok (.istore_n 2, 1) := by decide +kernel
theorem dX4_takeContentOf_6 : decode cX4_takeContentOf 6 = .ok (.aload_n 0, 1) := by decide +kernel
theorem dX4_takeContentOf_7 : decode cX4_takeContentOf 7 = .ok (.getfield 30, 3) := by decide +kernel
theorem dX4_takeContentOf_10 : decode cX4_takeContentOf 10 = .ok (.invokevirtual 58, 3) := by decide +kernel
theorem dX4_takeContentOf_13 : decode cX4_takeContentOf 13 = .ok (.iconst 0, 1) := by decide +kernel
theorem dX4_takeContentOf_14 : decode cX4_takeContentOf 14 = .ok (.istore_n 3, 1) := by decide +kernel
theorem dX4_takeContentOf_15 : decode cX4_takeContentOf 15 = .ok (.iload_n 3, 1) := by decide +kernel
theorem dX4_takeContentOf_16 : decode cX4_takeContentOf 16 = .ok (.iload_n 2, 1) := by decide +kernel
theorem dX4_takeContentOf_17 : decode cX4_takeContentOf 17 = .ok (.if_icmp .ge 22, 3) := by decide +kernel
theorem dX4_takeContentOf_20 : decode cX4_takeContentOf 20 = .ok (.aload_n 0, 1) := by decide +kernel
theorem dX4_takeContentOf_21 : decode cX4_takeContentOf 21 = .ok (.getfield 30, 3) := by decide +kernel
theorem dX4_takeContentOf_24 : decode cX4_takeContentOf 24 = .ok (.aload_n 0, 1) := by decide +kernel
theorem dX4_takeContentOf_25 : decode cX4_takeContentOf 25 = .ok (.iload_n 1, 1) := by decide +kernel
theorem dX4_takeContentOf_26 : decode cX4_takeContentOf 26 = .ok (.iload_n 3, 1) := by decide +kernel
theorem dX4_takeContentOf_27 : decode cX4_takeContentOf 27 = .ok (.invokevirtual 140, 3) := by decide +kernel
theorem dX4_takeContentOf_30 : decode cX4_takeContentOf 30 = .ok (.invokevirtual 75, 3) := by decide +kernel
theorem dX4_takeContentOf_33 : decode cX4_takeContentOf 33 = .ok (.iinc 3 1, 3) := by decide +kernel
theorem dX4_takeContentOf_36 : decode cX4_takeContentOf 36 = .ok (.goto (-21), 3) := by decide +kernel
theorem dX4_takeContentOf_39 : decode cX4_takeContentOf 39 = .ok (.return_, 1) := by decide +kernel
theorem dX4_executeOrder_0 : decode cX4_executeOrder 0 = .ok (.aload_n 0, 1) := by decide +kernel
theorem dX4_executeOrder_1 : decode cX4_executeOrder 1 = .ok (.getfield 26, 3) := by decide +kernel
theorem dX4_executeOrder_4 : decode cX4_executeOrder 4 = .ok (.iload_n 1, 1) := by decide +kernel
theorem dX4_executeOrder_5 : decode cX4_executeOrder 5 = .ok (.invokevirtual 211, 3) := by decide +kernel
theorem dX4_executeOrder_8 : decode cX4_executeOrder 8 = .ok (.istore_n 3, 1) := by decide +kernel
theorem dX4_executeOrder_9 : decode cX4_executeOrder 9 = .ok (.iload_n 3, 1) := by decide +kernel
theorem dX4_executeOrder_10 : decode cX4_executeOrder 10 = .ok (.bipush 94, 2) := by decide +kernel
theorem dX4_executeOrder_12 : decode cX4_executeOrder 12 = .ok (.if_icmp .ne 10, 3) := by decide +kernel
theorem dX4_executeOrder_15 : decode cX4_executeOrder 15 = .ok (.aload_n 0, 1) := by decide +kernel
theorem dX4_executeOrder_16 : decode cX4_executeOrder 16 = .ok (.invokevirtual 119, 3) := by decide +kernel
theorem dX4_executeOrder_19 : decode cX4_executeOrder 19 = .ok (.pop, 1) := by decide +kernel
theorem dX4_executeOrder_20 : decode cX4_executeOrder 20 = .ok (.iconst 1, 1) := by decide +kernel
theorem dX4_executeOrder_21 : decode cX4_executeOrder 21 = .ok (.ireturn, 1) := by decide +kernel
theorem dX4_executeOrder_22 : decode cX4_executeOrder 22 = .ok (.iload_n 3, 1) := by decide +kernel
theorem dX4_executeOrder_23 : decode cX4_executeOrder 23 = .ok (.bipush 43, 2) := by decide +kernel
theorem dX4_executeOrder_25 : decode cX4_executeOrder 25 = .ok (.if_icmp .ne 64, 3) := by decide +kernel
theorem dX4_executeOrder_28 : decode cX4_executeOrder 28 = .ok (.aload_n 0, 1) := by decide +kernel
theorem dX4_executeOrder_29 : decode cX4_executeOrder 29 = .ok (.getfield 30, 3) := by decide +kernel
theorem dX4_executeOrder_32 : decode cX4_executeOrder 32 = .ok (.aload_n 0, 1) := by decide +kernel
theorem dX4_executeOrder_33 : decode cX4_executeOrder 33 = .ok (.getfield 26, 3) := by decide +kernel
theorem dX4_executeOrder_36 : decode cX4_executeOrder 36 = .ok (.iload_n 1, 1) := by decide +kernel
theorem dX4_executeOrder_37 : decode cX4_executeOrder 37 = .ok (.iconst 1, 1) := by decide +kernel
theorem dX4_executeOrder_38 : decode cX4_executeOrder 38 = .ok (.iadd, 1) := by decide +kernel
theorem dX4_executeOrder_39 : decode cX4_executeOrder 39 = .ok (.iload_n 2, 1) := by decide +kernel
theorem dX4_executeOrder_40 : decode cX4_executeOrder 40 = .ok (.invokevirtual 91, 3) := by decide +kernel
theorem dX4_executeOrder_43 : decode cX4_executeOrder 43 = .ok (.aload_n 0, 1) := by decide +kernel
theorem dX4_executeOrder_44 : decode cX4_executeOrder 44 = .ok (.getfield 12, 3) := by decide +kernel
theorem dX4_executeOrder_47 : decode cX4_executeOrder 47 = .ok (.aload_n 0, 1) := by decide +kernel
theorem dX4_executeOrder_48 : decode cX4_executeOrder 48 = .ok (.getfield 30, 3) := by decide +kernel
theorem dX4_executeOrder_51 : decode cX4_executeOrder 51 = .ok (.getfield 54, 3) := by decide +kernel
theorem dX4_executeOrder_54 : decode cX4_executeOrder 54 = .ok (.invokestatic 78, 3) := by decide +kernel
theorem dX4_executeOrder_57 : decode cX4_executeOrder 57 = .ok (.iconst (-1), 1) := by decide +kernel
theorem dX4_executeOrder_58 : decode cX4_executeOrder 58 = .ok (.iconst (-1), 1) := by decide +kernel
theorem dX4_executeOrder_59 : decode cX4_executeOrder 59 = .ok (.invokevirtual 82, 3) := by decide +kernel
theorem dX4_executeOrder_62 : decode cX4_executeOrder 62 = .ok (.istore 4, 2) := by decide +kernel
theorem dX4_executeOrder_64 : decode cX4_executeOrder 64 = .ok (.iload 4, 2) := by decide +kernel
theorem dX4_executeOrder_66 : decode cX4_executeOrder 66 = .ok (.iconst (-1), 1) := by decide +kernel
theorem dX4_executeOrder_67 : decode cX4_executeOrder 67 = .ok (.if_icmp .eq 10, 3) := by decide +kernel
theorem dX4_executeOrder_70 : decode cX4_executeOrder 70 = .ok (.aload_n 0, 1) := by decide +kernel
theorem dX4_executeOrder_71 : decode cX4_executeOrder 71 = .ok (.iload 4, 2) := by decide +kernel
theorem dX4_executeOrder_73 : decode cX4_executeOrder 73 = .ok (.invokevirtual 95, 3) := by decide +kernel
theorem dX4_executeOrder_76 : decode cX4_executeOrder 76 = .ok (.pop, 1) := by decide +kernel
theorem dX4_executeOrder_77 : decode cX4_executeOrder 77 = .ok (.iload 4, 2) := by decide +kernel
theorem dX4_executeOrder_79 : decode cX4_executeOrder 79 = .ok (.iconst (-1), 1) := by decide +kernel
theorem dX4_executeOrder_80 : decode cX4_executeOrder 80 = .ok (.if_icmp .eq 7, 3) := by decide +kernel
theorem dX4_executeOrder_83 : decode cX4_executeOrder 83 = .ok (.iconst 1, 1) := by decide +kernel
theorem dX4_executeOrder_84 : decode cX4_executeOrder 84 = .ok (.goto 4, 3) := by decide +kernel
theorem dX4_executeOrder_87 : decode cX4_executeOrder 87 = .ok (.iconst 0, 1) := by decide +kernel
theorem dX4_executeOrder_88 : decode cX4_executeOrder 88 = .ok (.ireturn, 1) := by decide +kernel
theorem dX4_executeOrder_89 : decode cX4_executeOrder 89 = .ok (.aload_n 0, 1) := by decide +kernel
theorem dX4_executeOrder_90 : decode cX4_executeOrder 90 = .ok (.iload_n 1, 1) := by decide +kernel
theorem dX4_executeOrder_91 : decode cX4_executeOrder 91 = .ok (.iconst 1, 1) := by decide +kernel
theorem dX4_executeOrder_92 : decode cX4_executeOrder 92 = .ok (.iadd, 1) := by decide +kernel
theorem dX4_executeOrder_93 : decode cX4_executeOrder 93 = .ok (.iload_n 2, 1) := by decide +kernel
theorem dX4_executeOrder_94 : decode cX4_executeOrder 94 = .ok (.invokevirtual 317, 3) := by decide +kernel
theorem dX4_executeOrder_97 : decode cX4_executeOrder 97 = .ok (.istore 4, 2) := by decide +kernel
theorem dX4_executeOrder_99 : decode cX4_executeOrder 99 = .ok (.aload_n 0, 1) := by decide +kernel
theorem dX4_executeOrder_100 : decode cX4_executeOrder 100 = .ok (.iload_n 1, 1) := by decide +kernel
theorem dX4_executeOrder_101 : decode cX4_executeOrder 101 = .ok (.iconst 1, 1) := by decide +kernel
theorem dX4_executeOrder_102 : decode cX4_executeOrder 102 = .ok (.iadd, 1) := by decide +kernel
theorem dX4_executeOrder_103 : decode cX4_executeOrder 103 = .ok (.iload 4, 2) := by decide +kernel
theorem dX4_executeOrder_105 : decode cX4_executeOrder 105 = .ok (.invokevirtual 320, 3) := by decide +kernel
theorem dX4_executeOrder_108 : decode cX4_executeOrder 108 = .ok (.istore 5, 2) := by decide +kernel
theorem dX4_executeOrder_110 : decode cX4_executeOrder 110 = .ok (.aload_n 0, 1) := by decide +kernel
theorem dX4_executeOrder_111 : decode cX4_executeOrder 111 = .ok (.iload 5, 2) := by decide +kernel
theorem dX4_executeOrder_113 : decode cX4_executeOrder 113 = .ok (.invokevirtual 259, 3) := by decide +kernel
theorem dX4_executeOrder_116 : decode cX4_executeOrder 116 = .ok (.ifCond .ne 5, 3) := by decide +kernel
theorem dX4_executeOrder_119 : decode cX4_executeOrder 119 = .ok (.iconst 0, 1) := by decide +kernel
theorem dX4_executeOrder_120 : decode cX4_executeOrder 120 = .ok (.ireturn, 1) := by decide +kernel
theorem dX4_executeOrder_121 : decode cX4_executeOrder 121 = .ok (.iload_n 3, 1) := by decide +kernel
theorem dX4_executeOrder_122 : decode cX4_executeOrder 122 = .ok (.bipush 45, 2) := by decide +kernel
theorem dX4_executeOrder_124 : decode cX4_executeOrder 124 = .ok (.if_icmp .ne 11, 3) := by decide +kernel
theorem dX4_executeOrder_127 : decode cX4_executeOrder 127 = .ok (.aload_n 0, 1) := by decide +kernel
theorem dX4_executeOrder_128 : decode cX4_executeOrder 128 = .ok (.iload 5, 2) := by decide +kernel
theorem dX4_executeOrder_130 : decode cX4_executeOrder 130 = .ok (.invokevirtual 116, 3) := by decide +kernel
theorem dX4_executeOrder_133 : decode cX4_executeOrder 133 = .ok (.iconst 1, 1) := by decide +kernel
theorem dX4_executeOrder_134 : decode cX4_executeOrder 134 = .ok (.ireturn, 1) := by decide +kernel
theorem dX4_executeOrder_135 : decode cX4_executeOrder 135 = .ok (.aload_n 0, 1) := by decide +kernel
theorem dX4_executeOrder_136 : decode cX4_executeOrder 136 = .ok (.getfield 30, 3) := by decide +kernel
theorem dX4_executeOrder_139 : decode cX4_executeOrder 139 = .ok (.aload_n 0, 1) := by decide +kernel
theorem dX4_executeOrder_140 : decode cX4_executeOrder 140 = .ok (.getfield 26, 3) := by decide +kernel
theorem dX4_executeOrder_143 : decode cX4_executeOrder 143 = .ok (.iload 4, 2) := by decide +kernel
theorem dX4_executeOrder_145 : decode cX4_executeOrder 145 = .ok (.iconst 1, 1) := by decide +kernel
theorem dX4_executeOrder_146 : decode cX4_executeOrder 146 = .ok (.iadd, 1) := by decide +kernel
theorem dX4_executeOrder_147 : decode cX4_executeOrder 147 = .ok (.iload_n 2, 1) := by decide +kernel
theorem dX4_executeOrder_148 : decode cX4_executeOrder 148 = .ok (.invokevirtual 91, 3) := by decide +kernel
theorem dX4_executeOrder_151 : decode cX4_executeOrder 151 = .ok (.aload_n 0, 1) := by decide +kernel
theorem dX4_executeOrder_152 : decode cX4_executeOrder 152 = .ok (.iload 5, 2) := by decide +kernel
theorem dX4_executeOrder_154 : decode cX4_executeOrder 154 = .ok (.aload_n 0, 1) := by decide +kernel
theorem dX4_executeOrder_155 : decode cX4_executeOrder 155 = .ok (.getfield 30, 3) := by decide +kernel
theorem dX4_executeOrder_158 : decode cX4_executeOrder 158 = .ok (.getfield 54, 3) := by decide +kernel
theorem dX4_executeOrder_161 : decode cX4_executeOrder 161 = .ok (.invokevirtual 101, 3) := by decide +kernel
theorem dX4_executeOrder_164 : decode cX4_executeOrder 164 = .ok (.istore 6, 2) := by decide +kernel
theorem dX4_executeOrder_166 : decode cX4_executeOrder 166 = .ok (.iload 6, 2) := by decide +kernel
theorem dX4_executeOrder_168 : decode cX4_executeOrder 168 = .ok (.iconst (-1), 1) := by decide +kernel
theorem dX4_executeOrder_169 : decode cX4_executeOrder 169 = .ok (.if_icmp .eq 11, 3) := by decide +kernel
theorem dX4_executeOrder_172 : decode cX4_executeOrder 172 = .ok (.aload_n 0, 1) := by decide +kernel
theorem dX4_executeOrder_173 : decode cX4_executeOrder 173 = .ok (.iload 5, 2) := by decide +kernel
theorem dX4_executeOrder_175 : decode cX4_executeOrder 175 = .ok (.iload 6, 2) := by decide +kernel
theorem dX4_executeOrder_177 : decode cX4_executeOrder 177 = .ok (.invokevirtual 106, 3) := by decide +kernel
theorem dX4_executeOrder_180 : decode cX4_executeOrder 180 = .ok (.iload 6, 2) := by decide +kernel
theorem dX4_executeOrder_182 : decode cX4_executeOrder 182 = .ok (.iconst (-1), 1) := by decide +kernel
theorem dX4_executeOrder_183 : decode cX4_executeOrder 183 = .ok (.if_icmp .eq 7, 3) := by decide +kernel
theorem dX4_executeOrder_186 : decode cX4_executeOrder 186 = .ok (.iconst 1, 1) := by decide +kernel
theorem dX4_executeOrder_187 : decode cX4_executeOrder 187 = .ok (.goto 4, 3) := by decide +kernel
theorem dX4_executeOrder_190 : decode cX4_executeOrder 190 = .ok (.iconst 0, 1) := by decide +kernel
theorem dX4_executeOrder_191 : decode cX4_executeOrder 191 = .ok (.ireturn, 1) := by decide +kernel
theorem dX4_endOfNumber_0 : decode cX4_endOfNumber 0 = .ok (.iload_n 1, 1) := by decide +kernel
theorem dX4_endOfNumber_1 : decode cX4_endOfNumber 1 = .ok (.istore_n 3, 1) := by decide +kernel
theorem dX4_endOfNumber_2 : decode cX4_endOfNumber 2 = .ok (.iload_n 3, 1) := by decide +kernel
theorem dX4_endOfNumber_3 : decode cX4_endOfNumber 3 = .ok (.iload_n 2, 1) := by decide +kernel
theorem dX4_endOfNumber_4 : decode cX4_endOfNumber 4 = .ok (.if_icmp .ge 24, 3) := by decide +kernel
theorem dX4_endOfNumber_7 : decode cX4_endOfNumber 7 = .ok (.aload_n 0, 1) := by decide +kernel
theorem dX4_endOfNumber_8 : decode cX4_endOfNumber 8 = .ok (.getfield 26, 3) := by decide +kernel
theorem dX4_endOfNumber_11 : decode cX4_endOfNumber 11 = .ok (.iload_n 3, 1) := by decide +kernel
theorem dX4_endOfNumber_12 : decode cX4_endOfNumber 12 = .ok (.invokevirtual 211, 3) := by decide +kernel
theorem dX4_endOfNumber_15 : decode cX4_endOfNumber 15 = .ok (.bipush 58, 2) := by decide +kernel
theorem dX4_endOfNumber_17 : decode cX4_endOfNumber 17 = .ok (.if_icmp .ne 5, 3) := by decide +kernel
theorem dX4_endOfNumber_20 : decode cX4_endOfNumber 20 = .ok (.iload_n 3, 1) := by decide +kernel
theorem dX4_endOfNumber_21 : decode cX4_endOfNumber 21 = .ok (.ireturn, 1) := by decide +kernel
theorem dX4_endOfNumber_22 : decode cX4_endOfNumber 22 = .ok (.iinc 3 1, 3) := by decide +kernel
theorem dX4_endOfNumber_25 : decode cX4_endOfNumber 25 = .ok (.goto (-23), 3) := by decide +kernel
theorem dX4_endOfNumber_28 : decode cX4_endOfNumber 28 = .ok (.iload_n 2, 1) := by decide +kernel
theorem dX4_endOfNumber_29 : decode cX4_endOfNumber 29 = .ok (.ireturn, 1) := by decide +kernel
theorem dX4_numberIn_0 : decode cX4_numberIn 0 = .ok (.iconst 0, 1) := by decide +kernel
theorem dX4_numberIn_1 : decode cX4_numberIn 1 = .ok (.istore_n 3, 1) := by decide +kernel
theorem dX4_numberIn_2 : decode cX4_numberIn 2 = .ok (.iload_n 1, 1) := by decide +kernel
theorem dX4_numberIn_3 : decode cX4_numberIn 3 = .ok (.istore 4, 2) := by decide +kernel
theorem dX4_numberIn_5 : decode cX4_numberIn 5 = .ok (.iload 4, 2) := by decide +kernel
theorem dX4_numberIn_7 : decode cX4_numberIn 7 = .ok (.iload_n 2, 1) := by decide +kernel
theorem dX4_numberIn_8 : decode cX4_numberIn 8 = .ok (.if_icmp .ge 27, 3) := by decide +kernel
theorem dX4_numberIn_11 : decode cX4_numberIn 11 = .ok (.bipush 10, 2) := by decide +kernel
theorem dX4_numberIn_13 : decode cX4_numberIn 13 = .ok (.iload_n 3, 1) := by decide +kernel
theorem dX4_numberIn_14 : decode cX4_numberIn 14 = .ok (.imul, 1) := by decide +kernel
theorem dX4_numberIn_15 : decode cX4_numberIn 15 = .ok (.aload_n 0, 1) := by decide +kernel
theorem dX4_numberIn_16 : decode cX4_numberIn 16 = .ok (.getfield 26, 3) := by decide +kernel
theorem dX4_numberIn_19 : decode cX4_numberIn 19 = .ok (.iload 4, 2) := by decide +kernel
theorem dX4_numberIn_21 : decode cX4_numberIn 21 = .ok (.invokevirtual 211, 3) := by decide +kernel
theorem dX4_numberIn_24 : decode cX4_numberIn 24 = .ok (.iadd, 1) := by decide +kernel
theorem dX4_numberIn_25 : decode cX4_numberIn 25 = .ok (.bipush 48, 2) := by decide +kernel
theorem dX4_numberIn_27 : decode cX4_numberIn 27 = .ok (.isub, 1) := by decide +kernel
theorem dX4_numberIn_28 : decode cX4_numberIn 28 = .ok (.istore_n 3, 1) := by decide +kernel
theorem dX4_numberIn_29 : decode cX4_numberIn 29 = .ok (.iinc 4 1, 3) := by decide +kernel
theorem dX4_numberIn_32 : decode cX4_numberIn 32 = .ok (.goto (-27), 3) := by decide +kernel
theorem dX4_numberIn_35 : decode cX4_numberIn 35 = .ok (.iload_n 3, 1) := by decide +kernel
theorem dX4_numberIn_36 : decode cX4_numberIn 36 = .ok (.ireturn, 1) := by decide +kernel
theorem dX4_saveState_0 : decode cX4_saveState 0 = .ok (.aload_n 0, 1) := by decide +kernel
theorem dX4_saveState_1 : decode cX4_saveState 1 = .ok (.getfield 231, 3) := by decide +kernel
theorem dX4_saveState_4 : decode cX4_saveState 4 = .ok (.aload_n 0, 1) := by decide +kernel
theorem dX4_saveState_5 : decode cX4_saveState 5 = .ok (.getfield 45, 3) := by decide +kernel
theorem dX4_saveState_8 : decode cX4_saveState 8 = .ok (.arraylength, 1) := by decide +kernel
theorem dX4_saveState_9 : decode cX4_saveState 9 = .ok (.if_icmp .lt 7, 3) := by decide +kernel
theorem dX4_saveState_12 : decode cX4_saveState 12 = .ok (.aload_n 0, 1) := by decide +kernel
theorem dX4_saveState_13 : decode cX4_saveState 13 = .ok (.invokevirtual 323, 3) := by decide +kernel
theorem dX4_saveState_16 : decode cX4_saveState 16 = .ok (.aload_n 0, 1) := by decide +kernel
theorem dX4_saveState_17 : decode cX4_saveState 17 = .ok (.getfield 231, 3) := by decide +kernel
theorem dX4_saveState_20 : decode cX4_saveState 20 = .ok (.ifCond .lt 53, 3) := by decide +kernel
theorem dX4_saveState_23 : decode cX4_saveState 23 = .ok (.aload_n 0, 1) := by decide +kernel
theorem dX4_saveState_24 : decode cX4_saveState 24 = .ok (.getfield 231, 3) := by decide +kernel
theorem dX4_saveState_27 : decode cX4_saveState 27 = .ok (.aload_n 0, 1) := by decide +kernel
theorem dX4_saveState_28 : decode cX4_saveState 28 = .ok (.getfield 45, 3) := by decide +kernel
theorem dX4_saveState_31 : decode cX4_saveState 31 = .ok (.arraylength, 1) := by decide +kernel
theorem dX4_saveState_32 : decode cX4_saveState 32 = .ok (.if_icmp .ge 41, 3) := by decide +kernel
theorem dX4_saveState_35 : decode cX4_saveState 35 = .ok (.aload_n 0, 1) := by decide +kernel
theorem dX4_saveState_36 : decode cX4_saveState 36 = .ok (.getfield 45, 3) := by decide +kernel
theorem dX4_saveState_39 : decode cX4_saveState 39 = .ok (.aload_n 0, 1) := by decide +kernel
theorem dX4_saveState_40 : decode cX4_saveState 40 = .ok (.getfield 231, 3) := by decide +kernel
theorem dX4_saveState_43 : decode cX4_saveState 43 = .ok (.aaload, 1) := by decide +kernel
theorem dX4_saveState_44 : decode cX4_saveState 44 = .ok (.ifnull 29, 3) := by decide +kernel
theorem dX4_saveState_47 : decode cX4_saveState 47 = .ok (.aload_n 0, 1) := by decide +kernel
theorem dX4_saveState_48 : decode cX4_saveState 48 = .ok (.getfield 45, 3) := by decide +kernel
theorem dX4_saveState_51 : decode cX4_saveState 51 = .ok (.aload_n 0, 1) := by decide +kernel
theorem dX4_saveState_52 : decode cX4_saveState 52 = .ok (.getfield 231, 3) := by decide +kernel
theorem dX4_saveState_55 : decode cX4_saveState 55 = .ok (.aaload, 1) := by decide +kernel
theorem dX4_saveState_56 : decode cX4_saveState 56 = .ok (.aload_n 0, 1) := by decide +kernel
theorem dX4_saveState_57 : decode cX4_saveState 57 = .ok (.getfield 20, 3) := by decide +kernel
theorem dX4_saveState_60 : decode cX4_saveState 60 = .ok (.invokevirtual 236, 3) := by decide +kernel
theorem dX4_saveState_63 : decode cX4_saveState 63 = .ok (.aload_n 0, 1) := by decide +kernel
theorem dX4_saveState_64 : decode cX4_saveState 64 = .ok (.dup, 1) := by decide +kernel
theorem dX4_saveState_65 : decode cX4_saveState 65 = .ok (.getfield 231, 3) := by decide +kernel
theorem dX4_saveState_68 : decode cX4_saveState 68 = .ok (.iconst 1, 1) := by decide +kernel
theorem dX4_saveState_69 : decode cX4_saveState 69 = .ok (.iadd, 1) := by decide +kernel
theorem dX4_saveState_70 : decode cX4_saveState 70 = .ok (.putfield 231, 3) := by decide +kernel
theorem dX4_saveState_73 : decode cX4_saveState 73 = .ok (.return_, 1) := by decide +kernel
theorem dX4_discardOldest_0 : decode cX4_discardOldest 0 = .ok (.iconst 1, 1) := by decide +kernel
theorem dX4_discardOldest_1 : decode cX4_discardOldest 1 = .ok (.istore_n 1, 1) := by decide +kernel
theorem dX4_discardOldest_2 : decode cX4_discardOldest 2 = .ok (.iload_n 1, 1) := by decide +kernel
theorem dX4_discardOldest_3 : decode cX4_discardOldest 3 = .ok (.aload_n 0, 1) := by decide +kernel
theorem dX4_discardOldest_4 : decode cX4_discardOldest 4 = .ok (.getfield 45, 3) := by decide +kernel
theorem dX4_discardOldest_7 : decode cX4_discardOldest 7 = .ok (.arraylength, 1) := by decide +kernel
theorem dX4_discardOldest_8 : decode cX4_discardOldest 8 = .ok (.if_icmp .ge 39, 3) := by decide +kernel
theorem dX4_discardOldest_11 : decode cX4_discardOldest 11 = .ok (.aload_n 0, 1) := by decide +kernel
theorem dX4_discardOldest_12 : decode cX4_discardOldest 12 = .ok (.getfield 45, 3) := by decide +kernel
theorem dX4_discardOldest_15 : decode cX4_discardOldest 15 = .ok (.iload_n 1, 1) := by decide +kernel
theorem dX4_discardOldest_16 : decode cX4_discardOldest 16 = .ok (.iconst 1, 1) := by decide +kernel
theorem dX4_discardOldest_17 : decode cX4_discardOldest 17 = .ok (.isub, 1) := by decide +kernel
theorem dX4_discardOldest_18 : decode cX4_discardOldest 18 = .ok (.aaload, 1) := by decide +kernel
theorem dX4_discardOldest_19 : decode cX4_discardOldest 19 = .ok (.astore_n 2, 1) := by decide +kernel
theorem dX4_discardOldest_20 : decode cX4_discardOldest 20 = .ok (.aload_n 0, 1) := by decide +kernel
theorem dX4_discardOldest_21 : decode cX4_discardOldest 21 = .ok (.getfield 45, 3) := by decide +kernel
theorem dX4_discardOldest_24 : decode cX4_discardOldest 24 = .ok (.iload_n 1, 1) := by decide +kernel
theorem dX4_discardOldest_25 : decode cX4_discardOldest 25 = .ok (.iconst 1, 1) := by decide +kernel
theorem dX4_discardOldest_26 : decode cX4_discardOldest 26 = .ok (.isub, 1) := by decide +kernel
theorem dX4_discardOldest_27 : decode cX4_discardOldest 27 = .ok (.aload_n 0, 1) := by decide +kernel
theorem dX4_discardOldest_28 : decode cX4_discardOldest 28 = .ok (.getfield 45, 3) := by decide +kernel
theorem dX4_discardOldest_31 : decode cX4_discardOldest 31 = .ok (.iload_n 1, 1) := by decide +kernel
theorem dX4_discardOldest_32 : decode cX4_discardOldest 32 = .ok (.aaload, 1) := by decide +kernel
theorem dX4_discardOldest_33 : decode cX4_discardOldest 33 = .ok (.aastore, 1) := by decide +kernel
theorem dX4_discardOldest_34 : decode cX4_discardOldest 34 = .ok (.aload_n 0, 1) := by decide +kernel
theorem dX4_discardOldest_35 : decode cX4_discardOldest 35 = .ok (.getfield 45, 3) := by decide +kernel
theorem dX4_discardOldest_38 : decode cX4_discardOldest 38 = .ok (.iload_n 1, 1) := by decide +kernel
theorem dX4_discardOldest_39 : decode cX4_discardOldest 39 = .ok (.aload_n 2, 1) := by decide +kernel
theorem dX4_discardOldest_40 : decode cX4_discardOldest 40 = .ok (.aastore, 1) := by decide +kernel
theorem dX4_discardOldest_41 : decode cX4_discardOldest 41 = .ok (.iinc 1 1, 3) := by decide +kernel
theorem dX4_discardOldest_44 : decode cX4_discardOldest 44 = .ok (.goto (-42), 3) := by decide +kernel
theorem dX4_discardOldest_47 : decode cX4_discardOldest 47 = .ok (.aload_n 0, 1) := by decide +kernel
theorem dX4_discardOldest_48 : decode cX4_discardOldest 48 = .ok (.dup, 1) := by decide +kernel
theorem dX4_discardOldest_49 : decode cX4_discardOldest 49 = .ok (.getfield 231, 3) := by decide +kernel
theorem dX4_discardOldest_52 : decode cX4_discardOldest 52 = .ok (.iconst 1, 1) := by decide +kernel
theorem dX4_discardOldest_53 : decode cX4_discardOldest 53 = .ok (.isub, 1) := by decide +kernel
theorem dX4_discardOldest_54 : decode cX4_discardOldest 54 = .ok (.putfield 231, 3) := by decide +kernel
theorem dX4_discardOldest_57 : decode cX4_discardOldest 57 = .ok (.return_, 1) := by decide +kernel
theorem dX4_slotOffset_0 : decode cX4_slotOffset 0 = .ok (.iconst 2, 1) := by decide +kernel
theorem dX4_slotOffset_1 : decode cX4_slotOffset 1 = .ok (.iconst 2, 1) := by decide +kernel
theorem dX4_slotOffset_2 : decode cX4_slotOffset 2 = .ok (.iload_n 0, 1) := by decide +kernel
theorem dX4_slotOffset_3 : decode cX4_slotOffset 3 = .ok (.imul, 1) := by decide +kernel
theorem dX4_slotOffset_4 : decode cX4_slotOffset 4 = .ok (.iadd, 1) := by decide +kernel
theorem dX4_slotOffset_5 : decode cX4_slotOffset 5 = .ok (.ireturn, 1) := by decide +kernel
theorem dX5_init_0 : decode cX5_init 0 = .ok (.aload_n 0, 1) := by decide +kernel
theorem dX5_init_1 : decode cX5_init 1 = .ok (.invokespecial 1, 3) := by decide +kernel
theorem dX5_init_4 : decode cX5_init 4 = .ok (.aload_n 0, 1) := by decide +kernel
theorem dX5_init_5 : decode cX5_init 5 = .ok (.sipush 10724, 3) := by decide +kernel
theorem dX5_init_8 : decode cX5_init 8 = .ok (.newarray .int, 2) := by decide +kernel
theorem dX5_init_10 : decode cX5_init 10 = .ok (.putfield 7, 3) := by decide +kernel
theorem dX5_init_13 : decode cX5_init 13 = .ok (.aload_n 0, 1) := by decide +kernel
theorem dX5_init_14 : decode cX5_init 14 = .ok (.bipush 60, 2) := by decide +kernel
theorem dX5_init_16 : decode cX5_init 16 = .ok (.newarray .int, 2) := by decide +kernel
theorem dX5_init_18 : decode cX5_init 18 = .ok (.putfield 13, 3) := by decide +kernel
theorem dX5_init_21 : decode cX5_init 21 = .ok (.aload_n 0, 1) := by decide +kernel
theorem dX5_init_22 : decode cX5_init 22 = .ok (.bipush 60, 2) := by decide +kernel
theorem dX5_init_24 : decode cX5_init 24 = .ok (.newarray .int, 2) := by decide +kernel
theorem dX5_init_26 : decode cX5_init 26 = .ok (.putfield 16, 3) := by decide +kernel
theorem dX5_init_29 : decode cX5_init 29 = .ok (.aload_n 0, 1) := by decide +kernel
theorem dX5_init_30 : decode cX5_init 30 = .ok (.sipush 128, 3) := by decide +kernel
theorem dX5_init_33 : decode cX5_init 33 = .ok (.newarray .int, 2) := by decide +kernel
theorem dX5_init_35 : decode cX5_init 35 = .ok (.putfield 19, 3) := by decide +kernel
theorem dX5_init_38 : decode cX5_init 38 = .ok (.return_, 1) := by decide +kernel
theorem dX5_thrown_0 : decode cX5_thrown 0 = .ok (.aload_n 0, 1) := by decide +kernel
theorem dX5_thrown_1 : decode cX5_thrown 1 = .ok (.getfield 22, 3) := by decide +kernel
theorem dX5_thrown_4 : decode cX5_thrown 4 = .ok (.ireturn, 1) := by decide +kernel
theorem dX5_in_0 : decode cX5_in 0 = .ok (.iload_n 0, 1) := by decide +kernel
theorem dX5_in_1 : decode cX5_in 1 = .ok (.iload_n 1, 1) := by decide +kernel
theorem dX5_in_2 : decode cX5_in 2 = .ok (.if_icmp .lt 12, 3) := by decide +kernel
theorem dX5_in_5 : decode cX5_in 5 = .ok (.iload_n 0, 1) := by decide +kernel
theorem dX5_in_6 : decode cX5_in 6 = .ok (.iload_n 2, 1) := by decide +kernel
theorem dX5_in_7 : decode cX5_in 7 = .ok (.if_icmp .gt 7, 3) := by decide +kernel
theorem dX5_in_10 : decode cX5_in 10 = .ok (.iconst 1, 1) := by decide +kernel
theorem dX5_in_11 : decode cX5_in 11 = .ok (.goto 4, 3) := by decide +kernel
theorem dX5_in_14 : decode cX5_in 14 = .ok (.iconst 0, 1) := by decide +kernel
theorem dX5_in_15 : decode cX5_in 15 = .ok (.ireturn, 1) := by decide +kernel
theorem dX5_holds_0 : decode cX5_holds 0 = .ok (.aload_n 0, 1) := by decide +kernel
theorem dX5_holds_1 : decode cX5_holds 1 = .ok (.iload_n 1, 1) := by decide +kernel
theorem dX5_holds_2 : decode cX5_holds 2 = .ok (.putfield 22, 3) := by decide +kernel
theorem dX5_holds_5 : decode cX5_holds 5 = .ok (.iload_n 1, 1) := by decide +kernel
theorem dX5_holds_6 : decode cX5_holds 6 = .ok (.ifCond .ne 7, 3) := by decide +kernel
theorem dX5_holds_9 : decode cX5_holds 9 = .ok (.iconst 1, 1) := by decide +kernel
theorem dX5_holds_10 : decode cX5_holds 10 = .ok (.goto 4, 3) := by decide +kernel
theorem dX5_holds_13 : decode cX5_holds 13 = .ok (.iconst 0, 1) := by decide +kernel
theorem dX5_holds_14 : decode cX5_holds 14 = .ok (.ireturn, 1) := by decide +kernel
theorem dX5_of_0 : decode cX5_of 0 = .ok (.aload_n 0, 1) := by decide +kernel
theorem dX5_of_1 : decode cX5_of 1 = .ok (.getfield 7, 3) := by decide +kernel
theorem dX5_of_4 : decode cX5_of 4 = .ok (.iconst 4, 1) := by decide +kernel
theorem dX5_of_5 : decode cX5_of 5 = .ok (.sipush 191, 3) := by decide +kernel
theorem dX5_of_8 : decode cX5_of 8 = .ok (.iload_n 1, 1) := by decide +kernel
theorem dX5_of_9 : decode cX5_of 9 = .ok (.imul, 1) := by decide +kernel
theorem dX5_of_10 : decode cX5_of 10 = .ok (.iadd, 1) := by decide +kernel
theorem dX5_of_11 : decode cX5_of 11 = .ok (.iload_n 2, 1) := by decide +kernel
theorem dX5_of_12 : decode cX5_of 12 = .ok (.iadd, 1) := by decide +kernel
theorem dX5_of_13 : decode cX5_of 13 = .ok (.iaload, 1) := by decide +kernel
theorem dX5_of_14 : decode cX5_of 14 = .ok (.ireturn, 1) := by decide +kernel
theorem dX5_lay_0 : decode cX5_lay 0 = .ok (.aload_n 0, 1) := by decide +kernel
theorem dX5_lay_1 : decode cX5_lay 1 = .ok (.getfield 7, 3) := by decide +kernel
theorem dX5_lay_4 : decode cX5_lay 4 = .ok (.iconst 4, 1) := by decide +kernel
theorem dX5_lay_5 : decode cX5_lay 5 = .ok (.sipush 191, 3) := by decide +kernel
theorem dX5_lay_8 : decode cX5_lay 8 = .ok (.iload_n 1, 1) := by decide +kernel
theorem dX5_lay_9 : decode cX5_lay 9 = .ok (.imul, 1) := by decide +kernel
theorem dX5_lay_10 : decode cX5_lay 10 = .ok (.iadd, 1) := by decide +kernel
theorem dX5_lay_11 : decode cX5_lay 11 = .ok (.iload_n 2, 1) := by decide +kernel
theorem dX5_lay_12 : decode cX5_lay 12 = .ok (.iadd, 1) := by decide +kernel
theorem dX5_lay_13 : decode cX5_lay 13 = .ok (.iload_n 3, 1) := by decide +kernel
theorem dX5_lay_14 : decode cX5_lay 14 = .ok (.iastore, 1) := by decide +kernel
theorem dX5_lay_15 : decode cX5_lay 15 = .ok (.return_, 1) := by decide +kernel
theorem dX5_sizeOf_0 : decode cX5_sizeOf 0 = .ok (.aload_n 0, 1) := by decide +kernel
theorem dX5_sizeOf_1 : decode cX5_sizeOf 1 = .ok (.iload_n 1, 1) := by decide +kernel
theorem dX5_sizeOf_2 : decode cX5_sizeOf 2 = .ok (.bipush 32, 2) := by decide +kernel
theorem dX5_sizeOf_4 : decode cX5_sizeOf 4 = .ok (.iload_n 2, 1) := by decide +kernel
theorem dX5_sizeOf_5 : decode cX5_sizeOf 5 = .ok (.iadd, 1) := by decide +kernel
theorem dX5_sizeOf_6 : decode cX5_sizeOf 6 = .ok (.invokevirtual 26, 3) := by decide +kernel
theorem dX5_sizeOf_9 : decode cX5_sizeOf 9 = .ok (.ireturn, 1) := by decide +kernel
theorem dX5_byteAt_0 : decode cX5_byteAt 0 = .ok (.aload_n 0, 1) := by decide +kernel
theorem dX5_byteAt_1 : decode cX5_byteAt 1 = .ok (.iload_n 1, 1) := by decide +kernel
theorem dX5_byteAt_2 : decode cX5_byteAt 2 = .ok (.bipush 63, 2) := by decide +kernel
theorem dX5_byteAt_4 : decode cX5_byteAt 4 = .ok (.aload_n 0, 1) := by decide +kernel
theorem dX5_byteAt_5 : decode cX5_byteAt 5 = .ok (.iload_n 1, 1) := by decide +kernel
theorem dX5_byteAt_6 : decode cX5_byteAt 6 = .ok (.iconst 1, 1) := by decide +kernel
theorem dX5_byteAt_7 : decode cX5_byteAt 7 = .ok (.iload_n 2, 1) := by decide +kernel
theorem dX5_byteAt_8 : decode cX5_byteAt 8 = .ok (.iadd, 1) := by decide +kernel
theorem dX5_byteAt_9 : decode cX5_byteAt 9 = .ok (.invokevirtual 26, 3) := by decide +kernel
theorem dX5_byteAt_12 : decode cX5_byteAt 12 = .ok (.iadd, 1) := by decide +kernel
theorem dX5_byteAt_13 : decode cX5_byteAt 13 = .ok (.iload_n 3, 1) := by decide +kernel
theorem dX5_byteAt_14 : decode cX5_byteAt 14 = .ok (.iadd, 1) := by decide +kernel
theorem dX5_byteAt_15 : decode cX5_byteAt 15 = .ok (.invokevirtual 26, 3) := by decide +kernel
theorem dX5_byteAt_18 : decode cX5_byteAt 18 = .ok (.ireturn, 1) := by decide +kernel
theorem dX5_layByte_0 : decode cX5_layByte 0 = .ok (.aload_n 0, 1) := by decide +kernel
theorem dX5_layByte_1 : decode cX5_layByte 1 = .ok (.iload_n 1, 1) := by decide +kernel
theorem dX5_layByte_2 : decode cX5_layByte 2 = .ok (.bipush 63, 2) := by decide +kernel
theorem dX5_layByte_4 : decode cX5_layByte 4 = .ok (.aload_n 0, 1) := by decide +kernel
theorem dX5_layByte_5 : decode cX5_layByte 5 = .ok (.iload_n 1, 1) := by decide +kernel
theorem dX5_layByte_6 : decode cX5_layByte 6 = .ok (.iconst 1, 1) := by decide +kernel
theorem dX5_layByte_7 : decode cX5_layByte 7 = .ok (.iload_n 2, 1) := by decide +kernel
theorem dX5_layByte_8 : decode cX5_layByte 8 = .ok (.iadd, 1) := by decide +kernel
theorem dX5_layByte_9 : decode cX5_layByte 9 = .ok (.invokevirtual 26, 3) := by decide +kernel
theorem dX5_layByte_12 : decode cX5_layByte 12 = .ok (.iadd, 1) := by decide +kernel
theorem dX5_layByte_13 : decode cX5_layByte 13 = .ok (.iload_n 3, 1) := by decide +kernel
theorem dX5_layByte_14 : decode cX5_layByte 14 = .ok (.iadd, 1) := by decide +kernel
theorem dX5_layByte_15 : decode cX5_layByte 15 = .ok (.iload 4, 2) := by decide +kernel
theorem dX5_layByte_17 : decode cX5_layByte 17 = .ok (.invokevirtual 30, 3) := by decide +kernel
theorem dX5_layByte_20 : decode cX5_layByte 20 = .ok (.return_, 1) := by decide +kernel
theorem dX5_lowest_0 : decode cX5_lowest 0 = .ok (.sipush 128, 3) := by decide +kernel
theorem dX5_lowest_3 : decode cX5_lowest 3 = .ok (.istore_n 2, 1) := by decide +kernel
theorem dX5_lowest_4 : decode cX5_lowest 4 = .ok (.iconst 0, 1) := by decide +kernel
theorem dX5_lowest_5 : decode cX5_lowest 5 = .ok (.istore_n 3, 1) := by decide +kernel
theorem dX5_lowest_6 : decode cX5_lowest 6 = .ok (.iload_n 3, 1) := by decide +kernel
theorem dX5_lowest_7 : decode cX5_lowest 7 = .ok (.aload_n 0, 1) := by decide +kernel
theorem dX5_lowest_8 : decode cX5_lowest 8 = .ok (.iload_n 1, 1) := by decide +kernel
theorem dX5_lowest_9 : decode cX5_lowest 9 = .ok (.iconst 0, 1) := by decide +kernel
theorem dX5_lowest_10 : decode cX5_lowest 10 = .ok (.invokevirtual 26, 3) := by decide +kernel
theorem dX5_lowest_13 : decode cX5_lowest 13 = .ok (.if_icmp .ge 55, 3) := by decide +kernel
theorem dX5_lowest_16 : decode cX5_lowest 16 = .ok (.aload_n 0, 1) := by decide +kernel
theorem dX5_lowest_17 : decode cX5_lowest 17 = .ok (.iload_n 1, 1) := by decide +kernel
theorem dX5_lowest_18 : decode cX5_lowest 18 = .ok (.iload_n 3, 1) := by decide +kernel
theorem dX5_lowest_19 : decode cX5_lowest 19 = .ok (.invokevirtual 34, 3) := by decide +kernel
theorem dX5_lowest_22 : decode cX5_lowest 22 = .ok (.ifCond .le 19, 3) := by decide +kernel
theorem dX5_lowest_25 : decode cX5_lowest 25 = .ok (.aload_n 0, 1) := by decide +kernel
theorem dX5_lowest_26 : decode cX5_lowest 26 = .ok (.iload_n 1, 1) := by decide +kernel
theorem dX5_lowest_27 : decode cX5_lowest 27 = .ok (.iconst 1, 1) := by decide +kernel
theorem dX5_lowest_28 : decode cX5_lowest 28 = .ok (.iload_n 3, 1) := by decide +kernel
theorem dX5_lowest_29 : decode cX5_lowest 29 = .ok (.iadd, 1) := by decide +kernel
theorem dX5_lowest_30 : decode cX5_lowest 30 = .ok (.invokevirtual 26, 3) := by decide +kernel
theorem dX5_lowest_33 : decode cX5_lowest 33 = .ok (.iload_n 2, 1) := by decide +kernel
theorem dX5_lowest_34 : decode cX5_lowest 34 = .ok (.if_icmp .ge 7, 3) := by decide +kernel
theorem dX5_lowest_37 : decode cX5_lowest 37 = .ok (.iconst 1, 1) := by decide +kernel
theorem dX5_lowest_38 : decode cX5_lowest 38 = .ok (.goto 4, 3) := by decide +kernel
theorem dX5_lowest_41 : decode cX5_lowest 41 = .ok (.iconst 0, 1) := by decide +kernel
theorem dX5_lowest_42 : decode cX5_lowest 42 = .ok (.istore 4, 2) := by decide +kernel
theorem dX5_lowest_44 : decode cX5_lowest 44 = .ok (.iload 4, 2) := by decide +kernel
theorem dX5_lowest_46 : decode cX5_lowest 46 = .ok (.ifCond .eq 14, 3) := by decide +kernel
theorem dX5_lowest_49 : decode cX5_lowest 49 = .ok (.aload_n 0, 1) := by decide +kernel
theorem dX5_lowest_50 : decode cX5_lowest 50 = .ok (.iload_n 1, 1) := by decide +kernel
theorem dX5_lowest_51 : decode cX5_lowest 51 = .ok (.iconst 1, 1) := by decide +kernel
theorem dX5_lowest_52 : decode cX5_lowest 52 = .ok (.iload_n 3, 1) := by decide +kernel
theorem dX5_lowest_53 : decode cX5_lowest 53 = .ok (.iadd, 1) := by decide +kernel
theorem dX5_lowest_54 : decode cX5_lowest 54 = .ok (.invokevirtual 26, 3) := by decide +kernel
theorem dX5_lowest_57 : decode cX5_lowest 57 = .ok (.goto 4, 3) := by decide +kernel
theorem dX5_lowest_60 : decode cX5_lowest 60 = .ok (.iload_n 2, 1) := by decide +kernel
theorem dX5_lowest_61 : decode cX5_lowest 61 = .ok (.istore_n 2, 1) := by decide +kernel
theorem dX5_lowest_62 : decode cX5_lowest 62 = .ok (.iinc 3 1, 3) := by decide +kernel
theorem dX5_lowest_65 : decode cX5_lowest 65 = .ok (.goto (-59), 3) := by decide +kernel
theorem dX5_lowest_68 : decode cX5_lowest 68 = .ok (.iload_n 2, 1) := by decide +kernel
theorem dX5_lowest_69 : decode cX5_lowest 69 = .ok (.ireturn, 1) := by decide +kernel
theorem dX5_gapOf_0 : decode cX5_gapOf 0 = .ok (.aload_n 0, 1) := by decide +kernel
theorem dX5_gapOf_1 : decode cX5_gapOf 1 = .ok (.iload_n 1, 1) := by decide +kernel
theorem dX5_gapOf_2 : decode cX5_gapOf 2 = .ok (.invokevirtual 37, 3) := by decide +kernel
theorem dX5_gapOf_5 : decode cX5_gapOf 5 = .ok (.iconst 2, 1) := by decide +kernel
theorem dX5_gapOf_6 : decode cX5_gapOf 6 = .ok (.isub, 1) := by decide +kernel
theorem dX5_gapOf_7 : decode cX5_gapOf 7 = .ok (.iconst 2, 1) := by decide +kernel
theorem dX5_gapOf_8 : decode cX5_gapOf 8 = .ok (.aload_n 0, 1) := by decide +kernel
theorem dX5_gapOf_9 : decode cX5_gapOf 9 = .ok (.iload_n 1, 1) := by decide +kernel
theorem dX5_gapOf_10 : decode cX5_gapOf 10 = .ok (.iconst 0, 1) := by decide +kernel
theorem dX5_gapOf_11 : decode cX5_gapOf 11 = .ok (.invokevirtual 26, 3) := by decide +kernel
theorem dX5_gapOf_14 : decode cX5_gapOf 14 = .ok (.imul, 1) := by decide +kernel
theorem dX5_gapOf_15 : decode cX5_gapOf 15 = .ok (.isub, 1) := by decide +kernel
theorem dX5_gapOf_16 : decode cX5_gapOf 16 = .ok (.ireturn, 1) := by decide +kernel
theorem dX5_sizes_0 : decode cX5_sizes 0 = .ok (.iconst 0, 1) := by decide +kernel
theorem dX5_sizes_1 : decode cX5_sizes 1 = .ok (.istore_n 2, 1) := by decide +kernel
theorem dX5_sizes_2 : decode cX5_sizes 2 = .ok (.iconst 0, 1) := by decide +kernel
theorem dX5_sizes_3 : decode cX5_sizes 3 = .ok (.istore_n 3, 1) := by decide +kernel
theorem dX5_sizes_4 : decode cX5_sizes 4 = .ok (.iload_n 3, 1) := by decide +kernel
theorem dX5_sizes_5 : decode cX5_sizes 5 = .ok (.aload_n 0, 1) := by decide +kernel
theorem dX5_sizes_6 : decode cX5_sizes 6 = .ok (.iload_n 1, 1) := by decide +kernel
theorem dX5_sizes_7 : decode cX5_sizes 7 = .ok (.iconst 0, 1) := by decide +kernel
theorem dX5_sizes_8 : decode cX5_sizes 8 = .ok (.invokevirtual 26, 3) := by decide +kernel
theorem dX5_sizes_11 : decode cX5_sizes 11 = .ok (.if_icmp .ge 18, 3) := by decide +kernel
theorem dX5_sizes_14 : decode cX5_sizes 14 = .ok (.iload_n 2, 1) := by decide +kernel
theorem dX5_sizes_15 : decode cX5_sizes 15 = .ok (.aload_n 0, 1) := by decide +kernel
theorem dX5_sizes_16 : decode cX5_sizes 16 = .ok (.iload_n 1, 1) := by decide +kernel
theorem dX5_sizes_17 : decode cX5_sizes 17 = .ok (.iload_n 3, 1) := by decide +kernel
theorem dX5_sizes_18 : decode cX5_sizes 18 = .ok (.invokevirtual 34, 3) := by decide +kernel
theorem dX5_sizes_21 : decode cX5_sizes 21 = .ok (.iadd, 1) := by decide +kernel
theorem dX5_sizes_22 : decode cX5_sizes 22 = .ok (.istore_n 2, 1) := by decide +kernel
theorem dX5_sizes_23 : decode cX5_sizes 23 = .ok (.iinc 3 1, 3) := by decide +kernel
theorem dX5_sizes_26 : decode cX5_sizes 26 = .ok (.goto (-22), 3) := by decide +kernel
theorem dX5_sizes_29 : decode cX5_sizes 29 = .ok (.iload_n 2, 1) := by decide +kernel
theorem dX5_sizes_30 : decode cX5_sizes 30 = .ok (.ireturn, 1) := by decide +kernel
theorem dX5_freeOf_0 : decode cX5_freeOf 0 = .ok (.bipush 126, 2) := by decide +kernel
theorem dX5_freeOf_2 : decode cX5_freeOf 2 = .ok (.iconst 2, 1) := by decide +kernel
theorem dX5_freeOf_3 : decode cX5_freeOf 3 = .ok (.aload_n 0, 1) := by decide +kernel
theorem dX5_freeOf_4 : decode cX5_freeOf 4 = .ok (.iload_n 1, 1) := by decide +kernel
theorem dX5_freeOf_5 : decode cX5_freeOf 5 = .ok (.iconst 0, 1) := by decide +kernel
theorem dX5_freeOf_6 : decode cX5_freeOf 6 = .ok (.invokevirtual 26, 3) := by decide +kernel
theorem dX5_freeOf_9 : decode cX5_freeOf 9 = .ok (.imul, 1) := by decide +kernel
theorem dX5_freeOf_10 : decode cX5_freeOf 10 = .ok (.isub, 1) := by decide +kernel
theorem dX5_freeOf_11 : decode cX5_freeOf 11 = .ok (.aload_n 0, 1) := by decide +kernel
theorem dX5_freeOf_12 : decode cX5_freeOf 12 = .ok (.iload_n 1, 1) := by decide +kernel
theorem dX5_freeOf_13 : decode cX5_freeOf 13 = .ok (.invokevirtual 41, 3) := by decide +kernel
theorem dX5_freeOf_16 : decode cX5_freeOf 16 = .ok (.isub, 1) := by decide +kernel
theorem dX5_freeOf_17 : decode cX5_freeOf 17 = .ok (.ireturn, 1) := by decide +kernel
theorem dX5_byteOfPage_0 : decode cX5_byteOfPage 0 = .ok (.iload_n 2, 1) := by decide +kernel
theorem dX5_byteOfPage_1 : decode cX5_byteOfPage 1 = .ok (.iconst 2, 1) := by decide +kernel
theorem dX5_byteOfPage_2 : decode cX5_byteOfPage 2 = .ok (.isub, 1) := by decide +kernel
theorem dX5_byteOfPage_3 : decode cX5_byteOfPage 3 = .ok (.iconst 2, 1) := by decide +kernel
theorem dX5_byteOfPage_4 : decode cX5_byteOfPage 4 = .ok (.idiv, 1) := by decide +kernel
theorem dX5_byteOfPage_5 : decode cX5_byteOfPage 5 = .ok (.istore_n 3, 1) := by decide +kernel
theorem dX5_byteOfPage_6 : decode cX5_byteOfPage 6 = .ok (.iload_n 2, 1) := by decide +kernel
theorem dX5_byteOfPage_7 : decode cX5_byteOfPage 7 = .ok (.iconst 2, 1) := by decide +kernel
theorem dX5_byteOfPage_8 : decode cX5_byteOfPage 8 = .ok (.if_icmp .ge 22, 3) := by decide +kernel
theorem dX5_byteOfPage_11 : decode cX5_byteOfPage 11 = .ok (.iload_n 2, 1) := by decide +kernel
theorem dX5_byteOfPage_12 : decode cX5_byteOfPage 12 = .ok (.ifCond .ne 12, 3) := by decide +kernel
theorem dX5_byteOfPage_15 : decode cX5_byteOfPage 15 = .ok (.aload_n 0, 1) := by decide +kernel
theorem dX5_byteOfPage_16 : decode cX5_byteOfPage 16 = .ok (.iload_n 1, 1) := by decide +kernel
theorem dX5_byteOfPage_17 : decode cX5_byteOfPage 17 = .ok (.iconst 0, 1) := by decide +kernel
theorem dX5_byteOfPage_18 : decode cX5_byteOfPage 18 = .ok (.invokevirtual 26, 3) := by decide +kernel
theorem dX5_byteOfPage_21 : decode cX5_byteOfPage 21 = .ok (.goto 8, 3) := by decide +kernel
theorem dX5_byteOfPage_24 : decode cX5_byteOfPage 24 = .ok (.aload_n 0, 1) := by decide +kernel
theorem dX5_byteOfPage_25 : decode cX5_byteOfPage 25 = .ok (.iload_n 1, 1) := by decide +kernel
theorem dX5_byteOfPage_26 : decode cX5_byteOfPage 26 = .ok (.invokevirtual 37, 3) := by decide +kernel
theorem dX5_byteOfPage_29 : decode cX5_byteOfPage 29 = .ok (.ireturn, 1) := by decide +kernel
theorem dX5_byteOfPage_30 : decode cX5_byteOfPage 30 = .ok (.iload_n 3, 1) := by decide +kernel
theorem dX5_byteOfPage_31 : decode cX5_byteOfPage 31 = .ok (.aload_n 0, 1) := by decide +kernel
theorem dX5_byteOfPage_32 : decode cX5_byteOfPage 32 = .ok (.iload_n 1, 1) := by decide +kernel
theorem dX5_byteOfPage_33 : decode cX5_byteOfPage 33 = .ok (.iconst 0, 1) := by decide +kernel
theorem dX5_byteOfPage_34 : decode cX5_byteOfPage 34 = .ok (.invokevirtual 26, 3) := by decide +kernel
theorem dX5_byteOfPage_37 : decode cX5_byteOfPage 37 = .ok (.if_icmp .ge 27, 3) := by decide +kernel
theorem dX5_byteOfPage_40 : decode cX5_byteOfPage 40 = .ok (.iload_n 2, 1) := by decide +kernel
theorem dX5_byteOfPage_41 : decode cX5_byteOfPage 41 = .ok (.iconst 2, 1) := by decide +kernel
theorem dX5_byteOfPage_42 : decode cX5_byteOfPage 42 = .ok (.irem, 1) := by decide +kernel
theorem dX5_byteOfPage_43 : decode cX5_byteOfPage 43 = .ok (.ifCond .ne 14, 3) := by decide +kernel
theorem dX5_byteOfPage_46 : decode cX5_byteOfPage 46 = .ok (.aload_n 0, 1) := by decide +kernel
theorem dX5_byteOfPage_47 : decode cX5_byteOfPage 47 = .ok (.iload_n 1, 1) := by decide +kernel
theorem dX5_byteOfPage_48 : decode cX5_byteOfPage 48 = .ok (.iconst 1, 1) := by decide +kernel
theorem dX5_byteOfPage_49 : decode cX5_byteOfPage 49 = .ok (.iload_n 3, 1) := by decide +kernel
theorem dX5_byteOfPage_50 : decode cX5_byteOfPage 50 = .ok (.iadd, 1) := by decide +kernel
theorem dX5_byteOfPage_51 : decode cX5_byteOfPage 51 = .ok (.invokevirtual 26, 3) := by decide +kernel
theorem dX5_byteOfPage_54 : decode cX5_byteOfPage 54 = .ok (.goto 9, 3) := by decide +kernel
theorem dX5_byteOfPage_57 : decode cX5_byteOfPage 57 = .ok (.aload_n 0, 1) := by decide +kernel
theorem dX5_byteOfPage_58 : decode cX5_byteOfPage 58 = .ok (.iload_n 1, 1) := by decide +kernel
theorem dX5_byteOfPage_59 : decode cX5_byteOfPage 59 = .ok (.iload_n 3, 1) := by decide +kernel
theorem dX5_byteOfPage_60 : decode cX5_byteOfPage 60 = .ok (.invokevirtual 34, 3) := by decide +kernel
theorem dX5_byteOfPage_63 : decode cX5_byteOfPage 63 = .ok (.ireturn, 1) := by decide +kernel
theorem dX5_byteOfPage_64 : decode cX5_byteOfPage 64 = .ok (.aload_n 0, 1) := by decide +kernel
theorem dX5_byteOfPage_65 : decode cX5_byteOfPage 65 = .ok (.iload_n 1, 1) := by decide +kernel
theorem dX5_byteOfPage_66 : decode cX5_byteOfPage 66 = .ok (.bipush 63, 2) := by decide +kernel
theorem dX5_byteOfPage_68 : decode cX5_byteOfPage 68 = .ok (.iload_n 2, 1) := by decide +kernel
theorem dX5_byteOfPage_69 : decode cX5_byteOfPage 69 = .ok (.iadd, 1) := by decide +kernel
theorem dX5_byteOfPage_70 : decode cX5_byteOfPage 70 = .ok (.invokevirtual 26, 3) := by decide +kernel
theorem dX5_byteOfPage_73 : decode cX5_byteOfPage 73 = .ok (.ireturn, 1) := by decide +kernel
theorem dX5_emptySlot_0 : decode cX5_emptySlot 0 = .ok (.iconst 0, 1) := by decide +kernel
theorem dX5_emptySlot_1 : decode cX5_emptySlot 1 = .ok (.istore_n 2, 1) := by decide +kernel
theorem dX5_emptySlot_2 : decode cX5_emptySlot 2 = .ok (.iload_n 2, 1) := by decide +kernel
theorem dX5_emptySlot_3 : decode cX5_emptySlot 3 = .ok (.aload_n 0, 1) := by decide +kernel
theorem dX5_emptySlot_4 : decode cX5_emptySlot 4 = .ok (.iload_n 1, 1) := by decide +kernel
theorem dX5_emptySlot_5 : decode cX5_emptySlot 5 = .ok (.iconst 0, 1) := by decide +kernel
theorem dX5_emptySlot_6 : decode cX5_emptySlot 6 = .ok (.invokevirtual 26, 3) := by decide +kernel
theorem dX5_emptySlot_9 : decode cX5_emptySlot 9 = .ok (.if_icmp .ge 20, 3) := by decide +kernel
theorem dX5_emptySlot_12 : decode cX5_emptySlot 12 = .ok (.aload_n 0, 1) := by decide +kernel
theorem dX5_emptySlot_13 : decode cX5_emptySlot 13 = .ok (.iload_n 1, 1) := by decide +kernel
theorem dX5_emptySlot_14 : decode cX5_emptySlot 14 = .ok (.iload_n 2, 1) := by decide +kernel
theorem dX5_emptySlot_15 : decode cX5_emptySlot 15 = .ok (.invokevirtual 34, 3) := by decide +kernel
theorem dX5_emptySlot_18 : decode cX5_emptySlot 18 = .ok (.ifCond .ne 5, 3) := by decide +kernel
theorem dX5_emptySlot_21 : decode cX5_emptySlot 21 = .ok (.iload_n 2, 1) := by decide +kernel
theorem dX5_emptySlot_22 : decode cX5_emptySlot 22 = .ok (.ireturn, 1) := by decide +kernel
theorem dX5_emptySlot_23 : decode cX5_emptySlot 23 = .ok (.iinc 2 1, 3) := by decide +kernel
theorem dX5_emptySlot_26 : decode cX5_emptySlot 26 = .ok (.goto (-24), 3) := by decide +kernel
theorem dX5_emptySlot_29 : decode cX5_emptySlot 29 = .ok (.iconst (-1), 1) := by decide +kernel
theorem dX5_emptySlot_30 : decode cX5_emptySlot 30 = .ok (.ireturn, 1) := by decide +kernel
theorem dX5_hasRoom_0 : decode cX5_hasRoom 0 = .ok (.aload_n 0, 1) := by decide +kernel
theorem dX5_hasRoom_1 : decode cX5_hasRoom 1 = .ok (.iload_n 1, 1) := by decide +kernel
theorem dX5_hasRoom_2 : decode cX5_hasRoom 2 = .ok (.invokevirtual 44, 3) := by decide +kernel
theorem dX5_hasRoom_5 : decode cX5_hasRoom 5 = .ok (.iconst (-1), 1) := by decide +kernel
theorem dX5_hasRoom_6 : decode cX5_hasRoom 6 = .ok (.if_icmp .ne 7, 3) := by decide +kernel
theorem dX5_hasRoom_9 : decode cX5_hasRoom 9 = .ok (.iconst 1, 1) := by decide +kernel
theorem dX5_hasRoom_10 : decode cX5_hasRoom 10 = .ok (.goto 4, 3) := by decide +kernel
theorem dX5_hasRoom_13 : decode cX5_hasRoom 13 = .ok (.iconst 0, 1) := by decide +kernel
theorem dX5_hasRoom_14 : decode cX5_hasRoom 14 = .ok (.istore_n 3, 1) := by decide +kernel
theorem dX5_hasRoom_15 : decode cX5_hasRoom 15 = .ok (.iload_n 3, 1) := by decide +kernel
theorem dX5_hasRoom_16 : decode cX5_hasRoom 16 = .ok (.ifCond .eq 33, 3) := by decide +kernel
theorem dX5_hasRoom_19 : decode cX5_hasRoom 19 = .ok (.aload_n 0, 1) := by decide +kernel
theorem dX5_hasRoom_20 : decode cX5_hasRoom 20 = .ok (.iload_n 1, 1) := by decide +kernel
theorem dX5_hasRoom_21 : decode cX5_hasRoom 21 = .ok (.iconst 0, 1) := by decide +kernel
theorem dX5_hasRoom_22 : decode cX5_hasRoom 22 = .ok (.invokevirtual 26, 3) := by decide +kernel
theorem dX5_hasRoom_25 : decode cX5_hasRoom 25 = .ok (.bipush 31, 2) := by decide +kernel
theorem dX5_hasRoom_27 : decode cX5_hasRoom 27 = .ok (.if_icmp .ge 18, 3) := by decide +kernel
theorem dX5_hasRoom_30 : decode cX5_hasRoom 30 = .ok (.iload_n 2, 1) := by decide +kernel
theorem dX5_hasRoom_31 : decode cX5_hasRoom 31 = .ok (.iconst 2, 1) := by decide +kernel
theorem dX5_hasRoom_32 : decode cX5_hasRoom 32 = .ok (.iadd, 1) := by decide +kernel
theorem dX5_hasRoom_33 : decode cX5_hasRoom 33 = .ok (.aload_n 0, 1) := by decide +kernel
theorem dX5_hasRoom_34 : decode cX5_hasRoom 34 = .ok (.iload_n 1, 1) := by decide +kernel
theorem dX5_hasRoom_35 : decode cX5_hasRoom 35 = .ok (.invokevirtual 47, 3) := by decide +kernel
theorem dX5_hasRoom_38 : decode cX5_hasRoom 38 = .ok (.if_icmp .gt 7, 3) := by decide +kernel
theorem dX5_hasRoom_41 : decode cX5_hasRoom 41 = .ok (.iconst 1, 1) := by decide +kernel
theorem dX5_hasRoom_42 : decode cX5_hasRoom 42 = .ok (.goto 21, 3) := by decide +kernel
theorem dX5_hasRoom_45 : decode cX5_hasRoom 45 = .ok (.iconst 0, 1) := by decide +kernel
theorem dX5_hasRoom_46 : decode cX5_hasRoom 46 = .ok (.goto 17, 3) := by decide +kernel
theorem dX5_hasRoom_49 : decode cX5_hasRoom 49 = .ok (.iload_n 2, 1) := by decide +kernel
theorem dX5_hasRoom_50 : decode cX5_hasRoom 50 = .ok (.aload_n 0, 1) := by decide +kernel
theorem dX5_hasRoom_51 : decode cX5_hasRoom 51 = .ok (.iload_n 1, 1) := by decide +kernel
theorem dX5_hasRoom_52 : decode cX5_hasRoom 52 = .ok (.invokevirtual 47, 3) := by decide +kernel
theorem dX5_hasRoom_55 : decode cX5_hasRoom 55 = .ok (.if_icmp .gt 7, 3) := by decide +kernel
theorem dX5_hasRoom_58 : decode cX5_hasRoom 58 = .ok (.iconst 1, 1) := by decide +kernel
theorem dX5_hasRoom_59 : decode cX5_hasRoom 59 = .ok (.goto 4, 3) := by decide +kernel
theorem dX5_hasRoom_62 : decode cX5_hasRoom 62 = .ok (.iconst 0, 1) := by decide +kernel
theorem dX5_hasRoom_63 : decode cX5_hasRoom 63 = .ok (.ireturn, 1) := by decide +kernel
theorem dX5_wipes_0 : decode cX5_wipes 0 = .ok (.iconst 0, 1) := by decide +kernel
theorem dX5_wipes_1 : decode cX5_wipes 1 = .ok (.istore_n 3, 1) := by decide +kernel
theorem dX5_wipes_2 : decode cX5_wipes 2 = .ok (.iload_n 3, 1) := by decide +kernel
theorem dX5_wipes_3 : decode cX5_wipes 3 = .ok (.aload_n 0, 1) := by decide +kernel
theorem dX5_wipes_4 : decode cX5_wipes 4 = .ok (.iload_n 1, 1) := by decide +kernel
theorem dX5_wipes_5 : decode cX5_wipes 5 = .ok (.iload_n 2, 1) := by decide +kernel
theorem dX5_wipes_6 : decode cX5_wipes 6 = .ok (.invokevirtual 34, 3) := by decide +kernel
theorem dX5_wipes_9 : decode cX5_wipes 9 = .ok (.if_icmp .ge 17, 3) := by decide +kernel
theorem dX5_wipes_12 : decode cX5_wipes 12 = .ok (.aload_n 0, 1) := by decide +kernel
theorem dX5_wipes_13 : decode cX5_wipes 13 = .ok (.iload_n 1, 1) := by decide +kernel
theorem dX5_wipes_14 : decode cX5_wipes 14 = .ok (.iload_n 2, 1) := by decide +kernel
theorem dX5_wipes_15 : decode cX5_wipes 15 = .ok (.iload_n 3, 1) := by decide +kernel
theorem dX5_wipes_16 : decode cX5_wipes 16 = .ok (.iconst 0, 1) := by decide +kernel
theorem dX5_wipes_17 : decode cX5_wipes 17 = .ok (.invokevirtual 50, 3) := by decide +kernel
theorem dX5_wipes_20 : decode cX5_wipes 20 = .ok (.iinc 3 1, 3) := by decide +kernel
theorem dX5_wipes_23 : decode cX5_wipes 23 = .ok (.goto (-21), 3) := by decide +kernel
theorem dX5_wipes_26 : decode cX5_wipes 26 = .ok (.aload_n 0, 1) := by decide +kernel
theorem dX5_wipes_27 : decode cX5_wipes 27 = .ok (.iload_n 1, 1) := by decide +kernel
theorem dX5_wipes_28 : decode cX5_wipes 28 = .ok (.iconst 1, 1) := by decide +kernel
theorem dX5_wipes_29 : decode cX5_wipes 29 = .ok (.iload_n 2, 1) := by decide +kernel
theorem dX5_wipes_30 : decode cX5_wipes 30 = .ok (.iadd, 1) := by decide +kernel
theorem dX5_wipes_31 : decode cX5_wipes 31 = .ok (.iconst 0, 1) := by decide +kernel
theorem dX5_wipes_32 : decode cX5_wipes 32 = .ok (.invokevirtual 30, 3) := by decide +kernel
theorem dX5_wipes_35 : decode cX5_wipes 35 = .ok (.aload_n 0, 1) := by decide +kernel
theorem dX5_wipes_36 : decode cX5_wipes 36 = .ok (.iload_n 1, 1) := by decide +kernel
theorem dX5_wipes_37 : decode cX5_wipes 37 = .ok (.bipush 32, 2) := by decide +kernel
theorem dX5_wipes_39 : decode cX5_wipes 39 = .ok (.iload_n 2, 1) := by decide +kernel
theorem dX5_wipes_40 : decode cX5_wipes 40 = .ok (.iadd, 1) := by decide +kernel
theorem dX5_wipes_41 : decode cX5_wipes 41 = .ok (.iconst 0, 1) := by decide +kernel
theorem dX5_wipes_42 : decode cX5_wipes 42 = .ok (.invokevirtual 30, 3) := by decide +kernel
theorem dX5_wipes_45 : decode cX5_wipes 45 = .ok (.return_, 1) := by decide +kernel
theorem dX5_removes_0 : decode cX5_removes 0 = .ok (.aload_n 0, 1) := by decide +kernel
theorem dX5_removes_1 : decode cX5_removes 1 = .ok (.iload_n 1, 1) := by decide +kernel
theorem dX5_removes_2 : decode cX5_removes 2 = .ok (.iload_n 2, 1) := by decide +kernel
theorem dX5_removes_3 : decode cX5_removes 3 = .ok (.invokevirtual 54, 3) := by decide +kernel
theorem dX5_removes_6 : decode cX5_removes 6 = .ok (.aload_n 0, 1) := by decide +kernel
theorem dX5_removes_7 : decode cX5_removes 7 = .ok (.iload_n 1, 1) := by decide +kernel
theorem dX5_removes_8 : decode cX5_removes 8 = .ok (.iconst 0, 1) := by decide +kernel
theorem dX5_removes_9 : decode cX5_removes 9 = .ok (.invokevirtual 26, 3) := by decide +kernel
theorem dX5_removes_12 : decode cX5_removes 12 = .ok (.istore_n 3, 1) := by decide +kernel
theorem dX5_removes_13 : decode cX5_removes 13 = .ok (.iload_n 3, 1) := by decide +kernel
theorem dX5_removes_14 : decode cX5_removes 14 = .ok (.ifCond .le 20, 3) := by decide +kernel
theorem dX5_removes_17 : decode cX5_removes 17 = .ok (.aload_n 0, 1) := by decide +kernel
theorem dX5_removes_18 : decode cX5_removes 18 = .ok (.iload_n 1, 1) := by decide +kernel
theorem dX5_removes_19 : decode cX5_removes 19 = .ok (.iload_n 3, 1) := by decide +kernel
theorem dX5_removes_20 : decode cX5_removes 20 = .ok (.iconst 1, 1) := by decide +kernel
theorem dX5_removes_21 : decode cX5_removes 21 = .ok (.isub, 1) := by decide +kernel
theorem dX5_removes_22 : decode cX5_removes 22 = .ok (.invokevirtual 34, 3) := by decide +kernel
theorem dX5_removes_25 : decode cX5_removes 25 = .ok (.ifCond .ne 9, 3) := by decide +kernel
theorem dX5_removes_28 : decode cX5_removes 28 = .ok (.iinc 3 (-1), 3) := by decide +kernel
theorem dX5_removes_31 : decode cX5_removes 31 = .ok (.goto (-18), 3) := by decide +kernel
theorem dX5_removes_34 : decode cX5_removes 34 = .ok (.aload_n 0, 1) := by decide +kernel
theorem dX5_removes_35 : decode cX5_removes 35 = .ok (.iload_n 1, 1) := by decide +kernel
theorem dX5_removes_36 : decode cX5_removes 36 = .ok (.iconst 0, 1) := by decide +kernel
theorem dX5_removes_37 : decode cX5_removes 37 = .ok (.iload_n 3, 1) := by decide +kernel
theorem dX5_removes_38 : decode cX5_removes 38 = .ok (.invokevirtual 30, 3) := by decide +kernel
theorem dX5_removes_41 : decode cX5_removes 41 = .ok (.return_, 1) := by decide +kernel
theorem dX5_compacts_0 : decode cX5_compacts 0 = .ok (.iconst 0, 1) := by decide +kernel
theorem dX5_compacts_1 : decode cX5_compacts 1 = .ok (.istore_n 2, 1) := by decide +kernel
theorem dX5_compacts_2 : decode cX5_compacts 2 = .ok (.iload_n 2, 1) := by decide +kernel
theorem dX5_compacts_3 : decode cX5_compacts 3 = .ok (.sipush 128, 3) := by decide +kernel
theorem dX5_compacts_6 : decode cX5_compacts 6 = .ok (.if_icmp .ge 16, 3) := by decide +kernel
theorem dX5_compacts_9 : decode cX5_compacts 9 = .ok (.aload_n 0, 1) := by decide +kernel
theorem dX5_compacts_10 : decode cX5_compacts 10 = .ok (.getfield 19, 3) := by decide +kernel
theorem dX5_compacts_13 : decode cX5_compacts 13 = .ok (.iload_n 2, 1) := by decide +kernel
theorem dX5_compacts_14 : decode cX5_compacts 14 = .ok (.iconst 0, 1) := by decide +kernel
theorem dX5_compacts_15 : decode cX5_compacts 15 = .ok (.iastore, 1) := by decide +kernel
theorem dX5_compacts_16 : decode cX5_compacts 16 = .ok (.iinc 2 1, 3) := by decide +kernel
theorem dX5_compacts_19 : decode cX5_compacts 19 = .ok (.goto (-17), 3) := by decide +kernel
theorem dX5_compacts_22 : decode cX5_compacts 22 = .ok (.sipush 128, 3) := by decide +kernel
theorem dX5_compacts_25 : decode cX5_compacts 25 = .ok (.istore_n 2, 1) := by decide +kernel
theorem dX5_compacts_26 : decode cX5_compacts 26 = .ok (.iconst 0, 1) := by decide +kernel
theorem dX5_compacts_27 : decode cX5_compacts 27 = .ok (.istore_n 3, 1) := by decide +kernel
theorem dX5_compacts_28 : decode cX5_compacts 28 = .ok (.iconst 0, 1) := by decide +kernel
theorem dX5_compacts_29 : decode cX5_compacts 29 = .ok (.istore 4, 2) := by decide +kernel
theorem dX5_compacts_31 : decode cX5_compacts 31 = .ok (.iload 4, 2) := by decide +kernel
theorem dX5_compacts_33 : decode cX5_compacts 33 = .ok (.aload_n 0, 1) := by decide +kernel
theorem dX5_compacts_34 : decode cX5_compacts 34 = .ok (.iload_n 1, 1) := by decide +kernel
theorem dX5_compacts_35 : decode cX5_compacts 35 = .ok (.iconst 0, 1) := by decide +kernel
theorem dX5_compacts_36 : decode cX5_compacts 36 = .ok (.invokevirtual 26, 3) := by decide +kernel
theorem dX5_compacts_39 : decode cX5_compacts 39 = .ok (.if_icmp .ge 102, 3) := by decide +kernel
theorem dX5_compacts_42 : decode cX5_compacts 42 = .ok (.aload_n 0, 1) := by decide +kernel
theorem dX5_compacts_43 : decode cX5_compacts 43 = .ok (.iload_n 1, 1) := by decide +kernel
theorem dX5_compacts_44 : decode cX5_compacts 44 = .ok (.iload 4, 2) := by decide +kernel
theorem dX5_compacts_46 : decode cX5_compacts 46 = .ok (.invokevirtual 34, 3) := by decide +kernel
theorem dX5_compacts_49 : decode cX5_compacts 49 = .ok (.istore 5, 2) := by decide +kernel
theorem dX5_compacts_51 : decode cX5_compacts 51 = .ok (.iload_n 2, 1) := by decide +kernel
theorem dX5_compacts_52 : decode cX5_compacts 52 = .ok (.iload 5, 2) := by decide +kernel
theorem dX5_compacts_54 : decode cX5_compacts 54 = .ok (.isub, 1) := by decide +kernel
theorem dX5_compacts_55 : decode cX5_compacts 55 = .ok (.istore_n 2, 1) := by decide +kernel
theorem dX5_compacts_56 : decode cX5_compacts 56 = .ok (.iconst 0, 1) := by decide +kernel
theorem dX5_compacts_57 : decode cX5_compacts 57 = .ok (.istore 6, 2) := by decide +kernel
theorem dX5_compacts_59 : decode cX5_compacts 59 = .ok (.iload 6, 2) := by decide +kernel
theorem dX5_compacts_61 : decode cX5_compacts 61 = .ok (.iload 5, 2) := by decide +kernel
theorem dX5_compacts_63 : decode cX5_compacts 63 = .ok (.if_icmp .ge 27, 3) := by decide +kernel
theorem dX5_compacts_66 : decode cX5_compacts 66 = .ok (.aload_n 0, 1) := by decide +kernel
theorem dX5_compacts_67 : decode cX5_compacts 67 = .ok (.getfield 19, 3) := by decide +kernel
theorem dX5_compacts_70 : decode cX5_compacts 70 = .ok (.iload_n 2, 1) := by decide +kernel
theorem dX5_compacts_71 : decode cX5_compacts 71 = .ok (.iload 6, 2) := by decide +kernel
theorem dX5_compacts_73 : decode cX5_compacts 73 = .ok (.iadd, 1) := by decide +kernel
theorem dX5_compacts_74 : decode cX5_compacts 74 = .ok (.aload_n 0, 1) := by decide +kernel
theorem dX5_compacts_75 : decode cX5_compacts 75 = .ok (.iload_n 1, 1) := by decide +kernel
theorem dX5_compacts_76 : decode cX5_compacts 76 = .ok (.iload 4, 2) := by decide +kernel
theorem dX5_compacts_78 : decode cX5_compacts 78 = .ok (.iload 6, 2) := by decide +kernel
theorem dX5_compacts_80 : decode cX5_compacts 80 = .ok (.invokevirtual 58, 3) := by decide +kernel
theorem dX5_compacts_83 : decode cX5_compacts 83 = .ok (.iastore, 1) := by decide +kernel
theorem dX5_compacts_84 : decode cX5_compacts 84 = .ok (.iinc 6 1, 3) := by decide +kernel
theorem dX5_compacts_87 : decode cX5_compacts 87 = .ok (.goto (-28), 3) := by decide +kernel
theorem dX5_compacts_90 : decode cX5_compacts 90 = .ok (.iload_n 3, 1) := by decide +kernel
theorem dX5_compacts_91 : decode cX5_compacts 91 = .ok (.iload 5, 2) := by decide +kernel
theorem dX5_compacts_93 : decode cX5_compacts 93 = .ok (.ifCond .le 20, 3) := by decide +kernel
theorem dX5_compacts_96 : decode cX5_compacts 96 = .ok (.aload_n 0, 1) := by decide +kernel
theorem dX5_compacts_97 : decode cX5_compacts 97 = .ok (.iload_n 1, 1) := by decide +kernel
theorem dX5_compacts_98 : decode cX5_compacts 98 = .ok (.iconst 1, 1) := by decide +kernel
theorem dX5_compacts_99 : decode cX5_compacts 99 = .ok (.iload 4, 2) := by decide +kernel
theorem dX5_compacts_101 : decode cX5_compacts 101 = .ok (.iadd, 1) := by decide +kernel
theorem dX5_compacts_102 : decode cX5_compacts 102 = .ok (.invokevirtual 26, 3) := by decide +kernel
theorem dX5_compacts_105 : decode cX5_compacts 105 = .ok (.iload_n 2, 1) := by decide +kernel
theorem dX5_compacts_106 : decode cX5_compacts 106 = .ok (.if_icmp .eq 7, 3) := by decide +kernel
theorem dX5_compacts_109 : decode cX5_compacts 109 = .ok (.iconst 1, 1) := by decide +kernel
theorem dX5_compacts_110 : decode cX5_compacts 110 = .ok (.goto 4, 3) := by decide +kernel
theorem dX5_compacts_113 : decode cX5_compacts 113 = .ok (.iconst 0, 1) := by decide +kernel
theorem dX5_compacts_114 : decode cX5_compacts 114 = .ok (.iadd, 1) := by decide +kernel
theorem dX5_compacts_115 : decode cX5_compacts 115 = .ok (.istore_n 3, 1) := by decide +kernel
theorem dX5_compacts_116 : decode cX5_compacts 116 = .ok (.aload_n 0, 1) := by decide +kernel
theorem dX5_compacts_117 : decode cX5_compacts 117 = .ok (.iload_n 1, 1) := by decide +kernel
theorem dX5_compacts_118 : decode cX5_compacts 118 = .ok (.iconst 1, 1) := by decide +kernel
theorem dX5_compacts_119 : decode cX5_compacts 119 = .ok (.iload 4, 2) := by decide +kernel
theorem dX5_compacts_121 : decode cX5_compacts 121 = .ok (.iadd, 1) := by decide +kernel
theorem dX5_compacts_122 : decode cX5_compacts 122 = .ok (.iload 5, 2) := by decide +kernel
theorem dX5_compacts_124 : decode cX5_compacts 124 = .ok (.ifCond .le 7, 3) := by decide +kernel
theorem dX5_compacts_127 : decode cX5_compacts 127 = .ok (.iload_n 2, 1) := by decide +kernel
theorem dX5_compacts_128 : decode cX5_compacts 128 = .ok (.goto 4, 3) := by decide +kernel
theorem dX5_compacts_131 : decode cX5_compacts 131 = .ok (.iconst 0, 1) := by decide +kernel
theorem dX5_compacts_132 : decode cX5_compacts 132 = .ok (.invokevirtual 30, 3) := by decide +kernel
theorem dX5_compacts_135 : decode cX5_compacts 135 = .ok (.iinc 4 1, 3) := by decide +kernel
theorem dX5_compacts_138 : decode cX5_compacts 138 = .ok (.goto (-107), 3) := by decide +kernel
theorem dX5_compacts_141 : decode cX5_compacts 141 = .ok (.iconst 0, 1) := by decide +kernel
theorem dX5_compacts_142 : decode cX5_compacts 142 = .ok (.istore 4, 2) := by decide +kernel
theorem dX5_compacts_144 : decode cX5_compacts 144 = .ok (.iload 4, 2) := by decide +kernel
theorem dX5_compacts_146 : decode cX5_compacts 146 = .ok (.sipush 128, 3) := by decide +kernel
theorem dX5_compacts_149 : decode cX5_compacts 149 = .ok (.if_icmp .ge 26, 3) := by decide +kernel
theorem dX5_compacts_152 : decode cX5_compacts 152 = .ok (.aload_n 0, 1) := by decide +kernel
theorem dX5_compacts_153 : decode cX5_compacts 153 = .ok (.iload_n 1, 1) := by decide +kernel
theorem dX5_compacts_154 : decode cX5_compacts 154 = .ok (.bipush 63, 2) := by decide +kernel
theorem dX5_compacts_156 : decode cX5_compacts 156 = .ok (.iload 4, 2) := by decide +kernel
theorem dX5_compacts_158 : decode cX5_compacts 158 = .ok (.iadd, 1) := by decide +kernel
theorem dX5_compacts_159 : decode cX5_compacts 159 = .ok (.aload_n 0, 1) := by decide +kernel
theorem dX5_compacts_160 : decode cX5_compacts 160 = .ok (.getfield 19, 3) := by decide +kernel
theorem dX5_compacts_163 : decode cX5_compacts 163 = .ok (.iload 4, 2) := by decide +kernel
theorem dX5_compacts_165 : decode cX5_compacts 165 = .ok (.iaload, 1) := by decide +kernel
theorem dX5_compacts_166 : decode cX5_compacts 166 = .ok (.invokevirtual 30, 3) := by decide +kernel
theorem dX5_compacts_169 : decode cX5_compacts 169 = .ok (.iinc 4 1, 3) := by decide +kernel
theorem dX5_compacts_172 : decode cX5_compacts 172 = .ok (.goto (-28), 3) := by decide +kernel
theorem dX5_compacts_175 : decode cX5_compacts 175 = .ok (.aload_n 0, 1) := by decide +kernel
theorem dX5_compacts_176 : decode cX5_compacts 176 = .ok (.getfield 7, 3) := by decide +kernel
theorem dX5_compacts_179 : decode cX5_compacts 179 = .ok (.iconst 3, 1) := by decide +kernel
theorem dX5_compacts_180 : decode cX5_compacts 180 = .ok (.dup2, 1) := by decide +kernel
theorem dX5_compacts_181 : decode cX5_compacts 181 = .ok (.iaload, 1) := by decide +kernel
theorem dX5_compacts_182 : decode cX5_compacts 182 = .ok (.iconst 1, 1) := by decide +kernel
theorem dX5_compacts_183 : decode cX5_compacts 183 = .ok (.iadd, 1) := by decide +kernel
theorem dX5_compacts_184 : decode cX5_compacts 184 = .ok (.iastore, 1) := by decide +kernel
theorem dX5_compacts_185 : decode cX5_compacts 185 = .ok (.iload_n 3, 1) := by decide +kernel
theorem dX5_compacts_186 : decode cX5_compacts 186 = .ok (.ireturn, 1) := by decide +kernel
theorem dX5_puts_0 : decode cX5_puts 0 = .ok (.aload_n 0, 1) := by decide +kernel
theorem dX5_puts_1 : decode cX5_puts 1 = .ok (.iload_n 1, 1) := by decide +kernel
theorem dX5_puts_2 : decode cX5_puts 2 = .ok (.invokevirtual 62, 3) := by decide +kernel
theorem dX5_puts_5 : decode cX5_puts 5 = .ok (.iload_n 3, 1) := by decide +kernel
theorem dX5_puts_6 : decode cX5_puts 6 = .ok (.if_icmp .ge 9, 3) := by decide +kernel
theorem dX5_puts_9 : decode cX5_puts 9 = .ok (.aload_n 0, 1) := by decide +kernel
theorem dX5_puts_10 : decode cX5_puts 10 = .ok (.iload_n 1, 1) := by decide +kernel
theorem dX5_puts_11 : decode cX5_puts 11 = .ok (.invokevirtual 65, 3) := by decide +kernel
theorem dX5_puts_14 : decode cX5_puts 14 = .ok (.pop, 1) := by decide +kernel
theorem dX5_puts_15 : decode cX5_puts 15 = .ok (.aload_n 0, 1) := by decide +kernel
theorem dX5_puts_16 : decode cX5_puts 16 = .ok (.iload_n 1, 1) := by decide +kernel
theorem dX5_puts_17 : decode cX5_puts 17 = .ok (.invokevirtual 37, 3) := by decide +kernel
theorem dX5_puts_20 : decode cX5_puts 20 = .ok (.iload_n 3, 1) := by decide +kernel
theorem dX5_puts_21 : decode cX5_puts 21 = .ok (.isub, 1) := by decide +kernel
theorem dX5_puts_22 : decode cX5_puts 22 = .ok (.istore 4, 2) := by decide +kernel
theorem dX5_puts_24 : decode cX5_puts 24 = .ok (.aload_n 0, 1) := by decide +kernel
theorem dX5_puts_25 : decode cX5_puts 25 = .ok (.iload_n 1, 1) := by decide +kernel
theorem dX5_puts_26 : decode cX5_puts 26 = .ok (.iconst 1, 1) := by decide +kernel
theorem dX5_puts_27 : decode cX5_puts 27 = .ok (.iload_n 2, 1) := by decide +kernel
theorem dX5_puts_28 : decode cX5_puts 28 = .ok (.iadd, 1) := by decide +kernel
theorem dX5_puts_29 : decode cX5_puts 29 = .ok (.iload 4, 2) := by decide +kernel
theorem dX5_puts_31 : decode cX5_puts 31 = .ok (.invokevirtual 30, 3) := by decide +kernel
theorem dX5_puts_34 : decode cX5_puts 34 = .ok (.aload_n 0, 1) := by decide +kernel
theorem dX5_puts_35 : decode cX5_puts 35 = .ok (.iload_n 1, 1) := by decide +kernel
theorem dX5_puts_36 : decode cX5_puts 36 = .ok (.bipush 32, 2) := by decide +kernel
theorem dX5_puts_38 : decode cX5_puts 38 = .ok (.iload_n 2, 1) := by decide +kernel
theorem dX5_puts_39 : decode cX5_puts 39 = .ok (.iadd, 1) := by decide +kernel
theorem dX5_puts_40 : decode cX5_puts 40 = .ok (.iload_n 3, 1) := by decide +kernel
theorem dX5_puts_41 : decode cX5_puts 41 = .ok (.invokevirtual 30, 3) := by decide +kernel
theorem dX5_puts_44 : decode cX5_puts 44 = .ok (.return_, 1) := by decide +kernel
theorem dX5_stores_0 : decode cX5_stores 0 = .ok (.aload_n 0, 1) := by decide +kernel
theorem dX5_stores_1 : decode cX5_stores 1 = .ok (.iload_n 1, 1) := by decide +kernel
theorem dX5_stores_2 : decode cX5_stores 2 = .ok (.invokevirtual 44, 3) := by decide +kernel
theorem dX5_stores_5 : decode cX5_stores 5 = .ok (.istore_n 3, 1) := by decide +kernel
theorem dX5_stores_6 : decode cX5_stores 6 = .ok (.iload_n 3, 1) := by decide +kernel
theorem dX5_stores_7 : decode cX5_stores 7 = .ok (.iconst (-1), 1) := by decide +kernel
theorem dX5_stores_8 : decode cX5_stores 8 = .ok (.if_icmp .ne 19, 3) := by decide +kernel
theorem dX5_stores_11 : decode cX5_stores 11 = .ok (.aload_n 0, 1) := by decide +kernel
theorem dX5_stores_12 : decode cX5_stores 12 = .ok (.iload_n 1, 1) := by decide +kernel
theorem dX5_stores_13 : decode cX5_stores 13 = .ok (.iconst 0, 1) := by decide +kernel
theorem dX5_stores_14 : decode cX5_stores 14 = .ok (.invokevirtual 26, 3) := by decide +kernel
theorem dX5_stores_17 : decode cX5_stores 17 = .ok (.istore_n 3, 1) := by decide +kernel
theorem dX5_stores_18 : decode cX5_stores 18 = .ok (.aload_n 0, 1) := by decide +kernel
theorem dX5_stores_19 : decode cX5_stores 19 = .ok (.iload_n 1, 1) := by decide +kernel
theorem dX5_stores_20 : decode cX5_stores 20 = .ok (.iconst 0, 1) := by decide +kernel
theorem dX5_stores_21 : decode cX5_stores 21 = .ok (.iload_n 3, 1) := by decide +kernel
theorem dX5_stores_22 : decode cX5_stores 22 = .ok (.iconst 1, 1) := by decide +kernel
theorem dX5_stores_23 : decode cX5_stores 23 = .ok (.iadd, 1) := by decide +kernel
theorem dX5_stores_24 : decode cX5_stores 24 = .ok (.invokevirtual 30, 3) := by decide +kernel
theorem dX5_stores_27 : decode cX5_stores 27 = .ok (.aload_n 0, 1) := by decide +kernel
theorem dX5_stores_28 : decode cX5_stores 28 = .ok (.iload_n 1, 1) := by decide +kernel
theorem dX5_stores_29 : decode cX5_stores 29 = .ok (.iload_n 3, 1) := by decide +kernel
theorem dX5_stores_30 : decode cX5_stores 30 = .ok (.iload_n 2, 1) := by decide +kernel
theorem dX5_stores_31 : decode cX5_stores 31 = .ok (.invokevirtual 68, 3) := by decide +kernel
theorem dX5_stores_34 : decode cX5_stores 34 = .ok (.iload_n 3, 1) := by decide +kernel
theorem dX5_stores_35 : decode cX5_stores 35 = .ok (.ireturn, 1) := by decide +kernel
theorem dX5_replaces_0 : decode cX5_replaces 0 = .ok (.aload_n 0, 1) := by decide +kernel
theorem dX5_replaces_1 : decode cX5_replaces 1 = .ok (.iload_n 1, 1) := by decide +kernel
theorem dX5_replaces_2 : decode cX5_replaces 2 = .ok (.iload_n 2, 1) := by decide +kernel
theorem dX5_replaces_3 : decode cX5_replaces 3 = .ok (.invokevirtual 54, 3) := by decide +kernel
theorem dX5_replaces_6 : decode cX5_replaces 6 = .ok (.aload_n 0, 1) := by decide +kernel
theorem dX5_replaces_7 : decode cX5_replaces 7 = .ok (.iload_n 1, 1) := by decide +kernel
theorem dX5_replaces_8 : decode cX5_replaces 8 = .ok (.iload_n 2, 1) := by decide +kernel
theorem dX5_replaces_9 : decode cX5_replaces 9 = .ok (.iload_n 3, 1) := by decide +kernel
theorem dX5_replaces_10 : decode cX5_replaces 10 = .ok (.invokevirtual 68, 3) := by decide +kernel
theorem dX5_replaces_13 : decode cX5_replaces 13 = .ok (.return_, 1) := by decide +kernel
theorem dX5_canReplace_0 : decode cX5_canReplace 0 = .ok (.iload_n 3, 1) := by decide +kernel
theorem dX5_canReplace_1 : decode cX5_canReplace 1 = .ok (.aload_n 0, 1) := by decide +kernel
theorem dX5_canReplace_2 : decode cX5_canReplace 2 = .ok (.iload_n 1, 1) := by decide +kernel
theorem dX5_canReplace_3 : decode cX5_canReplace 3 = .ok (.invokevirtual 47, 3) := by decide +kernel
theorem dX5_canReplace_6 : decode cX5_canReplace 6 = .ok (.aload_n 0, 1) := by decide +kernel
theorem dX5_canReplace_7 : decode cX5_canReplace 7 = .ok (.iload_n 1, 1) := by decide +kernel
theorem dX5_canReplace_8 : decode cX5_canReplace 8 = .ok (.iload_n 2, 1) := by decide +kernel
theorem dX5_canReplace_9 : decode cX5_canReplace 9 = .ok (.invokevirtual 34, 3) := by decide +kernel
theorem dX5_canReplace_12 : decode cX5_canReplace 12 = .ok (.iadd, 1) := by decide +kernel
theorem dX5_canReplace_13 : decode cX5_canReplace 13 = .ok (.if_icmp .gt 7, 3) := by decide +kernel
theorem dX5_canReplace_16 : decode cX5_canReplace 16 = .ok (.iconst 1, 1) := by decide +kernel
theorem dX5_canReplace_17 : decode cX5_canReplace 17 = .ok (.goto 4, 3) := by decide +kernel
theorem dX5_canReplace_20 : decode cX5_canReplace 20 = .ok (.iconst 0, 1) := by decide +kernel
theorem dX5_canReplace_21 : decode cX5_canReplace 21 = .ok (.ireturn, 1) := by decide +kernel
theorem dX5_pageFor_0 : decode cX5_pageFor 0 = .ok (.iconst 0, 1) := by decide +kernel
theorem dX5_pageFor_1 : decode cX5_pageFor 1 = .ok (.istore 4, 2) := by decide +kernel
theorem dX5_pageFor_3 : decode cX5_pageFor 3 = .ok (.iload 4, 2) := by decide +kernel
theorem dX5_pageFor_5 : decode cX5_pageFor 5 = .ok (.aload_n 0, 1) := by decide +kernel
theorem dX5_pageFor_6 : decode cX5_pageFor 6 = .ok (.getfield 7, 3) := by decide +kernel
theorem dX5_pageFor_9 : decode cX5_pageFor 9 = .ok (.iconst 0, 1) := by decide +kernel
theorem dX5_pageFor_10 : decode cX5_pageFor 10 = .ok (.iaload, 1) := by decide +kernel
theorem dX5_pageFor_11 : decode cX5_pageFor 11 = .ok (.if_icmp .ge 34, 3) := by decide +kernel
theorem dX5_pageFor_14 : decode cX5_pageFor 14 = .ok (.iload 4, 2) := by decide +kernel
theorem dX5_pageFor_16 : decode cX5_pageFor 16 = .ok (.iload_n 2, 1) := by decide +kernel
theorem dX5_pageFor_17 : decode cX5_pageFor 17 = .ok (.if_icmp .eq 22, 3) := by decide +kernel
theorem dX5_pageFor_20 : decode cX5_pageFor 20 = .ok (.iload 4, 2) := by decide +kernel
theorem dX5_pageFor_22 : decode cX5_pageFor 22 = .ok (.iload_n 3, 1) := by decide +kernel
theorem dX5_pageFor_23 : decode cX5_pageFor 23 = .ok (.if_icmp .eq 16, 3) := by decide +kernel
theorem dX5_pageFor_26 : decode cX5_pageFor 26 = .ok (.aload_n 0, 1) := by decide +kernel
theorem dX5_pageFor_27 : decode cX5_pageFor 27 = .ok (.iload 4, 2) := by decide +kernel
theorem dX5_pageFor_29 : decode cX5_pageFor 29 = .ok (.iload_n 1, 1) := by decide +kernel
theorem dX5_pageFor_30 : decode cX5_pageFor 30 = .ok (.invokevirtual 71, 3) := by decide +kernel
theorem dX5_pageFor_33 : decode cX5_pageFor 33 = .ok (.ifCond .eq 6, 3) := by decide +kernel
theorem dX5_pageFor_36 : decode cX5_pageFor 36 = .ok (.iload 4, 2) := by decide +kernel
theorem dX5_pageFor_38 : decode cX5_pageFor 38 = .ok (.ireturn, 1) := by decide +kernel
theorem dX5_pageFor_39 : decode cX5_pageFor 39 = .ok (.iinc 4 1, 3) := by decide +kernel
theorem dX5_pageFor_42 : decode cX5_pageFor 42 = .ok (.goto (-39), 3) := by decide +kernel
theorem dX5_pageFor_45 : decode cX5_pageFor 45 = .ok (.aload_n 0, 1) := by decide +kernel
theorem dX5_pageFor_46 : decode cX5_pageFor 46 = .ok (.getfield 7, 3) := by decide +kernel
theorem dX5_pageFor_49 : decode cX5_pageFor 49 = .ok (.iconst 0, 1) := by decide +kernel
theorem dX5_pageFor_50 : decode cX5_pageFor 50 = .ok (.iaload, 1) := by decide +kernel
theorem dX5_pageFor_51 : decode cX5_pageFor 51 = .ok (.bipush 8, 2) := by decide +kernel
theorem dX5_pageFor_53 : decode cX5_pageFor 53 = .ok (.if_icmp .ge 12, 3) := by decide +kernel
theorem dX5_pageFor_56 : decode cX5_pageFor 56 = .ok (.aload_n 0, 1) := by decide +kernel
theorem dX5_pageFor_57 : decode cX5_pageFor 57 = .ok (.getfield 7, 3) := by decide +kernel
theorem dX5_pageFor_60 : decode cX5_pageFor 60 = .ok (.iconst 0, 1) := by decide +kernel
theorem dX5_pageFor_61 : decode cX5_pageFor 61 = .ok (.iaload, 1) := by decide +kernel
theorem dX5_pageFor_62 : decode cX5_pageFor 62 = .ok (.goto 4, 3) := by decide +kernel
theorem dX5_pageFor_65 : decode cX5_pageFor 65 = .ok (.iconst (-1), 1) := by decide +kernel
theorem dX5_pageFor_66 : decode cX5_pageFor 66 = .ok (.ireturn, 1) := by decide +kernel
theorem dX5_opens_0 : decode cX5_opens 0 = .ok (.aload_n 0, 1) := by decide +kernel
theorem dX5_opens_1 : decode cX5_opens 1 = .ok (.getfield 7, 3) := by decide +kernel
theorem dX5_opens_4 : decode cX5_opens 4 = .ok (.iconst 0, 1) := by decide +kernel
theorem dX5_opens_5 : decode cX5_opens 5 = .ok (.dup2, 1) := by decide +kernel
theorem dX5_opens_6 : decode cX5_opens 6 = .ok (.iaload, 1) := by decide +kernel
theorem dX5_opens_7 : decode cX5_opens 7 = .ok (.iload_n 1, 1) := by decide +kernel
theorem dX5_opens_8 : decode cX5_opens 8 = .ok (.aload_n 0, 1) := by decide +kernel
theorem dX5_opens_9 : decode cX5_opens 9 = .ok (.getfield 7, 3) := by decide +kernel
theorem dX5_opens_12 : decode cX5_opens 12 = .ok (.iconst 0, 1) := by decide +kernel
theorem dX5_opens_13 : decode cX5_opens 13 = .ok (.iaload, 1) := by decide +kernel
theorem dX5_opens_14 : decode cX5_opens 14 = .ok (.if_icmp .ne 7, 3) := by decide +kernel
theorem dX5_opens_17 : decode cX5_opens 17 = .ok (.iconst 1, 1) := by decide +kernel
theorem dX5_opens_18 : decode cX5_opens 18 = .ok (.goto 4, 3) := by decide +kernel
theorem dX5_opens_21 : decode cX5_opens 21 = .ok (.iconst 0, 1) := by decide +kernel
theorem dX5_opens_22 : decode cX5_opens 22 = .ok (.iadd, 1) := by decide +kernel
theorem dX5_opens_23 : decode cX5_opens 23 = .ok (.iastore, 1) := by decide +kernel
theorem dX5_opens_24 : decode cX5_opens 24 = .ok (.return_, 1) := by decide +kernel
theorem dX5_kindAt_0 : decode cX5_kindAt 0 = .ok (.iload_n 1, 1) := by decide +kernel
theorem dX5_kindAt_1 : decode cX5_kindAt 1 = .ok (.ifCond .lt 51, 3) := by decide +kernel
theorem dX5_kindAt_4 : decode cX5_kindAt 4 = .ok (.iload_n 1, 1) := by decide +kernel
theorem dX5_kindAt_5 : decode cX5_kindAt 5 = .ok (.bipush 100, 2) := by decide +kernel
theorem dX5_kindAt_7 : decode cX5_kindAt 7 = .ok (.idiv, 1) := by decide +kernel
theorem dX5_kindAt_8 : decode cX5_kindAt 8 = .ok (.aload_n 0, 1) := by decide +kernel
theorem dX5_kindAt_9 : decode cX5_kindAt 9 = .ok (.getfield 7, 3) := by decide +kernel
theorem dX5_kindAt_12 : decode cX5_kindAt 12 = .ok (.iconst 0, 1) := by decide +kernel
theorem dX5_kindAt_13 : decode cX5_kindAt 13 = .ok (.iaload, 1) := by decide +kernel
theorem dX5_kindAt_14 : decode cX5_kindAt 14 = .ok (.if_icmp .ge 38, 3) := by decide +kernel
theorem dX5_kindAt_17 : decode cX5_kindAt 17 = .ok (.iload_n 1, 1) := by decide +kernel
theorem dX5_kindAt_18 : decode cX5_kindAt 18 = .ok (.bipush 100, 2) := by decide +kernel
theorem dX5_kindAt_20 : decode cX5_kindAt 20 = .ok (.irem, 1) := by decide +kernel
theorem dX5_kindAt_21 : decode cX5_kindAt 21 = .ok (.aload_n 0, 1) := by decide +kernel
theorem dX5_kindAt_22 : decode cX5_kindAt 22 = .ok (.iload_n 1, 1) := by decide +kernel
theorem dX5_kindAt_23 : decode cX5_kindAt 23 = .ok (.bipush 100, 2) := by decide +kernel
theorem dX5_kindAt_25 : decode cX5_kindAt 25 = .ok (.idiv, 1) := by decide +kernel
theorem dX5_kindAt_26 : decode cX5_kindAt 26 = .ok (.iconst 0, 1) := by decide +kernel
theorem dX5_kindAt_27 : decode cX5_kindAt 27 = .ok (.invokevirtual 26, 3) := by decide +kernel
theorem dX5_kindAt_30 : decode cX5_kindAt 30 = .ok (.if_icmp .ge 22, 3) := by decide +kernel
theorem dX5_kindAt_33 : decode cX5_kindAt 33 = .ok (.aload_n 0, 1) := by decide +kernel
theorem dX5_kindAt_34 : decode cX5_kindAt 34 = .ok (.iload_n 1, 1) := by decide +kernel
theorem dX5_kindAt_35 : decode cX5_kindAt 35 = .ok (.bipush 100, 2) := by decide +kernel
theorem dX5_kindAt_37 : decode cX5_kindAt 37 = .ok (.idiv, 1) := by decide +kernel
theorem dX5_kindAt_38 : decode cX5_kindAt 38 = .ok (.iload_n 1, 1) := by decide +kernel
theorem dX5_kindAt_39 : decode cX5_kindAt 39 = .ok (.bipush 100, 2) := by decide +kernel
theorem dX5_kindAt_41 : decode cX5_kindAt 41 = .ok (.irem, 1) := by decide +kernel
theorem dX5_kindAt_42 : decode cX5_kindAt 42 = .ok (.invokevirtual 34, 3) := by decide +kernel
theorem dX5_kindAt_45 : decode cX5_kindAt 45 = .ok (.ifCond .le 7, 3) := by decide +kernel
theorem dX5_kindAt_48 : decode cX5_kindAt 48 = .ok (.iconst 1, 1) := by decide +kernel
theorem dX5_kindAt_49 : decode cX5_kindAt 49 = .ok (.goto 4, 3) := by decide +kernel
theorem dX5_kindAt_52 : decode cX5_kindAt 52 = .ok (.iconst 0, 1) := by decide +kernel
theorem dX5_kindAt_53 : decode cX5_kindAt 53 = .ok (.istore_n 2, 1) := by decide +kernel
theorem dX5_kindAt_54 : decode cX5_kindAt 54 = .ok (.iload_n 2, 1) := by decide +kernel
theorem dX5_kindAt_55 : decode cX5_kindAt 55 = .ok (.ifCond .ne 5, 3) := by decide +kernel
theorem dX5_kindAt_58 : decode cX5_kindAt 58 = .ok (.iconst 0, 1) := by decide +kernel
theorem dX5_kindAt_59 : decode cX5_kindAt 59 = .ok (.ireturn, 1) := by decide +kernel
theorem dX5_kindAt_60 : decode cX5_kindAt 60 = .ok (.aload_n 0, 1) := by decide +kernel
theorem dX5_kindAt_61 : decode cX5_kindAt 61 = .ok (.iload_n 1, 1) := by decide +kernel
theorem dX5_kindAt_62 : decode cX5_kindAt 62 = .ok (.bipush 100, 2) := by decide +kernel
theorem dX5_kindAt_64 : decode cX5_kindAt 64 = .ok (.idiv, 1) := by decide +kernel
theorem dX5_kindAt_65 : decode cX5_kindAt 65 = .ok (.iload_n 1, 1) := by decide +kernel
theorem dX5_kindAt_66 : decode cX5_kindAt 66 = .ok (.bipush 100, 2) := by decide +kernel
theorem dX5_kindAt_68 : decode cX5_kindAt 68 = .ok (.irem, 1) := by decide +kernel
theorem dX5_kindAt_69 : decode cX5_kindAt 69 = .ok (.iconst 0, 1) := by decide +kernel
theorem dX5_kindAt_70 : decode cX5_kindAt 70 = .ok (.invokevirtual 58, 3) := by decide +kernel
theorem dX5_kindAt_73 : decode cX5_kindAt 73 = .ok (.istore_n 3, 1) := by decide +kernel
theorem dX5_kindAt_74 : decode cX5_kindAt 74 = .ok (.iload_n 3, 1) := by decide +kernel
theorem dX5_kindAt_75 : decode cX5_kindAt 75 = .ok (.iconst 2, 1) := by decide +kernel
theorem dX5_kindAt_76 : decode cX5_kindAt 76 = .ok (.if_icmp .eq 8, 3) := by decide +kernel
theorem dX5_kindAt_79 : decode cX5_kindAt 79 = .ok (.iload_n 3, 1) := by decide +kernel
theorem dX5_kindAt_80 : decode cX5_kindAt 80 = .ok (.iconst 3, 1) := by decide +kernel
theorem dX5_kindAt_81 : decode cX5_kindAt 81 = .ok (.if_icmp .ne 7, 3) := by decide +kernel
theorem dX5_kindAt_84 : decode cX5_kindAt 84 = .ok (.iload_n 3, 1) := by decide +kernel
theorem dX5_kindAt_85 : decode cX5_kindAt 85 = .ok (.goto 4, 3) := by decide +kernel
theorem dX5_kindAt_88 : decode cX5_kindAt 88 = .ok (.iconst 1, 1) := by decide +kernel
theorem dX5_kindAt_89 : decode cX5_kindAt 89 = .ok (.ireturn, 1) := by decide +kernel
theorem dX5_isIdentifier_0 : decode cX5_isIdentifier 0 = .ok (.aload_n 0, 1) := by decide +kernel
theorem dX5_isIdentifier_1 : decode cX5_isIdentifier 1 = .ok (.iload_n 1, 1) := by decide +kernel
theorem dX5_isIdentifier_2 : decode cX5_isIdentifier 2 = .ok (.invokevirtual 75, 3) := by decide +kernel
theorem dX5_isIdentifier_5 : decode cX5_isIdentifier 5 = .ok (.iconst 1, 1) := by decide +kernel
theorem dX5_isIdentifier_6 : decode cX5_isIdentifier 6 = .ok (.iconst 2, 1) := by decide +kernel
theorem dX5_isIdentifier_7 : decode cX5_isIdentifier 7 = .ok (.invokestatic 78, 3) := by decide +kernel
theorem dX5_isIdentifier_10 : decode cX5_isIdentifier 10 = .ok (.ireturn, 1) := by decide +kernel
theorem dX5_placed_0 : decode cX5_placed 0 = .ok (.aload_n 0, 1) := by decide +kernel
theorem dX5_placed_1 : decode cX5_placed 1 = .ok (.iload_n 1, 1) := by decide +kernel
theorem dX5_placed_2 : decode cX5_placed 2 = .ok (.invokevirtual 75, 3) := by decide +kernel
theorem dX5_placed_5 : decode cX5_placed 5 = .ok (.iconst 1, 1) := by decide +kernel
theorem dX5_placed_6 : decode cX5_placed 6 = .ok (.if_icmp .ne 7, 3) := by decide +kernel
theorem dX5_placed_9 : decode cX5_placed 9 = .ok (.iload_n 1, 1) := by decide +kernel
theorem dX5_placed_10 : decode cX5_placed 10 = .ok (.goto 33, 3) := by decide +kernel
theorem dX5_placed_13 : decode cX5_placed 13 = .ok (.bipush 100, 2) := by decide +kernel
theorem dX5_placed_15 : decode cX5_placed 15 = .ok (.aload_n 0, 1) := by decide +kernel
theorem dX5_placed_16 : decode cX5_placed 16 = .ok (.iload_n 1, 1) := by decide +kernel
theorem dX5_placed_17 : decode cX5_placed 17 = .ok (.bipush 100, 2) := by decide +kernel
theorem dX5_placed_19 : decode cX5_placed 19 = .ok (.idiv, 1) := by decide +kernel
theorem dX5_placed_20 : decode cX5_placed 20 = .ok (.iload_n 1, 1) := by decide +kernel
theorem dX5_placed_21 : decode cX5_placed 21 = .ok (.bipush 100, 2) := by decide +kernel
theorem dX5_placed_23 : decode cX5_placed 23 = .ok (.irem, 1) := by decide +kernel
theorem dX5_placed_24 : decode cX5_placed 24 = .ok (.iconst 1, 1) := by decide +kernel
theorem dX5_placed_25 : decode cX5_placed 25 = .ok (.invokevirtual 58, 3) := by decide +kernel
theorem dX5_placed_28 : decode cX5_placed 28 = .ok (.imul, 1) := by decide +kernel
theorem dX5_placed_29 : decode cX5_placed 29 = .ok (.aload_n 0, 1) := by decide +kernel
theorem dX5_placed_30 : decode cX5_placed 30 = .ok (.iload_n 1, 1) := by decide +kernel
theorem dX5_placed_31 : decode cX5_placed 31 = .ok (.bipush 100, 2) := by decide +kernel
theorem dX5_placed_33 : decode cX5_placed 33 = .ok (.idiv, 1) := by decide +kernel
theorem dX5_placed_34 : decode cX5_placed 34 = .ok (.iload_n 1, 1) := by decide +kernel
theorem dX5_placed_35 : decode cX5_placed 35 = .ok (.bipush 100, 2) := by decide +kernel
theorem dX5_placed_37 : decode cX5_placed 37 = .ok (.irem, 1) := by decide +kernel
theorem dX5_placed_38 : decode cX5_placed 38 = .ok (.iconst 2, 1) := by decide +kernel
theorem dX5_placed_39 : decode cX5_placed 39 = .ok (.invokevirtual 58, 3) := by decide +kernel
theorem dX5_placed_42 : decode cX5_placed 42 = .ok (.iadd, 1) := by decide +kernel
theorem dX5_placed_43 : decode cX5_placed 43 = .ok (.ireturn, 1) := by decide +kernel
theorem dX5_homeSize_0 : decode cX5_homeSize 0 = .ok (.iload_n 0, 1) := by decide +kernel
theorem dX5_homeSize_1 : decode cX5_homeSize 1 = .ok (.iconst 2, 1) := by decide +kernel
theorem dX5_homeSize_2 : decode cX5_homeSize 2 = .ok (.if_icmp .ge 7, 3) := by decide +kernel
theorem dX5_homeSize_5 : decode cX5_homeSize 5 = .ok (.iconst 3, 1) := by decide +kernel
theorem dX5_homeSize_6 : decode cX5_homeSize 6 = .ok (.goto 6, 3) := by decide +kernel
theorem dX5_homeSize_9 : decode cX5_homeSize 9 = .ok (.iload_n 0, 1) := by decide +kernel
theorem dX5_homeSize_10 : decode cX5_homeSize 10 = .ok (.iconst 1, 1) := by decide +kernel
theorem dX5_homeSize_11 : decode cX5_homeSize 11 = .ok (.iadd, 1) := by decide +kernel
theorem dX5_homeSize_12 : decode cX5_homeSize 12 = .ok (.ireturn, 1) := by decide +kernel
theorem dX5_lengthOf_0 : decode cX5_lengthOf 0 = .ok (.aload_n 0, 1) := by decide +kernel
theorem dX5_lengthOf_1 : decode cX5_lengthOf 1 = .ok (.iload_n 1, 1) := by decide +kernel
theorem dX5_lengthOf_2 : decode cX5_lengthOf 2 = .ok (.invokevirtual 82, 3) := by decide +kernel
theorem dX5_lengthOf_5 : decode cX5_lengthOf 5 = .ok (.istore_n 2, 1) := by decide +kernel
theorem dX5_lengthOf_6 : decode cX5_lengthOf 6 = .ok (.aload_n 0, 1) := by decide +kernel
theorem dX5_lengthOf_7 : decode cX5_lengthOf 7 = .ok (.iload_n 2, 1) := by decide +kernel
theorem dX5_lengthOf_8 : decode cX5_lengthOf 8 = .ok (.bipush 100, 2) := by decide +kernel
theorem dX5_lengthOf_10 : decode cX5_lengthOf 10 = .ok (.idiv, 1) := by decide +kernel
theorem dX5_lengthOf_11 : decode cX5_lengthOf 11 = .ok (.iload_n 2, 1) := by decide +kernel
theorem dX5_lengthOf_12 : decode cX5_lengthOf 12 = .ok (.bipush 100, 2) := by decide +kernel
theorem dX5_lengthOf_14 : decode cX5_lengthOf 14 = .ok (.irem, 1) := by decide +kernel
theorem dX5_lengthOf_15 : decode cX5_lengthOf 15 = .ok (.invokevirtual 34, 3) := by decide +kernel
theorem dX5_lengthOf_18 : decode cX5_lengthOf 18 = .ok (.istore_n 3, 1) := by decide +kernel
theorem dX5_lengthOf_19 : decode cX5_lengthOf 19 = .ok (.aload_n 0, 1) := by decide +kernel
theorem dX5_lengthOf_20 : decode cX5_lengthOf 20 = .ok (.iload_n 1, 1) := by decide +kernel
theorem dX5_lengthOf_21 : decode cX5_lengthOf 21 = .ok (.invokevirtual 75, 3) := by decide +kernel
theorem dX5_lengthOf_24 : decode cX5_lengthOf 24 = .ok (.iconst 2, 1) := by decide +kernel
theorem dX5_lengthOf_25 : decode cX5_lengthOf 25 = .ok (.if_icmp .ne 7, 3) := by decide +kernel
theorem dX5_lengthOf_28 : decode cX5_lengthOf 28 = .ok (.iload_n 3, 1) := by decide +kernel
theorem dX5_lengthOf_29 : decode cX5_lengthOf 29 = .ok (.iconst 3, 1) := by decide +kernel
theorem dX5_lengthOf_30 : decode cX5_lengthOf 30 = .ok (.isub, 1) := by decide +kernel
theorem dX5_lengthOf_31 : decode cX5_lengthOf 31 = .ok (.ireturn, 1) := by decide +kernel
theorem dX5_lengthOf_32 : decode cX5_lengthOf 32 = .ok (.aload_n 0, 1) := by decide +kernel
theorem dX5_lengthOf_33 : decode cX5_lengthOf 33 = .ok (.iload_n 2, 1) := by decide +kernel
theorem dX5_lengthOf_34 : decode cX5_lengthOf 34 = .ok (.bipush 100, 2) := by decide +kernel
theorem dX5_lengthOf_36 : decode cX5_lengthOf 36 = .ok (.idiv, 1) := by decide +kernel
theorem dX5_lengthOf_37 : decode cX5_lengthOf 37 = .ok (.iload_n 2, 1) := by decide +kernel
theorem dX5_lengthOf_38 : decode cX5_lengthOf 38 = .ok (.bipush 100, 2) := by decide +kernel
theorem dX5_lengthOf_40 : decode cX5_lengthOf 40 = .ok (.irem, 1) := by decide +kernel
theorem dX5_lengthOf_41 : decode cX5_lengthOf 41 = .ok (.iconst 0, 1) := by decide +kernel
