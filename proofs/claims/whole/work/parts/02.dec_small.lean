theorem dX0_init_0 : decode cX0_init 0 = .ok (.aload_n 0, 1) := by decide +kernel
theorem dX0_init_1 : decode cX0_init 1 = .ok (.invokespecial 3, 3) := by decide +kernel
theorem dX0_init_4 : decode cX0_init 4 = .ok (.aload_n 0, 1) := by decide +kernel
theorem dX0_init_5 : decode cX0_init 5 = .ok (.iconst 5, 1) := by decide +kernel
theorem dX0_init_6 : decode cX0_init 6 = .ok (.newarray .int, 2) := by decide +kernel
theorem dX0_init_8 : decode cX0_init 8 = .ok (.putfield 9, 3) := by decide +kernel
theorem dX0_init_11 : decode cX0_init 11 = .ok (.aload_n 0, 1) := by decide +kernel
theorem dX0_init_12 : decode cX0_init 12 = .ok (.iconst 5, 1) := by decide +kernel
theorem dX0_init_13 : decode cX0_init 13 = .ok (.newarray .int, 2) := by decide +kernel
theorem dX0_init_15 : decode cX0_init 15 = .ok (.putfield 15, 3) := by decide +kernel
theorem dX0_init_18 : decode cX0_init 18 = .ok (.aload_n 0, 1) := by decide +kernel
theorem dX0_init_19 : decode cX0_init 19 = .ok (.iconst 5, 1) := by decide +kernel
theorem dX0_init_20 : decode cX0_init 20 = .ok (.newarray .int, 2) := by decide +kernel
theorem dX0_init_22 : decode cX0_init 22 = .ok (.putfield 18, 3) := by decide +kernel
theorem dX0_init_25 : decode cX0_init 25 = .ok (.aload_n 0, 1) := by decide +kernel
theorem dX0_init_26 : decode cX0_init 26 = .ok (.aload_n 1, 1) := by decide +kernel
theorem dX0_init_27 : decode cX0_init 27 = .ok (.putfield 21, 3) := by decide +kernel
theorem dX0_init_30 : decode cX0_init 30 = .ok (.return_, 1) := by decide +kernel
theorem dX0_clear_0 : decode cX0_clear 0 = .ok (.aload_n 0, 1) := by decide +kernel
theorem dX0_clear_1 : decode cX0_clear 1 = .ok (.iconst 0, 1) := by decide +kernel
theorem dX0_clear_2 : decode cX0_clear 2 = .ok (.putfield 25, 3) := by decide +kernel
theorem dX0_clear_5 : decode cX0_clear 5 = .ok (.aload_n 0, 1) := by decide +kernel
theorem dX0_clear_6 : decode cX0_clear 6 = .ok (.lconst 0, 1) := by decide +kernel
theorem dX0_clear_7 : decode cX0_clear 7 = .ok (.putfield 29, 3) := by decide +kernel
theorem dX0_clear_10 : decode cX0_clear 10 = .ok (.aload_n 0, 1) := by decide +kernel
theorem dX0_clear_11 : decode cX0_clear 11 = .ok (.iconst 0, 1) := by decide +kernel
theorem dX0_clear_12 : decode cX0_clear 12 = .ok (.putfield 33, 3) := by decide +kernel
theorem dX0_clear_15 : decode cX0_clear 15 = .ok (.aload_n 0, 1) := by decide +kernel
theorem dX0_clear_16 : decode cX0_clear 16 = .ok (.iconst 0, 1) := by decide +kernel
theorem dX0_clear_17 : decode cX0_clear 17 = .ok (.putfield 36, 3) := by decide +kernel
theorem dX0_clear_20 : decode cX0_clear 20 = .ok (.return_, 1) := by decide +kernel
theorem dX0_become_0 : decode cX0_become 0 = .ok (.aload_n 1, 1) := by decide +kernel
theorem dX0_become_1 : decode cX0_become 1 = .ok (.getfield 9, 3) := by decide +kernel
theorem dX0_become_4 : decode cX0_become 4 = .ok (.iconst 0, 1) := by decide +kernel
theorem dX0_become_5 : decode cX0_become 5 = .ok (.aload_n 0, 1) := by decide +kernel
theorem dX0_become_6 : decode cX0_become 6 = .ok (.getfield 9, 3) := by decide +kernel
theorem dX0_become_9 : decode cX0_become 9 = .ok (.iconst 0, 1) := by decide +kernel
theorem dX0_become_10 : decode cX0_become 10 = .ok (.iconst 5, 1) := by decide +kernel
theorem dX0_become_11 : decode cX0_become 11 = .ok (.invokestatic 39, 3) := by decide +kernel
theorem dX0_become_14 : decode cX0_become 14 = .ok (.aload_n 1, 1) := by decide +kernel
theorem dX0_become_15 : decode cX0_become 15 = .ok (.getfield 15, 3) := by decide +kernel
theorem dX0_become_18 : decode cX0_become 18 = .ok (.iconst 0, 1) := by decide +kernel
theorem dX0_become_19 : decode cX0_become 19 = .ok (.aload_n 0, 1) := by decide +kernel
theorem dX0_become_20 : decode cX0_become 20 = .ok (.getfield 15, 3) := by decide +kernel
theorem dX0_become_23 : decode cX0_become 23 = .ok (.iconst 0, 1) := by decide +kernel
theorem dX0_become_24 : decode cX0_become 24 = .ok (.iconst 5, 1) := by decide +kernel
theorem dX0_become_25 : decode cX0_become 25 = .ok (.invokestatic 39, 3) := by decide +kernel
theorem dX0_become_28 : decode cX0_become 28 = .ok (.aload_n 1, 1) := by decide +kernel
theorem dX0_become_29 : decode cX0_become 29 = .ok (.getfield 18, 3) := by decide +kernel
theorem dX0_become_32 : decode cX0_become 32 = .ok (.iconst 0, 1) := by decide +kernel
theorem dX0_become_33 : decode cX0_become 33 = .ok (.aload_n 0, 1) := by decide +kernel
theorem dX0_become_34 : decode cX0_become 34 = .ok (.getfield 18, 3) := by decide +kernel
theorem dX0_become_37 : decode cX0_become 37 = .ok (.iconst 0, 1) := by decide +kernel
theorem dX0_become_38 : decode cX0_become 38 = .ok (.iconst 5, 1) := by decide +kernel
theorem dX0_become_39 : decode cX0_become 39 = .ok (.invokestatic 39, 3) := by decide +kernel
theorem dX0_become_42 : decode cX0_become 42 = .ok (.aload_n 0, 1) := by decide +kernel
theorem dX0_become_43 : decode cX0_become 43 = .ok (.aload_n 1, 1) := by decide +kernel
theorem dX0_become_44 : decode cX0_become 44 = .ok (.getfield 25, 3) := by decide +kernel
theorem dX0_become_47 : decode cX0_become 47 = .ok (.putfield 25, 3) := by decide +kernel
theorem dX0_become_50 : decode cX0_become 50 = .ok (.aload_n 0, 1) := by decide +kernel
theorem dX0_become_51 : decode cX0_become 51 = .ok (.aload_n 1, 1) := by decide +kernel
theorem dX0_become_52 : decode cX0_become 52 = .ok (.getfield 29, 3) := by decide +kernel
theorem dX0_become_55 : decode cX0_become 55 = .ok (.putfield 29, 3) := by decide +kernel
theorem dX0_become_58 : decode cX0_become 58 = .ok (.aload_n 0, 1) := by decide +kernel
theorem dX0_become_59 : decode cX0_become 59 = .ok (.aload_n 1, 1) := by decide +kernel
theorem dX0_become_60 : decode cX0_become 60 = .ok (.getfield 33, 3) := by decide +kernel
theorem dX0_become_63 : decode cX0_become 63 = .ok (.putfield 33, 3) := by decide +kernel
theorem dX0_become_66 : decode cX0_become 66 = .ok (.aload_n 0, 1) := by decide +kernel
theorem dX0_become_67 : decode cX0_become 67 = .ok (.aload_n 1, 1) := by decide +kernel
theorem dX0_become_68 : decode cX0_become 68 = .ok (.getfield 36, 3) := by decide +kernel
theorem dX0_become_71 : decode cX0_become 71 = .ok (.putfield 36, 3) := by decide +kernel
theorem dX0_become_74 : decode cX0_become 74 = .ok (.return_, 1) := by decide +kernel
theorem dX0_has_0 : decode cX0_has 0 = .ok (.iload_n 1, 1) := by decide +kernel
theorem dX0_has_1 : decode cX0_has 1 = .ok (.iconst 0, 1) := by decide +kernel
theorem dX0_has_2 : decode cX0_has 2 = .ok (.aload_n 0, 1) := by decide +kernel
theorem dX0_has_3 : decode cX0_has 3 = .ok (.getfield 25, 3) := by decide +kernel
theorem dX0_has_6 : decode cX0_has 6 = .ok (.iconst 1, 1) := by decide +kernel
theorem dX0_has_7 : decode cX0_has 7 = .ok (.isub, 1) := by decide +kernel
theorem dX0_has_8 : decode cX0_has 8 = .ok (.invokestatic 45, 3) := by decide +kernel
theorem dX0_has_11 : decode cX0_has 11 = .ok (.ireturn, 1) := by decide +kernel
theorem dX0_kindOf_0 : decode cX0_kindOf 0 = .ok (.iload_n 1, 1) := by decide +kernel
theorem dX0_kindOf_1 : decode cX0_kindOf 1 = .ok (.ifCond .lt 17, 3) := by decide +kernel
theorem dX0_kindOf_4 : decode cX0_kindOf 4 = .ok (.iload_n 1, 1) := by decide +kernel
theorem dX0_kindOf_5 : decode cX0_kindOf 5 = .ok (.iconst 5, 1) := by decide +kernel
theorem dX0_kindOf_6 : decode cX0_kindOf 6 = .ok (.if_icmp .ge 12, 3) := by decide +kernel
theorem dX0_kindOf_9 : decode cX0_kindOf 9 = .ok (.aload_n 0, 1) := by decide +kernel
theorem dX0_kindOf_10 : decode cX0_kindOf 10 = .ok (.getfield 9, 3) := by decide +kernel
theorem dX0_kindOf_13 : decode cX0_kindOf 13 = .ok (.iload_n 1, 1) := by decide +kernel
theorem dX0_kindOf_14 : decode cX0_kindOf 14 = .ok (.iaload, 1) := by decide +kernel
theorem dX0_kindOf_15 : decode cX0_kindOf 15 = .ok (.goto 4, 3) := by decide +kernel
theorem dX0_kindOf_18 : decode cX0_kindOf 18 = .ok (.iconst 0, 1) := by decide +kernel
theorem dX0_kindOf_19 : decode cX0_kindOf 19 = .ok (.ireturn, 1) := by decide +kernel
theorem dX0_targetOf_0 : decode cX0_targetOf 0 = .ok (.iload_n 1, 1) := by decide +kernel
theorem dX0_targetOf_1 : decode cX0_targetOf 1 = .ok (.ifCond .lt 17, 3) := by decide +kernel
theorem dX0_targetOf_4 : decode cX0_targetOf 4 = .ok (.iload_n 1, 1) := by decide +kernel
theorem dX0_targetOf_5 : decode cX0_targetOf 5 = .ok (.iconst 5, 1) := by decide +kernel
theorem dX0_targetOf_6 : decode cX0_targetOf 6 = .ok (.if_icmp .ge 12, 3) := by decide +kernel
theorem dX0_targetOf_9 : decode cX0_targetOf 9 = .ok (.aload_n 0, 1) := by decide +kernel
theorem dX0_targetOf_10 : decode cX0_targetOf 10 = .ok (.getfield 15, 3) := by decide +kernel
theorem dX0_targetOf_13 : decode cX0_targetOf 13 = .ok (.iload_n 1, 1) := by decide +kernel
theorem dX0_targetOf_14 : decode cX0_targetOf 14 = .ok (.iaload, 1) := by decide +kernel
theorem dX0_targetOf_15 : decode cX0_targetOf 15 = .ok (.goto 4, 3) := by decide +kernel
theorem dX0_targetOf_18 : decode cX0_targetOf 18 = .ok (.iconst (-1), 1) := by decide +kernel
theorem dX0_targetOf_19 : decode cX0_targetOf 19 = .ok (.ireturn, 1) := by decide +kernel
theorem dX0_toldOf_0 : decode cX0_toldOf 0 = .ok (.iload_n 1, 1) := by decide +kernel
theorem dX0_toldOf_1 : decode cX0_toldOf 1 = .ok (.ifCond .lt 17, 3) := by decide +kernel
theorem dX0_toldOf_4 : decode cX0_toldOf 4 = .ok (.iload_n 1, 1) := by decide +kernel
theorem dX0_toldOf_5 : decode cX0_toldOf 5 = .ok (.iconst 5, 1) := by decide +kernel
theorem dX0_toldOf_6 : decode cX0_toldOf 6 = .ok (.if_icmp .ge 12, 3) := by decide +kernel
theorem dX0_toldOf_9 : decode cX0_toldOf 9 = .ok (.aload_n 0, 1) := by decide +kernel
theorem dX0_toldOf_10 : decode cX0_toldOf 10 = .ok (.getfield 18, 3) := by decide +kernel
theorem dX0_toldOf_13 : decode cX0_toldOf 13 = .ok (.iload_n 1, 1) := by decide +kernel
theorem dX0_toldOf_14 : decode cX0_toldOf 14 = .ok (.iaload, 1) := by decide +kernel
theorem dX0_toldOf_15 : decode cX0_toldOf 15 = .ok (.goto 4, 3) := by decide +kernel
theorem dX0_toldOf_18 : decode cX0_toldOf 18 = .ok (.iconst (-1), 1) := by decide +kernel
theorem dX0_toldOf_19 : decode cX0_toldOf 19 = .ok (.ireturn, 1) := by decide +kernel
theorem dX0_add_0 : decode cX0_add 0 = .ok (.aload_n 0, 1) := by decide +kernel
theorem dX0_add_1 : decode cX0_add 1 = .ok (.getfield 25, 3) := by decide +kernel
theorem dX0_add_4 : decode cX0_add 4 = .ok (.istore_n 3, 1) := by decide +kernel
theorem dX0_add_5 : decode cX0_add 5 = .ok (.iload_n 3, 1) := by decide +kernel
theorem dX0_add_6 : decode cX0_add 6 = .ok (.ifCond .lt 45, 3) := by decide +kernel
theorem dX0_add_9 : decode cX0_add 9 = .ok (.iload_n 3, 1) := by decide +kernel
theorem dX0_add_10 : decode cX0_add 10 = .ok (.iconst 5, 1) := by decide +kernel
theorem dX0_add_11 : decode cX0_add 11 = .ok (.if_icmp .ge 40, 3) := by decide +kernel
theorem dX0_add_14 : decode cX0_add 14 = .ok (.aload_n 0, 1) := by decide +kernel
theorem dX0_add_15 : decode cX0_add 15 = .ok (.getfield 9, 3) := by decide +kernel
theorem dX0_add_18 : decode cX0_add 18 = .ok (.iload_n 3, 1) := by decide +kernel
theorem dX0_add_19 : decode cX0_add 19 = .ok (.iload_n 1, 1) := by decide +kernel
theorem dX0_add_20 : decode cX0_add 20 = .ok (.iastore, 1) := by decide +kernel
theorem dX0_add_21 : decode cX0_add 21 = .ok (.aload_n 0, 1) := by decide +kernel
theorem dX0_add_22 : decode cX0_add 22 = .ok (.getfield 15, 3) := by decide +kernel
theorem dX0_add_25 : decode cX0_add 25 = .ok (.iload_n 3, 1) := by decide +kernel
theorem dX0_add_26 : decode cX0_add 26 = .ok (.iconst (-1), 1) := by decide +kernel
theorem dX0_add_27 : decode cX0_add 27 = .ok (.iastore, 1) := by decide +kernel
theorem dX0_add_28 : decode cX0_add 28 = .ok (.aload_n 0, 1) := by decide +kernel
theorem dX0_add_29 : decode cX0_add 29 = .ok (.aload_n 0, 1) := by decide +kernel
theorem dX0_add_30 : decode cX0_add 30 = .ok (.getfield 29, 3) := by decide +kernel
theorem dX0_add_33 : decode cX0_add 33 = .ok (.iload_n 3, 1) := by decide +kernel
theorem dX0_add_34 : decode cX0_add 34 = .ok (.iload_n 2, 1) := by decide +kernel
theorem dX0_add_35 : decode cX0_add 35 = .ok (.invokestatic 51, 3) := by decide +kernel
theorem dX0_add_38 : decode cX0_add 38 = .ok (.putfield 29, 3) := by decide +kernel
theorem dX0_add_41 : decode cX0_add 41 = .ok (.aload_n 0, 1) := by decide +kernel
theorem dX0_add_42 : decode cX0_add 42 = .ok (.dup, 1) := by decide +kernel
theorem dX0_add_43 : decode cX0_add 43 = .ok (.getfield 25, 3) := by decide +kernel
theorem dX0_add_46 : decode cX0_add 46 = .ok (.iconst 1, 1) := by decide +kernel
theorem dX0_add_47 : decode cX0_add 47 = .ok (.iadd, 1) := by decide +kernel
theorem dX0_add_48 : decode cX0_add 48 = .ok (.putfield 25, 3) := by decide +kernel
theorem dX0_add_51 : decode cX0_add 51 = .ok (.iload_n 3, 1) := by decide +kernel
theorem dX0_add_52 : decode cX0_add 52 = .ok (.ireturn, 1) := by decide +kernel
theorem dX0_retarget_0 : decode cX0_retarget 0 = .ok (.aload_n 0, 1) := by decide +kernel
theorem dX0_retarget_1 : decode cX0_retarget 1 = .ok (.iload_n 1, 1) := by decide +kernel
theorem dX0_retarget_2 : decode cX0_retarget 2 = .ok (.invokevirtual 57, 3) := by decide +kernel
theorem dX0_retarget_5 : decode cX0_retarget 5 = .ok (.istore_n 3, 1) := by decide +kernel
theorem dX0_retarget_6 : decode cX0_retarget 6 = .ok (.iload_n 1, 1) := by decide +kernel
theorem dX0_retarget_7 : decode cX0_retarget 7 = .ok (.ifCond .lt 15, 3) := by decide +kernel
theorem dX0_retarget_10 : decode cX0_retarget 10 = .ok (.iload_n 1, 1) := by decide +kernel
theorem dX0_retarget_11 : decode cX0_retarget 11 = .ok (.iconst 5, 1) := by decide +kernel
theorem dX0_retarget_12 : decode cX0_retarget 12 = .ok (.if_icmp .ge 10, 3) := by decide +kernel
theorem dX0_retarget_15 : decode cX0_retarget 15 = .ok (.aload_n 0, 1) := by decide +kernel
theorem dX0_retarget_16 : decode cX0_retarget 16 = .ok (.getfield 15, 3) := by decide +kernel
theorem dX0_retarget_19 : decode cX0_retarget 19 = .ok (.iload_n 1, 1) := by decide +kernel
theorem dX0_retarget_20 : decode cX0_retarget 20 = .ok (.iload_n 2, 1) := by decide +kernel
theorem dX0_retarget_21 : decode cX0_retarget 21 = .ok (.iastore, 1) := by decide +kernel
theorem dX0_retarget_22 : decode cX0_retarget 22 = .ok (.iload_n 3, 1) := by decide +kernel
theorem dX0_retarget_23 : decode cX0_retarget 23 = .ok (.ireturn, 1) := by decide +kernel
theorem dX0_addAshes_0 : decode cX0_addAshes 0 = .ok (.aload_n 0, 1) := by decide +kernel
theorem dX0_addAshes_1 : decode cX0_addAshes 1 = .ok (.getfield 36, 3) := by decide +kernel
theorem dX0_addAshes_4 : decode cX0_addAshes 4 = .ok (.ifCond .lt 31, 3) := by decide +kernel
theorem dX0_addAshes_7 : decode cX0_addAshes 7 = .ok (.aload_n 0, 1) := by decide +kernel
theorem dX0_addAshes_8 : decode cX0_addAshes 8 = .ok (.getfield 36, 3) := by decide +kernel
theorem dX0_addAshes_11 : decode cX0_addAshes 11 = .ok (.iconst 5, 1) := by decide +kernel
theorem dX0_addAshes_12 : decode cX0_addAshes 12 = .ok (.if_icmp .ge 23, 3) := by decide +kernel
theorem dX0_addAshes_15 : decode cX0_addAshes 15 = .ok (.aload_n 0, 1) := by decide +kernel
theorem dX0_addAshes_16 : decode cX0_addAshes 16 = .ok (.getfield 18, 3) := by decide +kernel
theorem dX0_addAshes_19 : decode cX0_addAshes 19 = .ok (.aload_n 0, 1) := by decide +kernel
theorem dX0_addAshes_20 : decode cX0_addAshes 20 = .ok (.getfield 36, 3) := by decide +kernel
theorem dX0_addAshes_23 : decode cX0_addAshes 23 = .ok (.iload_n 1, 1) := by decide +kernel
theorem dX0_addAshes_24 : decode cX0_addAshes 24 = .ok (.iastore, 1) := by decide +kernel
theorem dX0_addAshes_25 : decode cX0_addAshes 25 = .ok (.aload_n 0, 1) := by decide +kernel
theorem dX0_addAshes_26 : decode cX0_addAshes 26 = .ok (.dup, 1) := by decide +kernel
theorem dX0_addAshes_27 : decode cX0_addAshes 27 = .ok (.getfield 36, 3) := by decide +kernel
theorem dX0_addAshes_30 : decode cX0_addAshes 30 = .ok (.iconst 1, 1) := by decide +kernel
theorem dX0_addAshes_31 : decode cX0_addAshes 31 = .ok (.iadd, 1) := by decide +kernel
theorem dX0_addAshes_32 : decode cX0_addAshes 32 = .ok (.putfield 36, 3) := by decide +kernel
theorem dX0_addAshes_35 : decode cX0_addAshes 35 = .ok (.aload_n 0, 1) := by decide +kernel
theorem dX0_addAshes_36 : decode cX0_addAshes 36 = .ok (.getfield 36, 3) := by decide +kernel
theorem dX0_addAshes_39 : decode cX0_addAshes 39 = .ok (.ireturn, 1) := by decide +kernel
theorem dX0_clearAshes_0 : decode cX0_clearAshes 0 = .ok (.aload_n 0, 1) := by decide +kernel
theorem dX0_clearAshes_1 : decode cX0_clearAshes 1 = .ok (.getfield 36, 3) := by decide +kernel
theorem dX0_clearAshes_4 : decode cX0_clearAshes 4 = .ok (.istore_n 1, 1) := by decide +kernel
theorem dX0_clearAshes_5 : decode cX0_clearAshes 5 = .ok (.aload_n 0, 1) := by decide +kernel
theorem dX0_clearAshes_6 : decode cX0_clearAshes 6 = .ok (.iconst 0, 1) := by decide +kernel
theorem dX0_clearAshes_7 : decode cX0_clearAshes 7 = .ok (.putfield 36, 3) := by decide +kernel
theorem dX0_clearAshes_10 : decode cX0_clearAshes 10 = .ok (.iload_n 1, 1) := by decide +kernel
theorem dX0_clearAshes_11 : decode cX0_clearAshes 11 = .ok (.ireturn, 1) := by decide +kernel
theorem dX0_hasRoom_0 : decode cX0_hasRoom 0 = .ok (.lload_n 1, 1) := by decide +kernel
theorem dX0_hasRoom_1 : decode cX0_hasRoom 1 = .ok (.iload_n 3, 1) := by decide +kernel
theorem dX0_hasRoom_2 : decode cX0_hasRoom 2 = .ok (.invokestatic 61, 3) := by decide +kernel
theorem dX0_hasRoom_5 : decode cX0_hasRoom 5 = .ok (.aload_n 0, 1) := by decide +kernel
theorem dX0_hasRoom_6 : decode cX0_hasRoom 6 = .ok (.getfield 21, 3) := by decide +kernel
theorem dX0_hasRoom_9 : decode cX0_hasRoom 9 = .ok (.getfield 65, 3) := by decide +kernel
theorem dX0_hasRoom_12 : decode cX0_hasRoom 12 = .ok (.if_icmp .ge 7, 3) := by decide +kernel
theorem dX0_hasRoom_15 : decode cX0_hasRoom 15 = .ok (.iconst 1, 1) := by decide +kernel
theorem dX0_hasRoom_16 : decode cX0_hasRoom 16 = .ok (.goto 4, 3) := by decide +kernel
theorem dX0_hasRoom_19 : decode cX0_hasRoom 19 = .ok (.iconst 0, 1) := by decide +kernel
theorem dX0_hasRoom_20 : decode cX0_hasRoom 20 = .ok (.ireturn, 1) := by decide +kernel
theorem dX0_mayCopy_0 : decode cX0_mayCopy 0 = .ok (.lload_n 1, 1) := by decide +kernel
theorem dX0_mayCopy_1 : decode cX0_mayCopy 1 = .ok (.iload_n 3, 1) := by decide +kernel
theorem dX0_mayCopy_2 : decode cX0_mayCopy 2 = .ok (.invokestatic 70, 3) := by decide +kernel
theorem dX0_mayCopy_5 : decode cX0_mayCopy 5 = .ok (.istore 5, 2) := by decide +kernel
theorem dX0_mayCopy_7 : decode cX0_mayCopy 7 = .ok (.iload 5, 2) := by decide +kernel
theorem dX0_mayCopy_9 : decode cX0_mayCopy 9 = .ok (.ifCond .eq 43, 3) := by decide +kernel
theorem dX0_mayCopy_12 : decode cX0_mayCopy 12 = .ok (.iload 5, 2) := by decide +kernel
theorem dX0_mayCopy_14 : decode cX0_mayCopy 14 = .ok (.invokestatic 73, 3) := by decide +kernel
theorem dX0_mayCopy_17 : decode cX0_mayCopy 17 = .ok (.aload_n 0, 1) := by decide +kernel
theorem dX0_mayCopy_18 : decode cX0_mayCopy 18 = .ok (.iload_n 3, 1) := by decide +kernel
theorem dX0_mayCopy_19 : decode cX0_mayCopy 19 = .ok (.invokevirtual 78, 3) := by decide +kernel
theorem dX0_mayCopy_22 : decode cX0_mayCopy 22 = .ok (.invokestatic 81, 3) := by decide +kernel
theorem dX0_mayCopy_25 : decode cX0_mayCopy 25 = .ok (.if_icmp .ge 27, 3) := by decide +kernel
theorem dX0_mayCopy_28 : decode cX0_mayCopy 28 = .ok (.lload_n 1, 1) := by decide +kernel
theorem dX0_mayCopy_29 : decode cX0_mayCopy 29 = .ok (.iload_n 3, 1) := by decide +kernel
theorem dX0_mayCopy_30 : decode cX0_mayCopy 30 = .ok (.iload 4, 2) := by decide +kernel
theorem dX0_mayCopy_32 : decode cX0_mayCopy 32 = .ok (.invokestatic 84, 3) := by decide +kernel
theorem dX0_mayCopy_35 : decode cX0_mayCopy 35 = .ok (.ifCond .ne 17, 3) := by decide +kernel
theorem dX0_mayCopy_38 : decode cX0_mayCopy 38 = .ok (.aload_n 0, 1) := by decide +kernel
theorem dX0_mayCopy_39 : decode cX0_mayCopy 39 = .ok (.lload_n 1, 1) := by decide +kernel
theorem dX0_mayCopy_40 : decode cX0_mayCopy 40 = .ok (.iload 4, 2) := by decide +kernel
theorem dX0_mayCopy_42 : decode cX0_mayCopy 42 = .ok (.invokevirtual 88, 3) := by decide +kernel
theorem dX0_mayCopy_45 : decode cX0_mayCopy 45 = .ok (.ifCond .eq 7, 3) := by decide +kernel
theorem dX0_mayCopy_48 : decode cX0_mayCopy 48 = .ok (.iconst 1, 1) := by decide +kernel
theorem dX0_mayCopy_49 : decode cX0_mayCopy 49 = .ok (.goto 4, 3) := by decide +kernel
theorem dX0_mayCopy_52 : decode cX0_mayCopy 52 = .ok (.iconst 0, 1) := by decide +kernel
theorem dX0_mayCopy_53 : decode cX0_mayCopy 53 = .ok (.ireturn, 1) := by decide +kernel
theorem dX0_mayRename_0 : decode cX0_mayRename 0 = .ok (.lload_n 1, 1) := by decide +kernel
theorem dX0_mayRename_1 : decode cX0_mayRename 1 = .ok (.iload_n 3, 1) := by decide +kernel
theorem dX0_mayRename_2 : decode cX0_mayRename 2 = .ok (.iload 4, 2) := by decide +kernel
theorem dX0_mayRename_4 : decode cX0_mayRename 4 = .ok (.invokestatic 84, 3) := by decide +kernel
theorem dX0_mayRename_7 : decode cX0_mayRename 7 = .ok (.ifCond .eq 27, 3) := by decide +kernel
theorem dX0_mayRename_10 : decode cX0_mayRename 10 = .ok (.lload_n 1, 1) := by decide +kernel
theorem dX0_mayRename_11 : decode cX0_mayRename 11 = .ok (.iload_n 3, 1) := by decide +kernel
theorem dX0_mayRename_12 : decode cX0_mayRename 12 = .ok (.iload 5, 2) := by decide +kernel
theorem dX0_mayRename_14 : decode cX0_mayRename 14 = .ok (.invokestatic 84, 3) := by decide +kernel
theorem dX0_mayRename_17 : decode cX0_mayRename 17 = .ok (.ifCond .ne 17, 3) := by decide +kernel
theorem dX0_mayRename_20 : decode cX0_mayRename 20 = .ok (.aload_n 0, 1) := by decide +kernel
theorem dX0_mayRename_21 : decode cX0_mayRename 21 = .ok (.lload_n 1, 1) := by decide +kernel
theorem dX0_mayRename_22 : decode cX0_mayRename 22 = .ok (.iload 5, 2) := by decide +kernel
theorem dX0_mayRename_24 : decode cX0_mayRename 24 = .ok (.invokevirtual 88, 3) := by decide +kernel
theorem dX0_mayRename_27 : decode cX0_mayRename 27 = .ok (.ifCond .eq 7, 3) := by decide +kernel
theorem dX0_mayRename_30 : decode cX0_mayRename 30 = .ok (.iconst 1, 1) := by decide +kernel
theorem dX0_mayRename_31 : decode cX0_mayRename 31 = .ok (.goto 4, 3) := by decide +kernel
theorem dX0_mayRename_34 : decode cX0_mayRename 34 = .ok (.iconst 0, 1) := by decide +kernel
theorem dX0_mayRename_35 : decode cX0_mayRename 35 = .ok (.ireturn, 1) := by decide +kernel
theorem dX0_passYear_0 : decode cX0_passYear 0 = .ok (.aload_n 0, 1) := by decide +kernel
theorem dX0_passYear_1 : decode cX0_passYear 1 = .ok (.aload_n 0, 1) := by decide +kernel
theorem dX0_passYear_2 : decode cX0_passYear 2 = .ok (.getfield 29, 3) := by decide +kernel
theorem dX0_passYear_5 : decode cX0_passYear 5 = .ok (.iload_n 1, 1) := by decide +kernel
theorem dX0_passYear_6 : decode cX0_passYear 6 = .ok (.invokevirtual 92, 3) := by decide +kernel
theorem dX0_passYear_9 : decode cX0_passYear 9 = .ok (.lstore_n 2, 1) := by decide +kernel
theorem dX0_passYear_10 : decode cX0_passYear 10 = .ok (.aload_n 0, 1) := by decide +kernel
theorem dX0_passYear_11 : decode cX0_passYear 11 = .ok (.getfield 29, 3) := by decide +kernel
theorem dX0_passYear_14 : decode cX0_passYear 14 = .ok (.invokestatic 96, 3) := by decide +kernel
theorem dX0_passYear_17 : decode cX0_passYear 17 = .ok (.lload_n 2, 1) := by decide +kernel
theorem dX0_passYear_18 : decode cX0_passYear 18 = .ok (.invokestatic 96, 3) := by decide +kernel
theorem dX0_passYear_21 : decode cX0_passYear 21 = .ok (.isub, 1) := by decide +kernel
theorem dX0_passYear_22 : decode cX0_passYear 22 = .ok (.istore 4, 2) := by decide +kernel
theorem dX0_passYear_24 : decode cX0_passYear 24 = .ok (.aload_n 0, 1) := by decide +kernel
theorem dX0_passYear_25 : decode cX0_passYear 25 = .ok (.aload_n 0, 1) := by decide +kernel
theorem dX0_passYear_26 : decode cX0_passYear 26 = .ok (.lload_n 2, 1) := by decide +kernel
theorem dX0_passYear_27 : decode cX0_passYear 27 = .ok (.invokevirtual 100, 3) := by decide +kernel
theorem dX0_passYear_30 : decode cX0_passYear 30 = .ok (.putfield 29, 3) := by decide +kernel
theorem dX0_passYear_33 : decode cX0_passYear 33 = .ok (.aload_n 0, 1) := by decide +kernel
theorem dX0_passYear_34 : decode cX0_passYear 34 = .ok (.dup, 1) := by decide +kernel
theorem dX0_passYear_35 : decode cX0_passYear 35 = .ok (.getfield 33, 3) := by decide +kernel
theorem dX0_passYear_38 : decode cX0_passYear 38 = .ok (.iconst 1, 1) := by decide +kernel
theorem dX0_passYear_39 : decode cX0_passYear 39 = .ok (.iadd, 1) := by decide +kernel
theorem dX0_passYear_40 : decode cX0_passYear 40 = .ok (.putfield 33, 3) := by decide +kernel
theorem dX0_passYear_43 : decode cX0_passYear 43 = .ok (.iload 4, 2) := by decide +kernel
theorem dX0_passYear_45 : decode cX0_passYear 45 = .ok (.ireturn, 1) := by decide +kernel
theorem dX0_burntDown_0 : decode cX0_burntDown 0 = .ok (.lload_n 1, 1) := by decide +kernel
theorem dX0_burntDown_1 : decode cX0_burntDown 1 = .ok (.lstore 4, 2) := by decide +kernel
theorem dX0_burntDown_3 : decode cX0_burntDown 3 = .ok (.iconst 0, 1) := by decide +kernel
theorem dX0_burntDown_4 : decode cX0_burntDown 4 = .ok (.istore 6, 2) := by decide +kernel
theorem dX0_burntDown_6 : decode cX0_burntDown 6 = .ok (.iload 6, 2) := by decide +kernel
theorem dX0_burntDown_8 : decode cX0_burntDown 8 = .ok (.aload_n 0, 1) := by decide +kernel
theorem dX0_burntDown_9 : decode cX0_burntDown 9 = .ok (.getfield 25, 3) := by decide +kernel
theorem dX0_burntDown_12 : decode cX0_burntDown 12 = .ok (.if_icmp .ge 63, 3) := by decide +kernel
theorem dX0_burntDown_15 : decode cX0_burntDown 15 = .ok (.lload_n 1, 1) := by decide +kernel
theorem dX0_burntDown_16 : decode cX0_burntDown 16 = .ok (.iload 6, 2) := by decide +kernel
theorem dX0_burntDown_18 : decode cX0_burntDown 18 = .ok (.iload_n 3, 1) := by decide +kernel
theorem dX0_burntDown_19 : decode cX0_burntDown 19 = .ok (.invokestatic 84, 3) := by decide +kernel
theorem dX0_burntDown_22 : decode cX0_burntDown 22 = .ok (.ifCond .ne 6, 3) := by decide +kernel
theorem dX0_burntDown_25 : decode cX0_burntDown 25 = .ok (.goto 44, 3) := by decide +kernel
theorem dX0_burntDown_28 : decode cX0_burntDown 28 = .ok (.aload_n 0, 1) := by decide +kernel
theorem dX0_burntDown_29 : decode cX0_burntDown 29 = .ok (.lload_n 1, 1) := by decide +kernel
theorem dX0_burntDown_30 : decode cX0_burntDown 30 = .ok (.iload 6, 2) := by decide +kernel
theorem dX0_burntDown_32 : decode cX0_burntDown 32 = .ok (.invokevirtual 104, 3) := by decide +kernel
theorem dX0_burntDown_35 : decode cX0_burntDown 35 = .ok (.ifCond .eq 15, 3) := by decide +kernel
theorem dX0_burntDown_38 : decode cX0_burntDown 38 = .ok (.lload 4, 2) := by decide +kernel
theorem dX0_burntDown_40 : decode cX0_burntDown 40 = .ok (.iload 6, 2) := by decide +kernel
theorem dX0_burntDown_42 : decode cX0_burntDown 42 = .ok (.invokestatic 107, 3) := by decide +kernel
theorem dX0_burntDown_45 : decode cX0_burntDown 45 = .ok (.lstore 4, 2) := by decide +kernel
theorem dX0_burntDown_47 : decode cX0_burntDown 47 = .ok (.goto 22, 3) := by decide +kernel
theorem dX0_burntDown_50 : decode cX0_burntDown 50 = .ok (.lload 4, 2) := by decide +kernel
theorem dX0_burntDown_52 : decode cX0_burntDown 52 = .ok (.iload 6, 2) := by decide +kernel
theorem dX0_burntDown_54 : decode cX0_burntDown 54 = .ok (.aload_n 0, 1) := by decide +kernel
theorem dX0_burntDown_55 : decode cX0_burntDown 55 = .ok (.iload 6, 2) := by decide +kernel
theorem dX0_burntDown_57 : decode cX0_burntDown 57 = .ok (.invokevirtual 78, 3) := by decide +kernel
theorem dX0_burntDown_60 : decode cX0_burntDown 60 = .ok (.iload_n 3, 1) := by decide +kernel
theorem dX0_burntDown_61 : decode cX0_burntDown 61 = .ok (.invokestatic 110, 3) := by decide +kernel
theorem dX0_burntDown_64 : decode cX0_burntDown 64 = .ok (.invokestatic 114, 3) := by decide +kernel
theorem dX0_burntDown_67 : decode cX0_burntDown 67 = .ok (.lstore 4, 2) := by decide +kernel
theorem dX0_burntDown_69 : decode cX0_burntDown 69 = .ok (.iinc 6 1, 3) := by decide +kernel
theorem dX0_burntDown_72 : decode cX0_burntDown 72 = .ok (.goto (-66), 3) := by decide +kernel
theorem dX0_burntDown_75 : decode cX0_burntDown 75 = .ok (.lload 4, 2) := by decide +kernel
theorem dX0_burntDown_77 : decode cX0_burntDown 77 = .ok (.lreturn, 1) := by decide +kernel
theorem dX0_isKept_0 : decode cX0_isKept 0 = .ok (.lload_n 1, 1) := by decide +kernel
theorem dX0_isKept_1 : decode cX0_isKept 1 = .ok (.iload_n 3, 1) := by decide +kernel
theorem dX0_isKept_2 : decode cX0_isKept 2 = .ok (.invokestatic 70, 3) := by decide +kernel
theorem dX0_isKept_5 : decode cX0_isKept 5 = .ok (.invokestatic 73, 3) := by decide +kernel
theorem dX0_isKept_8 : decode cX0_isKept 8 = .ok (.iconst 1, 1) := by decide +kernel
theorem dX0_isKept_9 : decode cX0_isKept 9 = .ok (.if_icmp .ne 32, 3) := by decide +kernel
theorem dX0_isKept_12 : decode cX0_isKept 12 = .ok (.lload_n 1, 1) := by decide +kernel
theorem dX0_isKept_13 : decode cX0_isKept 13 = .ok (.iload_n 3, 1) := by decide +kernel
theorem dX0_isKept_14 : decode cX0_isKept 14 = .ok (.invokestatic 117, 3) := by decide +kernel
theorem dX0_isKept_17 : decode cX0_isKept 17 = .ok (.aload_n 0, 1) := by decide +kernel
theorem dX0_isKept_18 : decode cX0_isKept 18 = .ok (.iload_n 3, 1) := by decide +kernel
theorem dX0_isKept_19 : decode cX0_isKept 19 = .ok (.invokevirtual 78, 3) := by decide +kernel
theorem dX0_isKept_22 : decode cX0_isKept 22 = .ok (.invokestatic 120, 3) := by decide +kernel
theorem dX0_isKept_25 : decode cX0_isKept 25 = .ok (.if_icmp .ge 16, 3) := by decide +kernel
theorem dX0_isKept_28 : decode cX0_isKept 28 = .ok (.aload_n 0, 1) := by decide +kernel
theorem dX0_isKept_29 : decode cX0_isKept 29 = .ok (.lload_n 1, 1) := by decide +kernel
theorem dX0_isKept_30 : decode cX0_isKept 30 = .ok (.iload_n 3, 1) := by decide +kernel
theorem dX0_isKept_31 : decode cX0_isKept 31 = .ok (.invokevirtual 123, 3) := by decide +kernel
theorem dX0_isKept_34 : decode cX0_isKept 34 = .ok (.ifCond .eq 7, 3) := by decide +kernel
theorem dX0_isKept_37 : decode cX0_isKept 37 = .ok (.iconst 1, 1) := by decide +kernel
theorem dX0_isKept_38 : decode cX0_isKept 38 = .ok (.goto 4, 3) := by decide +kernel
theorem dX0_isKept_41 : decode cX0_isKept 41 = .ok (.iconst 0, 1) := by decide +kernel
theorem dX0_isKept_42 : decode cX0_isKept 42 = .ok (.ireturn, 1) := by decide +kernel
theorem dX0_isPointedTo_0 : decode cX0_isPointedTo 0 = .ok (.iconst 0, 1) := by decide +kernel
theorem dX0_isPointedTo_1 : decode cX0_isPointedTo 1 = .ok (.istore 4, 2) := by decide +kernel
theorem dX0_isPointedTo_3 : decode cX0_isPointedTo 3 = .ok (.iload 4, 2) := by decide +kernel
theorem dX0_isPointedTo_5 : decode cX0_isPointedTo 5 = .ok (.aload_n 0, 1) := by decide +kernel
theorem dX0_isPointedTo_6 : decode cX0_isPointedTo 6 = .ok (.getfield 25, 3) := by decide +kernel
theorem dX0_isPointedTo_9 : decode cX0_isPointedTo 9 = .ok (.if_icmp .ge 30, 3) := by decide +kernel
theorem dX0_isPointedTo_12 : decode cX0_isPointedTo 12 = .ok (.aload_n 0, 1) := by decide +kernel
theorem dX0_isPointedTo_13 : decode cX0_isPointedTo 13 = .ok (.iload 4, 2) := by decide +kernel
theorem dX0_isPointedTo_15 : decode cX0_isPointedTo 15 = .ok (.invokevirtual 57, 3) := by decide +kernel
theorem dX0_isPointedTo_18 : decode cX0_isPointedTo 18 = .ok (.iload_n 3, 1) := by decide +kernel
theorem dX0_isPointedTo_19 : decode cX0_isPointedTo 19 = .ok (.if_icmp .ne 14, 3) := by decide +kernel
theorem dX0_isPointedTo_22 : decode cX0_isPointedTo 22 = .ok (.lload_n 1, 1) := by decide +kernel
theorem dX0_isPointedTo_23 : decode cX0_isPointedTo 23 = .ok (.iload 4, 2) := by decide +kernel
theorem dX0_isPointedTo_25 : decode cX0_isPointedTo 25 = .ok (.invokestatic 70, 3) := by decide +kernel
theorem dX0_isPointedTo_28 : decode cX0_isPointedTo 28 = .ok (.ifCond .eq 5, 3) := by decide +kernel
theorem dX0_isPointedTo_31 : decode cX0_isPointedTo 31 = .ok (.iconst 1, 1) := by decide +kernel
theorem dX0_isPointedTo_32 : decode cX0_isPointedTo 32 = .ok (.ireturn, 1) := by decide +kernel
theorem dX0_isPointedTo_33 : decode cX0_isPointedTo 33 = .ok (.iinc 4 1, 3) := by decide +kernel
theorem dX0_isPointedTo_36 : decode cX0_isPointedTo 36 = .ok (.goto (-33), 3) := by decide +kernel
theorem dX0_isPointedTo_39 : decode cX0_isPointedTo 39 = .ok (.iconst 0, 1) := by decide +kernel
theorem dX0_isPointedTo_40 : decode cX0_isPointedTo 40 = .ok (.ireturn, 1) := by decide +kernel
theorem dX0_rumoursGrown_0 : decode cX0_rumoursGrown 0 = .ok (.lload_n 1, 1) := by decide +kernel
theorem dX0_rumoursGrown_1 : decode cX0_rumoursGrown 1 = .ok (.lstore_n 3, 1) := by decide +kernel
theorem dX0_rumoursGrown_2 : decode cX0_rumoursGrown 2 = .ok (.iconst 0, 1) := by decide +kernel
theorem dX0_rumoursGrown_3 : decode cX0_rumoursGrown 3 = .ok (.istore 5, 2) := by decide +kernel
theorem dX0_rumoursGrown_5 : decode cX0_rumoursGrown 5 = .ok (.iload 5, 2) := by decide +kernel
theorem dX0_rumoursGrown_7 : decode cX0_rumoursGrown 7 = .ok (.aload_n 0, 1) := by decide +kernel
theorem dX0_rumoursGrown_8 : decode cX0_rumoursGrown 8 = .ok (.getfield 25, 3) := by decide +kernel
theorem dX0_rumoursGrown_11 : decode cX0_rumoursGrown 11 = .ok (.if_icmp .ge 36, 3) := by decide +kernel
theorem dX0_rumoursGrown_14 : decode cX0_rumoursGrown 14 = .ok (.aload_n 0, 1) := by decide +kernel
theorem dX0_rumoursGrown_15 : decode cX0_rumoursGrown 15 = .ok (.iload 5, 2) := by decide +kernel
theorem dX0_rumoursGrown_17 : decode cX0_rumoursGrown 17 = .ok (.invokevirtual 78, 3) := by decide +kernel
theorem dX0_rumoursGrown_20 : decode cX0_rumoursGrown 20 = .ok (.iconst 1, 1) := by decide +kernel
theorem dX0_rumoursGrown_21 : decode cX0_rumoursGrown 21 = .ok (.if_icmp .ne 20, 3) := by decide +kernel
theorem dX0_rumoursGrown_24 : decode cX0_rumoursGrown 24 = .ok (.lload_n 3, 1) := by decide +kernel
theorem dX0_rumoursGrown_25 : decode cX0_rumoursGrown 25 = .ok (.iload 5, 2) := by decide +kernel
theorem dX0_rumoursGrown_27 : decode cX0_rumoursGrown 27 = .ok (.invokestatic 126, 3) := by decide +kernel
theorem dX0_rumoursGrown_30 : decode cX0_rumoursGrown 30 = .ok (.ifCond .eq 11, 3) := by decide +kernel
theorem dX0_rumoursGrown_33 : decode cX0_rumoursGrown 33 = .ok (.aload_n 0, 1) := by decide +kernel
theorem dX0_rumoursGrown_34 : decode cX0_rumoursGrown 34 = .ok (.lload_n 3, 1) := by decide +kernel
theorem dX0_rumoursGrown_35 : decode cX0_rumoursGrown 35 = .ok (.iload 5, 2) := by decide +kernel
theorem dX0_rumoursGrown_37 : decode cX0_rumoursGrown 37 = .ok (.invokevirtual 129, 3) := by decide +kernel
theorem dX0_rumoursGrown_40 : decode cX0_rumoursGrown 40 = .ok (.lstore_n 3, 1) := by decide +kernel
theorem dX0_rumoursGrown_41 : decode cX0_rumoursGrown 41 = .ok (.iinc 5 1, 3) := by decide +kernel
theorem dX0_rumoursGrown_44 : decode cX0_rumoursGrown 44 = .ok (.goto (-39), 3) := by decide +kernel
theorem dX0_rumoursGrown_47 : decode cX0_rumoursGrown 47 = .ok (.lload_n 3, 1) := by decide +kernel
theorem dX0_rumoursGrown_48 : decode cX0_rumoursGrown 48 = .ok (.lreturn, 1) := by decide +kernel
theorem dX0_grown_0 : decode cX0_grown 0 = .ok (.iconst 0, 1) := by decide +kernel
theorem dX0_grown_1 : decode cX0_grown 1 = .ok (.istore 4, 2) := by decide +kernel
theorem dX0_grown_3 : decode cX0_grown 3 = .ok (.iload 4, 2) := by decide +kernel
theorem dX0_grown_5 : decode cX0_grown 5 = .ok (.bipush 6, 2) := by decide +kernel
theorem dX0_grown_7 : decode cX0_grown 7 = .ok (.if_icmp .ge 43, 3) := by decide +kernel
theorem dX0_grown_10 : decode cX0_grown 10 = .ok (.lload_n 1, 1) := by decide +kernel
theorem dX0_grown_11 : decode cX0_grown 11 = .ok (.iload_n 3, 1) := by decide +kernel
theorem dX0_grown_12 : decode cX0_grown 12 = .ok (.iload 4, 2) := by decide +kernel
theorem dX0_grown_14 : decode cX0_grown 14 = .ok (.invokestatic 84, 3) := by decide +kernel
theorem dX0_grown_17 : decode cX0_grown 17 = .ok (.ifCond .ne 27, 3) := by decide +kernel
theorem dX0_grown_20 : decode cX0_grown 20 = .ok (.lload_n 1, 1) := by decide +kernel
theorem dX0_grown_21 : decode cX0_grown 21 = .ok (.iload 4, 2) := by decide +kernel
theorem dX0_grown_23 : decode cX0_grown 23 = .ok (.invokestatic 61, 3) := by decide +kernel
theorem dX0_grown_26 : decode cX0_grown 26 = .ok (.aload_n 0, 1) := by decide +kernel
theorem dX0_grown_27 : decode cX0_grown 27 = .ok (.getfield 21, 3) := by decide +kernel
theorem dX0_grown_30 : decode cX0_grown 30 = .ok (.getfield 65, 3) := by decide +kernel
theorem dX0_grown_33 : decode cX0_grown 33 = .ok (.if_icmp .ge 11, 3) := by decide +kernel
theorem dX0_grown_36 : decode cX0_grown 36 = .ok (.lload_n 1, 1) := by decide +kernel
theorem dX0_grown_37 : decode cX0_grown 37 = .ok (.iload_n 3, 1) := by decide +kernel
theorem dX0_grown_38 : decode cX0_grown 38 = .ok (.iload 4, 2) := by decide +kernel
theorem dX0_grown_40 : decode cX0_grown 40 = .ok (.invokestatic 51, 3) := by decide +kernel
theorem dX0_grown_43 : decode cX0_grown 43 = .ok (.lreturn, 1) := by decide +kernel
theorem dX0_grown_44 : decode cX0_grown 44 = .ok (.iinc 4 1, 3) := by decide +kernel
theorem dX0_grown_47 : decode cX0_grown 47 = .ok (.goto (-44), 3) := by decide +kernel
theorem dX0_grown_50 : decode cX0_grown 50 = .ok (.lload_n 1, 1) := by decide +kernel
theorem dX0_grown_51 : decode cX0_grown 51 = .ok (.lreturn, 1) := by decide +kernel
theorem dX0_pointingNowhere_0 : decode cX0_pointingNowhere 0 = .ok (.iconst 0, 1) := by decide +kernel
theorem dX0_pointingNowhere_1 : decode cX0_pointingNowhere 1 = .ok (.istore_n 1, 1) := by decide +kernel
theorem dX0_pointingNowhere_2 : decode cX0_pointingNowhere 2 = .ok (.iconst 0, 1) := by decide +kernel
theorem dX0_pointingNowhere_3 : decode cX0_pointingNowhere 3 = .ok (.istore_n 2, 1) := by decide +kernel
theorem dX0_pointingNowhere_4 : decode cX0_pointingNowhere 4 = .ok (.iload_n 2, 1) := by decide +kernel
theorem dX0_pointingNowhere_5 : decode cX0_pointingNowhere 5 = .ok (.aload_n 0, 1) := by decide +kernel
theorem dX0_pointingNowhere_6 : decode cX0_pointingNowhere 6 = .ok (.getfield 25, 3) := by decide +kernel
theorem dX0_pointingNowhere_9 : decode cX0_pointingNowhere 9 = .ok (.if_icmp .ge 48, 3) := by decide +kernel
theorem dX0_pointingNowhere_12 : decode cX0_pointingNowhere 12 = .ok (.aload_n 0, 1) := by decide +kernel
theorem dX0_pointingNowhere_13 : decode cX0_pointingNowhere 13 = .ok (.iload_n 2, 1) := by decide +kernel
theorem dX0_pointingNowhere_14 : decode cX0_pointingNowhere 14 = .ok (.invokevirtual 57, 3) := by decide +kernel
theorem dX0_pointingNowhere_17 : decode cX0_pointingNowhere 17 = .ok (.istore_n 3, 1) := by decide +kernel
theorem dX0_pointingNowhere_18 : decode cX0_pointingNowhere 18 = .ok (.iload_n 3, 1) := by decide +kernel
theorem dX0_pointingNowhere_19 : decode cX0_pointingNowhere 19 = .ok (.iconst (-1), 1) := by decide +kernel
theorem dX0_pointingNowhere_20 : decode cX0_pointingNowhere 20 = .ok (.if_icmp .eq 31, 3) := by decide +kernel
theorem dX0_pointingNowhere_23 : decode cX0_pointingNowhere 23 = .ok (.aload_n 0, 1) := by decide +kernel
theorem dX0_pointingNowhere_24 : decode cX0_pointingNowhere 24 = .ok (.getfield 29, 3) := by decide +kernel
theorem dX0_pointingNowhere_27 : decode cX0_pointingNowhere 27 = .ok (.iload_n 2, 1) := by decide +kernel
theorem dX0_pointingNowhere_28 : decode cX0_pointingNowhere 28 = .ok (.invokestatic 126, 3) := by decide +kernel
theorem dX0_pointingNowhere_31 : decode cX0_pointingNowhere 31 = .ok (.ifCond .eq 20, 3) := by decide +kernel
theorem dX0_pointingNowhere_34 : decode cX0_pointingNowhere 34 = .ok (.aload_n 0, 1) := by decide +kernel
theorem dX0_pointingNowhere_35 : decode cX0_pointingNowhere 35 = .ok (.getfield 29, 3) := by decide +kernel
theorem dX0_pointingNowhere_38 : decode cX0_pointingNowhere 38 = .ok (.iload_n 3, 1) := by decide +kernel
theorem dX0_pointingNowhere_39 : decode cX0_pointingNowhere 39 = .ok (.invokestatic 126, 3) := by decide +kernel
theorem dX0_pointingNowhere_42 : decode cX0_pointingNowhere 42 = .ok (.ifCond .ne 9, 3) := by decide +kernel
theorem dX0_pointingNowhere_45 : decode cX0_pointingNowhere 45 = .ok (.iload_n 1, 1) := by decide +kernel
theorem dX0_pointingNowhere_46 : decode cX0_pointingNowhere 46 = .ok (.iconst 1, 1) := by decide +kernel
theorem dX0_pointingNowhere_47 : decode cX0_pointingNowhere 47 = .ok (.iload_n 2, 1) := by decide +kernel
theorem dX0_pointingNowhere_48 : decode cX0_pointingNowhere 48 = .ok (.ishl, 1) := by decide +kernel
theorem dX0_pointingNowhere_49 : decode cX0_pointingNowhere 49 = .ok (.ior, 1) := by decide +kernel
theorem dX0_pointingNowhere_50 : decode cX0_pointingNowhere 50 = .ok (.istore_n 1, 1) := by decide +kernel
theorem dX0_pointingNowhere_51 : decode cX0_pointingNowhere 51 = .ok (.iinc 2 1, 3) := by decide +kernel
theorem dX0_pointingNowhere_54 : decode cX0_pointingNowhere 54 = .ok (.goto (-50), 3) := by decide +kernel
theorem dX0_pointingNowhere_57 : decode cX0_pointingNowhere 57 = .ok (.iload_n 1, 1) := by decide +kernel
theorem dX0_pointingNowhere_58 : decode cX0_pointingNowhere 58 = .ok (.ireturn, 1) := by decide +kernel
theorem dX1_init_0 : decode cX1_init 0 = .ok (.aload_n 0, 1) := by decide +kernel
theorem dX1_init_1 : decode cX1_init 1 = .ok (.invokespecial 3, 3) := by decide +kernel
theorem dX1_init_4 : decode cX1_init 4 = .ok (.aload_n 0, 1) := by decide +kernel
theorem dX1_init_5 : decode cX1_init 5 = .ok (.aload_n 1, 1) := by decide +kernel
theorem dX1_init_6 : decode cX1_init 6 = .ok (.putfield 9, 3) := by decide +kernel
theorem dX1_init_9 : decode cX1_init 9 = .ok (.aload_n 0, 1) := by decide +kernel
theorem dX1_init_10 : decode cX1_init 10 = .ok (.aload_n 2, 1) := by decide +kernel
theorem dX1_init_11 : decode cX1_init 11 = .ok (.putfield 15, 3) := by decide +kernel
theorem dX1_init_14 : decode cX1_init 14 = .ok (.return_, 1) := by decide +kernel
theorem dX1_waysToLive_0 : decode cX1_waysToLive 0 = .ok (.lload_n 1, 1) := by decide +kernel
theorem dX1_waysToLive_1 : decode cX1_waysToLive 1 = .ok (.iload_n 3, 1) := by decide +kernel
theorem dX1_waysToLive_2 : decode cX1_waysToLive 2 = .ok (.invokestatic 19, 3) := by decide +kernel
theorem dX1_waysToLive_5 : decode cX1_waysToLive 5 = .ok (.ifCond .ne 5, 3) := by decide +kernel
theorem dX1_waysToLive_8 : decode cX1_waysToLive 8 = .ok (.iconst 0, 1) := by decide +kernel
theorem dX1_waysToLive_9 : decode cX1_waysToLive 9 = .ok (.ireturn, 1) := by decide +kernel
theorem dX1_waysToLive_10 : decode cX1_waysToLive 10 = .ok (.iload 4, 2) := by decide +kernel
theorem dX1_waysToLive_12 : decode cX1_waysToLive 12 = .ok (.ifCond .gt 5, 3) := by decide +kernel
theorem dX1_waysToLive_15 : decode cX1_waysToLive 15 = .ok (.iconst 1, 1) := by decide +kernel
theorem dX1_waysToLive_16 : decode cX1_waysToLive 16 = .ok (.ireturn, 1) := by decide +kernel
theorem dX1_waysToLive_17 : decode cX1_waysToLive 17 = .ok (.iconst 0, 1) := by decide +kernel
theorem dX1_waysToLive_18 : decode cX1_waysToLive 18 = .ok (.istore 5, 2) := by decide +kernel
theorem dX1_waysToLive_20 : decode cX1_waysToLive 20 = .ok (.iconst 0, 1) := by decide +kernel
theorem dX1_waysToLive_21 : decode cX1_waysToLive 21 = .ok (.istore 6, 2) := by decide +kernel
theorem dX1_waysToLive_23 : decode cX1_waysToLive 23 = .ok (.iconst 0, 1) := by decide +kernel
theorem dX1_waysToLive_24 : decode cX1_waysToLive 24 = .ok (.istore 7, 2) := by decide +kernel
theorem dX1_waysToLive_26 : decode cX1_waysToLive 26 = .ok (.iload 7, 2) := by decide +kernel
theorem dX1_waysToLive_28 : decode cX1_waysToLive 28 = .ok (.bipush 6, 2) := by decide +kernel
theorem dX1_waysToLive_30 : decode cX1_waysToLive 30 = .ok (.if_icmp .ge 82, 3) := by decide +kernel
theorem dX1_waysToLive_33 : decode cX1_waysToLive 33 = .ok (.aload_n 0, 1) := by decide +kernel
theorem dX1_waysToLive_34 : decode cX1_waysToLive 34 = .ok (.getfield 9, 3) := by decide +kernel
theorem dX1_waysToLive_37 : decode cX1_waysToLive 37 = .ok (.iload 7, 2) := by decide +kernel
theorem dX1_waysToLive_39 : decode cX1_waysToLive 39 = .ok (.invokevirtual 25, 3) := by decide +kernel
theorem dX1_waysToLive_42 : decode cX1_waysToLive 42 = .ok (.istore 8, 2) := by decide +kernel
theorem dX1_waysToLive_44 : decode cX1_waysToLive 44 = .ok (.lload_n 1, 1) := by decide +kernel
theorem dX1_waysToLive_45 : decode cX1_waysToLive 45 = .ok (.iload 7, 2) := by decide +kernel
theorem dX1_waysToLive_47 : decode cX1_waysToLive 47 = .ok (.invokestatic 31, 3) := by decide +kernel
theorem dX1_waysToLive_50 : decode cX1_waysToLive 50 = .ok (.ifCond .ne 13, 3) := by decide +kernel
theorem dX1_waysToLive_53 : decode cX1_waysToLive 53 = .ok (.iload 6, 2) := by decide +kernel
theorem dX1_waysToLive_55 : decode cX1_waysToLive 55 = .ok (.iload 8, 2) := by decide +kernel
theorem dX1_waysToLive_57 : decode cX1_waysToLive 57 = .ok (.iadd, 1) := by decide +kernel
theorem dX1_waysToLive_58 : decode cX1_waysToLive 58 = .ok (.istore 6, 2) := by decide +kernel
theorem dX1_waysToLive_60 : decode cX1_waysToLive 60 = .ok (.goto 46, 3) := by decide +kernel
theorem dX1_waysToLive_63 : decode cX1_waysToLive 63 = .ok (.iload 8, 2) := by decide +kernel
theorem dX1_waysToLive_65 : decode cX1_waysToLive 65 = .ok (.ifCond .le 41, 3) := by decide +kernel
theorem dX1_waysToLive_68 : decode cX1_waysToLive 68 = .ok (.aload_n 0, 1) := by decide +kernel
theorem dX1_waysToLive_69 : decode cX1_waysToLive 69 = .ok (.getfield 15, 3) := by decide +kernel
theorem dX1_waysToLive_72 : decode cX1_waysToLive 72 = .ok (.lload_n 1, 1) := by decide +kernel
theorem dX1_waysToLive_73 : decode cX1_waysToLive 73 = .ok (.iload 7, 2) := by decide +kernel
theorem dX1_waysToLive_75 : decode cX1_waysToLive 75 = .ok (.invokevirtual 35, 3) := by decide +kernel
theorem dX1_waysToLive_78 : decode cX1_waysToLive 78 = .ok (.lstore 9, 2) := by decide +kernel
theorem dX1_waysToLive_80 : decode cX1_waysToLive 80 = .ok (.iload 5, 2) := by decide +kernel
theorem dX1_waysToLive_82 : decode cX1_waysToLive 82 = .ok (.iload 8, 2) := by decide +kernel
theorem dX1_waysToLive_84 : decode cX1_waysToLive 84 = .ok (.aload_n 0, 1) := by decide +kernel
theorem dX1_waysToLive_85 : decode cX1_waysToLive 85 = .ok (.aload_n 0, 1) := by decide +kernel
theorem dX1_waysToLive_86 : decode cX1_waysToLive 86 = .ok (.getfield 15, 3) := by decide +kernel
theorem dX1_waysToLive_89 : decode cX1_waysToLive 89 = .ok (.lload 9, 2) := by decide +kernel
theorem dX1_waysToLive_91 : decode cX1_waysToLive 91 = .ok (.invokevirtual 41, 3) := by decide +kernel
theorem dX1_waysToLive_94 : decode cX1_waysToLive 94 = .ok (.iload_n 3, 1) := by decide +kernel
theorem dX1_waysToLive_95 : decode cX1_waysToLive 95 = .ok (.iload 4, 2) := by decide +kernel
theorem dX1_waysToLive_97 : decode cX1_waysToLive 97 = .ok (.iconst 1, 1) := by decide +kernel
theorem dX1_waysToLive_98 : decode cX1_waysToLive 98 = .ok (.isub, 1) := by decide +kernel
theorem dX1_waysToLive_99 : decode cX1_waysToLive 99 = .ok (.invokevirtual 45, 3) := by decide +kernel
theorem dX1_waysToLive_102 : decode cX1_waysToLive 102 = .ok (.imul, 1) := by decide +kernel
theorem dX1_waysToLive_103 : decode cX1_waysToLive 103 = .ok (.iadd, 1) := by decide +kernel
theorem dX1_waysToLive_104 : decode cX1_waysToLive 104 = .ok (.istore 5, 2) := by decide +kernel
theorem dX1_waysToLive_106 : decode cX1_waysToLive 106 = .ok (.iinc 7 1, 3) := by decide +kernel
theorem dX1_waysToLive_109 : decode cX1_waysToLive 109 = .ok (.goto (-83), 3) := by decide +kernel
theorem dX1_waysToLive_112 : decode cX1_waysToLive 112 = .ok (.iload 6, 2) := by decide +kernel
theorem dX1_waysToLive_114 : decode cX1_waysToLive 114 = .ok (.ifCond .le 28, 3) := by decide +kernel
theorem dX1_waysToLive_117 : decode cX1_waysToLive 117 = .ok (.iload 5, 2) := by decide +kernel
theorem dX1_waysToLive_119 : decode cX1_waysToLive 119 = .ok (.iload 6, 2) := by decide +kernel
theorem dX1_waysToLive_121 : decode cX1_waysToLive 121 = .ok (.aload_n 0, 1) := by decide +kernel
theorem dX1_waysToLive_122 : decode cX1_waysToLive 122 = .ok (.aload_n 0, 1) := by decide +kernel
theorem dX1_waysToLive_123 : decode cX1_waysToLive 123 = .ok (.getfield 15, 3) := by decide +kernel
theorem dX1_waysToLive_126 : decode cX1_waysToLive 126 = .ok (.lload_n 1, 1) := by decide +kernel
theorem dX1_waysToLive_127 : decode cX1_waysToLive 127 = .ok (.invokevirtual 41, 3) := by decide +kernel
theorem dX1_waysToLive_130 : decode cX1_waysToLive 130 = .ok (.iload_n 3, 1) := by decide +kernel
theorem dX1_waysToLive_131 : decode cX1_waysToLive 131 = .ok (.iload 4, 2) := by decide +kernel
theorem dX1_waysToLive_133 : decode cX1_waysToLive 133 = .ok (.iconst 1, 1) := by decide +kernel
theorem dX1_waysToLive_134 : decode cX1_waysToLive 134 = .ok (.isub, 1) := by decide +kernel
theorem dX1_waysToLive_135 : decode cX1_waysToLive 135 = .ok (.invokevirtual 45, 3) := by decide +kernel
theorem dX1_waysToLive_138 : decode cX1_waysToLive 138 = .ok (.imul, 1) := by decide +kernel
theorem dX1_waysToLive_139 : decode cX1_waysToLive 139 = .ok (.iadd, 1) := by decide +kernel
theorem dX1_waysToLive_140 : decode cX1_waysToLive 140 = .ok (.istore 5, 2) := by decide +kernel
theorem dX1_waysToLive_142 : decode cX1_waysToLive 142 = .ok (.iload 5, 2) := by decide +kernel
theorem dX1_waysToLive_144 : decode cX1_waysToLive 144 = .ok (.ireturn, 1) := by decide +kernel
theorem dX1_bestCopy_0 : decode cX1_bestCopy 0 = .ok (.iconst (-1), 1) := by decide +kernel
theorem dX1_bestCopy_1 : decode cX1_bestCopy 1 = .ok (.istore_n 3, 1) := by decide +kernel
theorem dX1_bestCopy_2 : decode cX1_bestCopy 2 = .ok (.aload_n 0, 1) := by decide +kernel
theorem dX1_bestCopy_3 : decode cX1_bestCopy 3 = .ok (.aload_n 0, 1) := by decide +kernel
theorem dX1_bestCopy_4 : decode cX1_bestCopy 4 = .ok (.getfield 15, 3) := by decide +kernel
theorem dX1_bestCopy_7 : decode cX1_bestCopy 7 = .ok (.getfield 49, 3) := by decide +kernel
theorem dX1_bestCopy_10 : decode cX1_bestCopy 10 = .ok (.iload_n 1, 1) := by decide +kernel
theorem dX1_bestCopy_11 : decode cX1_bestCopy 11 = .ok (.iload_n 2, 1) := by decide +kernel
theorem dX1_bestCopy_12 : decode cX1_bestCopy 12 = .ok (.invokevirtual 45, 3) := by decide +kernel
theorem dX1_bestCopy_15 : decode cX1_bestCopy 15 = .ok (.istore 4, 2) := by decide +kernel
theorem dX1_bestCopy_17 : decode cX1_bestCopy 17 = .ok (.iconst 0, 1) := by decide +kernel
theorem dX1_bestCopy_18 : decode cX1_bestCopy 18 = .ok (.istore 5, 2) := by decide +kernel
theorem dX1_bestCopy_20 : decode cX1_bestCopy 20 = .ok (.iload 5, 2) := by decide +kernel
theorem dX1_bestCopy_22 : decode cX1_bestCopy 22 = .ok (.bipush 6, 2) := by decide +kernel
theorem dX1_bestCopy_24 : decode cX1_bestCopy 24 = .ok (.if_icmp .ge 64, 3) := by decide +kernel
theorem dX1_bestCopy_27 : decode cX1_bestCopy 27 = .ok (.aload_n 0, 1) := by decide +kernel
theorem dX1_bestCopy_28 : decode cX1_bestCopy 28 = .ok (.getfield 15, 3) := by decide +kernel
theorem dX1_bestCopy_31 : decode cX1_bestCopy 31 = .ok (.aload_n 0, 1) := by decide +kernel
theorem dX1_bestCopy_32 : decode cX1_bestCopy 32 = .ok (.getfield 15, 3) := by decide +kernel
theorem dX1_bestCopy_35 : decode cX1_bestCopy 35 = .ok (.getfield 49, 3) := by decide +kernel
theorem dX1_bestCopy_38 : decode cX1_bestCopy 38 = .ok (.iload_n 1, 1) := by decide +kernel
theorem dX1_bestCopy_39 : decode cX1_bestCopy 39 = .ok (.iload 5, 2) := by decide +kernel
theorem dX1_bestCopy_41 : decode cX1_bestCopy 41 = .ok (.invokevirtual 53, 3) := by decide +kernel
theorem dX1_bestCopy_44 : decode cX1_bestCopy 44 = .ok (.ifCond .eq 38, 3) := by decide +kernel
theorem dX1_bestCopy_47 : decode cX1_bestCopy 47 = .ok (.aload_n 0, 1) := by decide +kernel
theorem dX1_bestCopy_48 : decode cX1_bestCopy 48 = .ok (.aload_n 0, 1) := by decide +kernel
theorem dX1_bestCopy_49 : decode cX1_bestCopy 49 = .ok (.getfield 15, 3) := by decide +kernel
theorem dX1_bestCopy_52 : decode cX1_bestCopy 52 = .ok (.getfield 49, 3) := by decide +kernel
theorem dX1_bestCopy_55 : decode cX1_bestCopy 55 = .ok (.iload_n 1, 1) := by decide +kernel
theorem dX1_bestCopy_56 : decode cX1_bestCopy 56 = .ok (.iload 5, 2) := by decide +kernel
theorem dX1_bestCopy_58 : decode cX1_bestCopy 58 = .ok (.invokestatic 57, 3) := by decide +kernel
theorem dX1_bestCopy_61 : decode cX1_bestCopy 61 = .ok (.iload_n 1, 1) := by decide +kernel
theorem dX1_bestCopy_62 : decode cX1_bestCopy 62 = .ok (.iload_n 2, 1) := by decide +kernel
theorem dX1_bestCopy_63 : decode cX1_bestCopy 63 = .ok (.invokevirtual 45, 3) := by decide +kernel
theorem dX1_bestCopy_66 : decode cX1_bestCopy 66 = .ok (.istore 6, 2) := by decide +kernel
theorem dX1_bestCopy_68 : decode cX1_bestCopy 68 = .ok (.iload 6, 2) := by decide +kernel
theorem dX1_bestCopy_70 : decode cX1_bestCopy 70 = .ok (.iload 4, 2) := by decide +kernel
theorem dX1_bestCopy_72 : decode cX1_bestCopy 72 = .ok (.if_icmp .le 10, 3) := by decide +kernel
theorem dX1_bestCopy_75 : decode cX1_bestCopy 75 = .ok (.iload 6, 2) := by decide +kernel
theorem dX1_bestCopy_77 : decode cX1_bestCopy 77 = .ok (.istore 4, 2) := by decide +kernel
theorem dX1_bestCopy_79 : decode cX1_bestCopy 79 = .ok (.iload 5, 2) := by decide +kernel
theorem dX1_bestCopy_81 : decode cX1_bestCopy 81 = .ok (.istore_n 3, 1) := by decide +kernel
theorem dX1_bestCopy_82 : decode cX1_bestCopy 82 = .ok (.iinc 5 1, 3) := by decide +kernel
theorem dX1_bestCopy_85 : decode cX1_bestCopy 85 = .ok (.goto (-65), 3) := by decide +kernel
theorem dX1_bestCopy_88 : decode cX1_bestCopy 88 = .ok (.iload_n 3, 1) := by decide +kernel
theorem dX1_bestCopy_89 : decode cX1_bestCopy 89 = .ok (.ireturn, 1) := by decide +kernel
theorem dX1_fewestSure_0 : decode cX1_fewestSure 0 = .ok (.iconst 1, 1) := by decide +kernel
theorem dX1_fewestSure_1 : decode cX1_fewestSure 1 = .ok (.istore_n 3, 1) := by decide +kernel
theorem dX1_fewestSure_2 : decode cX1_fewestSure 2 = .ok (.iload_n 3, 1) := by decide +kernel
theorem dX1_fewestSure_3 : decode cX1_fewestSure 3 = .ok (.iload_n 1, 1) := by decide +kernel
theorem dX1_fewestSure_4 : decode cX1_fewestSure 4 = .ok (.invokestatic 61, 3) := by decide +kernel
theorem dX1_fewestSure_7 : decode cX1_fewestSure 7 = .ok (.if_icmp .gt 48, 3) := by decide +kernel
theorem dX1_fewestSure_10 : decode cX1_fewestSure 10 = .ok (.iconst 1, 1) := by decide +kernel
theorem dX1_fewestSure_11 : decode cX1_fewestSure 11 = .ok (.istore 4, 2) := by decide +kernel
theorem dX1_fewestSure_13 : decode cX1_fewestSure 13 = .ok (.iload 4, 2) := by decide +kernel
theorem dX1_fewestSure_15 : decode cX1_fewestSure 15 = .ok (.bipush 64, 2) := by decide +kernel
theorem dX1_fewestSure_17 : decode cX1_fewestSure 17 = .ok (.if_icmp .ge 32, 3) := by decide +kernel
theorem dX1_fewestSure_20 : decode cX1_fewestSure 20 = .ok (.iload 4, 2) := by decide +kernel
theorem dX1_fewestSure_22 : decode cX1_fewestSure 22 = .ok (.invokestatic 66, 3) := by decide +kernel
theorem dX1_fewestSure_25 : decode cX1_fewestSure 25 = .ok (.iload_n 3, 1) := by decide +kernel
theorem dX1_fewestSure_26 : decode cX1_fewestSure 26 = .ok (.if_icmp .ne 17, 3) := by decide +kernel
theorem dX1_fewestSure_29 : decode cX1_fewestSure 29 = .ok (.aload_n 0, 1) := by decide +kernel
theorem dX1_fewestSure_30 : decode cX1_fewestSure 30 = .ok (.iload_n 1, 1) := by decide +kernel
theorem dX1_fewestSure_31 : decode cX1_fewestSure 31 = .ok (.iload 4, 2) := by decide +kernel
theorem dX1_fewestSure_33 : decode cX1_fewestSure 33 = .ok (.iload_n 2, 1) := by decide +kernel
theorem dX1_fewestSure_34 : decode cX1_fewestSure 34 = .ok (.invokevirtual 71, 3) := by decide +kernel
theorem dX1_fewestSure_37 : decode cX1_fewestSure 37 = .ok (.ifCond .eq 6, 3) := by decide +kernel
theorem dX1_fewestSure_40 : decode cX1_fewestSure 40 = .ok (.iload 4, 2) := by decide +kernel
theorem dX1_fewestSure_42 : decode cX1_fewestSure 42 = .ok (.ireturn, 1) := by decide +kernel
theorem dX1_fewestSure_43 : decode cX1_fewestSure 43 = .ok (.iinc 4 1, 3) := by decide +kernel
theorem dX1_fewestSure_46 : decode cX1_fewestSure 46 = .ok (.goto (-33), 3) := by decide +kernel
theorem dX1_fewestSure_49 : decode cX1_fewestSure 49 = .ok (.iinc 3 1, 3) := by decide +kernel
theorem dX1_fewestSure_52 : decode cX1_fewestSure 52 = .ok (.goto (-50), 3) := by decide +kernel
theorem dX1_fewestSure_55 : decode cX1_fewestSure 55 = .ok (.iconst (-1), 1) := by decide +kernel
theorem dX1_fewestSure_56 : decode cX1_fewestSure 56 = .ok (.ireturn, 1) := by decide +kernel
theorem dX1_isLeftForSure_0 : decode cX1_isLeftForSure 0 = .ok (.iload_n 2, 1) := by decide +kernel
theorem dX1_isLeftForSure_1 : decode cX1_isLeftForSure 1 = .ok (.ifCond .eq 7, 3) := by decide +kernel
theorem dX1_isLeftForSure_4 : decode cX1_isLeftForSure 4 = .ok (.iload_n 3, 1) := by decide +kernel
theorem dX1_isLeftForSure_5 : decode cX1_isLeftForSure 5 = .ok (.ifCond .gt 13, 3) := by decide +kernel
theorem dX1_isLeftForSure_8 : decode cX1_isLeftForSure 8 = .ok (.iload_n 2, 1) := by decide +kernel
theorem dX1_isLeftForSure_9 : decode cX1_isLeftForSure 9 = .ok (.ifCond .eq 7, 3) := by decide +kernel
theorem dX1_isLeftForSure_12 : decode cX1_isLeftForSure 12 = .ok (.iconst 1, 1) := by decide +kernel
theorem dX1_isLeftForSure_13 : decode cX1_isLeftForSure 13 = .ok (.goto 4, 3) := by decide +kernel
theorem dX1_isLeftForSure_16 : decode cX1_isLeftForSure 16 = .ok (.iconst 0, 1) := by decide +kernel
theorem dX1_isLeftForSure_17 : decode cX1_isLeftForSure 17 = .ok (.ireturn, 1) := by decide +kernel
theorem dX1_isLeftForSure_18 : decode cX1_isLeftForSure 18 = .ok (.iconst 0, 1) := by decide +kernel
theorem dX1_isLeftForSure_19 : decode cX1_isLeftForSure 19 = .ok (.istore 4, 2) := by decide +kernel
theorem dX1_isLeftForSure_21 : decode cX1_isLeftForSure 21 = .ok (.iload 4, 2) := by decide +kernel
theorem dX1_isLeftForSure_23 : decode cX1_isLeftForSure 23 = .ok (.bipush 6, 2) := by decide +kernel
theorem dX1_isLeftForSure_25 : decode cX1_isLeftForSure 25 = .ok (.if_icmp .ge 73, 3) := by decide +kernel
theorem dX1_isLeftForSure_28 : decode cX1_isLeftForSure 28 = .ok (.aload_n 0, 1) := by decide +kernel
theorem dX1_isLeftForSure_29 : decode cX1_isLeftForSure 29 = .ok (.getfield 9, 3) := by decide +kernel
theorem dX1_isLeftForSure_32 : decode cX1_isLeftForSure 32 = .ok (.iload 4, 2) := by decide +kernel
theorem dX1_isLeftForSure_34 : decode cX1_isLeftForSure 34 = .ok (.invokevirtual 75, 3) := by decide +kernel
theorem dX1_isLeftForSure_37 : decode cX1_isLeftForSure 37 = .ok (.ifCond .eq 55, 3) := by decide +kernel
theorem dX1_isLeftForSure_40 : decode cX1_isLeftForSure 40 = .ok (.iload_n 2, 1) := by decide +kernel
theorem dX1_isLeftForSure_41 : decode cX1_isLeftForSure 41 = .ok (.iconst 1, 1) := by decide +kernel
theorem dX1_isLeftForSure_42 : decode cX1_isLeftForSure 42 = .ok (.iload 4, 2) := by decide +kernel
theorem dX1_isLeftForSure_44 : decode cX1_isLeftForSure 44 = .ok (.ishl, 1) := by decide +kernel
theorem dX1_isLeftForSure_45 : decode cX1_isLeftForSure 45 = .ok (.iand, 1) := by decide +kernel
theorem dX1_isLeftForSure_46 : decode cX1_isLeftForSure 46 = .ok (.ifCond .eq 7, 3) := by decide +kernel
theorem dX1_isLeftForSure_49 : decode cX1_isLeftForSure 49 = .ok (.iconst 1, 1) := by decide +kernel
theorem dX1_isLeftForSure_50 : decode cX1_isLeftForSure 50 = .ok (.goto 4, 3) := by decide +kernel
theorem dX1_isLeftForSure_53 : decode cX1_isLeftForSure 53 = .ok (.iconst 0, 1) := by decide +kernel
theorem dX1_isLeftForSure_54 : decode cX1_isLeftForSure 54 = .ok (.istore 5, 2) := by decide +kernel
theorem dX1_isLeftForSure_56 : decode cX1_isLeftForSure 56 = .ok (.iload 5, 2) := by decide +kernel
theorem dX1_isLeftForSure_58 : decode cX1_isLeftForSure 58 = .ok (.ifCond .eq 16, 3) := by decide +kernel
theorem dX1_isLeftForSure_61 : decode cX1_isLeftForSure 61 = .ok (.iload_n 2, 1) := by decide +kernel
theorem dX1_isLeftForSure_62 : decode cX1_isLeftForSure 62 = .ok (.iload_n 1, 1) := by decide +kernel
theorem dX1_isLeftForSure_63 : decode cX1_isLeftForSure 63 = .ok (.iload 4, 2) := by decide +kernel
theorem dX1_isLeftForSure_65 : decode cX1_isLeftForSure 65 = .ok (.invokestatic 79, 3) := by decide +kernel
theorem dX1_isLeftForSure_68 : decode cX1_isLeftForSure 68 = .ok (.iconst (-1), 1) := by decide +kernel
theorem dX1_isLeftForSure_69 : decode cX1_isLeftForSure 69 = .ok (.ixor, 1) := by decide +kernel
theorem dX1_isLeftForSure_70 : decode cX1_isLeftForSure 70 = .ok (.iand, 1) := by decide +kernel
theorem dX1_isLeftForSure_71 : decode cX1_isLeftForSure 71 = .ok (.goto 4, 3) := by decide +kernel
theorem dX1_isLeftForSure_74 : decode cX1_isLeftForSure 74 = .ok (.iload_n 2, 1) := by decide +kernel
theorem dX1_isLeftForSure_75 : decode cX1_isLeftForSure 75 = .ok (.istore 6, 2) := by decide +kernel
theorem dX1_isLeftForSure_77 : decode cX1_isLeftForSure 77 = .ok (.aload_n 0, 1) := by decide +kernel
theorem dX1_isLeftForSure_78 : decode cX1_isLeftForSure 78 = .ok (.iload_n 1, 1) := by decide +kernel
theorem dX1_isLeftForSure_79 : decode cX1_isLeftForSure 79 = .ok (.iload 6, 2) := by decide +kernel
theorem dX1_isLeftForSure_81 : decode cX1_isLeftForSure 81 = .ok (.iload_n 3, 1) := by decide +kernel
theorem dX1_isLeftForSure_82 : decode cX1_isLeftForSure 82 = .ok (.iconst 1, 1) := by decide +kernel
theorem dX1_isLeftForSure_83 : decode cX1_isLeftForSure 83 = .ok (.isub, 1) := by decide +kernel
theorem dX1_isLeftForSure_84 : decode cX1_isLeftForSure 84 = .ok (.invokevirtual 71, 3) := by decide +kernel
theorem dX1_isLeftForSure_87 : decode cX1_isLeftForSure 87 = .ok (.ifCond .ne 5, 3) := by decide +kernel
theorem dX1_isLeftForSure_90 : decode cX1_isLeftForSure 90 = .ok (.iconst 0, 1) := by decide +kernel
theorem dX1_isLeftForSure_91 : decode cX1_isLeftForSure 91 = .ok (.ireturn, 1) := by decide +kernel
theorem dX1_isLeftForSure_92 : decode cX1_isLeftForSure 92 = .ok (.iinc 4 1, 3) := by decide +kernel
theorem dX1_isLeftForSure_95 : decode cX1_isLeftForSure 95 = .ok (.goto (-74), 3) := by decide +kernel
theorem dX1_isLeftForSure_98 : decode cX1_isLeftForSure 98 = .ok (.iconst 1, 1) := by decide +kernel
theorem dX1_isLeftForSure_99 : decode cX1_isLeftForSure 99 = .ok (.ireturn, 1) := by decide +kernel
theorem dX1_fewestRenamings_0 : decode cX1_fewestRenamings 0 = .ok (.iconst 0, 1) := by decide +kernel
theorem dX1_fewestRenamings_1 : decode cX1_fewestRenamings 1 = .ok (.istore_n 2, 1) := by decide +kernel
theorem dX1_fewestRenamings_2 : decode cX1_fewestRenamings 2 = .ok (.iconst 0, 1) := by decide +kernel
theorem dX1_fewestRenamings_3 : decode cX1_fewestRenamings 3 = .ok (.istore_n 3, 1) := by decide +kernel
theorem dX1_fewestRenamings_4 : decode cX1_fewestRenamings 4 = .ok (.iload_n 3, 1) := by decide +kernel
theorem dX1_fewestRenamings_5 : decode cX1_fewestRenamings 5 = .ok (.bipush 6, 2) := by decide +kernel
theorem dX1_fewestRenamings_7 : decode cX1_fewestRenamings 7 = .ok (.if_icmp .ge 29, 3) := by decide +kernel
theorem dX1_fewestRenamings_10 : decode cX1_fewestRenamings 10 = .ok (.iload_n 2, 1) := by decide +kernel
theorem dX1_fewestRenamings_11 : decode cX1_fewestRenamings 11 = .ok (.iconst 0, 1) := by decide +kernel
theorem dX1_fewestRenamings_12 : decode cX1_fewestRenamings 12 = .ok (.aload_n 0, 1) := by decide +kernel
theorem dX1_fewestRenamings_13 : decode cX1_fewestRenamings 13 = .ok (.getfield 15, 3) := by decide +kernel
theorem dX1_fewestRenamings_16 : decode cX1_fewestRenamings 16 = .ok (.getfield 49, 3) := by decide +kernel
theorem dX1_fewestRenamings_19 : decode cX1_fewestRenamings 19 = .ok (.iload_n 3, 1) := by decide +kernel
theorem dX1_fewestRenamings_20 : decode cX1_fewestRenamings 20 = .ok (.invokestatic 31, 3) := by decide +kernel
theorem dX1_fewestRenamings_23 : decode cX1_fewestRenamings 23 = .ok (.iload_n 1, 1) := by decide +kernel
theorem dX1_fewestRenamings_24 : decode cX1_fewestRenamings 24 = .ok (.isub, 1) := by decide +kernel
theorem dX1_fewestRenamings_25 : decode cX1_fewestRenamings 25 = .ok (.invokestatic 83, 3) := by decide +kernel
theorem dX1_fewestRenamings_28 : decode cX1_fewestRenamings 28 = .ok (.iadd, 1) := by decide +kernel
theorem dX1_fewestRenamings_29 : decode cX1_fewestRenamings 29 = .ok (.istore_n 2, 1) := by decide +kernel
theorem dX1_fewestRenamings_30 : decode cX1_fewestRenamings 30 = .ok (.iinc 3 1, 3) := by decide +kernel
theorem dX1_fewestRenamings_33 : decode cX1_fewestRenamings 33 = .ok (.goto (-29), 3) := by decide +kernel
theorem dX1_fewestRenamings_36 : decode cX1_fewestRenamings 36 = .ok (.aload_n 0, 1) := by decide +kernel
theorem dX1_fewestRenamings_37 : decode cX1_fewestRenamings 37 = .ok (.getfield 15, 3) := by decide +kernel
theorem dX1_fewestRenamings_40 : decode cX1_fewestRenamings 40 = .ok (.getfield 49, 3) := by decide +kernel
theorem dX1_fewestRenamings_43 : decode cX1_fewestRenamings 43 = .ok (.invokestatic 88, 3) := by decide +kernel
theorem dX1_fewestRenamings_46 : decode cX1_fewestRenamings 46 = .ok (.bipush 6, 2) := by decide +kernel
theorem dX1_fewestRenamings_48 : decode cX1_fewestRenamings 48 = .ok (.iload_n 1, 1) := by decide +kernel
theorem dX1_fewestRenamings_49 : decode cX1_fewestRenamings 49 = .ok (.imul, 1) := by decide +kernel
theorem dX1_fewestRenamings_50 : decode cX1_fewestRenamings 50 = .ok (.if_icmp .gt 7, 3) := by decide +kernel
theorem dX1_fewestRenamings_53 : decode cX1_fewestRenamings 53 = .ok (.iconst 1, 1) := by decide +kernel
theorem dX1_fewestRenamings_54 : decode cX1_fewestRenamings 54 = .ok (.goto 4, 3) := by decide +kernel
theorem dX1_fewestRenamings_57 : decode cX1_fewestRenamings 57 = .ok (.iconst 0, 1) := by decide +kernel
theorem dX1_fewestRenamings_58 : decode cX1_fewestRenamings 58 = .ok (.istore_n 3, 1) := by decide +kernel
theorem dX1_fewestRenamings_59 : decode cX1_fewestRenamings 59 = .ok (.iload_n 3, 1) := by decide +kernel
theorem dX1_fewestRenamings_60 : decode cX1_fewestRenamings 60 = .ok (.ifCond .eq 12, 3) := by decide +kernel
theorem dX1_fewestRenamings_63 : decode cX1_fewestRenamings 63 = .ok (.iload_n 2, 1) := by decide +kernel
theorem dX1_fewestRenamings_64 : decode cX1_fewestRenamings 64 = .ok (.iconst 3, 1) := by decide +kernel
theorem dX1_fewestRenamings_65 : decode cX1_fewestRenamings 65 = .ok (.if_icmp .gt 7, 3) := by decide +kernel
theorem dX1_fewestRenamings_68 : decode cX1_fewestRenamings 68 = .ok (.iload_n 2, 1) := by decide +kernel
theorem dX1_fewestRenamings_69 : decode cX1_fewestRenamings 69 = .ok (.goto 4, 3) := by decide +kernel
theorem dX1_fewestRenamings_72 : decode cX1_fewestRenamings 72 = .ok (.iconst (-1), 1) := by decide +kernel
theorem dX1_fewestRenamings_73 : decode cX1_fewestRenamings 73 = .ok (.ireturn, 1) := by decide +kernel
theorem dX1_rowsThatFit_0 : decode cX1_rowsThatFit 0 = .ok (.aload_n 0, 1) := by decide +kernel
theorem dX1_rowsThatFit_1 : decode cX1_rowsThatFit 1 = .ok (.aload_n 0, 1) := by decide +kernel
theorem dX1_rowsThatFit_2 : decode cX1_rowsThatFit 2 = .ok (.getfield 15, 3) := by decide +kernel
theorem dX1_rowsThatFit_5 : decode cX1_rowsThatFit 5 = .ok (.getfield 49, 3) := by decide +kernel
theorem dX1_rowsThatFit_8 : decode cX1_rowsThatFit 8 = .ok (.iconst 0, 1) := by decide +kernel
theorem dX1_rowsThatFit_9 : decode cX1_rowsThatFit 9 = .ok (.iconst (-1), 1) := by decide +kernel
theorem dX1_rowsThatFit_10 : decode cX1_rowsThatFit 10 = .ok (.iconst (-1), 1) := by decide +kernel
theorem dX1_rowsThatFit_11 : decode cX1_rowsThatFit 11 = .ok (.invokevirtual 92, 3) := by decide +kernel
theorem dX1_rowsThatFit_14 : decode cX1_rowsThatFit 14 = .ok (.ireturn, 1) := by decide +kernel
theorem dX1_onlyLetterIn_0 : decode cX1_onlyLetterIn 0 = .ok (.iconst (-1), 1) := by decide +kernel
theorem dX1_onlyLetterIn_1 : decode cX1_onlyLetterIn 1 = .ok (.istore_n 2, 1) := by decide +kernel
theorem dX1_onlyLetterIn_2 : decode cX1_onlyLetterIn 2 = .ok (.iconst 0, 1) := by decide +kernel
theorem dX1_onlyLetterIn_3 : decode cX1_onlyLetterIn 3 = .ok (.istore_n 3, 1) := by decide +kernel
theorem dX1_onlyLetterIn_4 : decode cX1_onlyLetterIn 4 = .ok (.iload_n 3, 1) := by decide +kernel
theorem dX1_onlyLetterIn_5 : decode cX1_onlyLetterIn 5 = .ok (.bipush 6, 2) := by decide +kernel
theorem dX1_onlyLetterIn_7 : decode cX1_onlyLetterIn 7 = .ok (.if_icmp .ge 46, 3) := by decide +kernel
theorem dX1_onlyLetterIn_10 : decode cX1_onlyLetterIn 10 = .ok (.aload_n 0, 1) := by decide +kernel
theorem dX1_onlyLetterIn_11 : decode cX1_onlyLetterIn 11 = .ok (.getfield 9, 3) := by decide +kernel
theorem dX1_onlyLetterIn_14 : decode cX1_onlyLetterIn 14 = .ok (.iload_n 3, 1) := by decide +kernel
theorem dX1_onlyLetterIn_15 : decode cX1_onlyLetterIn 15 = .ok (.invokevirtual 75, 3) := by decide +kernel
theorem dX1_onlyLetterIn_18 : decode cX1_onlyLetterIn 18 = .ok (.ifCond .eq 29, 3) := by decide +kernel
theorem dX1_onlyLetterIn_21 : decode cX1_onlyLetterIn 21 = .ok (.aload_n 0, 1) := by decide +kernel
theorem dX1_onlyLetterIn_22 : decode cX1_onlyLetterIn 22 = .ok (.aload_n 0, 1) := by decide +kernel
theorem dX1_onlyLetterIn_23 : decode cX1_onlyLetterIn 23 = .ok (.getfield 15, 3) := by decide +kernel
theorem dX1_onlyLetterIn_26 : decode cX1_onlyLetterIn 26 = .ok (.getfield 49, 3) := by decide +kernel
theorem dX1_onlyLetterIn_29 : decode cX1_onlyLetterIn 29 = .ok (.iconst 0, 1) := by decide +kernel
theorem dX1_onlyLetterIn_30 : decode cX1_onlyLetterIn 30 = .ok (.iload_n 1, 1) := by decide +kernel
theorem dX1_onlyLetterIn_31 : decode cX1_onlyLetterIn 31 = .ok (.iload_n 3, 1) := by decide +kernel
theorem dX1_onlyLetterIn_32 : decode cX1_onlyLetterIn 32 = .ok (.invokevirtual 92, 3) := by decide +kernel
theorem dX1_onlyLetterIn_35 : decode cX1_onlyLetterIn 35 = .ok (.ifCond .le 12, 3) := by decide +kernel
theorem dX1_onlyLetterIn_38 : decode cX1_onlyLetterIn 38 = .ok (.iload_n 2, 1) := by decide +kernel
theorem dX1_onlyLetterIn_39 : decode cX1_onlyLetterIn 39 = .ok (.iconst (-1), 1) := by decide +kernel
theorem dX1_onlyLetterIn_40 : decode cX1_onlyLetterIn 40 = .ok (.if_icmp .eq 5, 3) := by decide +kernel
theorem dX1_onlyLetterIn_43 : decode cX1_onlyLetterIn 43 = .ok (.iconst (-1), 1) := by decide +kernel
theorem dX1_onlyLetterIn_44 : decode cX1_onlyLetterIn 44 = .ok (.ireturn, 1) := by decide +kernel
theorem dX1_onlyLetterIn_45 : decode cX1_onlyLetterIn 45 = .ok (.iload_n 3, 1) := by decide +kernel
theorem dX1_onlyLetterIn_46 : decode cX1_onlyLetterIn 46 = .ok (.istore_n 2, 1) := by decide +kernel
theorem dX1_onlyLetterIn_47 : decode cX1_onlyLetterIn 47 = .ok (.iinc 3 1, 3) := by decide +kernel
theorem dX1_onlyLetterIn_50 : decode cX1_onlyLetterIn 50 = .ok (.goto (-46), 3) := by decide +kernel
theorem dX1_onlyLetterIn_53 : decode cX1_onlyLetterIn 53 = .ok (.iload_n 2, 1) := by decide +kernel
theorem dX1_onlyLetterIn_54 : decode cX1_onlyLetterIn 54 = .ok (.ireturn, 1) := by decide +kernel
theorem dX1_rowsFrom_0 : decode cX1_rowsFrom 0 = .ok (.iload_n 3, 1) := by decide +kernel
theorem dX1_rowsFrom_1 : decode cX1_rowsFrom 1 = .ok (.ifCond .le 16, 3) := by decide +kernel
theorem dX1_rowsFrom_4 : decode cX1_rowsFrom 4 = .ok (.aload_n 0, 1) := by decide +kernel
theorem dX1_rowsFrom_5 : decode cX1_rowsFrom 5 = .ok (.lload_n 1, 1) := by decide +kernel
theorem dX1_rowsFrom_6 : decode cX1_rowsFrom 6 = .ok (.iload_n 3, 1) := by decide +kernel
theorem dX1_rowsFrom_7 : decode cX1_rowsFrom 7 = .ok (.iconst 1, 1) := by decide +kernel
theorem dX1_rowsFrom_8 : decode cX1_rowsFrom 8 = .ok (.isub, 1) := by decide +kernel
theorem dX1_rowsFrom_9 : decode cX1_rowsFrom 9 = .ok (.invokevirtual 96, 3) := by decide +kernel
theorem dX1_rowsFrom_12 : decode cX1_rowsFrom 12 = .ok (.ifCond .ne 5, 3) := by decide +kernel
theorem dX1_rowsFrom_15 : decode cX1_rowsFrom 15 = .ok (.iconst 0, 1) := by decide +kernel
theorem dX1_rowsFrom_16 : decode cX1_rowsFrom 16 = .ok (.ireturn, 1) := by decide +kernel
theorem dX1_rowsFrom_17 : decode cX1_rowsFrom 17 = .ok (.iload_n 3, 1) := by decide +kernel
theorem dX1_rowsFrom_18 : decode cX1_rowsFrom 18 = .ok (.aload_n 0, 1) := by decide +kernel
theorem dX1_rowsFrom_19 : decode cX1_rowsFrom 19 = .ok (.getfield 15, 3) := by decide +kernel
theorem dX1_rowsFrom_22 : decode cX1_rowsFrom 22 = .ok (.getfield 99, 3) := by decide +kernel
theorem dX1_rowsFrom_25 : decode cX1_rowsFrom 25 = .ok (.if_icmp .lt 5, 3) := by decide +kernel
theorem dX1_rowsFrom_28 : decode cX1_rowsFrom 28 = .ok (.iconst 1, 1) := by decide +kernel
theorem dX1_rowsFrom_29 : decode cX1_rowsFrom 29 = .ok (.ireturn, 1) := by decide +kernel
theorem dX1_rowsFrom_30 : decode cX1_rowsFrom 30 = .ok (.iload_n 3, 1) := by decide +kernel
theorem dX1_rowsFrom_31 : decode cX1_rowsFrom 31 = .ok (.iload 4, 2) := by decide +kernel
theorem dX1_rowsFrom_33 : decode cX1_rowsFrom 33 = .ok (.if_icmp .le 31, 3) := by decide +kernel
theorem dX1_rowsFrom_36 : decode cX1_rowsFrom 36 = .ok (.aload_n 0, 1) := by decide +kernel
theorem dX1_rowsFrom_37 : decode cX1_rowsFrom 37 = .ok (.iload_n 3, 1) := by decide +kernel
theorem dX1_rowsFrom_38 : decode cX1_rowsFrom 38 = .ok (.invokevirtual 103, 3) := by decide +kernel
theorem dX1_rowsFrom_41 : decode cX1_rowsFrom 41 = .ok (.ifCond .eq 23, 3) := by decide +kernel
theorem dX1_rowsFrom_44 : decode cX1_rowsFrom 44 = .ok (.aload_n 0, 1) := by decide +kernel
theorem dX1_rowsFrom_45 : decode cX1_rowsFrom 45 = .ok (.getfield 9, 3) := by decide +kernel
theorem dX1_rowsFrom_48 : decode cX1_rowsFrom 48 = .ok (.invokevirtual 106, 3) := by decide +kernel
theorem dX1_rowsFrom_51 : decode cX1_rowsFrom 51 = .ok (.aload_n 0, 1) := by decide +kernel
theorem dX1_rowsFrom_52 : decode cX1_rowsFrom 52 = .ok (.getfield 15, 3) := by decide +kernel
theorem dX1_rowsFrom_55 : decode cX1_rowsFrom 55 = .ok (.getfield 99, 3) := by decide +kernel
theorem dX1_rowsFrom_58 : decode cX1_rowsFrom 58 = .ok (.iload_n 3, 1) := by decide +kernel
theorem dX1_rowsFrom_59 : decode cX1_rowsFrom 59 = .ok (.isub, 1) := by decide +kernel
theorem dX1_rowsFrom_60 : decode cX1_rowsFrom 60 = .ok (.invokestatic 110, 3) := by decide +kernel
theorem dX1_rowsFrom_63 : decode cX1_rowsFrom 63 = .ok (.ireturn, 1) := by decide +kernel
theorem dX1_rowsFrom_64 : decode cX1_rowsFrom 64 = .ok (.iload_n 3, 1) := by decide +kernel
theorem dX1_rowsFrom_65 : decode cX1_rowsFrom 65 = .ok (.iload 4, 2) := by decide +kernel
theorem dX1_rowsFrom_67 : decode cX1_rowsFrom 67 = .ok (.if_icmp .ne 36, 3) := by decide +kernel
theorem dX1_rowsFrom_70 : decode cX1_rowsFrom 70 = .ok (.aload_n 0, 1) := by decide +kernel
theorem dX1_rowsFrom_71 : decode cX1_rowsFrom 71 = .ok (.getfield 15, 3) := by decide +kernel
theorem dX1_rowsFrom_74 : decode cX1_rowsFrom 74 = .ok (.lload_n 1, 1) := by decide +kernel
theorem dX1_rowsFrom_75 : decode cX1_rowsFrom 75 = .ok (.iload 5, 2) := by decide +kernel
theorem dX1_rowsFrom_77 : decode cX1_rowsFrom 77 = .ok (.invokevirtual 35, 3) := by decide +kernel
theorem dX1_rowsFrom_80 : decode cX1_rowsFrom 80 = .ok (.lstore 6, 2) := by decide +kernel
theorem dX1_rowsFrom_82 : decode cX1_rowsFrom 82 = .ok (.aload_n 0, 1) := by decide +kernel
theorem dX1_rowsFrom_83 : decode cX1_rowsFrom 83 = .ok (.aload_n 0, 1) := by decide +kernel
theorem dX1_rowsFrom_84 : decode cX1_rowsFrom 84 = .ok (.getfield 15, 3) := by decide +kernel
theorem dX1_rowsFrom_87 : decode cX1_rowsFrom 87 = .ok (.lload 6, 2) := by decide +kernel
theorem dX1_rowsFrom_89 : decode cX1_rowsFrom 89 = .ok (.invokevirtual 41, 3) := by decide +kernel
theorem dX1_rowsFrom_92 : decode cX1_rowsFrom 92 = .ok (.iload_n 3, 1) := by decide +kernel
theorem dX1_rowsFrom_93 : decode cX1_rowsFrom 93 = .ok (.iconst 1, 1) := by decide +kernel
theorem dX1_rowsFrom_94 : decode cX1_rowsFrom 94 = .ok (.iadd, 1) := by decide +kernel
theorem dX1_rowsFrom_95 : decode cX1_rowsFrom 95 = .ok (.iload 4, 2) := by decide +kernel
theorem dX1_rowsFrom_97 : decode cX1_rowsFrom 97 = .ok (.iload 5, 2) := by decide +kernel
theorem dX1_rowsFrom_99 : decode cX1_rowsFrom 99 = .ok (.invokevirtual 92, 3) := by decide +kernel
theorem dX1_rowsFrom_102 : decode cX1_rowsFrom 102 = .ok (.ireturn, 1) := by decide +kernel
theorem dX1_rowsFrom_103 : decode cX1_rowsFrom 103 = .ok (.iconst 0, 1) := by decide +kernel
theorem dX1_rowsFrom_104 : decode cX1_rowsFrom 104 = .ok (.istore 6, 2) := by decide +kernel
theorem dX1_rowsFrom_106 : decode cX1_rowsFrom 106 = .ok (.iconst 0, 1) := by decide +kernel
theorem dX1_rowsFrom_107 : decode cX1_rowsFrom 107 = .ok (.istore 7, 2) := by decide +kernel
theorem dX1_rowsFrom_109 : decode cX1_rowsFrom 109 = .ok (.iconst 0, 1) := by decide +kernel
theorem dX1_rowsFrom_110 : decode cX1_rowsFrom 110 = .ok (.istore 8, 2) := by decide +kernel
theorem dX1_rowsFrom_112 : decode cX1_rowsFrom 112 = .ok (.iload 8, 2) := by decide +kernel
theorem dX1_rowsFrom_114 : decode cX1_rowsFrom 114 = .ok (.bipush 6, 2) := by decide +kernel
theorem dX1_rowsFrom_116 : decode cX1_rowsFrom 116 = .ok (.if_icmp .ge 76, 3) := by decide +kernel
theorem dX1_rowsFrom_119 : decode cX1_rowsFrom 119 = .ok (.aload_n 0, 1) := by decide +kernel
theorem dX1_rowsFrom_120 : decode cX1_rowsFrom 120 = .ok (.getfield 9, 3) := by decide +kernel
theorem dX1_rowsFrom_123 : decode cX1_rowsFrom 123 = .ok (.iload 8, 2) := by decide +kernel
theorem dX1_rowsFrom_125 : decode cX1_rowsFrom 125 = .ok (.invokevirtual 75, 3) := by decide +kernel
theorem dX1_rowsFrom_128 : decode cX1_rowsFrom 128 = .ok (.ifCond .ne 6, 3) := by decide +kernel
theorem dX1_rowsFrom_131 : decode cX1_rowsFrom 131 = .ok (.goto 55, 3) := by decide +kernel
theorem dX1_rowsFrom_134 : decode cX1_rowsFrom 134 = .ok (.lload_n 1, 1) := by decide +kernel
theorem dX1_rowsFrom_135 : decode cX1_rowsFrom 135 = .ok (.iload 8, 2) := by decide +kernel
theorem dX1_rowsFrom_137 : decode cX1_rowsFrom 137 = .ok (.invokestatic 31, 3) := by decide +kernel
theorem dX1_rowsFrom_140 : decode cX1_rowsFrom 140 = .ok (.ifCond .ne 9, 3) := by decide +kernel
theorem dX1_rowsFrom_143 : decode cX1_rowsFrom 143 = .ok (.iinc 7 1, 3) := by decide +kernel
theorem dX1_rowsFrom_146 : decode cX1_rowsFrom 146 = .ok (.goto 40, 3) := by decide +kernel
theorem dX1_rowsFrom_149 : decode cX1_rowsFrom 149 = .ok (.aload_n 0, 1) := by decide +kernel
theorem dX1_rowsFrom_150 : decode cX1_rowsFrom 150 = .ok (.getfield 15, 3) := by decide +kernel
theorem dX1_rowsFrom_153 : decode cX1_rowsFrom 153 = .ok (.lload_n 1, 1) := by decide +kernel
theorem dX1_rowsFrom_154 : decode cX1_rowsFrom 154 = .ok (.iload 8, 2) := by decide +kernel
theorem dX1_rowsFrom_156 : decode cX1_rowsFrom 156 = .ok (.invokevirtual 35, 3) := by decide +kernel
theorem dX1_rowsFrom_159 : decode cX1_rowsFrom 159 = .ok (.lstore 9, 2) := by decide +kernel
theorem dX1_rowsFrom_161 : decode cX1_rowsFrom 161 = .ok (.iload 6, 2) := by decide +kernel
theorem dX1_rowsFrom_163 : decode cX1_rowsFrom 163 = .ok (.aload_n 0, 1) := by decide +kernel
theorem dX1_rowsFrom_164 : decode cX1_rowsFrom 164 = .ok (.aload_n 0, 1) := by decide +kernel
theorem dX1_rowsFrom_165 : decode cX1_rowsFrom 165 = .ok (.getfield 15, 3) := by decide +kernel
theorem dX1_rowsFrom_168 : decode cX1_rowsFrom 168 = .ok (.lload 9, 2) := by decide +kernel
theorem dX1_rowsFrom_170 : decode cX1_rowsFrom 170 = .ok (.invokevirtual 41, 3) := by decide +kernel
theorem dX1_rowsFrom_173 : decode cX1_rowsFrom 173 = .ok (.iload_n 3, 1) := by decide +kernel
theorem dX1_rowsFrom_174 : decode cX1_rowsFrom 174 = .ok (.iconst 1, 1) := by decide +kernel
theorem dX1_rowsFrom_175 : decode cX1_rowsFrom 175 = .ok (.iadd, 1) := by decide +kernel
theorem dX1_rowsFrom_176 : decode cX1_rowsFrom 176 = .ok (.iload 4, 2) := by decide +kernel
theorem dX1_rowsFrom_178 : decode cX1_rowsFrom 178 = .ok (.iload 5, 2) := by decide +kernel
theorem dX1_rowsFrom_180 : decode cX1_rowsFrom 180 = .ok (.invokevirtual 92, 3) := by decide +kernel
theorem dX1_rowsFrom_183 : decode cX1_rowsFrom 183 = .ok (.iadd, 1) := by decide +kernel
theorem dX1_rowsFrom_184 : decode cX1_rowsFrom 184 = .ok (.istore 6, 2) := by decide +kernel
theorem dX1_rowsFrom_186 : decode cX1_rowsFrom 186 = .ok (.iinc 8 1, 3) := by decide +kernel
theorem dX1_rowsFrom_189 : decode cX1_rowsFrom 189 = .ok (.goto (-77), 3) := by decide +kernel
theorem dX1_rowsFrom_192 : decode cX1_rowsFrom 192 = .ok (.iload 7, 2) := by decide +kernel
theorem dX1_rowsFrom_194 : decode cX1_rowsFrom 194 = .ok (.ifCond .le 30, 3) := by decide +kernel
theorem dX1_rowsFrom_197 : decode cX1_rowsFrom 197 = .ok (.iload 6, 2) := by decide +kernel
theorem dX1_rowsFrom_199 : decode cX1_rowsFrom 199 = .ok (.iload 7, 2) := by decide +kernel
theorem dX1_rowsFrom_201 : decode cX1_rowsFrom 201 = .ok (.aload_n 0, 1) := by decide +kernel
theorem dX1_rowsFrom_202 : decode cX1_rowsFrom 202 = .ok (.aload_n 0, 1) := by decide +kernel
theorem dX1_rowsFrom_203 : decode cX1_rowsFrom 203 = .ok (.getfield 15, 3) := by decide +kernel
theorem dX1_rowsFrom_206 : decode cX1_rowsFrom 206 = .ok (.lload_n 1, 1) := by decide +kernel
theorem dX1_rowsFrom_207 : decode cX1_rowsFrom 207 = .ok (.invokevirtual 41, 3) := by decide +kernel
theorem dX1_rowsFrom_210 : decode cX1_rowsFrom 210 = .ok (.iload_n 3, 1) := by decide +kernel
theorem dX1_rowsFrom_211 : decode cX1_rowsFrom 211 = .ok (.iconst 1, 1) := by decide +kernel
theorem dX1_rowsFrom_212 : decode cX1_rowsFrom 212 = .ok (.iadd, 1) := by decide +kernel
theorem dX1_rowsFrom_213 : decode cX1_rowsFrom 213 = .ok (.iload 4, 2) := by decide +kernel
theorem dX1_rowsFrom_215 : decode cX1_rowsFrom 215 = .ok (.iload 5, 2) := by decide +kernel
theorem dX1_rowsFrom_217 : decode cX1_rowsFrom 217 = .ok (.invokevirtual 92, 3) := by decide +kernel
theorem dX1_rowsFrom_220 : decode cX1_rowsFrom 220 = .ok (.imul, 1) := by decide +kernel
theorem dX1_rowsFrom_221 : decode cX1_rowsFrom 221 = .ok (.iadd, 1) := by decide +kernel
theorem dX1_rowsFrom_222 : decode cX1_rowsFrom 222 = .ok (.istore 6, 2) := by decide +kernel
theorem dX1_rowsFrom_224 : decode cX1_rowsFrom 224 = .ok (.iload 6, 2) := by decide +kernel
theorem dX1_rowsFrom_226 : decode cX1_rowsFrom 226 = .ok (.ireturn, 1) := by decide +kernel
theorem dX1_isAsTold_0 : decode cX1_isAsTold 0 = .ok (.aload_n 0, 1) := by decide +kernel
theorem dX1_isAsTold_1 : decode cX1_isAsTold 1 = .ok (.getfield 15, 3) := by decide +kernel
theorem dX1_isAsTold_4 : decode cX1_isAsTold 4 = .ok (.iload_n 3, 1) := by decide +kernel
theorem dX1_isAsTold_5 : decode cX1_isAsTold 5 = .ok (.invokevirtual 113, 3) := by decide +kernel
theorem dX1_isAsTold_8 : decode cX1_isAsTold 8 = .ok (.istore 4, 2) := by decide +kernel
theorem dX1_isAsTold_10 : decode cX1_isAsTold 10 = .ok (.iload 4, 2) := by decide +kernel
theorem dX1_isAsTold_12 : decode cX1_isAsTold 12 = .ok (.iconst (-1), 1) := by decide +kernel
theorem dX1_isAsTold_13 : decode cX1_isAsTold 13 = .ok (.if_icmp .eq 12, 3) := by decide +kernel
theorem dX1_isAsTold_16 : decode cX1_isAsTold 16 = .ok (.iload 4, 2) := by decide +kernel
theorem dX1_isAsTold_18 : decode cX1_isAsTold 18 = .ok (.lload_n 1, 1) := by decide +kernel
theorem dX1_isAsTold_19 : decode cX1_isAsTold 19 = .ok (.invokestatic 116, 3) := by decide +kernel
theorem dX1_isAsTold_22 : decode cX1_isAsTold 22 = .ok (.if_icmp .ne 7, 3) := by decide +kernel
theorem dX1_isAsTold_25 : decode cX1_isAsTold 25 = .ok (.iconst 1, 1) := by decide +kernel
theorem dX1_isAsTold_26 : decode cX1_isAsTold 26 = .ok (.goto 4, 3) := by decide +kernel
theorem dX1_isAsTold_29 : decode cX1_isAsTold 29 = .ok (.iconst 0, 1) := by decide +kernel
theorem dX1_isAsTold_30 : decode cX1_isAsTold 30 = .ok (.ireturn, 1) := by decide +kernel
theorem dX1_nothingToldFrom_0 : decode cX1_nothingToldFrom 0 = .ok (.iload_n 1, 1) := by decide +kernel
theorem dX1_nothingToldFrom_1 : decode cX1_nothingToldFrom 1 = .ok (.istore_n 2, 1) := by decide +kernel
theorem dX1_nothingToldFrom_2 : decode cX1_nothingToldFrom 2 = .ok (.iload_n 2, 1) := by decide +kernel
theorem dX1_nothingToldFrom_3 : decode cX1_nothingToldFrom 3 = .ok (.aload_n 0, 1) := by decide +kernel
theorem dX1_nothingToldFrom_4 : decode cX1_nothingToldFrom 4 = .ok (.getfield 15, 3) := by decide +kernel
theorem dX1_nothingToldFrom_7 : decode cX1_nothingToldFrom 7 = .ok (.getfield 99, 3) := by decide +kernel
theorem dX1_nothingToldFrom_10 : decode cX1_nothingToldFrom 10 = .ok (.if_icmp .ge 23, 3) := by decide +kernel
theorem dX1_nothingToldFrom_13 : decode cX1_nothingToldFrom 13 = .ok (.aload_n 0, 1) := by decide +kernel
theorem dX1_nothingToldFrom_14 : decode cX1_nothingToldFrom 14 = .ok (.getfield 15, 3) := by decide +kernel
theorem dX1_nothingToldFrom_17 : decode cX1_nothingToldFrom 17 = .ok (.iload_n 2, 1) := by decide +kernel
theorem dX1_nothingToldFrom_18 : decode cX1_nothingToldFrom 18 = .ok (.invokevirtual 113, 3) := by decide +kernel
theorem dX1_nothingToldFrom_21 : decode cX1_nothingToldFrom 21 = .ok (.iconst (-1), 1) := by decide +kernel
theorem dX1_nothingToldFrom_22 : decode cX1_nothingToldFrom 22 = .ok (.if_icmp .eq 5, 3) := by decide +kernel
theorem dX1_nothingToldFrom_25 : decode cX1_nothingToldFrom 25 = .ok (.iconst 0, 1) := by decide +kernel
theorem dX1_nothingToldFrom_26 : decode cX1_nothingToldFrom 26 = .ok (.ireturn, 1) := by decide +kernel
theorem dX1_nothingToldFrom_27 : decode cX1_nothingToldFrom 27 = .ok (.iinc 2 1, 3) := by decide +kernel
theorem dX1_nothingToldFrom_30 : decode cX1_nothingToldFrom 30 = .ok (.goto (-28), 3) := by decide +kernel
theorem dX1_nothingToldFrom_33 : decode cX1_nothingToldFrom 33 = .ok (.iconst 1, 1) := by decide +kernel
theorem dX1_nothingToldFrom_34 : decode cX1_nothingToldFrom 34 = .ok (.ireturn, 1) := by decide +kernel
theorem dX2_isKind_0 : decode cX2_isKind 0 = .ok (.iload_n 0, 1) := by decide +kernel
theorem dX2_isKind_1 : decode cX2_isKind 1 = .ok (.iconst 0, 1) := by decide +kernel
theorem dX2_isKind_2 : decode cX2_isKind 2 = .ok (.iconst 4, 1) := by decide +kernel
theorem dX2_isKind_3 : decode cX2_isKind 3 = .ok (.invokestatic 11, 3) := by decide +kernel
theorem dX2_isKind_6 : decode cX2_isKind 6 = .ok (.ireturn, 1) := by decide +kernel
theorem dX2_isSuch_0 : decode cX2_isSuch 0 = .ok (.iload_n 1, 1) := by decide +kernel
theorem dX2_isSuch_1 : decode cX2_isSuch 1 = .ok (.ifCond .eq 18, 3) := by decide +kernel
theorem dX2_isSuch_4 : decode cX2_isSuch 4 = .ok (.iload_n 0, 1) := by decide +kernel
theorem dX2_isSuch_5 : decode cX2_isSuch 5 = .ok (.iload_n 1, 1) := by decide +kernel
theorem dX2_isSuch_6 : decode cX2_isSuch 6 = .ok (.if_icmp .eq 13, 3) := by decide +kernel
theorem dX2_isSuch_9 : decode cX2_isSuch 9 = .ok (.iload_n 0, 1) := by decide +kernel
theorem dX2_isSuch_10 : decode cX2_isSuch 10 = .ok (.iconst 4, 1) := by decide +kernel
theorem dX2_isSuch_11 : decode cX2_isSuch 11 = .ok (.if_icmp .ne 12, 3) := by decide +kernel
theorem dX2_isSuch_14 : decode cX2_isSuch 14 = .ok (.iload_n 1, 1) := by decide +kernel
theorem dX2_isSuch_15 : decode cX2_isSuch 15 = .ok (.iconst 3, 1) := by decide +kernel
theorem dX2_isSuch_16 : decode cX2_isSuch 16 = .ok (.if_icmp .ne 7, 3) := by decide +kernel
theorem dX2_isSuch_19 : decode cX2_isSuch 19 = .ok (.iconst 1, 1) := by decide +kernel
theorem dX2_isSuch_20 : decode cX2_isSuch 20 = .ok (.goto 4, 3) := by decide +kernel
theorem dX2_isSuch_23 : decode cX2_isSuch 23 = .ok (.iconst 0, 1) := by decide +kernel
theorem dX2_isSuch_24 : decode cX2_isSuch 24 = .ok (.ireturn, 1) := by decide +kernel
theorem dX2_namesOf_0 : decode cX2_namesOf 0 = .ok (.iload_n 0, 1) := by decide +kernel
theorem dX2_namesOf_1 : decode cX2_namesOf 1 = .ok (.iconst 1, 1) := by decide +kernel
theorem dX2_namesOf_2 : decode cX2_namesOf 2 = .ok (.if_icmp .ne 6, 3) := by decide +kernel
theorem dX2_namesOf_5 : decode cX2_namesOf 5 = .ok (.bipush 6, 2) := by decide +kernel
theorem dX2_namesOf_7 : decode cX2_namesOf 7 = .ok (.ireturn, 1) := by decide +kernel
theorem dX2_namesOf_8 : decode cX2_namesOf 8 = .ok (.iload_n 0, 1) := by decide +kernel
theorem dX2_namesOf_9 : decode cX2_namesOf 9 = .ok (.iconst 3, 1) := by decide +kernel
theorem dX2_namesOf_10 : decode cX2_namesOf 10 = .ok (.invokestatic 15, 3) := by decide +kernel
theorem dX2_namesOf_13 : decode cX2_namesOf 13 = .ok (.ifCond .eq 7, 3) := by decide +kernel
theorem dX2_namesOf_16 : decode cX2_namesOf 16 = .ok (.iconst 3, 1) := by decide +kernel
theorem dX2_namesOf_17 : decode cX2_namesOf 17 = .ok (.goto 4, 3) := by decide +kernel
theorem dX2_namesOf_20 : decode cX2_namesOf 20 = .ok (.iconst 2, 1) := by decide +kernel
theorem dX2_namesOf_21 : decode cX2_namesOf 21 = .ok (.ireturn, 1) := by decide +kernel
theorem dX2_mostKept_0 : decode cX2_mostKept 0 = .ok (.iload_n 0, 1) := by decide +kernel
theorem dX2_mostKept_1 : decode cX2_mostKept 1 = .ok (.iconst 2, 1) := by decide +kernel
theorem dX2_mostKept_2 : decode cX2_mostKept 2 = .ok (.if_icmp .ne 7, 3) := by decide +kernel
theorem dX2_mostKept_5 : decode cX2_mostKept 5 = .ok (.iconst 2, 1) := by decide +kernel
theorem dX2_mostKept_6 : decode cX2_mostKept 6 = .ok (.goto 4, 3) := by decide +kernel
theorem dX2_mostKept_9 : decode cX2_mostKept 9 = .ok (.iconst 1, 1) := by decide +kernel
theorem dX2_mostKept_10 : decode cX2_mostKept 10 = .ok (.ireturn, 1) := by decide +kernel
theorem dX2_lostWith_0 : decode cX2_lostWith 0 = .ok (.iconst 1, 1) := by decide +kernel
theorem dX2_lostWith_1 : decode cX2_lostWith 1 = .ok (.iload_n 1, 1) := by decide +kernel
theorem dX2_lostWith_2 : decode cX2_lostWith 2 = .ok (.ishl, 1) := by decide +kernel
theorem dX2_lostWith_3 : decode cX2_lostWith 3 = .ok (.istore_n 2, 1) := by decide +kernel
theorem dX2_lostWith_4 : decode cX2_lostWith 4 = .ok (.iload_n 0, 1) := by decide +kernel
theorem dX2_lostWith_5 : decode cX2_lostWith 5 = .ok (.iconst 4, 1) := by decide +kernel
theorem dX2_lostWith_6 : decode cX2_lostWith 6 = .ok (.if_icmp .eq 5, 3) := by decide +kernel
theorem dX2_lostWith_9 : decode cX2_lostWith 9 = .ok (.iload_n 2, 1) := by decide +kernel
theorem dX2_lostWith_10 : decode cX2_lostWith 10 = .ok (.ireturn, 1) := by decide +kernel
theorem dX2_lostWith_11 : decode cX2_lostWith 11 = .ok (.iload_n 1, 1) := by decide +kernel
theorem dX2_lostWith_12 : decode cX2_lostWith 12 = .ok (.iconst 5, 1) := by decide +kernel
theorem dX2_lostWith_13 : decode cX2_lostWith 13 = .ok (.if_icmp .ne 7, 3) := by decide +kernel
theorem dX2_lostWith_16 : decode cX2_lostWith 16 = .ok (.iconst 1, 1) := by decide +kernel
theorem dX2_lostWith_17 : decode cX2_lostWith 17 = .ok (.goto 6, 3) := by decide +kernel
theorem dX2_lostWith_20 : decode cX2_lostWith 20 = .ok (.iload_n 2, 1) := by decide +kernel
theorem dX2_lostWith_21 : decode cX2_lostWith 21 = .ok (.iconst 1, 1) := by decide +kernel
theorem dX2_lostWith_22 : decode cX2_lostWith 22 = .ok (.ishl, 1) := by decide +kernel
theorem dX2_lostWith_23 : decode cX2_lostWith 23 = .ok (.istore_n 3, 1) := by decide +kernel
theorem dX2_lostWith_24 : decode cX2_lostWith 24 = .ok (.iload_n 2, 1) := by decide +kernel
theorem dX2_lostWith_25 : decode cX2_lostWith 25 = .ok (.iload_n 3, 1) := by decide +kernel
theorem dX2_lostWith_26 : decode cX2_lostWith 26 = .ok (.ior, 1) := by decide +kernel
theorem dX2_lostWith_27 : decode cX2_lostWith 27 = .ok (.ireturn, 1) := by decide +kernel
theorem dX3_init_0 : decode cX3_init 0 = .ok (.aload_n 0, 1) := by decide +kernel
theorem dX3_init_1 : decode cX3_init 1 = .ok (.invokespecial 3, 3) := by decide +kernel
theorem dX3_init_4 : decode cX3_init 4 = .ok (.aload_n 0, 1) := by decide +kernel
theorem dX3_init_5 : decode cX3_init 5 = .ok (.bipush 6, 2) := by decide +kernel
theorem dX3_init_7 : decode cX3_init 7 = .ok (.newarray .int, 2) := by decide +kernel
theorem dX3_init_9 : decode cX3_init 9 = .ok (.putfield 9, 3) := by decide +kernel
theorem dX3_init_12 : decode cX3_init 12 = .ok (.return_, 1) := by decide +kernel
theorem dX3_read_0 : decode cX3_read 0 = .ok (.iconst 0, 1) := by decide +kernel
theorem dX3_read_1 : decode cX3_read 1 = .ok (.istore_n 2, 1) := by decide +kernel
theorem dX3_read_2 : decode cX3_read 2 = .ok (.iload_n 2, 1) := by decide +kernel
theorem dX3_read_3 : decode cX3_read 3 = .ok (.bipush 6, 2) := by decide +kernel
theorem dX3_read_5 : decode cX3_read 5 = .ok (.if_icmp .ge 20, 3) := by decide +kernel
theorem dX3_read_8 : decode cX3_read 8 = .ok (.aload_n 0, 1) := by decide +kernel
theorem dX3_read_9 : decode cX3_read 9 = .ok (.getfield 9, 3) := by decide +kernel
theorem dX3_read_12 : decode cX3_read 12 = .ok (.iload_n 2, 1) := by decide +kernel
theorem dX3_read_13 : decode cX3_read 13 = .ok (.aload_n 1, 1) := by decide +kernel
theorem dX3_read_14 : decode cX3_read 14 = .ok (.iload_n 2, 1) := by decide +kernel
theorem dX3_read_15 : decode cX3_read 15 = .ok (.invokevirtual 15, 3) := by decide +kernel
theorem dX3_read_18 : decode cX3_read 18 = .ok (.iastore, 1) := by decide +kernel
theorem dX3_read_19 : decode cX3_read 19 = .ok (.iinc 2 1, 3) := by decide +kernel
theorem dX3_read_22 : decode cX3_read 22 = .ok (.goto (-20), 3) := by decide +kernel
theorem dX3_read_25 : decode cX3_read 25 = .ok (.aload_n 0, 1) := by decide +kernel
theorem dX3_read_26 : decode cX3_read 26 = .ok (.aload_n 1, 1) := by decide +kernel
theorem dX3_read_27 : decode cX3_read 27 = .ok (.bipush 7, 2) := by decide +kernel
theorem dX3_read_29 : decode cX3_read 29 = .ok (.invokevirtual 15, 3) := by decide +kernel
theorem dX3_read_32 : decode cX3_read 32 = .ok (.putfield 21, 3) := by decide +kernel
theorem dX3_read_35 : decode cX3_read 35 = .ok (.return_, 1) := by decide +kernel
theorem dX3_stands_0 : decode cX3_stands 0 = .ok (.aload_n 0, 1) := by decide +kernel
theorem dX3_stands_1 : decode cX3_stands 1 = .ok (.getfield 21, 3) := by decide +kernel
theorem dX3_stands_4 : decode cX3_stands 4 = .ok (.ifCond .le 7, 3) := by decide +kernel
theorem dX3_stands_7 : decode cX3_stands 7 = .ok (.iconst 1, 1) := by decide +kernel
theorem dX3_stands_8 : decode cX3_stands 8 = .ok (.goto 4, 3) := by decide +kernel
theorem dX3_stands_11 : decode cX3_stands 11 = .ok (.iconst 0, 1) := by decide +kernel
theorem dX3_stands_12 : decode cX3_stands 12 = .ok (.ireturn, 1) := by decide +kernel
theorem dX3_tenthsOf_0 : decode cX3_tenthsOf 0 = .ok (.iload_n 1, 1) := by decide +kernel
theorem dX3_tenthsOf_1 : decode cX3_tenthsOf 1 = .ok (.ifCond .lt 18, 3) := by decide +kernel
theorem dX3_tenthsOf_4 : decode cX3_tenthsOf 4 = .ok (.iload_n 1, 1) := by decide +kernel
theorem dX3_tenthsOf_5 : decode cX3_tenthsOf 5 = .ok (.bipush 6, 2) := by decide +kernel
theorem dX3_tenthsOf_7 : decode cX3_tenthsOf 7 = .ok (.if_icmp .ge 12, 3) := by decide +kernel
theorem dX3_tenthsOf_10 : decode cX3_tenthsOf 10 = .ok (.aload_n 0, 1) := by decide +kernel
theorem dX3_tenthsOf_11 : decode cX3_tenthsOf 11 = .ok (.getfield 9, 3) := by decide +kernel
theorem dX3_tenthsOf_14 : decode cX3_tenthsOf 14 = .ok (.iload_n 1, 1) := by decide +kernel
theorem dX3_tenthsOf_15 : decode cX3_tenthsOf 15 = .ok (.iaload, 1) := by decide +kernel
theorem dX3_tenthsOf_16 : decode cX3_tenthsOf 16 = .ok (.goto 4, 3) := by decide +kernel
theorem dX3_tenthsOf_19 : decode cX3_tenthsOf 19 = .ok (.iconst 0, 1) := by decide +kernel
theorem dX3_tenthsOf_20 : decode cX3_tenthsOf 20 = .ok (.ireturn, 1) := by decide +kernel
theorem dX3_mayBurn_0 : decode cX3_mayBurn 0 = .ok (.aload_n 0, 1) := by decide +kernel
theorem dX3_mayBurn_1 : decode cX3_mayBurn 1 = .ok (.iload_n 1, 1) := by decide +kernel
theorem dX3_mayBurn_2 : decode cX3_mayBurn 2 = .ok (.invokevirtual 25, 3) := by decide +kernel
theorem dX3_mayBurn_5 : decode cX3_mayBurn 5 = .ok (.ifCond .le 7, 3) := by decide +kernel
theorem dX3_mayBurn_8 : decode cX3_mayBurn 8 = .ok (.iconst 1, 1) := by decide +kernel
theorem dX3_mayBurn_9 : decode cX3_mayBurn 9 = .ok (.goto 4, 3) := by decide +kernel
theorem dX3_mayBurn_12 : decode cX3_mayBurn 12 = .ok (.iconst 0, 1) := by decide +kernel
theorem dX3_mayBurn_13 : decode cX3_mayBurn 13 = .ok (.ireturn, 1) := by decide +kernel
theorem dX3_lettersThatMayBurn_0 : decode cX3_lettersThatMayBurn 0 = .ok (.iconst 0, 1) := by decide +kernel
theorem dX3_lettersThatMayBurn_1 : decode cX3_lettersThatMayBurn 1 = .ok (.istore_n 1, 1) := by decide +kernel
theorem dX3_lettersThatMayBurn_2 : decode cX3_lettersThatMayBurn 2 = .ok (.iconst 0, 1) := by decide +kernel
theorem dX3_lettersThatMayBurn_3 : decode cX3_lettersThatMayBurn 3 = .ok (.istore_n 2, 1) := by decide +kernel
theorem dX3_lettersThatMayBurn_4 : decode cX3_lettersThatMayBurn 4 = .ok (.iload_n 2, 1) := by decide +kernel
theorem dX3_lettersThatMayBurn_5 : decode cX3_lettersThatMayBurn 5 = .ok (.bipush 6, 2) := by decide +kernel
theorem dX3_lettersThatMayBurn_7 : decode cX3_lettersThatMayBurn 7 = .ok (.if_icmp .ge 20, 3) := by decide +kernel
theorem dX3_lettersThatMayBurn_10 : decode cX3_lettersThatMayBurn 10 = .ok (.aload_n 0, 1) := by decide +kernel
theorem dX3_lettersThatMayBurn_11 : decode cX3_lettersThatMayBurn 11 = .ok (.iload_n 2, 1) := by decide +kernel
theorem dX3_lettersThatMayBurn_12 : decode cX3_lettersThatMayBurn 12 = .ok (.invokevirtual 28, 3) := by decide +kernel
theorem dX3_lettersThatMayBurn_15 : decode cX3_lettersThatMayBurn 15 = .ok (.ifCond .eq 6, 3) := by decide +kernel
theorem dX3_lettersThatMayBurn_18 : decode cX3_lettersThatMayBurn 18 = .ok (.iinc 1 1, 3) := by decide +kernel
theorem dX3_lettersThatMayBurn_21 : decode cX3_lettersThatMayBurn 21 = .ok (.iinc 2 1, 3) := by decide +kernel
theorem dX3_lettersThatMayBurn_24 : decode cX3_lettersThatMayBurn 24 = .ok (.goto (-20), 3) := by decide +kernel
theorem dX3_lettersThatMayBurn_27 : decode cX3_lettersThatMayBurn 27 = .ok (.iload_n 1, 1) := by decide +kernel
theorem dX3_lettersThatMayBurn_28 : decode cX3_lettersThatMayBurn 28 = .ok (.ireturn, 1) := by decide +kernel
theorem dX3_letterByDraw_0 : decode cX3_letterByDraw 0 = .ok (.iload_n 1, 1) := by decide +kernel
theorem dX3_letterByDraw_1 : decode cX3_letterByDraw 1 = .ok (.istore_n 2, 1) := by decide +kernel
theorem dX3_letterByDraw_2 : decode cX3_letterByDraw 2 = .ok (.iconst 0, 1) := by decide +kernel
theorem dX3_letterByDraw_3 : decode cX3_letterByDraw 3 = .ok (.istore_n 3, 1) := by decide +kernel
theorem dX3_letterByDraw_4 : decode cX3_letterByDraw 4 = .ok (.iload_n 3, 1) := by decide +kernel
theorem dX3_letterByDraw_5 : decode cX3_letterByDraw 5 = .ok (.iconst 5, 1) := by decide +kernel
theorem dX3_letterByDraw_6 : decode cX3_letterByDraw 6 = .ok (.if_icmp .ge 23, 3) := by decide +kernel
theorem dX3_letterByDraw_9 : decode cX3_letterByDraw 9 = .ok (.iload_n 2, 1) := by decide +kernel
theorem dX3_letterByDraw_10 : decode cX3_letterByDraw 10 = .ok (.aload_n 0, 1) := by decide +kernel
theorem dX3_letterByDraw_11 : decode cX3_letterByDraw 11 = .ok (.iload_n 3, 1) := by decide +kernel
theorem dX3_letterByDraw_12 : decode cX3_letterByDraw 12 = .ok (.invokevirtual 25, 3) := by decide +kernel
theorem dX3_letterByDraw_15 : decode cX3_letterByDraw 15 = .ok (.isub, 1) := by decide +kernel
theorem dX3_letterByDraw_16 : decode cX3_letterByDraw 16 = .ok (.istore_n 2, 1) := by decide +kernel
theorem dX3_letterByDraw_17 : decode cX3_letterByDraw 17 = .ok (.iload_n 2, 1) := by decide +kernel
theorem dX3_letterByDraw_18 : decode cX3_letterByDraw 18 = .ok (.ifCond .ge 5, 3) := by decide +kernel
theorem dX3_letterByDraw_21 : decode cX3_letterByDraw 21 = .ok (.iload_n 3, 1) := by decide +kernel
theorem dX3_letterByDraw_22 : decode cX3_letterByDraw 22 = .ok (.ireturn, 1) := by decide +kernel
theorem dX3_letterByDraw_23 : decode cX3_letterByDraw 23 = .ok (.iinc 3 1, 3) := by decide +kernel
theorem dX3_letterByDraw_26 : decode cX3_letterByDraw 26 = .ok (.goto (-22), 3) := by decide +kernel
theorem dX3_letterByDraw_29 : decode cX3_letterByDraw 29 = .ok (.iconst 5, 1) := by decide +kernel
theorem dX3_letterByDraw_30 : decode cX3_letterByDraw 30 = .ok (.ireturn, 1) := by decide +kernel
theorem dX4_init_0 : decode cX4_init 0 = .ok (.aload_n 0, 1) := by decide +kernel
theorem dX4_init_1 : decode cX4_init 1 = .ok (.invokespecial 3, 3) := by decide +kernel
theorem dX4_init_4 : decode cX4_init 4 = .ok (.aload_n 0, 1) := by decide +kernel
theorem dX4_init_5 : decode cX4_init 5 = .ok (.bipush 10, 2) := by decide +kernel
theorem dX4_init_7 : decode cX4_init 7 = .ok (.newarray .int, 2) := by decide +kernel
theorem dX4_init_9 : decode cX4_init 9 = .ok (.putfield 11, 3) := by decide +kernel
theorem dX4_init_12 : decode cX4_init 12 = .ok (.return_, 1) := by decide +kernel
theorem dX4_isFull_0 : decode cX4_isFull 0 = .ok (.aload_n 0, 1) := by decide +kernel
theorem dX4_isFull_1 : decode cX4_isFull 1 = .ok (.getfield 15, 3) := by decide +kernel
theorem dX4_isFull_4 : decode cX4_isFull 4 = .ok (.bipush 10, 2) := by decide +kernel
theorem dX4_isFull_6 : decode cX4_isFull 6 = .ok (.if_icmp .lt 7, 3) := by decide +kernel
theorem dX4_isFull_9 : decode cX4_isFull 9 = .ok (.iconst 1, 1) := by decide +kernel
theorem dX4_isFull_10 : decode cX4_isFull 10 = .ok (.goto 4, 3) := by decide +kernel
theorem dX4_isFull_13 : decode cX4_isFull 13 = .ok (.iconst 0, 1) := by decide +kernel
theorem dX4_isFull_14 : decode cX4_isFull 14 = .ok (.ireturn, 1) := by decide +kernel
theorem dX4_append_0 : decode cX4_append 0 = .ok (.aload_n 0, 1) := by decide +kernel
theorem dX4_append_1 : decode cX4_append 1 = .ok (.getfield 15, 3) := by decide +kernel
theorem dX4_append_4 : decode cX4_append 4 = .ok (.ifCond .lt 32, 3) := by decide +kernel
theorem dX4_append_7 : decode cX4_append 7 = .ok (.aload_n 0, 1) := by decide +kernel
theorem dX4_append_8 : decode cX4_append 8 = .ok (.getfield 15, 3) := by decide +kernel
theorem dX4_append_11 : decode cX4_append 11 = .ok (.bipush 10, 2) := by decide +kernel
theorem dX4_append_13 : decode cX4_append 13 = .ok (.if_icmp .ge 23, 3) := by decide +kernel
theorem dX4_append_16 : decode cX4_append 16 = .ok (.aload_n 0, 1) := by decide +kernel
theorem dX4_append_17 : decode cX4_append 17 = .ok (.getfield 11, 3) := by decide +kernel
theorem dX4_append_20 : decode cX4_append 20 = .ok (.aload_n 0, 1) := by decide +kernel
theorem dX4_append_21 : decode cX4_append 21 = .ok (.getfield 15, 3) := by decide +kernel
theorem dX4_append_24 : decode cX4_append 24 = .ok (.iload_n 1, 1) := by decide +kernel
theorem dX4_append_25 : decode cX4_append 25 = .ok (.iastore, 1) := by decide +kernel
theorem dX4_append_26 : decode cX4_append 26 = .ok (.aload_n 0, 1) := by decide +kernel
theorem dX4_append_27 : decode cX4_append 27 = .ok (.dup, 1) := by decide +kernel
theorem dX4_append_28 : decode cX4_append 28 = .ok (.getfield 15, 3) := by decide +kernel
theorem dX4_append_31 : decode cX4_append 31 = .ok (.iconst 1, 1) := by decide +kernel
theorem dX4_append_32 : decode cX4_append 32 = .ok (.iadd, 1) := by decide +kernel
theorem dX4_append_33 : decode cX4_append 33 = .ok (.putfield 15, 3) := by decide +kernel
theorem dX4_append_36 : decode cX4_append 36 = .ok (.aload_n 0, 1) := by decide +kernel
theorem dX4_append_37 : decode cX4_append 37 = .ok (.getfield 15, 3) := by decide +kernel
theorem dX4_append_40 : decode cX4_append 40 = .ok (.ireturn, 1) := by decide +kernel
theorem dX4_clear_0 : decode cX4_clear 0 = .ok (.aload_n 0, 1) := by decide +kernel
theorem dX4_clear_1 : decode cX4_clear 1 = .ok (.getfield 15, 3) := by decide +kernel
theorem dX4_clear_4 : decode cX4_clear 4 = .ok (.istore_n 1, 1) := by decide +kernel
theorem dX4_clear_5 : decode cX4_clear 5 = .ok (.aload_n 0, 1) := by decide +kernel
theorem dX4_clear_6 : decode cX4_clear 6 = .ok (.iconst 0, 1) := by decide +kernel
theorem dX4_clear_7 : decode cX4_clear 7 = .ok (.putfield 15, 3) := by decide +kernel
theorem dX4_clear_10 : decode cX4_clear 10 = .ok (.iload_n 1, 1) := by decide +kernel
theorem dX4_clear_11 : decode cX4_clear 11 = .ok (.ireturn, 1) := by decide +kernel
theorem dX4_codeAt_0 : decode cX4_codeAt 0 = .ok (.iload_n 1, 1) := by decide +kernel
theorem dX4_codeAt_1 : decode cX4_codeAt 1 = .ok (.ifCond .lt 18, 3) := by decide +kernel
theorem dX4_codeAt_4 : decode cX4_codeAt 4 = .ok (.iload_n 1, 1) := by decide +kernel
theorem dX4_codeAt_5 : decode cX4_codeAt 5 = .ok (.bipush 10, 2) := by decide +kernel
theorem dX4_codeAt_7 : decode cX4_codeAt 7 = .ok (.if_icmp .ge 12, 3) := by decide +kernel
theorem dX4_codeAt_10 : decode cX4_codeAt 10 = .ok (.aload_n 0, 1) := by decide +kernel
theorem dX4_codeAt_11 : decode cX4_codeAt 11 = .ok (.getfield 11, 3) := by decide +kernel
theorem dX4_codeAt_14 : decode cX4_codeAt 14 = .ok (.iload_n 1, 1) := by decide +kernel
theorem dX4_codeAt_15 : decode cX4_codeAt 15 = .ok (.iaload, 1) := by decide +kernel
theorem dX4_codeAt_16 : decode cX4_codeAt 16 = .ok (.goto 4, 3) := by decide +kernel
theorem dX4_codeAt_19 : decode cX4_codeAt 19 = .ok (.iconst 0, 1) := by decide +kernel
theorem dX4_codeAt_20 : decode cX4_codeAt 20 = .ok (.ireturn, 1) := by decide +kernel
theorem dX4_digitAt_0 : decode cX4_digitAt 0 = .ok (.aload_n 0, 1) := by decide +kernel
theorem dX4_digitAt_1 : decode cX4_digitAt 1 = .ok (.iload_n 1, 1) := by decide +kernel
theorem dX4_digitAt_2 : decode cX4_digitAt 2 = .ok (.invokevirtual 19, 3) := by decide +kernel
theorem dX4_digitAt_5 : decode cX4_digitAt 5 = .ok (.bipush 48, 2) := by decide +kernel
theorem dX4_digitAt_7 : decode cX4_digitAt 7 = .ok (.isub, 1) := by decide +kernel
theorem dX4_digitAt_8 : decode cX4_digitAt 8 = .ok (.ireturn, 1) := by decide +kernel
theorem dX4_isLaw_0 : decode cX4_isLaw 0 = .ok (.aload_n 0, 1) := by decide +kernel
theorem dX4_isLaw_1 : decode cX4_isLaw 1 = .ok (.getfield 15, 3) := by decide +kernel
theorem dX4_isLaw_4 : decode cX4_isLaw 4 = .ok (.bipush 8, 2) := by decide +kernel
theorem dX4_isLaw_6 : decode cX4_isLaw 6 = .ok (.if_icmp .ne 16, 3) := by decide +kernel
theorem dX4_isLaw_9 : decode cX4_isLaw 9 = .ok (.aload_n 0, 1) := by decide +kernel
theorem dX4_isLaw_10 : decode cX4_isLaw 10 = .ok (.invokevirtual 23, 3) := by decide +kernel
theorem dX4_isLaw_13 : decode cX4_isLaw 13 = .ok (.bipush 8, 2) := by decide +kernel
theorem dX4_isLaw_15 : decode cX4_isLaw 15 = .ok (.if_icmp .ne 7, 3) := by decide +kernel
theorem dX4_isLaw_18 : decode cX4_isLaw 18 = .ok (.iconst 1, 1) := by decide +kernel
theorem dX4_isLaw_19 : decode cX4_isLaw 19 = .ok (.goto 4, 3) := by decide +kernel
theorem dX4_isLaw_22 : decode cX4_isLaw 22 = .ok (.iconst 0, 1) := by decide +kernel
theorem dX4_isLaw_23 : decode cX4_isLaw 23 = .ok (.ireturn, 1) := by decide +kernel
theorem dX4_firstFault_0 : decode cX4_firstFault 0 = .ok (.iconst 0, 1) := by decide +kernel
theorem dX4_firstFault_1 : decode cX4_firstFault 1 = .ok (.istore_n 1, 1) := by decide +kernel
theorem dX4_firstFault_2 : decode cX4_firstFault 2 = .ok (.iconst 0, 1) := by decide +kernel
theorem dX4_firstFault_3 : decode cX4_firstFault 3 = .ok (.istore_n 2, 1) := by decide +kernel
theorem dX4_firstFault_4 : decode cX4_firstFault 4 = .ok (.iload_n 2, 1) := by decide +kernel
theorem dX4_firstFault_5 : decode cX4_firstFault 5 = .ok (.aload_n 0, 1) := by decide +kernel
theorem dX4_firstFault_6 : decode cX4_firstFault 6 = .ok (.getfield 15, 3) := by decide +kernel
theorem dX4_firstFault_9 : decode cX4_firstFault 9 = .ok (.if_icmp .ge 34, 3) := by decide +kernel
theorem dX4_firstFault_12 : decode cX4_firstFault 12 = .ok (.iload_n 2, 1) := by decide +kernel
theorem dX4_firstFault_13 : decode cX4_firstFault 13 = .ok (.bipush 6, 2) := by decide +kernel
theorem dX4_firstFault_15 : decode cX4_firstFault 15 = .ok (.if_icmp .ge 11, 3) := by decide +kernel
theorem dX4_firstFault_18 : decode cX4_firstFault 18 = .ok (.iload_n 1, 1) := by decide +kernel
theorem dX4_firstFault_19 : decode cX4_firstFault 19 = .ok (.aload_n 0, 1) := by decide +kernel
theorem dX4_firstFault_20 : decode cX4_firstFault 20 = .ok (.iload_n 2, 1) := by decide +kernel
theorem dX4_firstFault_21 : decode cX4_firstFault 21 = .ok (.invokevirtual 27, 3) := by decide +kernel
theorem dX4_firstFault_24 : decode cX4_firstFault 24 = .ok (.iadd, 1) := by decide +kernel
theorem dX4_firstFault_25 : decode cX4_firstFault 25 = .ok (.istore_n 1, 1) := by decide +kernel
theorem dX4_firstFault_26 : decode cX4_firstFault 26 = .ok (.aload_n 0, 1) := by decide +kernel
theorem dX4_firstFault_27 : decode cX4_firstFault 27 = .ok (.iload_n 2, 1) := by decide +kernel
theorem dX4_firstFault_28 : decode cX4_firstFault 28 = .ok (.iload_n 1, 1) := by decide +kernel
theorem dX4_firstFault_29 : decode cX4_firstFault 29 = .ok (.invokevirtual 30, 3) := by decide +kernel
theorem dX4_firstFault_32 : decode cX4_firstFault 32 = .ok (.ifCond .ne 5, 3) := by decide +kernel
theorem dX4_firstFault_35 : decode cX4_firstFault 35 = .ok (.iload_n 2, 1) := by decide +kernel
theorem dX4_firstFault_36 : decode cX4_firstFault 36 = .ok (.ireturn, 1) := by decide +kernel
theorem dX4_firstFault_37 : decode cX4_firstFault 37 = .ok (.iinc 2 1, 3) := by decide +kernel
theorem dX4_firstFault_40 : decode cX4_firstFault 40 = .ok (.goto (-36), 3) := by decide +kernel
theorem dX4_firstFault_43 : decode cX4_firstFault 43 = .ok (.aload_n 0, 1) := by decide +kernel
theorem dX4_firstFault_44 : decode cX4_firstFault 44 = .ok (.getfield 15, 3) := by decide +kernel
theorem dX4_firstFault_47 : decode cX4_firstFault 47 = .ok (.ireturn, 1) := by decide +kernel
theorem dX4_mayStand_0 : decode cX4_mayStand 0 = .ok (.iload_n 1, 1) := by decide +kernel
theorem dX4_mayStand_1 : decode cX4_mayStand 1 = .ok (.bipush 6, 2) := by decide +kernel
theorem dX4_mayStand_3 : decode cX4_mayStand 3 = .ok (.if_icmp .ne 19, 3) := by decide +kernel
theorem dX4_mayStand_6 : decode cX4_mayStand 6 = .ok (.aload_n 0, 1) := by decide +kernel
theorem dX4_mayStand_7 : decode cX4_mayStand 7 = .ok (.iload_n 1, 1) := by decide +kernel
theorem dX4_mayStand_8 : decode cX4_mayStand 8 = .ok (.invokevirtual 19, 3) := by decide +kernel
theorem dX4_mayStand_11 : decode cX4_mayStand 11 = .ok (.bipush 59, 2) := by decide +kernel
theorem dX4_mayStand_13 : decode cX4_mayStand 13 = .ok (.if_icmp .ne 7, 3) := by decide +kernel
theorem dX4_mayStand_16 : decode cX4_mayStand 16 = .ok (.iconst 1, 1) := by decide +kernel
theorem dX4_mayStand_17 : decode cX4_mayStand 17 = .ok (.goto 4, 3) := by decide +kernel
theorem dX4_mayStand_20 : decode cX4_mayStand 20 = .ok (.iconst 0, 1) := by decide +kernel
theorem dX4_mayStand_21 : decode cX4_mayStand 21 = .ok (.ireturn, 1) := by decide +kernel
theorem dX4_mayStand_22 : decode cX4_mayStand 22 = .ok (.iload_n 1, 1) := by decide +kernel
theorem dX4_mayStand_23 : decode cX4_mayStand 23 = .ok (.bipush 7, 2) := by decide +kernel
theorem dX4_mayStand_25 : decode cX4_mayStand 25 = .ok (.if_icmp .ne 15, 3) := by decide +kernel
theorem dX4_mayStand_28 : decode cX4_mayStand 28 = .ok (.aload_n 0, 1) := by decide +kernel
theorem dX4_mayStand_29 : decode cX4_mayStand 29 = .ok (.iload_n 1, 1) := by decide +kernel
theorem dX4_mayStand_30 : decode cX4_mayStand 30 = .ok (.invokevirtual 27, 3) := by decide +kernel
theorem dX4_mayStand_33 : decode cX4_mayStand 33 = .ok (.iconst 1, 1) := by decide +kernel
theorem dX4_mayStand_34 : decode cX4_mayStand 34 = .ok (.bipush 9, 2) := by decide +kernel
theorem dX4_mayStand_36 : decode cX4_mayStand 36 = .ok (.invokestatic 34, 3) := by decide +kernel
theorem dX4_mayStand_39 : decode cX4_mayStand 39 = .ok (.ireturn, 1) := by decide +kernel
theorem dX4_mayStand_40 : decode cX4_mayStand 40 = .ok (.iload_n 1, 1) := by decide +kernel
theorem dX4_mayStand_41 : decode cX4_mayStand 41 = .ok (.bipush 7, 2) := by decide +kernel
theorem dX4_mayStand_43 : decode cX4_mayStand 43 = .ok (.if_icmp .gt 17, 3) := by decide +kernel
theorem dX4_mayStand_46 : decode cX4_mayStand 46 = .ok (.aload_n 0, 1) := by decide +kernel
theorem dX4_mayStand_47 : decode cX4_mayStand 47 = .ok (.iload_n 1, 1) := by decide +kernel
theorem dX4_mayStand_48 : decode cX4_mayStand 48 = .ok (.invokevirtual 27, 3) := by decide +kernel
theorem dX4_mayStand_51 : decode cX4_mayStand 51 = .ok (.iconst 0, 1) := by decide +kernel
theorem dX4_mayStand_52 : decode cX4_mayStand 52 = .ok (.bipush 9, 2) := by decide +kernel
theorem dX4_mayStand_54 : decode cX4_mayStand 54 = .ok (.invokestatic 34, 3) := by decide +kernel
theorem dX4_mayStand_57 : decode cX4_mayStand 57 = .ok (.ifCond .ne 5, 3) := by decide +kernel
theorem dX4_mayStand_60 : decode cX4_mayStand 60 = .ok (.iconst 0, 1) := by decide +kernel
theorem dX4_mayStand_61 : decode cX4_mayStand 61 = .ok (.ireturn, 1) := by decide +kernel
theorem dX4_mayStand_62 : decode cX4_mayStand 62 = .ok (.iload_n 1, 1) := by decide +kernel
theorem dX4_mayStand_63 : decode cX4_mayStand 63 = .ok (.iconst 5, 1) := by decide +kernel
theorem dX4_mayStand_64 : decode cX4_mayStand 64 = .ok (.if_icmp .ne 17, 3) := by decide +kernel
theorem dX4_mayStand_67 : decode cX4_mayStand 67 = .ok (.iload_n 2, 1) := by decide +kernel
theorem dX4_mayStand_68 : decode cX4_mayStand 68 = .ok (.bipush 10, 2) := by decide +kernel
theorem dX4_mayStand_70 : decode cX4_mayStand 70 = .ok (.if_icmp .ne 7, 3) := by decide +kernel
theorem dX4_mayStand_73 : decode cX4_mayStand 73 = .ok (.iconst 1, 1) := by decide +kernel
theorem dX4_mayStand_74 : decode cX4_mayStand 74 = .ok (.goto 18, 3) := by decide +kernel
theorem dX4_mayStand_77 : decode cX4_mayStand 77 = .ok (.iconst 0, 1) := by decide +kernel
theorem dX4_mayStand_78 : decode cX4_mayStand 78 = .ok (.goto 14, 3) := by decide +kernel
theorem dX4_mayStand_81 : decode cX4_mayStand 81 = .ok (.iload_n 2, 1) := by decide +kernel
theorem dX4_mayStand_82 : decode cX4_mayStand 82 = .ok (.bipush 10, 2) := by decide +kernel
theorem dX4_mayStand_84 : decode cX4_mayStand 84 = .ok (.if_icmp .gt 7, 3) := by decide +kernel
theorem dX4_mayStand_87 : decode cX4_mayStand 87 = .ok (.iconst 1, 1) := by decide +kernel
theorem dX4_mayStand_88 : decode cX4_mayStand 88 = .ok (.goto 4, 3) := by decide +kernel
theorem dX4_mayStand_91 : decode cX4_mayStand 91 = .ok (.iconst 0, 1) := by decide +kernel
theorem dX4_mayStand_92 : decode cX4_mayStand 92 = .ok (.ireturn, 1) := by decide +kernel
theorem dX5_leavesOf_0 : decode cX5_leavesOf 0 = .ok (.lload_n 0, 1) := by decide +kernel
theorem dX5_leavesOf_1 : decode cX5_leavesOf 1 = .ok (.iload_n 2, 1) := by decide +kernel
theorem dX5_leavesOf_2 : decode cX5_leavesOf 2 = .ok (.bipush 8, 2) := by decide +kernel
theorem dX5_leavesOf_4 : decode cX5_leavesOf 4 = .ok (.imul, 1) := by decide +kernel
theorem dX5_leavesOf_5 : decode cX5_leavesOf 5 = .ok (.lushr, 1) := by decide +kernel
theorem dX5_leavesOf_6 : decode cX5_leavesOf 6 = .ok (.l2i, 1) := by decide +kernel
theorem dX5_leavesOf_7 : decode cX5_leavesOf 7 = .ok (.bipush 63, 2) := by decide +kernel
theorem dX5_leavesOf_9 : decode cX5_leavesOf 9 = .ok (.iand, 1) := by decide +kernel
theorem dX5_leavesOf_10 : decode cX5_leavesOf 10 = .ok (.ireturn, 1) := by decide +kernel
theorem dX5_keptOf_0 : decode cX5_keptOf 0 = .ok (.lload_n 0, 1) := by decide +kernel
theorem dX5_keptOf_1 : decode cX5_keptOf 1 = .ok (.iload_n 2, 1) := by decide +kernel
theorem dX5_keptOf_2 : decode cX5_keptOf 2 = .ok (.bipush 8, 2) := by decide +kernel
theorem dX5_keptOf_4 : decode cX5_keptOf 4 = .ok (.imul, 1) := by decide +kernel
theorem dX5_keptOf_5 : decode cX5_keptOf 5 = .ok (.bipush 6, 2) := by decide +kernel
theorem dX5_keptOf_7 : decode cX5_keptOf 7 = .ok (.iadd, 1) := by decide +kernel
theorem dX5_keptOf_8 : decode cX5_keptOf 8 = .ok (.lushr, 1) := by decide +kernel
theorem dX5_keptOf_9 : decode cX5_keptOf 9 = .ok (.l2i, 1) := by decide +kernel
theorem dX5_keptOf_10 : decode cX5_keptOf 10 = .ok (.iconst 3, 1) := by decide +kernel
theorem dX5_keptOf_11 : decode cX5_keptOf 11 = .ok (.iand, 1) := by decide +kernel
theorem dX5_keptOf_12 : decode cX5_keptOf 12 = .ok (.ireturn, 1) := by decide +kernel
theorem dX5_lives_0 : decode cX5_lives 0 = .ok (.lload_n 0, 1) := by decide +kernel
theorem dX5_lives_1 : decode cX5_lives 1 = .ok (.iload_n 2, 1) := by decide +kernel
theorem dX5_lives_2 : decode cX5_lives 2 = .ok (.invokestatic 11, 3) := by decide +kernel
theorem dX5_lives_5 : decode cX5_lives 5 = .ok (.ifCond .eq 7, 3) := by decide +kernel
theorem dX5_lives_8 : decode cX5_lives 8 = .ok (.iconst 1, 1) := by decide +kernel
theorem dX5_lives_9 : decode cX5_lives 9 = .ok (.goto 4, 3) := by decide +kernel
theorem dX5_lives_12 : decode cX5_lives 12 = .ok (.iconst 0, 1) := by decide +kernel
theorem dX5_lives_13 : decode cX5_lives 13 = .ok (.ireturn, 1) := by decide +kernel
theorem dX5_hasLeaf_0 : decode cX5_hasLeaf 0 = .ok (.lload_n 0, 1) := by decide +kernel
theorem dX5_hasLeaf_1 : decode cX5_hasLeaf 1 = .ok (.iload_n 2, 1) := by decide +kernel
theorem dX5_hasLeaf_2 : decode cX5_hasLeaf 2 = .ok (.bipush 8, 2) := by decide +kernel
theorem dX5_hasLeaf_4 : decode cX5_hasLeaf 4 = .ok (.imul, 1) := by decide +kernel
theorem dX5_hasLeaf_5 : decode cX5_hasLeaf 5 = .ok (.iload_n 3, 1) := by decide +kernel
theorem dX5_hasLeaf_6 : decode cX5_hasLeaf 6 = .ok (.iadd, 1) := by decide +kernel
theorem dX5_hasLeaf_7 : decode cX5_hasLeaf 7 = .ok (.lushr, 1) := by decide +kernel
theorem dX5_hasLeaf_8 : decode cX5_hasLeaf 8 = .ok (.lconst 1, 1) := by decide +kernel
theorem dX5_hasLeaf_9 : decode cX5_hasLeaf 9 = .ok (.land, 1) := by decide +kernel
theorem dX5_hasLeaf_10 : decode cX5_hasLeaf 10 = .ok (.lconst 0, 1) := by decide +kernel
theorem dX5_hasLeaf_11 : decode cX5_hasLeaf 11 = .ok (.lcmp, 1) := by decide +kernel
theorem dX5_hasLeaf_12 : decode cX5_hasLeaf 12 = .ok (.ifCond .eq 7, 3) := by decide +kernel
theorem dX5_hasLeaf_15 : decode cX5_hasLeaf 15 = .ok (.iconst 1, 1) := by decide +kernel
theorem dX5_hasLeaf_16 : decode cX5_hasLeaf 16 = .ok (.goto 4, 3) := by decide +kernel
theorem dX5_hasLeaf_19 : decode cX5_hasLeaf 19 = .ok (.iconst 0, 1) := by decide +kernel
theorem dX5_hasLeaf_20 : decode cX5_hasLeaf 20 = .ok (.ireturn, 1) := by decide +kernel
theorem dX5_living_0 : decode cX5_living 0 = .ok (.iconst 0, 1) := by decide +kernel
theorem dX5_living_1 : decode cX5_living 1 = .ok (.istore_n 2, 1) := by decide +kernel
theorem dX5_living_2 : decode cX5_living 2 = .ok (.iconst 0, 1) := by decide +kernel
theorem dX5_living_3 : decode cX5_living 3 = .ok (.istore_n 3, 1) := by decide +kernel
theorem dX5_living_4 : decode cX5_living 4 = .ok (.iload_n 3, 1) := by decide +kernel
theorem dX5_living_5 : decode cX5_living 5 = .ok (.iconst 5, 1) := by decide +kernel
theorem dX5_living_6 : decode cX5_living 6 = .ok (.if_icmp .ge 23, 3) := by decide +kernel
theorem dX5_living_9 : decode cX5_living 9 = .ok (.lload_n 0, 1) := by decide +kernel
theorem dX5_living_10 : decode cX5_living 10 = .ok (.iload_n 3, 1) := by decide +kernel
theorem dX5_living_11 : decode cX5_living 11 = .ok (.invokestatic 15, 3) := by decide +kernel
theorem dX5_living_14 : decode cX5_living 14 = .ok (.ifCond .eq 9, 3) := by decide +kernel
theorem dX5_living_17 : decode cX5_living 17 = .ok (.iload_n 2, 1) := by decide +kernel
theorem dX5_living_18 : decode cX5_living 18 = .ok (.iconst 1, 1) := by decide +kernel
theorem dX5_living_19 : decode cX5_living 19 = .ok (.iload_n 3, 1) := by decide +kernel
theorem dX5_living_20 : decode cX5_living 20 = .ok (.ishl, 1) := by decide +kernel
theorem dX5_living_21 : decode cX5_living 21 = .ok (.ior, 1) := by decide +kernel
theorem dX5_living_22 : decode cX5_living 22 = .ok (.istore_n 2, 1) := by decide +kernel
theorem dX5_living_23 : decode cX5_living 23 = .ok (.iinc 3 1, 3) := by decide +kernel
theorem dX5_living_26 : decode cX5_living 26 = .ok (.goto (-22), 3) := by decide +kernel
theorem dX5_living_29 : decode cX5_living 29 = .ok (.iload_n 2, 1) := by decide +kernel
theorem dX5_living_30 : decode cX5_living 30 = .ok (.ireturn, 1) := by decide +kernel
theorem dX5_fullness_0 : decode cX5_fullness 0 = .ok (.lload_n 0, 1) := by decide +kernel
theorem dX5_fullness_1 : decode cX5_fullness 1 = .ok (.ldc2_w 19, 3) := by decide +kernel
theorem dX5_fullness_4 : decode cX5_fullness 4 = .ok (.iload_n 2, 1) := by decide +kernel
theorem dX5_fullness_5 : decode cX5_fullness 5 = .ok (.lshl, 1) := by decide +kernel
theorem dX5_fullness_6 : decode cX5_fullness 6 = .ok (.land, 1) := by decide +kernel
theorem dX5_fullness_7 : decode cX5_fullness 7 = .ok (.invokestatic 21, 3) := by decide +kernel
theorem dX5_fullness_10 : decode cX5_fullness 10 = .ok (.ireturn, 1) := by decide +kernel
theorem dX5_allLeaves_0 : decode cX5_allLeaves 0 = .ok (.lload_n 0, 1) := by decide +kernel
theorem dX5_allLeaves_1 : decode cX5_allLeaves 1 = .ok (.ldc2_w 27, 3) := by decide +kernel
theorem dX5_allLeaves_4 : decode cX5_allLeaves 4 = .ok (.land, 1) := by decide +kernel
theorem dX5_allLeaves_5 : decode cX5_allLeaves 5 = .ok (.invokestatic 21, 3) := by decide +kernel
theorem dX5_allLeaves_8 : decode cX5_allLeaves 8 = .ok (.ireturn, 1) := by decide +kernel
theorem dX5_turned_0 : decode cX5_turned 0 = .ok (.lload_n 0, 1) := by decide +kernel
theorem dX5_turned_1 : decode cX5_turned 1 = .ok (.lconst 1, 1) := by decide +kernel
theorem dX5_turned_2 : decode cX5_turned 2 = .ok (.iload_n 2, 1) := by decide +kernel
theorem dX5_turned_3 : decode cX5_turned 3 = .ok (.bipush 8, 2) := by decide +kernel
theorem dX5_turned_5 : decode cX5_turned 5 = .ok (.imul, 1) := by decide +kernel
theorem dX5_turned_6 : decode cX5_turned 6 = .ok (.iload_n 3, 1) := by decide +kernel
theorem dX5_turned_7 : decode cX5_turned 7 = .ok (.iadd, 1) := by decide +kernel
theorem dX5_turned_8 : decode cX5_turned 8 = .ok (.lshl, 1) := by decide +kernel
theorem dX5_turned_9 : decode cX5_turned 9 = .ok (.lxor, 1) := by decide +kernel
theorem dX5_turned_10 : decode cX5_turned 10 = .ok (.lreturn, 1) := by decide +kernel
theorem dX5_moved_0 : decode cX5_moved 0 = .ok (.lload_n 0, 1) := by decide +kernel
theorem dX5_moved_1 : decode cX5_moved 1 = .ok (.iload_n 2, 1) := by decide +kernel
theorem dX5_moved_2 : decode cX5_moved 2 = .ok (.iload_n 3, 1) := by decide +kernel
theorem dX5_moved_3 : decode cX5_moved 3 = .ok (.invokestatic 29, 3) := by decide +kernel
theorem dX5_moved_6 : decode cX5_moved 6 = .ok (.iload_n 2, 1) := by decide +kernel
theorem dX5_moved_7 : decode cX5_moved 7 = .ok (.iload 4, 2) := by decide +kernel
theorem dX5_moved_9 : decode cX5_moved 9 = .ok (.invokestatic 29, 3) := by decide +kernel
theorem dX5_moved_12 : decode cX5_moved 12 = .ok (.lreturn, 1) := by decide +kernel
theorem dX5_without_0 : decode cX5_without 0 = .ok (.lload_n 0, 1) := by decide +kernel
theorem dX5_without_1 : decode cX5_without 1 = .ok (.iload_n 3, 1) := by decide +kernel
theorem dX5_without_2 : decode cX5_without 2 = .ok (.i2l, 1) := by decide +kernel
theorem dX5_without_3 : decode cX5_without 3 = .ok (.iload_n 2, 1) := by decide +kernel
theorem dX5_without_4 : decode cX5_without 4 = .ok (.bipush 8, 2) := by decide +kernel
theorem dX5_without_6 : decode cX5_without 6 = .ok (.imul, 1) := by decide +kernel
theorem dX5_without_7 : decode cX5_without 7 = .ok (.lshl, 1) := by decide +kernel
theorem dX5_without_8 : decode cX5_without 8 = .ok (.ldc2_w 33, 3) := by decide +kernel
theorem dX5_without_11 : decode cX5_without 11 = .ok (.lxor, 1) := by decide +kernel
theorem dX5_without_12 : decode cX5_without 12 = .ok (.land, 1) := by decide +kernel
theorem dX5_without_13 : decode cX5_without 13 = .ok (.lreturn, 1) := by decide +kernel
theorem dX5_keptOnceMore_0 : decode cX5_keptOnceMore 0 = .ok (.lload_n 0, 1) := by decide +kernel
theorem dX5_keptOnceMore_1 : decode cX5_keptOnceMore 1 = .ok (.ldc2_w 35, 3) := by decide +kernel
theorem dX5_keptOnceMore_4 : decode cX5_keptOnceMore 4 = .ok (.iload_n 2, 1) := by decide +kernel
theorem dX5_keptOnceMore_5 : decode cX5_keptOnceMore 5 = .ok (.bipush 8, 2) := by decide +kernel
theorem dX5_keptOnceMore_7 : decode cX5_keptOnceMore 7 = .ok (.imul, 1) := by decide +kernel
theorem dX5_keptOnceMore_8 : decode cX5_keptOnceMore 8 = .ok (.lshl, 1) := by decide +kernel
theorem dX5_keptOnceMore_9 : decode cX5_keptOnceMore 9 = .ok (.ladd, 1) := by decide +kernel
theorem dX5_keptOnceMore_10 : decode cX5_keptOnceMore 10 = .ok (.lreturn, 1) := by decide +kernel
theorem dJ6_bitCount_0f7a4_0 : decode cJ6_bitCount_0f7a4 0 = .ok (.iload_n 0, 1) := by decide +kernel
theorem dJ6_bitCount_0f7a4_1 : decode cJ6_bitCount_0f7a4 1 = .ok (.iload_n 0, 1) := by decide +kernel
theorem dJ6_bitCount_0f7a4_2 : decode cJ6_bitCount_0f7a4 2 = .ok (.iconst 1, 1) := by decide +kernel
theorem dJ6_bitCount_0f7a4_3 : decode cJ6_bitCount_0f7a4 3 = .ok (.iushr, 1) := by decide +kernel
theorem dJ6_bitCount_0f7a4_4 : decode cJ6_bitCount_0f7a4 4 = .ok (.ldc_w 265, 3) := by decide +kernel
theorem dJ6_bitCount_0f7a4_7 : decode cJ6_bitCount_0f7a4 7 = .ok (.iand, 1) := by decide +kernel
theorem dJ6_bitCount_0f7a4_8 : decode cJ6_bitCount_0f7a4 8 = .ok (.isub, 1) := by decide +kernel
theorem dJ6_bitCount_0f7a4_9 : decode cJ6_bitCount_0f7a4 9 = .ok (.istore_n 0, 1) := by decide +kernel
theorem dJ6_bitCount_0f7a4_10 : decode cJ6_bitCount_0f7a4 10 = .ok (.iload_n 0, 1) := by decide +kernel
theorem dJ6_bitCount_0f7a4_11 : decode cJ6_bitCount_0f7a4 11 = .ok (.ldc_w 266, 3) := by decide +kernel
theorem dJ6_bitCount_0f7a4_14 : decode cJ6_bitCount_0f7a4 14 = .ok (.iand, 1) := by decide +kernel
theorem dJ6_bitCount_0f7a4_15 : decode cJ6_bitCount_0f7a4 15 = .ok (.iload_n 0, 1) := by decide +kernel
theorem dJ6_bitCount_0f7a4_16 : decode cJ6_bitCount_0f7a4 16 = .ok (.iconst 2, 1) := by decide +kernel
theorem dJ6_bitCount_0f7a4_17 : decode cJ6_bitCount_0f7a4 17 = .ok (.iushr, 1) := by decide +kernel
theorem dJ6_bitCount_0f7a4_18 : decode cJ6_bitCount_0f7a4 18 = .ok (.ldc_w 266, 3) := by decide +kernel
theorem dJ6_bitCount_0f7a4_21 : decode cJ6_bitCount_0f7a4 21 = .ok (.iand, 1) := by decide +kernel
theorem dJ6_bitCount_0f7a4_22 : decode cJ6_bitCount_0f7a4 22 = .ok (.iadd, 1) := by decide +kernel
theorem dJ6_bitCount_0f7a4_23 : decode cJ6_bitCount_0f7a4 23 = .ok (.istore_n 0, 1) := by decide +kernel
theorem dJ6_bitCount_0f7a4_24 : decode cJ6_bitCount_0f7a4 24 = .ok (.iload_n 0, 1) := by decide +kernel
theorem dJ6_bitCount_0f7a4_25 : decode cJ6_bitCount_0f7a4 25 = .ok (.iload_n 0, 1) := by decide +kernel
theorem dJ6_bitCount_0f7a4_26 : decode cJ6_bitCount_0f7a4 26 = .ok (.iconst 4, 1) := by decide +kernel
theorem dJ6_bitCount_0f7a4_27 : decode cJ6_bitCount_0f7a4 27 = .ok (.iushr, 1) := by decide +kernel
theorem dJ6_bitCount_0f7a4_28 : decode cJ6_bitCount_0f7a4 28 = .ok (.iadd, 1) := by decide +kernel
theorem dJ6_bitCount_0f7a4_29 : decode cJ6_bitCount_0f7a4 29 = .ok (.ldc_w 267, 3) := by decide +kernel
theorem dJ6_bitCount_0f7a4_32 : decode cJ6_bitCount_0f7a4 32 = .ok (.iand, 1) := by decide +kernel
theorem dJ6_bitCount_0f7a4_33 : decode cJ6_bitCount_0f7a4 33 = .ok (.istore_n 0, 1) := by decide +kernel
theorem dJ6_bitCount_0f7a4_34 : decode cJ6_bitCount_0f7a4 34 = .ok (.iload_n 0, 1) := by decide +kernel
theorem dJ6_bitCount_0f7a4_35 : decode cJ6_bitCount_0f7a4 35 = .ok (.iload_n 0, 1) := by decide +kernel
theorem dJ6_bitCount_0f7a4_36 : decode cJ6_bitCount_0f7a4 36 = .ok (.bipush 8, 2) := by decide +kernel
theorem dJ6_bitCount_0f7a4_38 : decode cJ6_bitCount_0f7a4 38 = .ok (.iushr, 1) := by decide +kernel
theorem dJ6_bitCount_0f7a4_39 : decode cJ6_bitCount_0f7a4 39 = .ok (.iadd, 1) := by decide +kernel
theorem dJ6_bitCount_0f7a4_40 : decode cJ6_bitCount_0f7a4 40 = .ok (.istore_n 0, 1) := by decide +kernel
theorem dJ6_bitCount_0f7a4_41 : decode cJ6_bitCount_0f7a4 41 = .ok (.iload_n 0, 1) := by decide +kernel
theorem dJ6_bitCount_0f7a4_42 : decode cJ6_bitCount_0f7a4 42 = .ok (.iload_n 0, 1) := by decide +kernel
theorem dJ6_bitCount_0f7a4_43 : decode cJ6_bitCount_0f7a4 43 = .ok (.bipush 16, 2) := by decide +kernel
theorem dJ6_bitCount_0f7a4_45 : decode cJ6_bitCount_0f7a4 45 = .ok (.iushr, 1) := by decide +kernel
theorem dJ6_bitCount_0f7a4_46 : decode cJ6_bitCount_0f7a4 46 = .ok (.iadd, 1) := by decide +kernel
theorem dJ6_bitCount_0f7a4_47 : decode cJ6_bitCount_0f7a4 47 = .ok (.istore_n 0, 1) := by decide +kernel
theorem dJ6_bitCount_0f7a4_48 : decode cJ6_bitCount_0f7a4 48 = .ok (.iload_n 0, 1) := by decide +kernel
theorem dJ6_bitCount_0f7a4_49 : decode cJ6_bitCount_0f7a4 49 = .ok (.bipush 63, 2) := by decide +kernel
theorem dJ6_bitCount_0f7a4_51 : decode cJ6_bitCount_0f7a4 51 = .ok (.iand, 1) := by decide +kernel
theorem dJ6_bitCount_0f7a4_52 : decode cJ6_bitCount_0f7a4 52 = .ok (.ireturn, 1) := by decide +kernel
theorem dJ13_bitCount_95d88_0 : decode cJ13_bitCount_95d88 0 = .ok (.lload_n 0, 1) := by decide +kernel
theorem dJ13_bitCount_95d88_1 : decode cJ13_bitCount_95d88 1 = .ok (.lload_n 0, 1) := by decide +kernel
theorem dJ13_bitCount_95d88_2 : decode cJ13_bitCount_95d88 2 = .ok (.iconst 1, 1) := by decide +kernel
theorem dJ13_bitCount_95d88_3 : decode cJ13_bitCount_95d88 3 = .ok (.lushr, 1) := by decide +kernel
theorem dJ13_bitCount_95d88_4 : decode cJ13_bitCount_95d88 4 = .ok (.ldc2_w 314, 3) := by decide +kernel
theorem dJ13_bitCount_95d88_7 : decode cJ13_bitCount_95d88 7 = .ok (.land, 1) := by decide +kernel
theorem dJ13_bitCount_95d88_8 : decode cJ13_bitCount_95d88 8 = .ok (.lsub, 1) := by decide +kernel
theorem dJ13_bitCount_95d88_9 : decode cJ13_bitCount_95d88 9 = .ok (.lstore_n 0, 1) := by decide +kernel
theorem dJ13_bitCount_95d88_10 : decode cJ13_bitCount_95d88 10 = .ok (.lload_n 0, 1) := by decide +kernel
theorem dJ13_bitCount_95d88_11 : decode cJ13_bitCount_95d88 11 = .ok (.ldc2_w 316, 3) := by decide +kernel
theorem dJ13_bitCount_95d88_14 : decode cJ13_bitCount_95d88 14 = .ok (.land, 1) := by decide +kernel
theorem dJ13_bitCount_95d88_15 : decode cJ13_bitCount_95d88 15 = .ok (.lload_n 0, 1) := by decide +kernel
theorem dJ13_bitCount_95d88_16 : decode cJ13_bitCount_95d88 16 = .ok (.iconst 2, 1) := by decide +kernel
theorem dJ13_bitCount_95d88_17 : decode cJ13_bitCount_95d88 17 = .ok (.lushr, 1) := by decide +kernel
theorem dJ13_bitCount_95d88_18 : decode cJ13_bitCount_95d88 18 = .ok (.ldc2_w 316, 3) := by decide +kernel
theorem dJ13_bitCount_95d88_21 : decode cJ13_bitCount_95d88 21 = .ok (.land, 1) := by decide +kernel
theorem dJ13_bitCount_95d88_22 : decode cJ13_bitCount_95d88 22 = .ok (.ladd, 1) := by decide +kernel
theorem dJ13_bitCount_95d88_23 : decode cJ13_bitCount_95d88 23 = .ok (.lstore_n 0, 1) := by decide +kernel
theorem dJ13_bitCount_95d88_24 : decode cJ13_bitCount_95d88 24 = .ok (.lload_n 0, 1) := by decide +kernel
theorem dJ13_bitCount_95d88_25 : decode cJ13_bitCount_95d88 25 = .ok (.lload_n 0, 1) := by decide +kernel
theorem dJ13_bitCount_95d88_26 : decode cJ13_bitCount_95d88 26 = .ok (.iconst 4, 1) := by decide +kernel
theorem dJ13_bitCount_95d88_27 : decode cJ13_bitCount_95d88 27 = .ok (.lushr, 1) := by decide +kernel
theorem dJ13_bitCount_95d88_28 : decode cJ13_bitCount_95d88 28 = .ok (.ladd, 1) := by decide +kernel
theorem dJ13_bitCount_95d88_29 : decode cJ13_bitCount_95d88 29 = .ok (.ldc2_w 318, 3) := by decide +kernel
theorem dJ13_bitCount_95d88_32 : decode cJ13_bitCount_95d88 32 = .ok (.land, 1) := by decide +kernel
theorem dJ13_bitCount_95d88_33 : decode cJ13_bitCount_95d88 33 = .ok (.lstore_n 0, 1) := by decide +kernel
theorem dJ13_bitCount_95d88_34 : decode cJ13_bitCount_95d88 34 = .ok (.lload_n 0, 1) := by decide +kernel
theorem dJ13_bitCount_95d88_35 : decode cJ13_bitCount_95d88 35 = .ok (.lload_n 0, 1) := by decide +kernel
theorem dJ13_bitCount_95d88_36 : decode cJ13_bitCount_95d88 36 = .ok (.bipush 8, 2) := by decide +kernel
theorem dJ13_bitCount_95d88_38 : decode cJ13_bitCount_95d88 38 = .ok (.lushr, 1) := by decide +kernel
theorem dJ13_bitCount_95d88_39 : decode cJ13_bitCount_95d88 39 = .ok (.ladd, 1) := by decide +kernel
theorem dJ13_bitCount_95d88_40 : decode cJ13_bitCount_95d88 40 = .ok (.lstore_n 0, 1) := by decide +kernel
theorem dJ13_bitCount_95d88_41 : decode cJ13_bitCount_95d88 41 = .ok (.lload_n 0, 1) := by decide +kernel
theorem dJ13_bitCount_95d88_42 : decode cJ13_bitCount_95d88 42 = .ok (.lload_n 0, 1) := by decide +kernel
theorem dJ13_bitCount_95d88_43 : decode cJ13_bitCount_95d88 43 = .ok (.bipush 16, 2) := by decide +kernel
theorem dJ13_bitCount_95d88_45 : decode cJ13_bitCount_95d88 45 = .ok (.lushr, 1) := by decide +kernel
theorem dJ13_bitCount_95d88_46 : decode cJ13_bitCount_95d88 46 = .ok (.ladd, 1) := by decide +kernel
theorem dJ13_bitCount_95d88_47 : decode cJ13_bitCount_95d88 47 = .ok (.lstore_n 0, 1) := by decide +kernel
theorem dJ13_bitCount_95d88_48 : decode cJ13_bitCount_95d88 48 = .ok (.lload_n 0, 1) := by decide +kernel
theorem dJ13_bitCount_95d88_49 : decode cJ13_bitCount_95d88 49 = .ok (.lload_n 0, 1) := by decide +kernel
theorem dJ13_bitCount_95d88_50 : decode cJ13_bitCount_95d88 50 = .ok (.bipush 32, 2) := by decide +kernel
theorem dJ13_bitCount_95d88_52 : decode cJ13_bitCount_95d88 52 = .ok (.lushr, 1) := by decide +kernel
theorem dJ13_bitCount_95d88_53 : decode cJ13_bitCount_95d88 53 = .ok (.ladd, 1) := by decide +kernel
theorem dJ13_bitCount_95d88_54 : decode cJ13_bitCount_95d88 54 = .ok (.lstore_n 0, 1) := by decide +kernel
theorem dJ13_bitCount_95d88_55 : decode cJ13_bitCount_95d88 55 = .ok (.lload_n 0, 1) := by decide +kernel
theorem dJ13_bitCount_95d88_56 : decode cJ13_bitCount_95d88 56 = .ok (.l2i, 1) := by decide +kernel
theorem dJ13_bitCount_95d88_57 : decode cJ13_bitCount_95d88 57 = .ok (.bipush 127, 2) := by decide +kernel
theorem dJ13_bitCount_95d88_59 : decode cJ13_bitCount_95d88 59 = .ok (.iand, 1) := by decide +kernel
theorem dJ13_bitCount_95d88_60 : decode cJ13_bitCount_95d88 60 = .ok (.ireturn, 1) := by decide +kernel
theorem dJ9_max_7cf53_0 : decode cJ9_max_7cf53 0 = .ok (.iload_n 0, 1) := by decide +kernel
theorem dJ9_max_7cf53_1 : decode cJ9_max_7cf53 1 = .ok (.iload_n 1, 1) := by decide +kernel
theorem dJ9_max_7cf53_2 : decode cJ9_max_7cf53 2 = .ok (.if_icmp .lt 7, 3) := by decide +kernel
theorem dJ9_max_7cf53_5 : decode cJ9_max_7cf53 5 = .ok (.iload_n 0, 1) := by decide +kernel
theorem dJ9_max_7cf53_6 : decode cJ9_max_7cf53 6 = .ok (.goto 4, 3) := by decide +kernel
theorem dJ9_max_7cf53_9 : decode cJ9_max_7cf53 9 = .ok (.iload_n 1, 1) := by decide +kernel
theorem dJ9_max_7cf53_10 : decode cJ9_max_7cf53 10 = .ok (.ireturn, 1) := by decide +kernel
